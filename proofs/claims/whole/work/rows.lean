section
-- ===== PART A: goes FIRST, ahead of the names: the tables' words, and 'selects' of the private methods out of them =====
/-- a private method of a class that the tables say can be made, by its rows of tables_1 -/
def lw_okq (q : MethodName × Nat) : Prop := (q.1.cls ≠ "java/lang/invoke/MethodHandle" ∧ q.1.cls ≠ "java/lang/invoke/VarHandle") ∧ Cond.instantiable q.1.cls q.2 ∈ tables_1 ∧ Cond.privateMethod q.1 ∈ tables_1 ∧ Cond.instanceMethod q.1 ∈ tables_1
theorem lw_p0 : lw_okq (⟨"ThumbReader$Scan", "goesOn", "(I)Z"⟩, 3) := ⟨⟨by decide +kernel, by decide +kernel⟩, List.mem_of_getElem? (i := 41) (by decide +kernel), List.mem_of_getElem? (i := 268) (by decide +kernel), List.mem_of_getElem? (i := 269) (by decide +kernel)⟩
theorem lw_p1 : lw_okq (⟨"ThumbReader$Scan", "takesFigure", "(I)Z"⟩, 3) := ⟨⟨by decide +kernel, by decide +kernel⟩, List.mem_of_getElem? (i := 41) (by decide +kernel), List.mem_of_getElem? (i := 272) (by decide +kernel), List.mem_of_getElem? (i := 273) (by decide +kernel)⟩
theorem lw_p2 : lw_okq (⟨"ThumbReader$Scan", "opensItem", "(I)Z"⟩, 3) := ⟨⟨by decide +kernel, by decide +kernel⟩, List.mem_of_getElem? (i := 41) (by decide +kernel), List.mem_of_getElem? (i := 282) (by decide +kernel), List.mem_of_getElem? (i := 283) (by decide +kernel)⟩
theorem lw_p3 : lw_okq (⟨"ThumbReader$Office", "repeat", "(I)V"⟩, 7) := ⟨⟨by decide +kernel, by decide +kernel⟩, List.mem_of_getElem? (i := 103) (by decide +kernel), List.mem_of_getElem? (i := 302) (by decide +kernel), List.mem_of_getElem? (i := 303) (by decide +kernel)⟩
theorem lw_p4 : lw_okq (⟨"ThumbReader", "findingOfReading", "(I)I"⟩, 9) := ⟨⟨by decide +kernel, by decide +kernel⟩, List.mem_of_getElem? (i := 13) (by decide +kernel), List.mem_of_getElem? (i := 451) (by decide +kernel), List.mem_of_getElem? (i := 452) (by decide +kernel)⟩
theorem lw_p5 : lw_okq (⟨"ThumbReader$Office", "isApart", "(IIII)Z"⟩, 7) := ⟨⟨by decide +kernel, by decide +kernel⟩, List.mem_of_getElem? (i := 103) (by decide +kernel), List.mem_of_getElem? (i := 501) (by decide +kernel), List.mem_of_getElem? (i := 502) (by decide +kernel)⟩
theorem lw_p6 : lw_okq (⟨"ThumbReader$Planner", "reckonFrom", "(LThumbReader$Office;II)V"⟩, 3) := ⟨⟨by decide +kernel, by decide +kernel⟩, List.mem_of_getElem? (i := 57) (by decide +kernel), List.mem_of_getElem? (i := 569) (by decide +kernel), List.mem_of_getElem? (i := 570) (by decide +kernel)⟩
theorem lw_p7 : lw_okq (⟨"ThumbReader$Planner", "isFree", "(III)Z"⟩, 3) := ⟨⟨by decide +kernel, by decide +kernel⟩, List.mem_of_getElem? (i := 57) (by decide +kernel), List.mem_of_getElem? (i := 573) (by decide +kernel), List.mem_of_getElem? (i := 574) (by decide +kernel)⟩
theorem lw_p8 : lw_okq (⟨"ThumbReader$Planner", "payBy", "(LThumbReader$Office;III)I"⟩, 3) := ⟨⟨by decide +kernel, by decide +kernel⟩, List.mem_of_getElem? (i := 57) (by decide +kernel), List.mem_of_getElem? (i := 577) (by decide +kernel), List.mem_of_getElem? (i := 578) (by decide +kernel)⟩
theorem lw_p9 : lw_okq (⟨"ThumbReader", "layBestPlan", "(I)I"⟩, 9) := ⟨⟨by decide +kernel, by decide +kernel⟩, List.mem_of_getElem? (i := 13) (by decide +kernel), List.mem_of_getElem? (i := 582) (by decide +kernel), List.mem_of_getElem? (i := 583) (by decide +kernel)⟩
theorem lw_p10 : lw_okq (⟨"ThumbReader", "findingOfThrees", "(I)I"⟩, 9) := ⟨⟨by decide +kernel, by decide +kernel⟩, List.mem_of_getElem? (i := 13) (by decide +kernel), List.mem_of_getElem? (i := 614) (by decide +kernel), List.mem_of_getElem? (i := 615) (by decide +kernel)⟩
theorem lw_p11 : lw_okq (⟨"ThumbReader", "threesFit", "(IIII)Z"⟩, 9) := ⟨⟨by decide +kernel, by decide +kernel⟩, List.mem_of_getElem? (i := 13) (by decide +kernel), List.mem_of_getElem? (i := 618) (by decide +kernel), List.mem_of_getElem? (i := 619) (by decide +kernel)⟩
theorem lw_p12 : lw_okq (⟨"ThumbReader", "findingOfFates", "(I)I"⟩, 9) := ⟨⟨by decide +kernel, by decide +kernel⟩, List.mem_of_getElem? (i := 13) (by decide +kernel), List.mem_of_getElem? (i := 631) (by decide +kernel), List.mem_of_getElem? (i := 632) (by decide +kernel)⟩
theorem lw_p13 : lw_okq (⟨"ThumbReader", "presentOffices", "()I"⟩, 9) := ⟨⟨by decide +kernel, by decide +kernel⟩, List.mem_of_getElem? (i := 13) (by decide +kernel), List.mem_of_getElem? (i := 677) (by decide +kernel), List.mem_of_getElem? (i := 678) (by decide +kernel)⟩
theorem lw_p14 : lw_okq (⟨"ThumbReaderModel", "meet", "(I)I"⟩, 31) := ⟨⟨by decide +kernel, by decide +kernel⟩, List.mem_of_getElem? (i := 707) (by decide +kernel), List.mem_of_getElem? (i := 817) (by decide +kernel), List.mem_of_getElem? (i := 818) (by decide +kernel)⟩
theorem lw_p15 : lw_okq (⟨"ThumbReaderModel", "setRow", "(III)V"⟩, 31) := ⟨⟨by decide +kernel, by decide +kernel⟩, List.mem_of_getElem? (i := 707) (by decide +kernel), List.mem_of_getElem? (i := 821) (by decide +kernel), List.mem_of_getElem? (i := 822) (by decide +kernel)⟩
def lw_privs_1 : List (MethodName × Nat) := [(⟨"ThumbReader$Scan", "goesOn", "(I)Z"⟩, 3), (⟨"ThumbReader$Scan", "takesFigure", "(I)Z"⟩, 3), (⟨"ThumbReader$Scan", "opensItem", "(I)Z"⟩, 3), (⟨"ThumbReader$Office", "repeat", "(I)V"⟩, 7), (⟨"ThumbReader", "findingOfReading", "(I)I"⟩, 9), (⟨"ThumbReader$Office", "isApart", "(IIII)Z"⟩, 7), (⟨"ThumbReader$Planner", "reckonFrom", "(LThumbReader$Office;II)V"⟩, 3), (⟨"ThumbReader$Planner", "isFree", "(III)Z"⟩, 3), (⟨"ThumbReader$Planner", "payBy", "(LThumbReader$Office;III)I"⟩, 3), (⟨"ThumbReader", "layBestPlan", "(I)I"⟩, 9), (⟨"ThumbReader", "findingOfThrees", "(I)I"⟩, 9), (⟨"ThumbReader", "threesFit", "(IIII)Z"⟩, 9), (⟨"ThumbReader", "findingOfFates", "(I)I"⟩, 9), (⟨"ThumbReader", "presentOffices", "()I"⟩, 9), (⟨"ThumbReaderModel", "meet", "(I)I"⟩, 31), (⟨"ThumbReaderModel", "setRow", "(III)V"⟩, 31)]
theorem lw_r1 : ∀ q ∈ lw_privs_1, lw_okq q := List.forall_mem_cons.mpr ⟨lw_p0, List.forall_mem_cons.mpr ⟨lw_p1, List.forall_mem_cons.mpr ⟨lw_p2, List.forall_mem_cons.mpr ⟨lw_p3, List.forall_mem_cons.mpr ⟨lw_p4, List.forall_mem_cons.mpr ⟨lw_p5, List.forall_mem_cons.mpr ⟨lw_p6, List.forall_mem_cons.mpr ⟨lw_p7, List.forall_mem_cons.mpr ⟨lw_p8, List.forall_mem_cons.mpr ⟨lw_p9, List.forall_mem_cons.mpr ⟨lw_p10, List.forall_mem_cons.mpr ⟨lw_p11, List.forall_mem_cons.mpr ⟨lw_p12, List.forall_mem_cons.mpr ⟨lw_p13, List.forall_mem_cons.mpr ⟨lw_p14, List.forall_mem_cons.mpr ⟨lw_p15, fun _ h => absurd h List.not_mem_nil⟩⟩⟩⟩⟩⟩⟩⟩⟩⟩⟩⟩⟩⟩⟩⟩
theorem lw_p16 : lw_okq (⟨"ThumbReaderModel", "askedRow", "(I)I"⟩, 31) := ⟨⟨by decide +kernel, by decide +kernel⟩, List.mem_of_getElem? (i := 707) (by decide +kernel), List.mem_of_getElem? (i := 829) (by decide +kernel), List.mem_of_getElem? (i := 830) (by decide +kernel)⟩
theorem lw_p17 : lw_okq (⟨"ThumbReaderModel", "rowAt", "(II)I"⟩, 31) := ⟨⟨by decide +kernel, by decide +kernel⟩, List.mem_of_getElem? (i := 707) (by decide +kernel), List.mem_of_getElem? (i := 833) (by decide +kernel), List.mem_of_getElem? (i := 834) (by decide +kernel)⟩
theorem lw_p18 : lw_okq (⟨"ThumbReaderModel", "ask", "(II)I"⟩, 31) := ⟨⟨by decide +kernel, by decide +kernel⟩, List.mem_of_getElem? (i := 707) (by decide +kernel), List.mem_of_getElem? (i := 837) (by decide +kernel), List.mem_of_getElem? (i := 838) (by decide +kernel)⟩
theorem lw_p19 : lw_okq (⟨"ThumbReaderModel", "askedText", "(I)I"⟩, 31) := ⟨⟨by decide +kernel, by decide +kernel⟩, List.mem_of_getElem? (i := 707) (by decide +kernel), List.mem_of_getElem? (i := 869) (by decide +kernel), List.mem_of_getElem? (i := 870) (by decide +kernel)⟩
theorem lw_p20 : lw_okq (⟨"ThumbReaderModel", "goesOn", "(I)I"⟩, 31) := ⟨⟨by decide +kernel, by decide +kernel⟩, List.mem_of_getElem? (i := 707) (by decide +kernel), List.mem_of_getElem? (i := 877) (by decide +kernel), List.mem_of_getElem? (i := 878) (by decide +kernel)⟩
theorem lw_p21 : lw_okq (⟨"ThumbReaderModel", "here", "(I)I"⟩, 31) := ⟨⟨by decide +kernel, by decide +kernel⟩, List.mem_of_getElem? (i := 707) (by decide +kernel), List.mem_of_getElem? (i := 881) (by decide +kernel), List.mem_of_getElem? (i := 882) (by decide +kernel)⟩
theorem lw_p22 : lw_okq (⟨"ThumbReaderModel", "readsHead", "(I)Z"⟩, 31) := ⟨⟨by decide +kernel, by decide +kernel⟩, List.mem_of_getElem? (i := 707) (by decide +kernel), List.mem_of_getElem? (i := 885) (by decide +kernel), List.mem_of_getElem? (i := 886) (by decide +kernel)⟩
theorem lw_p23 : lw_okq (⟨"ThumbReaderModel", "figure", "(IIII)Z"⟩, 31) := ⟨⟨by decide +kernel, by decide +kernel⟩, List.mem_of_getElem? (i := 707) (by decide +kernel), List.mem_of_getElem? (i := 889) (by decide +kernel), List.mem_of_getElem? (i := 890) (by decide +kernel)⟩
theorem lw_p24 : lw_okq (⟨"ThumbReaderModel", "readsPost", "(I)Z"⟩, 31) := ⟨⟨by decide +kernel, by decide +kernel⟩, List.mem_of_getElem? (i := 707) (by decide +kernel), List.mem_of_getElem? (i := 893) (by decide +kernel), List.mem_of_getElem? (i := 894) (by decide +kernel)⟩
theorem lw_p25 : lw_okq (⟨"ThumbReaderModel", "readsThumb", "(I)Z"⟩, 31) := ⟨⟨by decide +kernel, by decide +kernel⟩, List.mem_of_getElem? (i := 707) (by decide +kernel), List.mem_of_getElem? (i := 897) (by decide +kernel), List.mem_of_getElem? (i := 898) (by decide +kernel)⟩
theorem lw_p26 : lw_okq (⟨"ThumbReaderModel", "isHead", "(I)Z"⟩, 31) := ⟨⟨by decide +kernel, by decide +kernel⟩, List.mem_of_getElem? (i := 707) (by decide +kernel), List.mem_of_getElem? (i := 912) (by decide +kernel), List.mem_of_getElem? (i := 913) (by decide +kernel)⟩
theorem lw_p27 : lw_okq (⟨"ThumbReaderModel", "headOf", "(II)I"⟩, 31) := ⟨⟨by decide +kernel, by decide +kernel⟩, List.mem_of_getElem? (i := 707) (by decide +kernel), List.mem_of_getElem? (i := 916) (by decide +kernel), List.mem_of_getElem? (i := 917) (by decide +kernel)⟩
theorem lw_p28 : lw_okq (⟨"ThumbReaderModel", "bumps", "(I)I"⟩, 31) := ⟨⟨by decide +kernel, by decide +kernel⟩, List.mem_of_getElem? (i := 707) (by decide +kernel), List.mem_of_getElem? (i := 920) (by decide +kernel), List.mem_of_getElem? (i := 921) (by decide +kernel)⟩
theorem lw_p29 : lw_okq (⟨"ThumbReaderModel", "bump", "(II)I"⟩, 31) := ⟨⟨by decide +kernel, by decide +kernel⟩, List.mem_of_getElem? (i := 707) (by decide +kernel), List.mem_of_getElem? (i := 924) (by decide +kernel), List.mem_of_getElem? (i := 925) (by decide +kernel)⟩
theorem lw_p30 : lw_okq (⟨"ThumbReaderModel", "isThumb", "(I)Z"⟩, 31) := ⟨⟨by decide +kernel, by decide +kernel⟩, List.mem_of_getElem? (i := 707) (by decide +kernel), List.mem_of_getElem? (i := 932) (by decide +kernel), List.mem_of_getElem? (i := 933) (by decide +kernel)⟩
theorem lw_p31 : lw_okq (⟨"ThumbReaderModel", "isPost", "(I)Z"⟩, 31) := ⟨⟨by decide +kernel, by decide +kernel⟩, List.mem_of_getElem? (i := 707) (by decide +kernel), List.mem_of_getElem? (i := 940) (by decide +kernel), List.mem_of_getElem? (i := 941) (by decide +kernel)⟩
def lw_privs_2 : List (MethodName × Nat) := [(⟨"ThumbReaderModel", "askedRow", "(I)I"⟩, 31), (⟨"ThumbReaderModel", "rowAt", "(II)I"⟩, 31), (⟨"ThumbReaderModel", "ask", "(II)I"⟩, 31), (⟨"ThumbReaderModel", "askedText", "(I)I"⟩, 31), (⟨"ThumbReaderModel", "goesOn", "(I)I"⟩, 31), (⟨"ThumbReaderModel", "here", "(I)I"⟩, 31), (⟨"ThumbReaderModel", "readsHead", "(I)Z"⟩, 31), (⟨"ThumbReaderModel", "figure", "(IIII)Z"⟩, 31), (⟨"ThumbReaderModel", "readsPost", "(I)Z"⟩, 31), (⟨"ThumbReaderModel", "readsThumb", "(I)Z"⟩, 31), (⟨"ThumbReaderModel", "isHead", "(I)Z"⟩, 31), (⟨"ThumbReaderModel", "headOf", "(II)I"⟩, 31), (⟨"ThumbReaderModel", "bumps", "(I)I"⟩, 31), (⟨"ThumbReaderModel", "bump", "(II)I"⟩, 31), (⟨"ThumbReaderModel", "isThumb", "(I)Z"⟩, 31), (⟨"ThumbReaderModel", "isPost", "(I)Z"⟩, 31)]
theorem lw_r2 : ∀ q ∈ lw_privs_2, lw_okq q := List.forall_mem_cons.mpr ⟨lw_p16, List.forall_mem_cons.mpr ⟨lw_p17, List.forall_mem_cons.mpr ⟨lw_p18, List.forall_mem_cons.mpr ⟨lw_p19, List.forall_mem_cons.mpr ⟨lw_p20, List.forall_mem_cons.mpr ⟨lw_p21, List.forall_mem_cons.mpr ⟨lw_p22, List.forall_mem_cons.mpr ⟨lw_p23, List.forall_mem_cons.mpr ⟨lw_p24, List.forall_mem_cons.mpr ⟨lw_p25, List.forall_mem_cons.mpr ⟨lw_p26, List.forall_mem_cons.mpr ⟨lw_p27, List.forall_mem_cons.mpr ⟨lw_p28, List.forall_mem_cons.mpr ⟨lw_p29, List.forall_mem_cons.mpr ⟨lw_p30, List.forall_mem_cons.mpr ⟨lw_p31, fun _ h => absurd h List.not_mem_nil⟩⟩⟩⟩⟩⟩⟩⟩⟩⟩⟩⟩⟩⟩⟩⟩
theorem lw_p32 : lw_okq (⟨"ThumbReaderModel", "isA", "(II)Z"⟩, 31) := ⟨⟨by decide +kernel, by decide +kernel⟩, List.mem_of_getElem? (i := 707) (by decide +kernel), List.mem_of_getElem? (i := 948) (by decide +kernel), List.mem_of_getElem? (i := 949) (by decide +kernel)⟩
theorem lw_p33 : lw_okq (⟨"ThumbReaderModel", "marked", "(II)I"⟩, 31) := ⟨⟨by decide +kernel, by decide +kernel⟩, List.mem_of_getElem? (i := 707) (by decide +kernel), List.mem_of_getElem? (i := 952) (by decide +kernel), List.mem_of_getElem? (i := 953) (by decide +kernel)⟩
theorem lw_p34 : lw_okq (⟨"ThumbReaderModel", "least", "(III)I"⟩, 31) := ⟨⟨by decide +kernel, by decide +kernel⟩, List.mem_of_getElem? (i := 707) (by decide +kernel), List.mem_of_getElem? (i := 956) (by decide +kernel), List.mem_of_getElem? (i := 957) (by decide +kernel)⟩
theorem lw_p35 : lw_okq (⟨"ThumbReaderModel", "middle", "(III)I"⟩, 31) := ⟨⟨by decide +kernel, by decide +kernel⟩, List.mem_of_getElem? (i := 707) (by decide +kernel), List.mem_of_getElem? (i := 960) (by decide +kernel), List.mem_of_getElem? (i := 961) (by decide +kernel)⟩
theorem lw_p36 : lw_okq (⟨"ThumbReaderModel", "felt", "(II)I"⟩, 31) := ⟨⟨by decide +kernel, by decide +kernel⟩, List.mem_of_getElem? (i := 707) (by decide +kernel), List.mem_of_getElem? (i := 964) (by decide +kernel), List.mem_of_getElem? (i := 965) (by decide +kernel)⟩
theorem lw_p37 : lw_okq (⟨"ThumbReaderModel", "most", "(III)I"⟩, 31) := ⟨⟨by decide +kernel, by decide +kernel⟩, List.mem_of_getElem? (i := 707) (by decide +kernel), List.mem_of_getElem? (i := 977) (by decide +kernel), List.mem_of_getElem? (i := 978) (by decide +kernel)⟩
theorem lw_p38 : lw_okq (⟨"ThumbReaderModel", "note", "()V"⟩, 31) := ⟨⟨by decide +kernel, by decide +kernel⟩, List.mem_of_getElem? (i := 707) (by decide +kernel), List.mem_of_getElem? (i := 992) (by decide +kernel), List.mem_of_getElem? (i := 993) (by decide +kernel)⟩
theorem lw_p39 : lw_okq (⟨"ThumbReaderModel", "write", "([II)V"⟩, 31) := ⟨⟨by decide +kernel, by decide +kernel⟩, List.mem_of_getElem? (i := 707) (by decide +kernel), List.mem_of_getElem? (i := 996) (by decide +kernel), List.mem_of_getElem? (i := 997) (by decide +kernel)⟩
theorem lw_p40 : lw_okq (⟨"ThumbReaderModel", "readBack", "([II)V"⟩, 31) := ⟨⟨by decide +kernel, by decide +kernel⟩, List.mem_of_getElem? (i := 707) (by decide +kernel), List.mem_of_getElem? (i := 1012) (by decide +kernel), List.mem_of_getElem? (i := 1013) (by decide +kernel)⟩
theorem lw_p41 : lw_okq (⟨"ThumbReaderModel", "askedReading", "(I)I"⟩, 31) := ⟨⟨by decide +kernel, by decide +kernel⟩, List.mem_of_getElem? (i := 707) (by decide +kernel), List.mem_of_getElem? (i := 1032) (by decide +kernel), List.mem_of_getElem? (i := 1033) (by decide +kernel)⟩
theorem lw_p42 : lw_okq (⟨"ThumbReaderModel", "doesFit", "(III)Z"⟩, 31) := ⟨⟨by decide +kernel, by decide +kernel⟩, List.mem_of_getElem? (i := 707) (by decide +kernel), List.mem_of_getElem? (i := 1036) (by decide +kernel), List.mem_of_getElem? (i := 1037) (by decide +kernel)⟩
theorem lw_p43 : lw_okq (⟨"ThumbReaderModel", "headsBy", "(II)I"⟩, 31) := ⟨⟨by decide +kernel, by decide +kernel⟩, List.mem_of_getElem? (i := 707) (by decide +kernel), List.mem_of_getElem? (i := 1044) (by decide +kernel), List.mem_of_getElem? (i := 1045) (by decide +kernel)⟩
theorem lw_p44 : lw_okq (⟨"ThumbReaderModel", "weight", "(III)J"⟩, 31) := ⟨⟨by decide +kernel, by decide +kernel⟩, List.mem_of_getElem? (i := 707) (by decide +kernel), List.mem_of_getElem? (i := 1056) (by decide +kernel), List.mem_of_getElem? (i := 1057) (by decide +kernel)⟩
theorem lw_p45 : lw_okq (⟨"ThumbReaderModel", "spread", "(III)I"⟩, 31) := ⟨⟨by decide +kernel, by decide +kernel⟩, List.mem_of_getElem? (i := 707) (by decide +kernel), List.mem_of_getElem? (i := 1060) (by decide +kernel), List.mem_of_getElem? (i := 1061) (by decide +kernel)⟩
theorem lw_p46 : lw_okq (⟨"ThumbReaderModel", "part", "(JJ)I"⟩, 31) := ⟨⟨by decide +kernel, by decide +kernel⟩, List.mem_of_getElem? (i := 707) (by decide +kernel), List.mem_of_getElem? (i := 1064) (by decide +kernel), List.mem_of_getElem? (i := 1065) (by decide +kernel)⟩
theorem lw_p47 : lw_okq (⟨"ThumbReaderModel", "areApart", "(IIII)Z"⟩, 31) := ⟨⟨by decide +kernel, by decide +kernel⟩, List.mem_of_getElem? (i := 707) (by decide +kernel), List.mem_of_getElem? (i := 1072) (by decide +kernel), List.mem_of_getElem? (i := 1073) (by decide +kernel)⟩
def lw_privs_3 : List (MethodName × Nat) := [(⟨"ThumbReaderModel", "isA", "(II)Z"⟩, 31), (⟨"ThumbReaderModel", "marked", "(II)I"⟩, 31), (⟨"ThumbReaderModel", "least", "(III)I"⟩, 31), (⟨"ThumbReaderModel", "middle", "(III)I"⟩, 31), (⟨"ThumbReaderModel", "felt", "(II)I"⟩, 31), (⟨"ThumbReaderModel", "most", "(III)I"⟩, 31), (⟨"ThumbReaderModel", "note", "()V"⟩, 31), (⟨"ThumbReaderModel", "write", "([II)V"⟩, 31), (⟨"ThumbReaderModel", "readBack", "([II)V"⟩, 31), (⟨"ThumbReaderModel", "askedReading", "(I)I"⟩, 31), (⟨"ThumbReaderModel", "doesFit", "(III)Z"⟩, 31), (⟨"ThumbReaderModel", "headsBy", "(II)I"⟩, 31), (⟨"ThumbReaderModel", "weight", "(III)J"⟩, 31), (⟨"ThumbReaderModel", "spread", "(III)I"⟩, 31), (⟨"ThumbReaderModel", "part", "(JJ)I"⟩, 31), (⟨"ThumbReaderModel", "areApart", "(IIII)Z"⟩, 31)]
theorem lw_r3 : ∀ q ∈ lw_privs_3, lw_okq q := List.forall_mem_cons.mpr ⟨lw_p32, List.forall_mem_cons.mpr ⟨lw_p33, List.forall_mem_cons.mpr ⟨lw_p34, List.forall_mem_cons.mpr ⟨lw_p35, List.forall_mem_cons.mpr ⟨lw_p36, List.forall_mem_cons.mpr ⟨lw_p37, List.forall_mem_cons.mpr ⟨lw_p38, List.forall_mem_cons.mpr ⟨lw_p39, List.forall_mem_cons.mpr ⟨lw_p40, List.forall_mem_cons.mpr ⟨lw_p41, List.forall_mem_cons.mpr ⟨lw_p42, List.forall_mem_cons.mpr ⟨lw_p43, List.forall_mem_cons.mpr ⟨lw_p44, List.forall_mem_cons.mpr ⟨lw_p45, List.forall_mem_cons.mpr ⟨lw_p46, List.forall_mem_cons.mpr ⟨lw_p47, fun _ h => absurd h List.not_mem_nil⟩⟩⟩⟩⟩⟩⟩⟩⟩⟩⟩⟩⟩⟩⟩⟩
theorem lw_p48 : lw_okq (⟨"ThumbReaderModel", "suitsOf", "(III)I"⟩, 31) := ⟨⟨by decide +kernel, by decide +kernel⟩, List.mem_of_getElem? (i := 707) (by decide +kernel), List.mem_of_getElem? (i := 1084) (by decide +kernel), List.mem_of_getElem? (i := 1085) (by decide +kernel)⟩
theorem lw_p49 : lw_okq (⟨"ThumbReaderModel", "need", "(II)I"⟩, 31) := ⟨⟨by decide +kernel, by decide +kernel⟩, List.mem_of_getElem? (i := 707) (by decide +kernel), List.mem_of_getElem? (i := 1088) (by decide +kernel), List.mem_of_getElem? (i := 1089) (by decide +kernel)⟩
theorem lw_p50 : lw_okq (⟨"ThumbReaderModel", "padsAt", "(IIII)I"⟩, 31) := ⟨⟨by decide +kernel, by decide +kernel⟩, List.mem_of_getElem? (i := 707) (by decide +kernel), List.mem_of_getElem? (i := 1100) (by decide +kernel), List.mem_of_getElem? (i := 1101) (by decide +kernel)⟩
theorem lw_p51 : lw_okq (⟨"ThumbReaderModel", "goPlans", "(I)V"⟩, 31) := ⟨⟨by decide +kernel, by decide +kernel⟩, List.mem_of_getElem? (i := 707) (by decide +kernel), List.mem_of_getElem? (i := 1121) (by decide +kernel), List.mem_of_getElem? (i := 1122) (by decide +kernel)⟩
theorem lw_p52 : lw_okq (⟨"ThumbReaderModel", "layMay", "(I)V"⟩, 31) := ⟨⟨by decide +kernel, by decide +kernel⟩, List.mem_of_getElem? (i := 707) (by decide +kernel), List.mem_of_getElem? (i := 1125) (by decide +kernel), List.mem_of_getElem? (i := 1126) (by decide +kernel)⟩
theorem lw_p53 : lw_okq (⟨"ThumbReaderModel", "planOn", "(III)V"⟩, 31) := ⟨⟨by decide +kernel, by decide +kernel⟩, List.mem_of_getElem? (i := 707) (by decide +kernel), List.mem_of_getElem? (i := 1129) (by decide +kernel), List.mem_of_getElem? (i := 1130) (by decide +kernel)⟩
theorem lw_p54 : lw_okq (⟨"ThumbReaderModel", "layPlan", "(I)I"⟩, 31) := ⟨⟨by decide +kernel, by decide +kernel⟩, List.mem_of_getElem? (i := 707) (by decide +kernel), List.mem_of_getElem? (i := 1136) (by decide +kernel), List.mem_of_getElem? (i := 1137) (by decide +kernel)⟩
theorem lw_p55 : lw_okq (⟨"ThumbReaderModel", "doesLearn", "(IIII)Z"⟩, 31) := ⟨⟨by decide +kernel, by decide +kernel⟩, List.mem_of_getElem? (i := 707) (by decide +kernel), List.mem_of_getElem? (i := 1156) (by decide +kernel), List.mem_of_getElem? (i := 1157) (by decide +kernel)⟩
theorem lw_p56 : lw_okq (⟨"ThumbReaderModel", "isAlone", "(II)Z"⟩, 31) := ⟨⟨by decide +kernel, by decide +kernel⟩, List.mem_of_getElem? (i := 707) (by decide +kernel), List.mem_of_getElem? (i := 1171) (by decide +kernel), List.mem_of_getElem? (i := 1172) (by decide +kernel)⟩
theorem lw_p57 : lw_okq (⟨"ThumbReaderModel", "tellsOf", "(I)I"⟩, 31) := ⟨⟨by decide +kernel, by decide +kernel⟩, List.mem_of_getElem? (i := 707) (by decide +kernel), List.mem_of_getElem? (i := 1191) (by decide +kernel), List.mem_of_getElem? (i := 1192) (by decide +kernel)⟩
theorem lw_p58 : lw_okq (⟨"ThumbReaderModel", "mix", "(I)V"⟩, 31) := ⟨⟨by decide +kernel, by decide +kernel⟩, List.mem_of_getElem? (i := 707) (by decide +kernel), List.mem_of_getElem? (i := 1208) (by decide +kernel), List.mem_of_getElem? (i := 1209) (by decide +kernel)⟩
theorem lw_p59 : lw_okq (⟨"ThumbReaderModel", "mixOffice", "()V"⟩, 31) := ⟨⟨by decide +kernel, by decide +kernel⟩, List.mem_of_getElem? (i := 707) (by decide +kernel), List.mem_of_getElem? (i := 1213) (by decide +kernel), List.mem_of_getElem? (i := 1214) (by decide +kernel)⟩
def lw_privs_4 : List (MethodName × Nat) := [(⟨"ThumbReaderModel", "suitsOf", "(III)I"⟩, 31), (⟨"ThumbReaderModel", "need", "(II)I"⟩, 31), (⟨"ThumbReaderModel", "padsAt", "(IIII)I"⟩, 31), (⟨"ThumbReaderModel", "goPlans", "(I)V"⟩, 31), (⟨"ThumbReaderModel", "layMay", "(I)V"⟩, 31), (⟨"ThumbReaderModel", "planOn", "(III)V"⟩, 31), (⟨"ThumbReaderModel", "layPlan", "(I)I"⟩, 31), (⟨"ThumbReaderModel", "doesLearn", "(IIII)Z"⟩, 31), (⟨"ThumbReaderModel", "isAlone", "(II)Z"⟩, 31), (⟨"ThumbReaderModel", "tellsOf", "(I)I"⟩, 31), (⟨"ThumbReaderModel", "mix", "(I)V"⟩, 31), (⟨"ThumbReaderModel", "mixOffice", "()V"⟩, 31)]
theorem lw_r4 : ∀ q ∈ lw_privs_4, lw_okq q := List.forall_mem_cons.mpr ⟨lw_p48, List.forall_mem_cons.mpr ⟨lw_p49, List.forall_mem_cons.mpr ⟨lw_p50, List.forall_mem_cons.mpr ⟨lw_p51, List.forall_mem_cons.mpr ⟨lw_p52, List.forall_mem_cons.mpr ⟨lw_p53, List.forall_mem_cons.mpr ⟨lw_p54, List.forall_mem_cons.mpr ⟨lw_p55, List.forall_mem_cons.mpr ⟨lw_p56, List.forall_mem_cons.mpr ⟨lw_p57, List.forall_mem_cons.mpr ⟨lw_p58, List.forall_mem_cons.mpr ⟨lw_p59, fun _ h => absurd h List.not_mem_nil⟩⟩⟩⟩⟩⟩⟩⟩⟩⟩⟩⟩
def lw_privs : List (MethodName × Nat) := lw_privs_1 ++ (lw_privs_2 ++ (lw_privs_3 ++ (lw_privs_4)))
def lw_tbl : List Cond := k2_sels lw_privs ++ tables_1
theorem lw_privs_ok : ∀ q ∈ lw_privs, lw_okq q := by
  show ∀ q ∈ lw_privs_1 ++ (lw_privs_2 ++ (lw_privs_3 ++ (lw_privs_4))), lw_okq q
  exact List.forall_mem_append.mpr ⟨lw_r1, List.forall_mem_append.mpr ⟨lw_r2, List.forall_mem_append.mpr ⟨lw_r3, lw_r4⟩⟩⟩
end
section
def RX0 : String := "ThumbReader$Kept"
def TX0 : u_T := fun k => match k with
  | 0 => ("ThumbReader$Kept", "deeds", "[I", true)
  | 1 => ("ThumbReader$Kept", "errors", "[I", true)
  | _ => ("ThumbReader$Kept", "done", "I", false)
def tyX0 : Nat → FieldType := fun k => match k with
  | 0 => .array .int
  | 1 => .array .int
  | _ => .int
theorem nmX0 : ∀ a, a < 3 → ∀ b, b < 3 → a ≠ b → (TX0 a).2.1 ≠ (TX0 b).2.1 := by decide +kernel
theorem tyX0_ok : ∀ k, k < 3 → parseFieldDescriptor (TX0 k).2.2.1 = some (tyX0 k) := by decide +kernel
abbrev cX0_init : ByteArray := prog_2_method_1_code
def yX0_init : MethodName := ⟨RX0, "<init>", "()V"⟩
abbrev cX0_take : ByteArray := prog_2_method_2_code
def yX0_take : MethodName := ⟨RX0, "take", "(LThumbReader$Office;)V"⟩
abbrev cX0_giveTo : ByteArray := prog_2_method_3_code
def yX0_giveTo : MethodName := ⟨RX0, "giveTo", "(LThumbReader$Office;)V"⟩
def RX1 : String := "ThumbReader$Marks"
def TX1 : u_T := fun k => match k with
  | _ => ("", "", "", false)
def tyX1 : Nat → FieldType := fun k => match k with
  | _ => .int
theorem nmX1 : ∀ a, a < 0 → ∀ b, b < 0 → a ≠ b → (TX1 a).2.1 ≠ (TX1 b).2.1 := by decide +kernel
theorem tyX1_ok : ∀ k, k < 0 → parseFieldDescriptor (TX1 k).2.2.1 = some (tyX1 k) := by decide +kernel
abbrev cX1_heavy : ByteArray := prog_3_method_2_code
def yX1_heavy : MethodName := ⟨RX1, "heavy", "(LThumbReader$Office;)I"⟩
abbrev cX1_light : ByteArray := prog_3_method_3_code
def yX1_light : MethodName := ⟨RX1, "light", "(LThumbReader$Office;I)I"⟩
abbrev cX1_wishing : ByteArray := prog_3_method_4_code
def yX1_wishing : MethodName := ⟨RX1, "wishing", "(LThumbReader$Office;I)I"⟩
abbrev cX1_hasItsWish : ByteArray := prog_3_method_5_code
def yX1_hasItsWish : MethodName := ⟨RX1, "hasItsWish", "(LThumbReader$Office;II)Z"⟩
abbrev cX1_clerk : ByteArray := prog_3_method_6_code
def yX1_clerk : MethodName := ⟨RX1, "clerk", "(LThumbReader$Office;I)I"⟩
abbrev cX1_dull : ByteArray := prog_3_method_7_code
def yX1_dull : MethodName := ⟨RX1, "dull", "(LThumbReader$Office;I)I"⟩
def RX2 : String := "ThumbReader$Office"
def TX2 : u_T := fun k => match k with
  | 0 => ("ThumbReader$Office", "first", "[[I", true)
  | 1 => ("ThumbReader$Office", "heads", "[[I", true)
  | 2 => ("ThumbReader$Office", "thumbs", "[[I", true)
  | 3 => ("ThumbReader$Office", "posts", "[[I", true)
  | 4 => ("ThumbReader$Office", "sizes", "[I", true)
  | 5 => ("ThumbReader$Office", "deeds", "[I", true)
  | _ => ("ThumbReader$Office", "done", "I", false)
def tyX2 : Nat → FieldType := fun k => match k with
  | 0 => .array (.array .int)
  | 1 => .array (.array .int)
  | 2 => .array (.array .int)
  | 3 => .array (.array .int)
  | 4 => .array .int
  | 5 => .array .int
  | _ => .int
theorem nmX2 : ∀ a, a < 7 → ∀ b, b < 7 → a ≠ b → (TX2 a).2.1 ≠ (TX2 b).2.1 := by decide +kernel
theorem tyX2_ok : ∀ k, k < 7 → parseFieldDescriptor (TX2 k).2.2.1 = some (tyX2 k) := by decide +kernel
abbrev cX2_init : ByteArray := prog_4_method_1_code
def yX2_init : MethodName := ⟨RX2, "<init>", "()V"⟩
abbrev cX2_has : ByteArray := prog_4_method_2_code
def yX2_has : MethodName := ⟨RX2, "has", "(II)Z"⟩
abbrev cX2_ofHead : ByteArray := prog_4_method_3_code
def yX2_ofHead : MethodName := ⟨RX2, "ofHead", "(II)I"⟩
abbrev cX2_together : ByteArray := prog_4_method_4_code
def yX2_together : MethodName := ⟨RX2, "together", "(I)I"⟩
abbrev cX2_allTogether : ByteArray := prog_4_method_5_code
def yX2_allTogether : MethodName := ⟨RX2, "allTogether", "()I"⟩
abbrev cX2_wishingOnes : ByteArray := prog_4_method_6_code
def yX2_wishingOnes : MethodName := ⟨RX2, "wishingOnes", "()I"⟩
abbrev cX2_isOf : ByteArray := prog_4_method_7_code
def yX2_isOf : MethodName := ⟨RX2, "isOf", "(II)Z"⟩
abbrev cX2_mix : ByteArray := prog_4_method_8_code
def yX2_mix : MethodName := ⟨RX2, "mix", "(J)J"⟩
abbrev cX2_act : ByteArray := prog_4_method_9_code
def yX2_act : MethodName := ⟨RX2, "act", "(II)V"⟩
abbrev cX2_goBack : ByteArray := prog_4_method_10_code
def yX2_goBack : MethodName := ⟨RX2, "goBack", "(I)V"⟩
abbrev cX2_repeat : ByteArray := prog_4_method_11_code
def yX2_repeat : MethodName := ⟨RX2, "repeat", "(I)V"⟩
abbrev cX2_felt : ByteArray := prog_4_method_12_code
def yX2_felt : MethodName := ⟨RX2, "felt", "(III)I"⟩
abbrev cX2_middle : ByteArray := prog_4_method_13_code
def yX2_middle : MethodName := ⟨RX2, "middle", "(IZI)I"⟩
abbrev cX2_middleBy : ByteArray := prog_4_method_14_code
def yX2_middleBy : MethodName := ⟨RX2, "middleBy", "(IIII)I"⟩
abbrev cX2_least : ByteArray := prog_4_method_15_code
def yX2_least : MethodName := ⟨RX2, "least", "(IIII)I"⟩
abbrev cX2_most : ByteArray := prog_4_method_16_code
def yX2_most : MethodName := ⟨RX2, "most", "(IIII)I"⟩
abbrev cX2_ways : ByteArray := prog_4_method_17_code
def yX2_ways : MethodName := ⟨RX2, "ways", "(III)I"⟩
abbrev cX2_canRead : ByteArray := prog_4_method_18_code
def yX2_canRead : MethodName := ⟨RX2, "canRead", "(II[I)Z"⟩
abbrev cX2_headsThatFit : ByteArray := prog_4_method_19_code
def yX2_headsThatFit : MethodName := ⟨RX2, "headsThatFit", "(I[I)I"⟩
abbrev cX2_weight : ByteArray := prog_4_method_20_code
def yX2_weight : MethodName := ⟨RX2, "weight", "(III)J"⟩
abbrev cX2_isApart : ByteArray := prog_4_method_21_code
def yX2_isApart : MethodName := ⟨RX2, "isApart", "(IIII)Z"⟩
abbrev cX2_pairsApart : ByteArray := prog_4_method_22_code
def yX2_pairsApart : MethodName := ⟨RX2, "pairsApart", "(II)I"⟩
abbrev cX2_maySeem : ByteArray := prog_4_method_23_code
def yX2_maySeem : MethodName := ⟨RX2, "maySeem", "(III)Z"⟩
abbrev cX2_placesAbove : ByteArray := prog_4_method_24_code
def yX2_placesAbove : MethodName := ⟨RX2, "placesAbove", "(II)I"⟩
abbrev cX2_isSure : ByteArray := prog_4_method_25_code
def yX2_isSure : MethodName := ⟨RX2, "isSure", "(IIII)Z"⟩
abbrev cX2_isLucky : ByteArray := prog_4_method_26_code
def yX2_isLucky : MethodName := ⟨RX2, "isLucky", "(III)Z"⟩
abbrev cX2_surePosts : ByteArray := prog_4_method_27_code
def yX2_surePosts : MethodName := ⟨RX2, "surePosts", "(III)I"⟩
abbrev cX2_fewestPads : ByteArray := prog_4_method_28_code
def yX2_fewestPads : MethodName := ⟨RX2, "fewestPads", "(IIII)I"⟩
def RX3 : String := "ThumbReader$Planner"
def TX3 : u_T := fun k => match k with
  | 0 => ("ThumbReader$Planner", "open", "[I", true)
  | 1 => ("ThumbReader$Planner", "pays", "[[I", true)
  | _ => ("ThumbReader$Planner", "ways", "[[I", true)
def tyX3 : Nat → FieldType := fun k => match k with
  | 0 => .array .int
  | 1 => .array (.array .int)
  | _ => .array (.array .int)
theorem nmX3 : ∀ a, a < 3 → ∀ b, b < 3 → a ≠ b → (TX3 a).2.1 ≠ (TX3 b).2.1 := by decide +kernel
theorem tyX3_ok : ∀ k, k < 3 → parseFieldDescriptor (TX3 k).2.2.1 = some (tyX3 k) := by decide +kernel
abbrev cX3_init : ByteArray := prog_5_method_1_code
def yX3_init : MethodName := ⟨RX3, "<init>", "()V"⟩
abbrev cX3_openByOne : ByteArray := prog_5_method_2_code
def yX3_openByOne : MethodName := ⟨RX3, "openByOne", "(LThumbReader$Office;I)V"⟩
abbrev cX3_openByAll : ByteArray := prog_5_method_3_code
def yX3_openByAll : MethodName := ⟨RX3, "openByAll", "(LThumbReader$Office;)V"⟩
abbrev cX3_reckon : ByteArray := prog_5_method_4_code
def yX3_reckon : MethodName := ⟨RX3, "reckon", "(LThumbReader$Office;)V"⟩
abbrev cX3_reckonFrom : ByteArray := prog_5_method_5_code
def yX3_reckonFrom : MethodName := ⟨RX3, "reckonFrom", "(LThumbReader$Office;II)V"⟩
abbrev cX3_isFree : ByteArray := prog_5_method_6_code
def yX3_isFree : MethodName := ⟨RX3, "isFree", "(III)Z"⟩
abbrev cX3_payBy : ByteArray := prog_5_method_7_code
def yX3_payBy : MethodName := ⟨RX3, "payBy", "(LThumbReader$Office;III)I"⟩
abbrev cX3_bestPay : ByteArray := prog_5_method_8_code
def yX3_bestPay : MethodName := ⟨RX3, "bestPay", "()I"⟩
abbrev cX3_bestPost : ByteArray := prog_5_method_9_code
def yX3_bestPost : MethodName := ⟨RX3, "bestPost", "(LThumbReader$Office;II)I"⟩
def RX4 : String := "ThumbReader$Scan"
def TX4 : u_T := fun k => match k with
  | 0 => ("ThumbReader$Scan", "office", "LThumbReader$Office;", false)
  | 1 => ("ThumbReader$Scan", "sort", "I", false)
  | _ => ("ThumbReader$Scan", "due", "I", false)
def tyX4 : Nat → FieldType := fun k => match k with
  | 0 => .object "ThumbReader$Office"
  | 1 => .int
  | _ => .int
theorem nmX4 : ∀ a, a < 3 → ∀ b, b < 3 → a ≠ b → (TX4 a).2.1 ≠ (TX4 b).2.1 := by decide +kernel
theorem tyX4_ok : ∀ k, k < 3 → parseFieldDescriptor (TX4 k).2.2.1 = some (tyX4 k) := by decide +kernel
abbrev cX4_init : ByteArray := prog_6_method_1_code
def yX4_init : MethodName := ⟨RX4, "<init>", "()V"⟩
abbrev cX4_into : ByteArray := prog_6_method_2_code
def yX4_into : MethodName := ⟨RX4, "into", "(LThumbReader$Office;[II)I"⟩
abbrev cX4_goesOn : ByteArray := prog_6_method_3_code
def yX4_goesOn : MethodName := ⟨RX4, "goesOn", "(I)Z"⟩
abbrev cX4_opensItem : ByteArray := prog_6_method_4_code
def yX4_opensItem : MethodName := ⟨RX4, "opensItem", "(I)Z"⟩
abbrev cX4_kindBy : ByteArray := prog_6_method_5_code
def yX4_kindBy : MethodName := ⟨RX4, "kindBy", "(I)I"⟩
abbrev cX4_takesFigure : ByteArray := prog_6_method_6_code
def yX4_takesFigure : MethodName := ⟨RX4, "takesFigure", "(I)Z"⟩
def RX5 : String := "ThumbReader$Shelf"
def TX5 : u_T := fun k => match k with
  | 0 => ("ThumbReader$Shelf", "cells", "[[I", true)
  | _ => ("ThumbReader$Shelf", "sizes", "[I", true)
def tyX5 : Nat → FieldType := fun k => match k with
  | 0 => .array (.array .int)
  | _ => .array .int
theorem nmX5 : ∀ a, a < 2 → ∀ b, b < 2 → a ≠ b → (TX5 a).2.1 ≠ (TX5 b).2.1 := by decide +kernel
theorem tyX5_ok : ∀ k, k < 2 → parseFieldDescriptor (TX5 k).2.2.1 = some (tyX5 k) := by decide +kernel
abbrev cX5_init : ByteArray := prog_7_method_1_code
def yX5_init : MethodName := ⟨RX5, "<init>", "(II)V"⟩
abbrev cX5_allows : ByteArray := prog_7_method_2_code
def yX5_allows : MethodName := ⟨RX5, "allows", "(I)Z"⟩
abbrev cX5_lacks : ByteArray := prog_7_method_3_code
def yX5_lacks : MethodName := ⟨RX5, "lacks", "(I)Z"⟩
abbrev cX5_findingAt : ByteArray := prog_7_method_4_code
def yX5_findingAt : MethodName := ⟨RX5, "findingAt", "(II)I"⟩
abbrev cX5_spans : ByteArray := prog_7_method_5_code
def yX5_spans : MethodName := ⟨RX5, "spans", "(III)Z"⟩
abbrev cX5_renew : ByteArray := prog_7_method_6_code
def yX5_renew : MethodName := ⟨RX5, "renew", "(III)V"⟩
abbrev cX5_sum : ByteArray := prog_7_method_7_code
def yX5_sum : MethodName := ⟨RX5, "sum", "(I)J"⟩
abbrev cX5_present : ByteArray := prog_7_method_8_code
def yX5_present : MethodName := ⟨RX5, "present", "()I"⟩
abbrev cX5_mix : ByteArray := prog_7_method_9_code
def yX5_mix : MethodName := ⟨RX5, "mix", "(J)J"⟩
def RX6 : String := "ThumbReader$Told"
def TX6 : u_T := fun k => match k with
  | 0 => ("ThumbReader$Told", "times", "[I", true)
  | 1 => ("ThumbReader$Told", "latest", "I", false)
  | 2 => ("ThumbReader$Told", "number", "I", false)
  | 3 => ("ThumbReader$Told", "above", "J", false)
  | _ => ("ThumbReader$Told", "below", "J", false)
def tyX6 : Nat → FieldType := fun k => match k with
  | 0 => .array .int
  | 1 => .int
  | 2 => .int
  | 3 => .long
  | _ => .long
theorem nmX6 : ∀ a, a < 5 → ∀ b, b < 5 → a ≠ b → (TX6 a).2.1 ≠ (TX6 b).2.1 := by decide +kernel
theorem tyX6_ok : ∀ k, k < 5 → parseFieldDescriptor (TX6 k).2.2.1 = some (tyX6 k) := by decide +kernel
abbrev cX6_init : ByteArray := prog_8_method_1_code
def yX6_init : MethodName := ⟨RX6, "<init>", "()V"⟩
abbrev cX6_tell : ByteArray := prog_8_method_2_code
def yX6_tell : MethodName := ⟨RX6, "tell", "(I)I"⟩
abbrev cX6_tellFraction : ByteArray := prog_8_method_3_code
def yX6_tellFraction : MethodName := ⟨RX6, "tellFraction", "(JJ)I"⟩
abbrev cX6_refuse : ByteArray := prog_8_method_4_code
def yX6_refuse : MethodName := ⟨RX6, "refuse", "(I)I"⟩
abbrev cX6_commonDivisor : ByteArray := prog_8_method_5_code
def yX6_commonDivisor : MethodName := ⟨RX6, "commonDivisor", "(JJ)J"⟩
def RX7 : String := "ThumbReader"
def TX7 : u_T := fun k => match k with
  | 0 => ("ThumbReader", "rows", "LThumbReader$Shelf;", true)
  | 1 => ("ThumbReader", "texts", "LThumbReader$Shelf;", true)
  | 2 => ("ThumbReader", "keptOffices", "[LThumbReader$Kept;", true)
  | 3 => ("ThumbReader", "scan", "LThumbReader$Scan;", true)
  | 4 => ("ThumbReader", "planner", "LThumbReader$Planner;", true)
  | 5 => ("ThumbReader", "told", "LThumbReader$Told;", true)
  | 6 => ("ThumbReader", "lotReading", "[I", true)
  | 7 => ("ThumbReader", "now", "LThumbReader$Office;", false)
  | _ => ("ThumbReader", "draft", "LThumbReader$Office;", false)
def tyX7 : Nat → FieldType := fun k => match k with
  | 0 => .object "ThumbReader$Shelf"
  | 1 => .object "ThumbReader$Shelf"
  | 2 => .array (.object "ThumbReader$Kept")
  | 3 => .object "ThumbReader$Scan"
  | 4 => .object "ThumbReader$Planner"
  | 5 => .object "ThumbReader$Told"
  | 6 => .array .int
  | 7 => .object "ThumbReader$Office"
  | _ => .object "ThumbReader$Office"
theorem nmX7 : ∀ a, a < 9 → ∀ b, b < 9 → a ≠ b → (TX7 a).2.1 ≠ (TX7 b).2.1 := by decide +kernel
theorem tyX7_ok : ∀ k, k < 9 → parseFieldDescriptor (TX7 k).2.2.1 = some (tyX7 k) := by decide +kernel
abbrev cX7_init : ByteArray := prog_1_method_1_code
def yX7_init : MethodName := ⟨RX7, "<init>", "()V"⟩
abbrev cX7_row : ByteArray := prog_1_method_2_code
def yX7_row : MethodName := ⟨RX7, "row", "(II)I"⟩
abbrev cX7_lay : ByteArray := prog_1_method_3_code
def yX7_lay : MethodName := ⟨RX7, "lay", "(III)I"⟩
abbrev cX7_at : ByteArray := prog_1_method_4_code
def yX7_at : MethodName := ⟨RX7, "at", "(II)I"⟩
abbrev cX7_tear : ByteArray := prog_1_method_5_code
def yX7_tear : MethodName := ⟨RX7, "tear", "(I)I"⟩
abbrev cX7_copy : ByteArray := prog_1_method_6_code
def yX7_copy : MethodName := ⟨RX7, "copy", "(IIIII)I"⟩
abbrev cX7_mean : ByteArray := prog_1_method_7_code
def yX7_mean : MethodName := ⟨RX7, "mean", "(I)I"⟩
abbrev cX7_text : ByteArray := prog_1_method_8_code
def yX7_text : MethodName := ⟨RX7, "text", "(II)I"⟩
abbrev cX7_put : ByteArray := prog_1_method_9_code
def yX7_put : MethodName := ⟨RX7, "put", "(III)I"⟩
abbrev cX7_fault : ByteArray := prog_1_method_10_code
def yX7_fault : MethodName := ⟨RX7, "fault", "(I)I"⟩
abbrev cX7_office : ByteArray := prog_1_method_11_code
def yX7_office : MethodName := ⟨RX7, "office", "(I)I"⟩
abbrev cX7_head : ByteArray := prog_1_method_12_code
def yX7_head : MethodName := ⟨RX7, "head", "(II)I"⟩
abbrev cX7_thumb : ByteArray := prog_1_method_13_code
def yX7_thumb : MethodName := ⟨RX7, "thumb", "(II)I"⟩
abbrev cX7_post : ByteArray := prog_1_method_14_code
def yX7_post : MethodName := ⟨RX7, "post", "(II)I"⟩
abbrev cX7_mark : ByteArray := prog_1_method_15_code
def yX7_mark : MethodName := ⟨RX7, "mark", "(II)I"⟩
abbrev cX7_error : ByteArray := prog_1_method_16_code
def yX7_error : MethodName := ⟨RX7, "error", "(II)I"⟩
abbrev cX7_pad : ByteArray := prog_1_method_17_code
def yX7_pad : MethodName := ⟨RX7, "pad", "(II)I"⟩
abbrev cX7_grow : ByteArray := prog_1_method_18_code
def yX7_grow : MethodName := ⟨RX7, "grow", "(I)I"⟩
abbrev cX7_cut : ByteArray := prog_1_method_19_code
def yX7_cut : MethodName := ⟨RX7, "cut", "(II)I"⟩
abbrev cX7_undo : ByteArray := prog_1_method_20_code
def yX7_undo : MethodName := ⟨RX7, "undo", "(I)I"⟩
abbrev cX7_keep : ByteArray := prog_1_method_21_code
def yX7_keep : MethodName := ⟨RX7, "keep", "(I)I"⟩
abbrev cX7_on : ByteArray := prog_1_method_22_code
def yX7_on : MethodName := ⟨RX7, "on", "(I)I"⟩
abbrev cX7_reads : ByteArray := prog_1_method_23_code
def yX7_reads : MethodName := ⟨RX7, "reads", "(III)I"⟩
abbrev cX7_fits : ByteArray := prog_1_method_24_code
def yX7_fits : MethodName := ⟨RX7, "fits", "(III)I"⟩
abbrev cX7_whose : ByteArray := prog_1_method_25_code
def yX7_whose : MethodName := ⟨RX7, "whose", "(II)I"⟩
abbrev cX7_who : ByteArray := prog_1_method_26_code
def yX7_who : MethodName := ⟨RX7, "who", "(II)I"⟩
abbrev cX7_odds : ByteArray := prog_1_method_27_code
def yX7_odds : MethodName := ⟨RX7, "odds", "(III)I"⟩
abbrev cX7_look : ByteArray := prog_1_method_28_code
def yX7_look : MethodName := ⟨RX7, "look", "(I)I"⟩
abbrev cX7_alike : ByteArray := prog_1_method_29_code
def yX7_alike : MethodName := ⟨RX7, "alike", "(II)I"⟩
abbrev cX7_suits : ByteArray := prog_1_method_30_code
def yX7_suits : MethodName := ⟨RX7, "suits", "(III)I"⟩
abbrev cX7_luck : ByteArray := prog_1_method_31_code
def yX7_luck : MethodName := ⟨RX7, "luck", "(III)I"⟩
abbrev cX7_pads : ByteArray := prog_1_method_32_code
def yX7_pads : MethodName := ⟨RX7, "pads", "(IIII)I"⟩
abbrev cX7_all : ByteArray := prog_1_method_33_code
def yX7_all : MethodName := ⟨RX7, "all", "(II)I"⟩
abbrev cX7_finds : ByteArray := prog_1_method_34_code
def yX7_finds : MethodName := ⟨RX7, "finds", "(III)I"⟩
abbrev cX7_posts : ByteArray := prog_1_method_35_code
def yX7_posts : MethodName := ⟨RX7, "posts", "(II)I"⟩
abbrev cX7_plan : ByteArray := prog_1_method_36_code
def yX7_plan : MethodName := ⟨RX7, "plan", "(II)I"⟩
abbrev cX7_plans : ByteArray := prog_1_method_37_code
def yX7_plans : MethodName := ⟨RX7, "plans", "(I)I"⟩
abbrev cX7_safest : ByteArray := prog_1_method_38_code
def yX7_safest : MethodName := ⟨RX7, "safest", "(I)I"⟩
abbrev cX7_gain : ByteArray := prog_1_method_39_code
def yX7_gain : MethodName := ⟨RX7, "gain", "(II)I"⟩
abbrev cX7_learn : ByteArray := prog_1_method_40_code
def yX7_learn : MethodName := ⟨RX7, "learn", "(II)I"⟩
abbrev cX7_tells : ByteArray := prog_1_method_41_code
def yX7_tells : MethodName := ⟨RX7, "tells", "(I)I"⟩
abbrev cX7_lots : ByteArray := prog_1_method_42_code
def yX7_lots : MethodName := ⟨RX7, "lots", "(III)I"⟩
abbrev cX7_asked : ByteArray := prog_1_method_43_code
def yX7_asked : MethodName := ⟨RX7, "asked", "()I"⟩
abbrev cX7_upper : ByteArray := prog_1_method_44_code
def yX7_upper : MethodName := ⟨RX7, "upper", "()J"⟩
abbrev cX7_lower : ByteArray := prog_1_method_45_code
def yX7_lower : MethodName := ⟨RX7, "lower", "()J"⟩
abbrev cX7_count : ByteArray := prog_1_method_46_code
def yX7_count : MethodName := ⟨RX7, "count", "(I)I"⟩
abbrev cX7_finding : ByteArray := prog_1_method_47_code
def yX7_finding : MethodName := ⟨RX7, "finding", "()I"⟩
abbrev cX7_findings : ByteArray := prog_1_method_48_code
def yX7_findings : MethodName := ⟨RX7, "findings", "(I)I"⟩
abbrev cX7_digest : ByteArray := prog_1_method_49_code
def yX7_digest : MethodName := ⟨RX7, "digest", "()J"⟩
abbrev cX7_isPlace : ByteArray := prog_1_method_50_code
def yX7_isPlace : MethodName := ⟨RX7, "isPlace", "(I)Z"⟩
abbrev cX7_isKeptPlace : ByteArray := prog_1_method_51_code
def yX7_isKeptPlace : MethodName := ⟨RX7, "isKeptPlace", "(I)Z"⟩
abbrev cX7_nextLot : ByteArray := prog_1_method_52_code
def yX7_nextLot : MethodName := ⟨RX7, "nextLot", "(J)J"⟩
abbrev cX7_findingOfReading : ByteArray := prog_1_method_53_code
def yX7_findingOfReading : MethodName := ⟨RX7, "findingOfReading", "(I)I"⟩
abbrev cX7_findingOfThrees : ByteArray := prog_1_method_54_code
def yX7_findingOfThrees : MethodName := ⟨RX7, "findingOfThrees", "(I)I"⟩
abbrev cX7_findingOfFates : ByteArray := prog_1_method_55_code
def yX7_findingOfFates : MethodName := ⟨RX7, "findingOfFates", "(I)I"⟩
abbrev cX7_threesFit : ByteArray := prog_1_method_56_code
def yX7_threesFit : MethodName := ⟨RX7, "threesFit", "(IIII)Z"⟩
abbrev cX7_layBestPlan : ByteArray := prog_1_method_57_code
def yX7_layBestPlan : MethodName := ⟨RX7, "layBestPlan", "(I)I"⟩
abbrev cX7_presentOffices : ByteArray := prog_1_method_58_code
def yX7_presentOffices : MethodName := ⟨RX7, "presentOffices", "()I"⟩
def RX8 : String := "ThumbReaderModel"
def TX8 : u_T := fun k => match k with
  | 0 => ("ThumbReaderModel", "finding", "I", false)
  | 1 => ("ThumbReaderModel", "findings", "[I", true)
  | 2 => ("ThumbReaderModel", "asked", "I", false)
  | 3 => ("ThumbReaderModel", "upper", "J", false)
  | 4 => ("ThumbReaderModel", "lower", "J", false)
  | 5 => ("ThumbReaderModel", "sizes", "[I", true)
  | 6 => ("ThumbReaderModel", "rows", "[I", true)
  | 7 => ("ThumbReaderModel", "moving", "[I", true)
  | 8 => ("ThumbReaderModel", "lengths", "[I", true)
  | 9 => ("ThumbReaderModel", "texts", "[I", true)
  | 10 => ("ThumbReaderModel", "many", "I", false)
  | 11 => ("ThumbReaderModel", "thumbMany", "I", false)
  | 12 => ("ThumbReaderModel", "postMany", "I", false)
  | 13 => ("ThumbReaderModel", "heads", "[I", true)
  | 14 => ("ThumbReaderModel", "thumbs", "[I", true)
  | 15 => ("ThumbReaderModel", "posts", "[I", true)
  | 16 => ("ThumbReaderModel", "readAt", "I", false)
  | 17 => ("ThumbReaderModel", "readHeads", "I", false)
  | 18 => ("ThumbReaderModel", "readThumbs", "I", false)
  | 19 => ("ThumbReaderModel", "readPosts", "I", false)
  | 20 => ("ThumbReaderModel", "read", "[I", true)
  | 21 => ("ThumbReaderModel", "deedMany", "I", false)
  | 22 => ("ThumbReaderModel", "notes", "[I", true)
  | 23 => ("ThumbReaderModel", "kept", "[I", true)
  | 24 => ("ThumbReaderModel", "may", "[I", true)
  | 25 => ("ThumbReaderModel", "gives", "[I", true)
  | 26 => ("ThumbReaderModel", "bestGives", "[I", true)
  | 27 => ("ThumbReaderModel", "bestPay", "I", false)
  | 28 => ("ThumbReaderModel", "planMany", "J", false)
  | 29 => ("ThumbReaderModel", "drawn", "[I", true)
  | _ => ("ThumbReaderModel", "h0", "J", false)
def tyX8 : Nat → FieldType := fun k => match k with
  | 0 => .int
  | 1 => .array .int
  | 2 => .int
  | 3 => .long
  | 4 => .long
  | 5 => .array .int
  | 6 => .array .int
  | 7 => .array .int
  | 8 => .array .int
  | 9 => .array .int
  | 10 => .int
  | 11 => .int
  | 12 => .int
  | 13 => .array .int
  | 14 => .array .int
  | 15 => .array .int
  | 16 => .int
  | 17 => .int
  | 18 => .int
  | 19 => .int
  | 20 => .array .int
  | 21 => .int
  | 22 => .array .int
  | 23 => .array .int
  | 24 => .array .int
  | 25 => .array .int
  | 26 => .array .int
  | 27 => .int
  | 28 => .long
  | 29 => .array .int
  | _ => .long
theorem nmX8 : ∀ a, a < 31 → ∀ b, b < 31 → a ≠ b → (TX8 a).2.1 ≠ (TX8 b).2.1 := by decide +kernel
theorem tyX8_ok : ∀ k, k < 31 → parseFieldDescriptor (TX8 k).2.2.1 = some (tyX8 k) := by decide +kernel
abbrev cX8_init : ByteArray := prog_10_method_1_code
def yX8_init : MethodName := ⟨RX8, "<init>", "()V"⟩
abbrev cX8_in : ByteArray := prog_10_method_3_code
def yX8_in : MethodName := ⟨RX8, "in", "(III)Z"⟩
abbrev cX8_meet : ByteArray := prog_10_method_4_code
def yX8_meet : MethodName := ⟨RX8, "meet", "(I)I"⟩
abbrev cX8_ask : ByteArray := prog_10_method_5_code
def yX8_ask : MethodName := ⟨RX8, "ask", "(II)I"⟩
abbrev cX8_has : ByteArray := prog_10_method_6_code
def yX8_has : MethodName := ⟨RX8, "has", "(II)Z"⟩
abbrev cX8_lesser : ByteArray := prog_10_method_7_code
def yX8_lesser : MethodName := ⟨RX8, "lesser", "(II)I"⟩
abbrev cX8_greater : ByteArray := prog_10_method_8_code
def yX8_greater : MethodName := ⟨RX8, "greater", "(II)I"⟩
abbrev cX8_part : ByteArray := prog_10_method_9_code
def yX8_part : MethodName := ⟨RX8, "part", "(JJ)I"⟩
abbrev cX8_isRow : ByteArray := prog_10_method_10_code
def yX8_isRow : MethodName := ⟨RX8, "isRow", "(I)Z"⟩
abbrev cX8_isText : ByteArray := prog_10_method_11_code
def yX8_isText : MethodName := ⟨RX8, "isText", "(I)Z"⟩
abbrev cX8_askedRow : ByteArray := prog_10_method_12_code
def yX8_askedRow : MethodName := ⟨RX8, "askedRow", "(I)I"⟩
abbrev cX8_askedText : ByteArray := prog_10_method_13_code
def yX8_askedText : MethodName := ⟨RX8, "askedText", "(I)I"⟩
abbrev cX8_rowAt : ByteArray := prog_10_method_14_code
def yX8_rowAt : MethodName := ⟨RX8, "rowAt", "(II)I"⟩
abbrev cX8_setRow : ByteArray := prog_10_method_15_code
def yX8_setRow : MethodName := ⟨RX8, "setRow", "(III)V"⟩
abbrev cX8_row : ByteArray := prog_10_method_16_code
def yX8_row : MethodName := ⟨RX8, "row", "(II)I"⟩
abbrev cX8_at : ByteArray := prog_10_method_17_code
def yX8_at : MethodName := ⟨RX8, "at", "(II)I"⟩
abbrev cX8_lay : ByteArray := prog_10_method_18_code
def yX8_lay : MethodName := ⟨RX8, "lay", "(III)I"⟩
abbrev cX8_tear : ByteArray := prog_10_method_19_code
def yX8_tear : MethodName := ⟨RX8, "tear", "(I)I"⟩
abbrev cX8_copy : ByteArray := prog_10_method_20_code
def yX8_copy : MethodName := ⟨RX8, "copy", "(IIIII)I"⟩
abbrev cX8_mean : ByteArray := prog_10_method_21_code
def yX8_mean : MethodName := ⟨RX8, "mean", "(I)I"⟩
abbrev cX8_text : ByteArray := prog_10_method_22_code
def yX8_text : MethodName := ⟨RX8, "text", "(II)I"⟩
abbrev cX8_put : ByteArray := prog_10_method_23_code
def yX8_put : MethodName := ⟨RX8, "put", "(III)I"⟩
abbrev cX8_here : ByteArray := prog_10_method_24_code
def yX8_here : MethodName := ⟨RX8, "here", "(I)I"⟩
abbrev cX8_figure : ByteArray := prog_10_method_25_code
def yX8_figure : MethodName := ⟨RX8, "figure", "(IIII)Z"⟩
abbrev cX8_kindOf : ByteArray := prog_10_method_26_code
def yX8_kindOf : MethodName := ⟨RX8, "kindOf", "(I)I"⟩
abbrev cX8_readsHead : ByteArray := prog_10_method_27_code
def yX8_readsHead : MethodName := ⟨RX8, "readsHead", "(I)Z"⟩
abbrev cX8_readsThumb : ByteArray := prog_10_method_28_code
def yX8_readsThumb : MethodName := ⟨RX8, "readsThumb", "(I)Z"⟩
abbrev cX8_readsPost : ByteArray := prog_10_method_29_code
def yX8_readsPost : MethodName := ⟨RX8, "readsPost", "(I)Z"⟩
abbrev cX8_goesOn : ByteArray := prog_10_method_30_code
def yX8_goesOn : MethodName := ⟨RX8, "goesOn", "(I)I"⟩
abbrev cX8_fault : ByteArray := prog_10_method_31_code
def yX8_fault : MethodName := ⟨RX8, "fault", "(I)I"⟩
abbrev cX8_office : ByteArray := prog_10_method_32_code
def yX8_office : MethodName := ⟨RX8, "office", "(I)I"⟩
abbrev cX8_isHead : ByteArray := prog_10_method_33_code
def yX8_isHead : MethodName := ⟨RX8, "isHead", "(I)Z"⟩
abbrev cX8_isThumb : ByteArray := prog_10_method_34_code
def yX8_isThumb : MethodName := ⟨RX8, "isThumb", "(I)Z"⟩
abbrev cX8_isPost : ByteArray := prog_10_method_35_code
def yX8_isPost : MethodName := ⟨RX8, "isPost", "(I)Z"⟩
abbrev cX8_isPlace : ByteArray := prog_10_method_36_code
def yX8_isPlace : MethodName := ⟨RX8, "isPlace", "(I)Z"⟩
abbrev cX8_bump : ByteArray := prog_10_method_37_code
def yX8_bump : MethodName := ⟨RX8, "bump", "(II)I"⟩
abbrev cX8_bumps : ByteArray := prog_10_method_38_code
def yX8_bumps : MethodName := ⟨RX8, "bumps", "(I)I"⟩
abbrev cX8_headOf : ByteArray := prog_10_method_39_code
def yX8_headOf : MethodName := ⟨RX8, "headOf", "(II)I"⟩
abbrev cX8_head : ByteArray := prog_10_method_40_code
def yX8_head : MethodName := ⟨RX8, "head", "(II)I"⟩
abbrev cX8_thumb : ByteArray := prog_10_method_41_code
def yX8_thumb : MethodName := ⟨RX8, "thumb", "(II)I"⟩
abbrev cX8_post : ByteArray := prog_10_method_42_code
def yX8_post : MethodName := ⟨RX8, "post", "(II)I"⟩
abbrev cX8_isA : ByteArray := prog_10_method_43_code
def yX8_isA : MethodName := ⟨RX8, "isA", "(II)Z"⟩
abbrev cX8_felt : ByteArray := prog_10_method_44_code
def yX8_felt : MethodName := ⟨RX8, "felt", "(II)I"⟩
abbrev cX8_middleOf : ByteArray := prog_10_method_45_code
def yX8_middleOf : MethodName := ⟨RX8, "middleOf", "(IIII)I"⟩
abbrev cX8_middle : ByteArray := prog_10_method_46_code
def yX8_middle : MethodName := ⟨RX8, "middle", "(III)I"⟩
abbrev cX8_least : ByteArray := prog_10_method_47_code
def yX8_least : MethodName := ⟨RX8, "least", "(III)I"⟩
abbrev cX8_most : ByteArray := prog_10_method_48_code
def yX8_most : MethodName := ⟨RX8, "most", "(III)I"⟩
abbrev cX8_marked : ByteArray := prog_10_method_49_code
def yX8_marked : MethodName := ⟨RX8, "marked", "(II)I"⟩
abbrev cX8_mark : ByteArray := prog_10_method_50_code
def yX8_mark : MethodName := ⟨RX8, "mark", "(II)I"⟩
abbrev cX8_error : ByteArray := prog_10_method_51_code
def yX8_error : MethodName := ⟨RX8, "error", "(II)I"⟩
abbrev cX8_write : ByteArray := prog_10_method_52_code
def yX8_write : MethodName := ⟨RX8, "write", "([II)V"⟩
abbrev cX8_readBack : ByteArray := prog_10_method_53_code
def yX8_readBack : MethodName := ⟨RX8, "readBack", "([II)V"⟩
abbrev cX8_note : ByteArray := prog_10_method_54_code
def yX8_note : MethodName := ⟨RX8, "note", "()V"⟩
abbrev cX8_pad : ByteArray := prog_10_method_55_code
def yX8_pad : MethodName := ⟨RX8, "pad", "(II)I"⟩
abbrev cX8_grow : ByteArray := prog_10_method_56_code
def yX8_grow : MethodName := ⟨RX8, "grow", "(I)I"⟩
abbrev cX8_cut : ByteArray := prog_10_method_57_code
def yX8_cut : MethodName := ⟨RX8, "cut", "(II)I"⟩
abbrev cX8_undo : ByteArray := prog_10_method_58_code
def yX8_undo : MethodName := ⟨RX8, "undo", "(I)I"⟩
abbrev cX8_keep : ByteArray := prog_10_method_59_code
def yX8_keep : MethodName := ⟨RX8, "keep", "(I)I"⟩
abbrev cX8_on : ByteArray := prog_10_method_60_code
def yX8_on : MethodName := ⟨RX8, "on", "(I)I"⟩
abbrev cX8_reads : ByteArray := prog_10_method_61_code
def yX8_reads : MethodName := ⟨RX8, "reads", "(III)I"⟩
abbrev cX8_askedReading : ByteArray := prog_10_method_62_code
def yX8_askedReading : MethodName := ⟨RX8, "askedReading", "(I)I"⟩
abbrev cX8_doesFit : ByteArray := prog_10_method_63_code
def yX8_doesFit : MethodName := ⟨RX8, "doesFit", "(III)Z"⟩
abbrev cX8_fits : ByteArray := prog_10_method_64_code
def yX8_fits : MethodName := ⟨RX8, "fits", "(III)I"⟩
abbrev cX8_headsBy : ByteArray := prog_10_method_65_code
def yX8_headsBy : MethodName := ⟨RX8, "headsBy", "(II)I"⟩
abbrev cX8_whose : ByteArray := prog_10_method_66_code
def yX8_whose : MethodName := ⟨RX8, "whose", "(II)I"⟩
abbrev cX8_who : ByteArray := prog_10_method_67_code
def yX8_who : MethodName := ⟨RX8, "who", "(II)I"⟩
abbrev cX8_spread : ByteArray := prog_10_method_68_code
def yX8_spread : MethodName := ⟨RX8, "spread", "(III)I"⟩
abbrev cX8_weight : ByteArray := prog_10_method_69_code
def yX8_weight : MethodName := ⟨RX8, "weight", "(III)J"⟩
abbrev cX8_odds : ByteArray := prog_10_method_70_code
def yX8_odds : MethodName := ⟨RX8, "odds", "(III)I"⟩
abbrev cX8_areApart : ByteArray := prog_10_method_71_code
def yX8_areApart : MethodName := ⟨RX8, "areApart", "(IIII)Z"⟩
abbrev cX8_look : ByteArray := prog_10_method_72_code
def yX8_look : MethodName := ⟨RX8, "look", "(I)I"⟩
abbrev cX8_alike : ByteArray := prog_10_method_73_code
def yX8_alike : MethodName := ⟨RX8, "alike", "(II)I"⟩
abbrev cX8_need : ByteArray := prog_10_method_74_code
def yX8_need : MethodName := ⟨RX8, "need", "(II)I"⟩
abbrev cX8_suitsOf : ByteArray := prog_10_method_75_code
def yX8_suitsOf : MethodName := ⟨RX8, "suitsOf", "(III)I"⟩
abbrev cX8_suits : ByteArray := prog_10_method_76_code
def yX8_suits : MethodName := ⟨RX8, "suits", "(III)I"⟩
abbrev cX8_luck : ByteArray := prog_10_method_77_code
def yX8_luck : MethodName := ⟨RX8, "luck", "(III)I"⟩
abbrev cX8_padsAt : ByteArray := prog_10_method_78_code
def yX8_padsAt : MethodName := ⟨RX8, "padsAt", "(IIII)I"⟩
abbrev cX8_pads : ByteArray := prog_10_method_79_code
def yX8_pads : MethodName := ⟨RX8, "pads", "(IIII)I"⟩
abbrev cX8_all : ByteArray := prog_10_method_80_code
def yX8_all : MethodName := ⟨RX8, "all", "(II)I"⟩
abbrev cX8_finds : ByteArray := prog_10_method_81_code
def yX8_finds : MethodName := ⟨RX8, "finds", "(III)I"⟩
abbrev cX8_posts : ByteArray := prog_10_method_82_code
def yX8_posts : MethodName := ⟨RX8, "posts", "(II)I"⟩
abbrev cX8_layMay : ByteArray := prog_10_method_83_code
def yX8_layMay : MethodName := ⟨RX8, "layMay", "(I)V"⟩
abbrev cX8_planOn : ByteArray := prog_10_method_84_code
def yX8_planOn : MethodName := ⟨RX8, "planOn", "(III)V"⟩
abbrev cX8_goPlans : ByteArray := prog_10_method_85_code
def yX8_goPlans : MethodName := ⟨RX8, "goPlans", "(I)V"⟩
abbrev cX8_layPlan : ByteArray := prog_10_method_86_code
def yX8_layPlan : MethodName := ⟨RX8, "layPlan", "(I)I"⟩
abbrev cX8_plan : ByteArray := prog_10_method_87_code
def yX8_plan : MethodName := ⟨RX8, "plan", "(II)I"⟩
abbrev cX8_plans : ByteArray := prog_10_method_88_code
def yX8_plans : MethodName := ⟨RX8, "plans", "(I)I"⟩
abbrev cX8_safest : ByteArray := prog_10_method_89_code
def yX8_safest : MethodName := ⟨RX8, "safest", "(I)I"⟩
abbrev cX8_gain : ByteArray := prog_10_method_90_code
def yX8_gain : MethodName := ⟨RX8, "gain", "(II)I"⟩
abbrev cX8_doesLearn : ByteArray := prog_10_method_91_code
def yX8_doesLearn : MethodName := ⟨RX8, "doesLearn", "(IIII)Z"⟩
abbrev cX8_learn : ByteArray := prog_10_method_92_code
def yX8_learn : MethodName := ⟨RX8, "learn", "(II)I"⟩
abbrev cX8_tells : ByteArray := prog_10_method_93_code
def yX8_tells : MethodName := ⟨RX8, "tells", "(I)I"⟩
abbrev cX8_isAlone : ByteArray := prog_10_method_94_code
def yX8_isAlone : MethodName := ⟨RX8, "isAlone", "(II)Z"⟩
abbrev cX8_lots : ByteArray := prog_10_method_95_code
def yX8_lots : MethodName := ⟨RX8, "lots", "(III)I"⟩
abbrev cX8_asked : ByteArray := prog_10_method_96_code
def yX8_asked : MethodName := ⟨RX8, "asked", "()I"⟩
abbrev cX8_upper : ByteArray := prog_10_method_97_code
def yX8_upper : MethodName := ⟨RX8, "upper", "()J"⟩
abbrev cX8_lower : ByteArray := prog_10_method_98_code
def yX8_lower : MethodName := ⟨RX8, "lower", "()J"⟩
abbrev cX8_tellsOf : ByteArray := prog_10_method_99_code
def yX8_tellsOf : MethodName := ⟨RX8, "tellsOf", "(I)I"⟩
abbrev cX8_count : ByteArray := prog_10_method_100_code
def yX8_count : MethodName := ⟨RX8, "count", "(I)I"⟩
abbrev cX8_finding : ByteArray := prog_10_method_101_code
def yX8_finding : MethodName := ⟨RX8, "finding", "()I"⟩
abbrev cX8_findings : ByteArray := prog_10_method_102_code
def yX8_findings : MethodName := ⟨RX8, "findings", "(I)I"⟩
abbrev cX8_mix : ByteArray := prog_10_method_103_code
def yX8_mix : MethodName := ⟨RX8, "mix", "(I)V"⟩
abbrev cX8_mixOffice : ByteArray := prog_10_method_104_code
def yX8_mixOffice : MethodName := ⟨RX8, "mixOffice", "()V"⟩
abbrev cX8_digest : ByteArray := prog_10_method_105_code
def yX8_digest : MethodName := ⟨RX8, "digest", "()J"⟩
def RJ9 : String := "java/lang/Math"
def TJ9 : u_T := fun k => match k with
  | _ => ("", "", "", false)
def tyJ9 : Nat → FieldType := fun k => match k with
  | _ => .int
theorem nmJ9 : ∀ a, a < 0 → ∀ b, b < 0 → a ≠ b → (TJ9 a).2.1 ≠ (TJ9 b).2.1 := by decide +kernel
theorem tyJ9_ok : ∀ k, k < 0 → parseFieldDescriptor (TJ9 k).2.2.1 = some (tyJ9 k) := by decide +kernel
abbrev cJ9_abs_0f7a4 : ByteArray := prog_11_method_59_code
def yJ9_abs_0f7a4 : MethodName := ⟨RJ9, "abs", "(I)I"⟩
abbrev cJ9_max_7cf53 : ByteArray := prog_11_method_65_code
def yJ9_max_7cf53 : MethodName := ⟨RJ9, "max", "(II)I"⟩
abbrev cJ9_min_7cf53 : ByteArray := prog_11_method_69_code
def yJ9_min_7cf53 : MethodName := ⟨RJ9, "min", "(II)I"⟩
def RJ10 : String := "java/lang/System"
def TJ10 : u_T := fun k => match k with
  | _ => ("", "", "", false)
def tyJ10 : Nat → FieldType := fun k => match k with
  | _ => .int
theorem nmJ10 : ∀ a, a < 0 → ∀ b, b < 0 → a ≠ b → (TJ10 a).2.1 ≠ (TJ10 b).2.1 := by decide +kernel
theorem tyJ10_ok : ∀ k, k < 0 → parseFieldDescriptor (TJ10 k).2.2.1 = some (tyJ10 k) := by decide +kernel
def RL : String := "ThumbReaderLaw"
abbrev cL_law : ByteArray := code
def yL_law : MethodName := ⟨RL, "law", "([I)Z"⟩
abbrev vwCl : List vw_C := [(RX0, TX0, 3), (RX2, TX2, 7), (RX3, TX3, 3), (RX4, TX4, 3), (RX5, TX5, 2), (RX6, TX6, 5), (RX7, TX7, 9), (RX8, TX8, 31)]
end
section
/-! ===== the abstract heap: ints and longs by cell and place; the three references that change (now, draft, Scan.office) ===== -/
abbrev hh_ : Type := (Nat → Nat → Int32) × (Nat → Nat → Int64) × Nat × Nat × Nat
def hh_up {α : Type} (f : Nat → Nat → α) (a k : Nat) (v : α) : Nat → Nat → α := fun b j => if b = a ∧ j = k then v else f b j
def hh_sI (h : hh_) (a k : Nat) (v : Int32) : hh_ := (hh_up h.1 a k v, h.2)
def hh_sL (h : hh_) (a k : Nat) (v : Int64) : hh_ := (h.1, hh_up h.2.1 a k v, h.2.2)
def hh_sN (h : hh_) (v : Nat) : hh_ := (h.1, h.2.1, v, h.2.2.2)
def hh_sD (h : hh_) (v : Nat) : hh_ := (h.1, h.2.1, h.2.2.1, v, h.2.2.2.2)
def hh_sO (h : hh_) (v : Nat) : hh_ := (h.1, h.2.1, h.2.2.1, h.2.2.2.1, v)
def hh_cp (h : hh_) (a b sp dp n : Nat) : hh_ := (fun c j => if c = b then va_cpy (h.1 a) (h.1 b) sp dp n j else h.1 c j, h.2)
/-- the shapes of the cells, by the order in which the constructors make them: (0, class), (1, n) int[n], (2, n) int[n][], (3, n) Kept[n] -/
def sh_L : List (Nat × Nat) := [(9, 0), (0, 6), (0, 4), (2, 6), (1, 40), (1, 40), (1, 40), (1, 40), (1, 40), (1, 40), (1, 6), (0, 4), (2, 4), (1, 80), (1, 80), (1, 80), (1, 80), (1, 4), (3, 3), (0, 3), (0, 2), (1, 5), (2, 6), (1, 16), (1, 16), (1, 16), (1, 16), (1, 16), (1, 16), (2, 6), (1, 16), (1, 16), (1, 16), (1, 16), (1, 16), (1, 16), (0, 5), (1, 6), (1, 4),
  (0, 1), (2, 5), (1, 5), (1, 5), (1, 5), (1, 5), (1, 5), (2, 5), (1, 5), (1, 5), (1, 5), (1, 5), (1, 5), (2, 4), (1, 3), (1, 3), (1, 3), (1, 3), (2, 4), (1, 5), (1, 5), (1, 5), (1, 5), (1, 3), (1, 40),
  (0, 1), (2, 5), (1, 5), (1, 5), (1, 5), (1, 5), (1, 5), (2, 5), (1, 5), (1, 5), (1, 5), (1, 5), (1, 5), (2, 4), (1, 3), (1, 3), (1, 3), (1, 3), (2, 4), (1, 5), (1, 5), (1, 5), (1, 5), (1, 3), (1, 40),
  (0, 0), (1, 40), (1, 4), (0, 0), (1, 40), (1, 4), (0, 0), (1, 40), (1, 4),
  (0, 7), (1, 6), (1, 6), (1, 240), (1, 40), (1, 4), (1, 320), (1, 25), (1, 12), (1, 20), (1, 60), (1, 1000), (1, 3090), (1, 5), (1, 5), (1, 5), (1, 4)]
def sh_ (k : Nat) : Nat × Nat := sh_L.getD k (9, 0)
/-- the kinds of fields: 0 int, 1 long, 2 reference -/
def fk_L : List (List Nat) := [[2, 2, 0], [2, 2, 2, 2, 2, 2, 0], [2, 2, 2], [2, 0, 0], [2, 2], [2, 0, 0, 1, 1], [2, 2, 2, 2, 2, 2, 2, 2, 2], [0, 2, 0, 1, 1, 2, 2, 2, 2, 2, 0, 0, 0, 2, 2, 2, 0, 0, 0, 0, 2, 0, 2, 2, 2, 2, 2, 0, 1, 2, 1]]
def fk_ (ci j : Nat) : Nat := (fk_L.getD ci []).getD j 9
def nf_ (ci : Nat) : Nat := (fk_L.getD ci []).length
/-- the references that never change, by class, object, field -/
def rc_ (ci k j : Nat) : Nat := match ci with
  | 0 => k + [1, 2].getD j 0
  | 1 => k + [1, 7, 13, 18, 23, 24].getD j 0
  | 2 => k + [1, 2, 9].getD j 0
  | 4 => if k = 2 then [3, 10].getD j 0 else [12, 17].getD j 0
  | 5 => k + 1
  | 6 => [2, 11, 18, 19, 20, 36, 38].getD j 0
  | 7 => [0, 99, 0, 0, 0, 100, 101, 102, 103, 104, 0, 0, 0, 105, 106, 107, 0, 0, 0, 0, 108, 0, 109, 110, 111, 112, 113, 0, 0, 114, 0].getD j 0
  | _ => 0
def rf_ (h : hh_) (ci k j : Nat) : Nat := if k = 1 ∧ j = 7 then h.2.2.1 else if k = 1 ∧ j = 8 then h.2.2.2.1 else if k = 19 ∧ j = 0 then h.2.2.2.2 else rc_ ci k j
/-- elements of an array of references -/
def re_ (t k j : Nat) : Nat := if t = 2 then k + 1 + j else 89 + 3 * j
/-- static arrays: names, contents -/
def sn_L : List (String × List Int32) := [("FIGURES", [5, 2, 5]), ("LOWEST", [0, 0, 0, 0, 0, 0, 0, 0, 0, 0, 0, 0, 0, 0, 1]), ("HIGHEST", [5, 5, 5, 5, 3, 2, 3, 0, 0, 0, 6, 6, 6, 6, 9]), ("LETTERS", [116, 118, 108, 119, 99, 100]), ("MOST_ITEMS", [5, 4, 4]), ("ABOVE", [0, 0, 0, 0, 3, 1]), ("MORE", [0, -1, 1, 0, 1, -1]), ("MORE_AT_WISH", [0, 0, 0, 1, 1, 0]), ("TOP_MIDDLE", [9, 9, 9, 9, 9, 3])]
def sn_ (k : Nat) : String × List Int32 := sn_L.getD k ("", [])
/-- a run's fixed numbers: class numbers, slots, array classes, the address ahead of the first cell, the static arrays' addresses -/
abbrev gt_ : Type := (Nat → ClassId) × (Nat → Nat → Nat) × ClassId × ClassId × ClassId × Nat × (Nat → Nat)
abbrev gt_C (G : gt_) : Nat → ClassId := G.1
abbrev gt_I (G : gt_) : Nat → Nat → Nat := G.2.1
abbrev gt_1 (G : gt_) : ClassId := G.2.2.1
abbrev gt_2 (G : gt_) : ClassId := G.2.2.2.1
abbrev gt_3 (G : gt_) : ClassId := G.2.2.2.2.1
abbrev gt_B (G : gt_) : Nat := G.2.2.2.2.2.1
abbrev gt_S (G : gt_) : Nat → Nat := G.2.2.2.2.2.2
abbrev gt_A (G : gt_) : Nat → Prop := fun q => gt_B G < q
def rv_ (G : gt_) (r : Nat) : Value := if r = 0 then .null else .ref (gt_B G + r)
def cv_ (G : gt_) (v : Value) : Value := match v with
  | .ref k => if k = 0 then .null else if k < 500 then .ref (gt_B G + k) else .ref (gt_S G (k - 500))
  | v => v
theorem cv_rv (G : gt_) {r : Nat} (h : r < 500) : cv_ G (.ref r) = rv_ G r := by
  unfold cv_ rv_
  by_cases e : r = 0
  · simp [e]
  · simp [e, h]
theorem cv_ref (G : gt_) {r : Nat} (h0 : 0 < r) (h : r < 500) : cv_ G (.ref r) = .ref (gt_B G + r) := by
  unfold cv_
  simp [Nat.ne_of_gt h0, h]
theorem cv_sta (G : gt_) (k : Nat) : cv_ G (.ref (500 + k)) = .ref (gt_S G k) := by
  unfold cv_
  have h : ¬ 500 + k < 500 := by omega
  simp [h]
theorem cv_cat (G : gt_) (v : Value) : (cv_ G v).category = v.category := by
  cases v with
  | ref k => unfold cv_; by_cases e : k = 0 <;> by_cases e2 : k < 500 <;> simp [e, e2, Value.category]
  | _ => rfl
theorem sh_rng {k t n : Nat} (h : sh_ k = (t, n)) (ht : t ≠ 9) : 0 < k ∧ k ≤ 114 := by
  unfold sh_ at h
  have hl : sh_L.length = 115 := by decide
  by_cases hk : k < 115
  · refine ⟨?_, by omega⟩
    rcases Nat.eq_zero_or_pos k with e | e
    · subst e
      exact absurd (congrArg Prod.fst h).symm ht
    · exact e
  · rw [List.getD_eq_getElem?_getD, List.getElem?_eq_none (by omega)] at h
    exact absurd (congrArg Prod.fst h).symm ht
/-- a cell, as the abstract heap has it (ρ: its references) -/
def fv_ (G : gt_) (h : hh_) (ρ : Nat → Nat → Nat) (ci k j : Nat) : Value := if fk_ ci j = 0 then .int (h.1 k j) else if fk_ ci j = 1 then .long (h.2.1 k j) else rv_ G (ρ k j)
def ce_ (G : gt_) (h : hh_) (ρ : Nat → Nat → Nat) (H : Heap) (k : Nat) : Prop :=
  (∀ ci, sh_ k = (0, ci) → t_OB (gt_B G + k) (gt_C G ci) (nf_ ci) (gt_I G ci) H (fv_ G h ρ ci k)) ∧
  (∀ n, sh_ k = (1, n) → H[gt_B G + k]? = some (arrV (gt_1 G) n (fun j => .int (h.1 k j)))) ∧
  (∀ n, sh_ k = (2, n) → H[gt_B G + k]? = some (arrV (gt_2 G) n (fun j => rv_ G (ρ k j)))) ∧
  (∀ n, sh_ k = (3, n) → H[gt_B G + k]? = some (arrV (gt_3 G) n (fun j => rv_ G (ρ k j))))
def hg_ (G : gt_) (U : State) (nx : Nat) (ρ : Nat → Nat → Nat) (h : hh_) (H : Heap) : Prop :=
  H.size = gt_B G + 1 + nx ∧ (∀ k, k ≤ nx → ce_ G h ρ H k) ∧ ∀ k, k < 9 → va_T .int (gt_S G k) (sn_ k).2.length (fun j => .int ((sn_ k).2.getD j 0)) (gt_A G) U H ∧ va_Z "ThumbReader" (sn_ k).1 "[I" (.ref (gt_S G k)) (gt_A G) U H
def rr_ (h : hh_) (k j : Nat) : Nat := match sh_ k with
  | (0, ci) => rf_ h ci k j
  | (t, _) => re_ t k j
def hw_ (G : gt_) (U : State) (h : hh_) (H : Heap) : Prop := hg_ G U 114 (rr_ h) h H ∧ h.2.2.1 < 500 ∧ h.2.2.2.1 < 500 ∧ h.2.2.2.2 < 500
def isNest_ (w : Cond) : Bool := match w with
  | .fieldLinkNest _ _ _ _ _ _ => true
  | .methodLinkNest _ _ _ _ => true
  | _ => false
def nw_ : List Cond := lw_tbl.filter isNest_
def gw_ : List Cond := lw_tbl.filter goodWord
def kn_ (G : gt_) (U : State) : Prop := (∀ (c : Nat) (q : vw_C), vwCl[c]? = some q → u_Kn U q.1 q.2.1 q.2.2 (gt_C G c) (gt_I G c)) ∧ ArrOfT U (gt_1 G) .int ∧ ArrOfT U (gt_2 G) (.array .int) ∧ ArrOfT U (gt_3 G) (.object "ThumbReader$Kept") ∧ ∀ w ∈ nw_, va_Nw w U
theorem kn_.warm {G : gt_} {s U : State} (hW : s.WarmedH U.vm) (h : kn_ G s) : kn_ G U := by
  refine ⟨fun c q hq => u_Kn_moved hW.alike (h.1 c q hq), arrOfT_moved hW.alike h.2.1, arrOfT_moved hW.alike h.2.2.1, arrOfT_moved hW.alike h.2.2.2.1, fun w hw => ?_⟩
  have h1 := h.2.2.2.2 w hw
  have h2 := (List.mem_filter.mp hw).2
  unfold isNest_ at h2
  split at h2
  · exact va_Nw.warmF hW h1
  · exact va_Nw.warmM hW h1
  · cases h2
theorem kn_.same {G : gt_} {s U : State} (hv : s.vm = U.vm) (h : kn_ G s) : kn_ G U := by
  have hW : s.WarmedH U.vm := by rw [← hv]; exact State.WarmedH.refl s
  exact h.warm hW
theorem hg_.moved {G : gt_} {s U : State} {nx : Nat} {ρ : Nat → Nat → Nat} {h : hh_} {H : Heap} (hvm : s.vm.Alike U.vm) (w : hg_ G s nx ρ h H) : hg_ G U nx ρ h H :=
  ⟨w.1, w.2.1, fun k hk => ⟨(w.2.2 k hk).1.moved hvm, (w.2.2 k hk).2.moved hvm⟩⟩
theorem hw_.moved {G : gt_} {s U : State} {h : hh_} {H : Heap} (hvm : s.vm.Alike U.vm) (w : hw_ G s h H) : hw_ G U h H := ⟨w.1.moved hvm, w.2⟩
/-- locals: by slots; none: nothing is said of it -/
def lr_ (G : gt_) (ls : Array Slot) (nL : Nat) (lv : List (Option Value)) : Prop := ls.size = nL ∧ lv_wf ls ∧ ∀ (i : Nat) (v : Value), lv[i]? = some (some v) → ls[i]? = some (.val (cv_ G v))
def lc_ (lv : List (Option Value)) (i : Nat) : List (Option Value) := match i with
  | 0 => lv
  | j + 1 => match lv[j]? with
    | some (some v) => if v.category = 2 then lv.set j none else lv
    | _ => lv
def l1_ (lv : List (Option Value)) (i : Nat) (v : Value) : List (Option Value) := (lc_ lv i).set i (some v)
def l2_ (lv : List (Option Value)) (i : Nat) (v : Value) : List (Option Value) := ((lc_ lv i).set i (some v)).set (i + 1) none
def la_ (G : gt_) (lv : List (Option Value)) : List (Nat × Value) := (List.range lv.length).filterMap (fun i => match lv[i]? with | some (some v) => some (i, cv_ G v) | _ => none)
theorem la_mem {G : gt_} {lv : List (Option Value)} {i : Nat} {w : Value} : (i, w) ∈ la_ G lv ↔ ∃ v, lv[i]? = some (some v) ∧ w = cv_ G v := by
  unfold la_
  rw [List.mem_filterMap]
  constructor
  · rintro ⟨j, -, hj⟩
    split at hj
    · rename_i v hv
      cases hj
      exact ⟨v, hv, rfl⟩
    · cases hj
  · rintro ⟨v, hv, rfl⟩
    refine ⟨i, List.mem_range.mpr (List.getElem?_eq_some_iff.mp hv).1, ?_⟩
    rw [hv]
theorem lr_has {G : gt_} {ls : Array Slot} {nL : Nat} {lv : List (Option Value)} (h : lr_ G ls nL lv) : lv_has ls nL (la_ G lv) := ⟨h.1, h.2.1, fun q hq => by
  obtain ⟨v, hv, e⟩ := (la_mem (i := q.1) (w := q.2)).mp hq
  rw [e]
  exact h.2.2 _ _ hv⟩
theorem lc_get {lv : List (Option Value)} {i j : Nat} {v : Value} (h : (lc_ lv i)[j]? = some (some v)) : lv[j]? = some (some v) ∧ (j + 1 = i → ¬ v.category = 2) := by
  unfold lc_ at h
  split at h
  · exact ⟨h, fun e => by omega⟩
  · rename_i j0
    split at h
    · rename_i w hx
      by_cases hc : w.category = 2
      · rw [if_pos hc] at h
        by_cases e : j = j0
        · subst e
          rw [List.getElem?_set_self (List.getElem?_eq_some_iff.mp hx).1] at h
          cases h
        · rw [List.getElem?_set_ne (Ne.symm e)] at h
          exact ⟨h, fun e2 => by omega⟩
      · rw [if_neg hc] at h
        refine ⟨h, fun e => ?_⟩
        have e1 : j = j0 := by omega
        subst e1
        rw [hx] at h
        cases h
        exact hc
    · rename_i hn
      refine ⟨h, fun e => ?_⟩
      have e1 : j = j0 := by omega
      subst e1
      exact absurd h (hn v)
theorem lr_store1 {G : gt_} {ls : Array Slot} {nL : Nat} {lv : List (Option Value)} {i : Nat} {v : Value} (hl : ∀ q ∈ (i, cv_ G v) :: (la_ G lv).filter (fun q => !(q.1 == i) && !(q.1 + 1 == i && q.2.category == 2)), ls[q.1]? = some (.val q.2)) (hs : ls.size = nL) (hw : lv_wf ls) : lr_ G ls nL (l1_ lv i v) := by
  refine ⟨hs, hw, fun j w hj => ?_⟩
  unfold l1_ at hj
  by_cases e : j = i
  · subst e
    have h1 := hj
    by_cases hlt : j < (lc_ lv j).length
    · rw [List.getElem?_set_self hlt] at h1
      cases h1
      exact hl _ List.mem_cons_self
    · rw [List.getElem?_eq_none (by rw [List.length_set]; omega)] at h1
      cases h1
  · rw [List.getElem?_set_ne (Ne.symm e)] at hj
    obtain ⟨h1, h2⟩ := lc_get hj
    refine hl (j, cv_ G w) (List.mem_cons_of_mem _ (List.mem_filter.mpr ⟨la_mem.mpr ⟨w, h1, rfl⟩, ?_⟩))
    simp only [cv_cat]
    by_cases e2 : j + 1 = i
    · simp [e, h2 e2]
    · simp [e, e2]
theorem lr_store2 {G : gt_} {ls : Array Slot} {nL : Nat} {lv : List (Option Value)} {i : Nat} {v : Value} (hl : ∀ q ∈ (i, cv_ G v) :: (la_ G lv).filter (fun q => !(q.1 == i) && (!(q.1 == i + 1) && !(q.1 + 1 == i && q.2.category == 2))), ls[q.1]? = some (.val q.2)) (hs : ls.size = nL) (hw : lv_wf ls) : lr_ G ls nL (l2_ lv i v) := by
  refine ⟨hs, hw, fun j w hj => ?_⟩
  unfold l2_ at hj
  by_cases e3 : j = i + 1
  · subst e3
    by_cases hlt : i + 1 < ((lc_ lv i).set i (some v)).length
    · rw [List.getElem?_set_self hlt] at hj
      cases hj
    · rw [List.getElem?_eq_none (by rw [List.length_set]; omega)] at hj
      cases hj
  · rw [List.getElem?_set_ne (Ne.symm e3)] at hj
    by_cases e : j = i
    · subst e
      by_cases hlt : j < (lc_ lv j).length
      · rw [List.getElem?_set_self hlt] at hj
        cases hj
        exact hl _ List.mem_cons_self
      · rw [List.getElem?_eq_none (by rw [List.length_set]; omega)] at hj
        cases hj
    · rw [List.getElem?_set_ne (Ne.symm e)] at hj
      obtain ⟨h1, h2⟩ := lc_get hj
      refine hl (j, cv_ G w) (List.mem_cons_of_mem _ (List.mem_filter.mpr ⟨la_mem.mpr ⟨w, h1, rfl⟩, ?_⟩))
      simp only [cv_cat]
      by_cases e2 : j + 1 = i
      · simp [e, e3, h2 e2]
      · simp [e, e2, e3]
end
section
/-! ===== where a method stands: program, launch, environment, room, start, method, arguments, frames below, its code; the run's numbers; cells, slots, goal ===== -/
abbrev zz_ : Type := Program × Launch × Env × Room × State × MethodId × Array Value × List Frame × Method × Code × gt_ × Nat × Nat × (State → Prop)
abbrev z_p (Z : zz_) : Program := Z.1
abbrev z_l (Z : zz_) : Launch := Z.2.1
abbrev z_e (Z : zz_) : Env := Z.2.2.1
abbrev z_R (Z : zz_) : Room := Z.2.2.2.1
abbrev z_s (Z : zz_) : State := Z.2.2.2.2.1
abbrev z_m (Z : zz_) : MethodId := Z.2.2.2.2.2.1
abbrev z_a (Z : zz_) : Array Value := Z.2.2.2.2.2.2.1
abbrev z_b (Z : zz_) : List Frame := Z.2.2.2.2.2.2.2.1
abbrev z_t (Z : zz_) : Method := Z.2.2.2.2.2.2.2.2.1
abbrev z_c (Z : zz_) : Code := Z.2.2.2.2.2.2.2.2.2.1
abbrev z_G (Z : zz_) : gt_ := Z.2.2.2.2.2.2.2.2.2.2.1
abbrev z_k (Z : zz_) : Nat := Z.2.2.2.2.2.2.2.2.2.2.2.1
abbrev z_n (Z : zz_) : Nat := Z.2.2.2.2.2.2.2.2.2.2.2.2.1
abbrev z_Q (Z : zz_) : State → Prop := Z.2.2.2.2.2.2.2.2.2.2.2.2.2
/-- a method: its name, bytes, locals, what it returns -/
abbrev mt_ : Type := MethodName × ByteArray × Nat × Option FieldType
def ww_ (Z : zz_) (H : Heap) (locs : List Loc) (g : JFrame) : Prop := W (z_p Z) (z_l Z) (z_e Z) (z_R Z) (z_s Z) (z_m Z) (z_a Z) (z_b Z) (z_t Z) (z_c Z) H locs (z_k Z) (z_n Z) (z_Q Z) g
/-- THE JUDGEMENT: from here, with these locals, this stack, this heap, the goal is come to -/
def xx_ (Z : zz_) (pc : Nat) (lv : List (Option Value)) (st : List Value) (h : hh_) : Prop :=
  ∀ (H : Heap) (locs : List Loc) (ls : Array Slot), hw_ (z_G Z) (z_s Z) h H → va_S (gt_A (z_G Z)) (z_s Z).heap H locs → lr_ (z_G Z) ls (z_c Z).maxLocals lv → ww_ Z H locs (F0 (z_m Z) pc ls (st.map (cv_ (z_G Z))))
def cx_ (Z : zz_) (M : mt_) (d : Nat) : Prop :=
  (z_p Z).tables.exec = Jvm.exec ∧ (z_c Z).code = M.2.1 ∧ (z_t Z).sig.returnType = M.2.2.2 ∧ (z_c Z).maxLocals = M.2.2.1 ∧ (z_s Z).vm.findClass M.1.cls = some (z_m Z).cls ∧ (∀ w ∈ gw_, w.before (z_a Z) (z_s Z) = true) ∧ kn_ (z_G Z) (z_s Z) ∧ (z_t Z).locks = false ∧ d ≤ (z_R Z).frames ∧ 100 * d ≤ (z_R Z).locals ∧ z_k Z ≤ (z_R Z).cells ∧ z_n Z ≤ (z_R Z).slots
theorem cx_.ex {Z : zz_} {M : mt_} {d : Nat} (C : cx_ Z M d) : (z_p Z).tables.exec = Jvm.exec := C.1
theorem cx_.co {Z : zz_} {M : mt_} {d : Nat} (C : cx_ Z M d) : (z_c Z).code = M.2.1 := C.2.1
theorem cx_.re {Z : zz_} {M : mt_} {d : Nat} (C : cx_ Z M d) : (z_t Z).sig.returnType = M.2.2.2 := C.2.2.1
theorem cx_.ml {Z : zz_} {M : mt_} {d : Nat} (C : cx_ Z M d) : (z_c Z).maxLocals = M.2.2.1 := C.2.2.2.1
theorem cx_.ow {Z : zz_} {M : mt_} {d : Nat} (C : cx_ Z M d) : (z_s Z).vm.findClass M.1.cls = some (z_m Z).cls := C.2.2.2.2.1
theorem cx_.ts {Z : zz_} {M : mt_} {d : Nat} (C : cx_ Z M d) : ∀ w ∈ gw_, w.before (z_a Z) (z_s Z) = true := C.2.2.2.2.2.1
theorem cx_.kn {Z : zz_} {M : mt_} {d : Nat} (C : cx_ Z M d) : kn_ (z_G Z) (z_s Z) := C.2.2.2.2.2.2.1
theorem cx_.lk {Z : zz_} {M : mt_} {d : Nat} (C : cx_ Z M d) : (z_t Z).locks = false := C.2.2.2.2.2.2.2.1
theorem cx_.fr {Z : zz_} {M : mt_} {d : Nat} (C : cx_ Z M d) : d ≤ (z_R Z).frames ∧ 100 * d ≤ (z_R Z).locals := ⟨C.2.2.2.2.2.2.2.2.1, C.2.2.2.2.2.2.2.2.2.1⟩
theorem cx_.ce {Z : zz_} {M : mt_} {d : Nat} (C : cx_ Z M d) : z_k Z ≤ (z_R Z).cells ∧ z_n Z ≤ (z_R Z).slots := ⟨C.2.2.2.2.2.2.2.2.2.2.1, C.2.2.2.2.2.2.2.2.2.2.2⟩
/-- decode rows in a list -/
abbrev dd_ (b : ByteArray) (l : List (Nat × Instr × Nat)) : Prop := ∀ q ∈ l, decode b q.1 = .ok (q.2.1, q.2.2)
theorem dd_.at {b : ByteArray} {l : List (Nat × Instr × Nat)} (h : dd_ b l) (i : Nat) {pc : Nat} {x : Instr} {n : Nat} (e : l[i]? = some (pc, x, n)) : decode b pc = .ok (x, n) := h (pc, x, n) (List.mem_of_getElem? e)
theorem gw_in {w : Cond} (h : w ∈ lw_tbl) (hg : goodWord w = true) : w ∈ gw_ := List.mem_filter.mpr ⟨h, hg⟩
section XX
variable {Z : zz_} {M : mt_} {d : Nat} {pc : Nat} {lv : List (Option Value)} {st : List Value} {h : hh_}
theorem xx_iconst (C : cx_ Z M d) {n : Int} {v : Int32} (D : decode M.2.1 pc = .ok (.iconst n, 1)) (hv : Int32.ofInt n = v) (K : xx_ Z (pc + 1) lv (.int v :: st) h) : xx_ Z pc lv (st) h := fun H locs ls hw hs hl => lv_iconst C.ex C.co D hv (K H locs ls hw hs hl)
theorem xx_bipush (C : cx_ Z M d) {n : Int} {v : Int32} (D : decode M.2.1 pc = .ok (.bipush n, 2)) (hv : (Int8.ofInt n).toInt32 = v) (K : xx_ Z (pc + 2) lv (.int v :: st) h) : xx_ Z pc lv (st) h := fun H locs ls hw hs hl => lv_bipush C.ex C.co D hv (K H locs ls hw hs hl)
theorem xx_sipush (C : cx_ Z M d) {n : Int} {v : Int32} (D : decode M.2.1 pc = .ok (.sipush n, 3)) (hv : (Int16.ofInt n).toInt32 = v) (K : xx_ Z (pc + 3) lv (.int v :: st) h) : xx_ Z pc lv (st) h := fun H locs ls hw hs hl => lv_sipush C.ex C.co D hv (K H locs ls hw hs hl)
theorem xx_lconst (C : cx_ Z M d) {n : Fin 2} {v : Int64} (D : decode M.2.1 pc = .ok (.lconst n, 1)) (hv : Int64.ofNat (n : Nat) = v) (K : xx_ Z (pc + 1) lv (.long v :: st) h) : xx_ Z pc lv (st) h := fun H locs ls hw hs hl => lv_lconst C.ex C.co D hv (K H locs ls hw hs hl)
theorem xx_ldc2 (C : cx_ Z M d) {idx : Nat} {v : Int64} (D : decode M.2.1 pc = .ok (.ldc2_w idx, 3)) (hv : Cond.constantLong M.1.cls idx v ∈ lw_tbl) (K : xx_ Z (pc + 3) lv (.long v :: st) h) : xx_ Z pc lv (st) h := fun H locs ls hw hs hl => lv_ldc2 C.ex C.co C.ow (C.ts _ (gw_in hv rfl)) D (K H locs ls hw hs hl)
theorem xx_iload_n (C : cx_ Z M d) {k : Fin 4} {x : Int32} (D : decode M.2.1 pc = .ok (.iload_n k, 1)) (e : lv[(k : Nat)]? = some (some (.int x))) (K : xx_ Z (pc + 1) lv (.int x :: st) h) : xx_ Z pc lv (st) h := fun H locs ls hw hs hl => lv_iload_n C.ex C.co D rfl (hl.2.2 _ _ e) (K H locs ls hw hs hl)
theorem xx_iload (C : cx_ Z M d) {k : Nat} {x : Int32} (D : decode M.2.1 pc = .ok (.iload k, 2)) (e : lv[k]? = some (some (.int x))) (K : xx_ Z (pc + 2) lv (.int x :: st) h) : xx_ Z pc lv (st) h := fun H locs ls hw hs hl => lv_iload C.ex C.co D (hl.2.2 _ _ e) (K H locs ls hw hs hl)
theorem xx_lload_n (C : cx_ Z M d) {k : Fin 4} {x : Int64} (D : decode M.2.1 pc = .ok (.lload_n k, 1)) (e : lv[(k : Nat)]? = some (some (.long x))) (K : xx_ Z (pc + 1) lv (.long x :: st) h) : xx_ Z pc lv (st) h := fun H locs ls hw hs hl => lv_lload_n C.ex C.co D rfl (hl.2.2 _ _ e) (K H locs ls hw hs hl)
theorem xx_lload (C : cx_ Z M d) {k : Nat} {x : Int64} (D : decode M.2.1 pc = .ok (.lload k, 2)) (e : lv[k]? = some (some (.long x))) (K : xx_ Z (pc + 2) lv (.long x :: st) h) : xx_ Z pc lv (st) h := fun H locs ls hw hs hl => lv_lload C.ex C.co D (hl.2.2 _ _ e) (K H locs ls hw hs hl)
theorem xx_aload_n (C : cx_ Z M d) {k : Fin 4} {x : Nat} (D : decode M.2.1 pc = .ok (.aload_n k, 1)) (e : lv[(k : Nat)]? = some (some (.ref x))) (hx : 0 < x) (K : xx_ Z (pc + 1) lv (.ref x :: st) h) : xx_ Z pc lv st h := fun H locs ls hw hs hl => by
  have h1 := K H locs ls hw hs hl
  have h2 := hl.2.2 _ _ e
  obtain ⟨a, ea⟩ : ∃ a, cv_ (z_G Z) (.ref x) = .ref a := by
    unfold cv_
    by_cases e2 : x < 500
    · exact ⟨_, by simp [Nat.ne_of_gt hx, e2]; rfl⟩
    · exact ⟨_, by simp [Nat.ne_of_gt hx, e2]; rfl⟩
  rw [ea] at h2
  rw [List.map_cons, ea] at h1
  exact lv_aload_n C.ex C.co D rfl h2 h1
theorem xx_aload (C : cx_ Z M d) {k : Nat} {x : Nat} (D : decode M.2.1 pc = .ok (.aload k, 2)) (e : lv[k]? = some (some (.ref x))) (hx : 0 < x) (K : xx_ Z (pc + 2) lv (.ref x :: st) h) : xx_ Z pc lv st h := fun H locs ls hw hs hl => by
  have h1 := K H locs ls hw hs hl
  have h2 := hl.2.2 _ _ e
  obtain ⟨a, ea⟩ : ∃ a, cv_ (z_G Z) (.ref x) = .ref a := by
    unfold cv_
    by_cases e2 : x < 500
    · exact ⟨_, by simp [Nat.ne_of_gt hx, e2]; rfl⟩
    · exact ⟨_, by simp [Nat.ne_of_gt hx, e2]; rfl⟩
  rw [ea] at h2
  rw [List.map_cons, ea] at h1
  exact lv_aload C.ex C.co D h2 h1
theorem xx_istore_n (C : cx_ Z M d) {k : Fin 4} {x : Int32} {lv' : List (Option Value)} (D : decode M.2.1 pc = .ok (.istore_n k, 1)) (hn : (k : Nat) < M.2.2.1) (e : l1_ lv (k : Nat) (.int x) = lv') (K : xx_ Z (pc + 1) lv' st h) : xx_ Z pc lv (.int x :: st) h := fun H locs ls hw hs hl =>
  lv_istore_n C.ex C.co D rfl (lr_has hl) (by rw [C.ml]; exact hn) rfl (fun ls' h' => K H locs ls' hw hs (e ▸ lr_store1 (v := .int x) h'.2.2 h'.1 h'.2.1))
theorem xx_istore (C : cx_ Z M d) {k : Nat} {x : Int32} {lv' : List (Option Value)} (D : decode M.2.1 pc = .ok (.istore k, 2)) (hn : k < M.2.2.1) (e : l1_ lv k (.int x) = lv') (K : xx_ Z (pc + 2) lv' st h) : xx_ Z pc lv (.int x :: st) h := fun H locs ls hw hs hl =>
  lv_istore C.ex C.co D (lr_has hl) (by rw [C.ml]; exact hn) rfl (fun ls' h' => K H locs ls' hw hs (e ▸ lr_store1 (v := .int x) h'.2.2 h'.1 h'.2.1))
theorem xx_lstore_n (C : cx_ Z M d) {k : Fin 4} {x : Int64} {lv' : List (Option Value)} (D : decode M.2.1 pc = .ok (.lstore_n k, 1)) (hn : (k : Nat) + 1 < M.2.2.1) (e : l2_ lv (k : Nat) (.long x) = lv') (K : xx_ Z (pc + 1) lv' st h) : xx_ Z pc lv (.long x :: st) h := fun H locs ls hw hs hl =>
  lv_lstore_n C.ex C.co D rfl (lr_has hl) (by rw [C.ml]; exact hn) rfl (fun ls' h' => K H locs ls' hw hs (e ▸ lr_store2 (v := .long x) h'.2.2 h'.1 h'.2.1))
theorem xx_lstore (C : cx_ Z M d) {k : Nat} {x : Int64} {lv' : List (Option Value)} (D : decode M.2.1 pc = .ok (.lstore k, 2)) (hn : k + 1 < M.2.2.1) (e : l2_ lv k (.long x) = lv') (K : xx_ Z (pc + 2) lv' st h) : xx_ Z pc lv (.long x :: st) h := fun H locs ls hw hs hl =>
  lv_lstore C.ex C.co D (lr_has hl) (by rw [C.ml]; exact hn) rfl (fun ls' h' => K H locs ls' hw hs (e ▸ lr_store2 (v := .long x) h'.2.2 h'.1 h'.2.1))
theorem xx_astore_n (C : cx_ Z M d) {k : Fin 4} {x : Nat} {lv' : List (Option Value)} (D : decode M.2.1 pc = .ok (.astore_n k, 1)) (hn : (k : Nat) < M.2.2.1) (hx : 0 < x ∧ x < 500) (e : l1_ lv (k : Nat) (.ref x) = lv') (K : xx_ Z (pc + 1) lv' st h) : xx_ Z pc lv (.ref x :: st) h := fun H locs ls hw hs hl => by
  unfold ww_
  rw [List.map_cons, cv_ref _ hx.1 hx.2]
  exact lv_astore_n C.ex C.co D rfl (lr_has hl) (by rw [C.ml]; exact hn) rfl (fun ls' h' => K H locs ls' hw hs (e ▸ lr_store1 (v := .ref x) (by rw [cv_ref _ hx.1 hx.2]; exact h'.2.2) h'.1 h'.2.1))
theorem xx_astore (C : cx_ Z M d) {k : Nat} {x : Nat} {lv' : List (Option Value)} (D : decode M.2.1 pc = .ok (.astore k, 2)) (hn : k < M.2.2.1) (hx : 0 < x ∧ x < 500) (e : l1_ lv k (.ref x) = lv') (K : xx_ Z (pc + 2) lv' st h) : xx_ Z pc lv (.ref x :: st) h := fun H locs ls hw hs hl => by
  unfold ww_
  rw [List.map_cons, cv_ref _ hx.1 hx.2]
  exact lv_astore C.ex C.co D (lr_has hl) (by rw [C.ml]; exact hn) rfl (fun ls' h' => K H locs ls' hw hs (e ▸ lr_store1 (v := .ref x) (by rw [cv_ref _ hx.1 hx.2]; exact h'.2.2) h'.1 h'.2.1))
theorem xx_iinc (C : cx_ Z M d) {i : Nat} {n : Int} {x v : Int32} {lv' : List (Option Value)} (D : decode M.2.1 pc = .ok (.iinc i n, 3)) (hn : i < M.2.2.1) (e0 : lv[i]? = some (some (.int x))) (hv : x + Int32.ofInt n = v) (e : l1_ lv i (.int v) = lv') (K : xx_ Z (pc + 3) lv' st h) : xx_ Z pc lv st h := fun H locs ls hw hs hl => by
  obtain ⟨k, hk⟩ := List.getElem?_of_mem (la_mem (G := z_G Z) (w := .int x) |>.mpr ⟨_, e0, rfl⟩)
  exact lv_iinc C.ex C.co D (lr_has hl) hk hv (by rw [C.ml]; exact hn) rfl (fun ls' h' => K H locs ls' hw hs (e ▸ lr_store1 (v := .int v) h'.2.2 h'.1 h'.2.1))
theorem xx_iadd (C : cx_ Z M d) {x y : Int32} (D : decode M.2.1 pc = .ok (.iadd, 1)) (K : xx_ Z (pc + 1) lv (.int (x + y) :: st) h) : xx_ Z pc lv (.int y :: .int x :: st) h := fun H locs ls hw hs hl => lv_iadd C.ex C.co D (K H locs ls hw hs hl)
theorem xx_isub (C : cx_ Z M d) {x y : Int32} (D : decode M.2.1 pc = .ok (.isub, 1)) (K : xx_ Z (pc + 1) lv (.int (x - y) :: st) h) : xx_ Z pc lv (.int y :: .int x :: st) h := fun H locs ls hw hs hl => lv_isub C.ex C.co D (K H locs ls hw hs hl)
theorem xx_imul (C : cx_ Z M d) {x y : Int32} (D : decode M.2.1 pc = .ok (.imul, 1)) (K : xx_ Z (pc + 1) lv (.int (x * y) :: st) h) : xx_ Z pc lv (.int y :: .int x :: st) h := fun H locs ls hw hs hl => lv_imul C.ex C.co D (K H locs ls hw hs hl)
theorem xx_iand (C : cx_ Z M d) {x y : Int32} (D : decode M.2.1 pc = .ok (.iand, 1)) (K : xx_ Z (pc + 1) lv (.int (x &&& y) :: st) h) : xx_ Z pc lv (.int y :: .int x :: st) h := fun H locs ls hw hs hl => lv_iand C.ex C.co D (K H locs ls hw hs hl)
theorem xx_ior (C : cx_ Z M d) {x y : Int32} (D : decode M.2.1 pc = .ok (.ior, 1)) (K : xx_ Z (pc + 1) lv (.int (x ||| y) :: st) h) : xx_ Z pc lv (.int y :: .int x :: st) h := fun H locs ls hw hs hl => lv_ior C.ex C.co D (K H locs ls hw hs hl)
theorem xx_ixor (C : cx_ Z M d) {x y : Int32} (D : decode M.2.1 pc = .ok (.ixor, 1)) (K : xx_ Z (pc + 1) lv (.int (x ^^^ y) :: st) h) : xx_ Z pc lv (.int y :: .int x :: st) h := fun H locs ls hw hs hl => lv_ixor C.ex C.co D (K H locs ls hw hs hl)
theorem xx_ishl (C : cx_ Z M d) {x y : Int32} (D : decode M.2.1 pc = .ok (.ishl, 1)) (K : xx_ Z (pc + 1) lv (.int (x <<< (y &&& 31)) :: st) h) : xx_ Z pc lv (.int y :: .int x :: st) h := fun H locs ls hw hs hl => lv_ishl C.ex C.co D (K H locs ls hw hs hl)
theorem xx_ishr (C : cx_ Z M d) {x y : Int32} (D : decode M.2.1 pc = .ok (.ishr, 1)) (K : xx_ Z (pc + 1) lv (.int (x >>> (y &&& 31)) :: st) h) : xx_ Z pc lv (.int y :: .int x :: st) h := fun H locs ls hw hs hl => lv_ishr C.ex C.co D (K H locs ls hw hs hl)
theorem xx_idiv (C : cx_ Z M d) {x y : Int32} (D : decode M.2.1 pc = .ok (.idiv, 1)) (hne : ¬ y = 0) (K : xx_ Z (pc + 1) lv (.int (x / y) :: st) h) : xx_ Z pc lv (.int y :: .int x :: st) h := fun H locs ls hw hs hl => lv_idiv C.ex C.co D hne (K H locs ls hw hs hl)
theorem xx_irem (C : cx_ Z M d) {x y : Int32} (D : decode M.2.1 pc = .ok (.irem, 1)) (hne : ¬ y = 0) (K : xx_ Z (pc + 1) lv (.int (x - x / y * y) :: st) h) : xx_ Z pc lv (.int y :: .int x :: st) h := fun H locs ls hw hs hl => lv_irem C.ex C.co D hne (K H locs ls hw hs hl)
theorem xx_ladd (C : cx_ Z M d) {x y : Int64} (D : decode M.2.1 pc = .ok (.ladd, 1)) (K : xx_ Z (pc + 1) lv (.long (x + y) :: st) h) : xx_ Z pc lv (.long y :: .long x :: st) h := fun H locs ls hw hs hl => lv_ladd C.ex C.co D (K H locs ls hw hs hl)
theorem xx_lmul (C : cx_ Z M d) {x y : Int64} (D : decode M.2.1 pc = .ok (.lmul, 1)) (K : xx_ Z (pc + 1) lv (.long (x * y) :: st) h) : xx_ Z pc lv (.long y :: .long x :: st) h := fun H locs ls hw hs hl => lv_lmul C.ex C.co D (K H locs ls hw hs hl)
theorem xx_ldiv (C : cx_ Z M d) {x y : Int64} (D : decode M.2.1 pc = .ok (.ldiv, 1)) (hne : ¬ y = 0) (K : xx_ Z (pc + 1) lv (.long (x / y) :: st) h) : xx_ Z pc lv (.long y :: .long x :: st) h := fun H locs ls hw hs hl => lv_ldiv C.ex C.co D hne (K H locs ls hw hs hl)
theorem xx_lrem (C : cx_ Z M d) {x y : Int64} (D : decode M.2.1 pc = .ok (.lrem, 1)) (hne : ¬ y = 0) (K : xx_ Z (pc + 1) lv (.long (x - x / y * y) :: st) h) : xx_ Z pc lv (.long y :: .long x :: st) h := fun H locs ls hw hs hl => lv_lrem C.ex C.co D hne (K H locs ls hw hs hl)
theorem xx_lcmp (C : cx_ Z M d) {x y : Int64} (D : decode M.2.1 pc = .ok (.lcmp, 1)) (K : xx_ Z (pc + 1) lv (.int (lg_cmp x y) :: st) h) : xx_ Z pc lv (.long y :: .long x :: st) h := fun H locs ls hw hs hl => W.lcmp C.ex C.co D (K H locs ls hw hs hl)
theorem xx_i2l (C : cx_ Z M d) {x : Int32} (D : decode M.2.1 pc = .ok (.i2l, 1)) (K : xx_ Z (pc + 1) lv (.long x.toInt64 :: st) h) : xx_ Z pc lv (.int x :: st) h := fun H locs ls hw hs hl => lv_i2l C.ex C.co D rfl (K H locs ls hw hs hl)
theorem xx_l2i (C : cx_ Z M d) {x : Int64} (D : decode M.2.1 pc = .ok (.l2i, 1)) (K : xx_ Z (pc + 1) lv (.int x.toInt32 :: st) h) : xx_ Z pc lv (.long x :: st) h := fun H locs ls hw hs hl => lv_l2i C.ex C.co D rfl (K H locs ls hw hs hl)
theorem xx_i2b (C : cx_ Z M d) {x : Int32} (D : decode M.2.1 pc = .ok (.i2b, 1)) (K : xx_ Z (pc + 1) lv (.int x.toInt8.toInt32 :: st) h) : xx_ Z pc lv (.int x :: st) h := fun H locs ls hw hs hl => lv_i2b C.ex C.co D rfl (K H locs ls hw hs hl)
theorem xx_dup (C : cx_ Z M d) {a : Value} (D : decode M.2.1 pc = .ok (.dup, 1)) (hc : a.category = 1) (K : xx_ Z (pc + 1) lv (a :: a :: st) h) : xx_ Z pc lv (a :: st) h := fun H locs ls hw hs hl => lv_dup C.ex C.co D ((cv_cat _ _).trans hc) (K H locs ls hw hs hl)
theorem xx_pop (C : cx_ Z M d) {a : Value} (D : decode M.2.1 pc = .ok (.pop, 1)) (hc : a.category = 1) (K : xx_ Z (pc + 1) lv (st) h) : xx_ Z pc lv (a :: st) h := fun H locs ls hw hs hl => lv_pop C.ex C.co D ((cv_cat _ _).trans hc) (K H locs ls hw hs hl)
theorem xx_dup2 (C : cx_ Z M d) {a b : Value} (D : decode M.2.1 pc = .ok (.dup2, 1)) (hc : a.category = 1) (hc2 : b.category = 1) (K : xx_ Z (pc + 1) lv (a :: b :: a :: b :: st) h) : xx_ Z pc lv (a :: b :: st) h := fun H locs ls hw hs hl => lv_dup2_11 C.ex C.co D ((cv_cat _ _).trans hc) ((cv_cat _ _).trans hc2) (K H locs ls hw hs hl)
theorem xx_if_eq_t (C : cx_ Z M d) {x : Int32} {off : Int} {tgt : Nat} (D : decode M.2.1 pc = .ok (.ifCond .eq off, 3)) (ht : (pc : Int) + off = (tgt : Int)) (hc : x = 0) (K : xx_ Z tgt lv st h) : xx_ Z pc lv (.int x :: st) h := fun H locs ls hw hs hl => lv_if_eq C.ex C.co D ht (fun _ => K H locs ls hw hs hl) (fun q => absurd hc q)
theorem xx_if_eq_f (C : cx_ Z M d) {x : Int32} {off : Int} {tgt : Nat} (D : decode M.2.1 pc = .ok (.ifCond .eq off, 3)) (ht : (pc : Int) + off = (tgt : Int)) (hc : ¬ x = 0) (K : xx_ Z (pc + 3) lv st h) : xx_ Z pc lv (.int x :: st) h := fun H locs ls hw hs hl => lv_if_eq C.ex C.co D ht (fun q => absurd q hc) (fun _ => K H locs ls hw hs hl)
theorem xx_icmp_eq_t (C : cx_ Z M d) {x y : Int32} {off : Int} {tgt : Nat} (D : decode M.2.1 pc = .ok (.if_icmp .eq off, 3)) (ht : (pc : Int) + off = (tgt : Int)) (hc : x = y) (K : xx_ Z tgt lv st h) : xx_ Z pc lv (.int y :: .int x :: st) h := fun H locs ls hw hs hl => lv_icmp_eq C.ex C.co D ht (fun _ => K H locs ls hw hs hl) (fun q => absurd hc q)
theorem xx_icmp_eq_f (C : cx_ Z M d) {x y : Int32} {off : Int} {tgt : Nat} (D : decode M.2.1 pc = .ok (.if_icmp .eq off, 3)) (ht : (pc : Int) + off = (tgt : Int)) (hc : ¬ x = y) (K : xx_ Z (pc + 3) lv st h) : xx_ Z pc lv (.int y :: .int x :: st) h := fun H locs ls hw hs hl => lv_icmp_eq C.ex C.co D ht (fun q => absurd q hc) (fun _ => K H locs ls hw hs hl)
theorem xx_if_ne_t (C : cx_ Z M d) {x : Int32} {off : Int} {tgt : Nat} (D : decode M.2.1 pc = .ok (.ifCond .ne off, 3)) (ht : (pc : Int) + off = (tgt : Int)) (hc : ¬ x = 0) (K : xx_ Z tgt lv st h) : xx_ Z pc lv (.int x :: st) h := fun H locs ls hw hs hl => lv_if_ne C.ex C.co D ht (fun _ => K H locs ls hw hs hl) (fun q => absurd q hc)
theorem xx_if_ne_f (C : cx_ Z M d) {x : Int32} {off : Int} {tgt : Nat} (D : decode M.2.1 pc = .ok (.ifCond .ne off, 3)) (ht : (pc : Int) + off = (tgt : Int)) (hc : ¬ ¬ x = 0) (K : xx_ Z (pc + 3) lv st h) : xx_ Z pc lv (.int x :: st) h := fun H locs ls hw hs hl => lv_if_ne C.ex C.co D ht (fun q => absurd q hc) (fun _ => K H locs ls hw hs hl)
theorem xx_icmp_ne_t (C : cx_ Z M d) {x y : Int32} {off : Int} {tgt : Nat} (D : decode M.2.1 pc = .ok (.if_icmp .ne off, 3)) (ht : (pc : Int) + off = (tgt : Int)) (hc : ¬ x = y) (K : xx_ Z tgt lv st h) : xx_ Z pc lv (.int y :: .int x :: st) h := fun H locs ls hw hs hl => lv_icmp_ne C.ex C.co D ht (fun _ => K H locs ls hw hs hl) (fun q => absurd q hc)
theorem xx_icmp_ne_f (C : cx_ Z M d) {x y : Int32} {off : Int} {tgt : Nat} (D : decode M.2.1 pc = .ok (.if_icmp .ne off, 3)) (ht : (pc : Int) + off = (tgt : Int)) (hc : ¬ ¬ x = y) (K : xx_ Z (pc + 3) lv st h) : xx_ Z pc lv (.int y :: .int x :: st) h := fun H locs ls hw hs hl => lv_icmp_ne C.ex C.co D ht (fun q => absurd q hc) (fun _ => K H locs ls hw hs hl)
theorem xx_if_lt_t (C : cx_ Z M d) {x : Int32} {off : Int} {tgt : Nat} (D : decode M.2.1 pc = .ok (.ifCond .lt off, 3)) (ht : (pc : Int) + off = (tgt : Int)) (hc : x < 0) (K : xx_ Z tgt lv st h) : xx_ Z pc lv (.int x :: st) h := fun H locs ls hw hs hl => lv_if_lt C.ex C.co D ht (fun _ => K H locs ls hw hs hl) (fun q => absurd hc q)
theorem xx_if_lt_f (C : cx_ Z M d) {x : Int32} {off : Int} {tgt : Nat} (D : decode M.2.1 pc = .ok (.ifCond .lt off, 3)) (ht : (pc : Int) + off = (tgt : Int)) (hc : ¬ x < 0) (K : xx_ Z (pc + 3) lv st h) : xx_ Z pc lv (.int x :: st) h := fun H locs ls hw hs hl => lv_if_lt C.ex C.co D ht (fun q => absurd q hc) (fun _ => K H locs ls hw hs hl)
theorem xx_icmp_lt_t (C : cx_ Z M d) {x y : Int32} {off : Int} {tgt : Nat} (D : decode M.2.1 pc = .ok (.if_icmp .lt off, 3)) (ht : (pc : Int) + off = (tgt : Int)) (hc : x < y) (K : xx_ Z tgt lv st h) : xx_ Z pc lv (.int y :: .int x :: st) h := fun H locs ls hw hs hl => lv_icmp_lt C.ex C.co D ht (fun _ => K H locs ls hw hs hl) (fun q => absurd hc q)
theorem xx_icmp_lt_f (C : cx_ Z M d) {x y : Int32} {off : Int} {tgt : Nat} (D : decode M.2.1 pc = .ok (.if_icmp .lt off, 3)) (ht : (pc : Int) + off = (tgt : Int)) (hc : ¬ x < y) (K : xx_ Z (pc + 3) lv st h) : xx_ Z pc lv (.int y :: .int x :: st) h := fun H locs ls hw hs hl => lv_icmp_lt C.ex C.co D ht (fun q => absurd q hc) (fun _ => K H locs ls hw hs hl)
theorem xx_if_ge_t (C : cx_ Z M d) {x : Int32} {off : Int} {tgt : Nat} (D : decode M.2.1 pc = .ok (.ifCond .ge off, 3)) (ht : (pc : Int) + off = (tgt : Int)) (hc : 0 ≤ x) (K : xx_ Z tgt lv st h) : xx_ Z pc lv (.int x :: st) h := fun H locs ls hw hs hl => lv_if_ge C.ex C.co D ht (fun _ => K H locs ls hw hs hl) (fun q => absurd hc q)
theorem xx_if_ge_f (C : cx_ Z M d) {x : Int32} {off : Int} {tgt : Nat} (D : decode M.2.1 pc = .ok (.ifCond .ge off, 3)) (ht : (pc : Int) + off = (tgt : Int)) (hc : ¬ 0 ≤ x) (K : xx_ Z (pc + 3) lv st h) : xx_ Z pc lv (.int x :: st) h := fun H locs ls hw hs hl => lv_if_ge C.ex C.co D ht (fun q => absurd q hc) (fun _ => K H locs ls hw hs hl)
theorem xx_icmp_ge_t (C : cx_ Z M d) {x y : Int32} {off : Int} {tgt : Nat} (D : decode M.2.1 pc = .ok (.if_icmp .ge off, 3)) (ht : (pc : Int) + off = (tgt : Int)) (hc : y ≤ x) (K : xx_ Z tgt lv st h) : xx_ Z pc lv (.int y :: .int x :: st) h := fun H locs ls hw hs hl => lv_icmp_ge C.ex C.co D ht (fun _ => K H locs ls hw hs hl) (fun q => absurd hc q)
theorem xx_icmp_ge_f (C : cx_ Z M d) {x y : Int32} {off : Int} {tgt : Nat} (D : decode M.2.1 pc = .ok (.if_icmp .ge off, 3)) (ht : (pc : Int) + off = (tgt : Int)) (hc : ¬ y ≤ x) (K : xx_ Z (pc + 3) lv st h) : xx_ Z pc lv (.int y :: .int x :: st) h := fun H locs ls hw hs hl => lv_icmp_ge C.ex C.co D ht (fun q => absurd q hc) (fun _ => K H locs ls hw hs hl)
theorem xx_if_gt_t (C : cx_ Z M d) {x : Int32} {off : Int} {tgt : Nat} (D : decode M.2.1 pc = .ok (.ifCond .gt off, 3)) (ht : (pc : Int) + off = (tgt : Int)) (hc : 0 < x) (K : xx_ Z tgt lv st h) : xx_ Z pc lv (.int x :: st) h := fun H locs ls hw hs hl => lv_if_gt C.ex C.co D ht (fun _ => K H locs ls hw hs hl) (fun q => absurd hc q)
theorem xx_if_gt_f (C : cx_ Z M d) {x : Int32} {off : Int} {tgt : Nat} (D : decode M.2.1 pc = .ok (.ifCond .gt off, 3)) (ht : (pc : Int) + off = (tgt : Int)) (hc : ¬ 0 < x) (K : xx_ Z (pc + 3) lv st h) : xx_ Z pc lv (.int x :: st) h := fun H locs ls hw hs hl => lv_if_gt C.ex C.co D ht (fun q => absurd q hc) (fun _ => K H locs ls hw hs hl)
theorem xx_icmp_gt_t (C : cx_ Z M d) {x y : Int32} {off : Int} {tgt : Nat} (D : decode M.2.1 pc = .ok (.if_icmp .gt off, 3)) (ht : (pc : Int) + off = (tgt : Int)) (hc : y < x) (K : xx_ Z tgt lv st h) : xx_ Z pc lv (.int y :: .int x :: st) h := fun H locs ls hw hs hl => lv_icmp_gt C.ex C.co D ht (fun _ => K H locs ls hw hs hl) (fun q => absurd hc q)
theorem xx_icmp_gt_f (C : cx_ Z M d) {x y : Int32} {off : Int} {tgt : Nat} (D : decode M.2.1 pc = .ok (.if_icmp .gt off, 3)) (ht : (pc : Int) + off = (tgt : Int)) (hc : ¬ y < x) (K : xx_ Z (pc + 3) lv st h) : xx_ Z pc lv (.int y :: .int x :: st) h := fun H locs ls hw hs hl => lv_icmp_gt C.ex C.co D ht (fun q => absurd q hc) (fun _ => K H locs ls hw hs hl)
theorem xx_if_le_t (C : cx_ Z M d) {x : Int32} {off : Int} {tgt : Nat} (D : decode M.2.1 pc = .ok (.ifCond .le off, 3)) (ht : (pc : Int) + off = (tgt : Int)) (hc : x ≤ 0) (K : xx_ Z tgt lv st h) : xx_ Z pc lv (.int x :: st) h := fun H locs ls hw hs hl => lv_if_le C.ex C.co D ht (fun _ => K H locs ls hw hs hl) (fun q => absurd hc q)
theorem xx_if_le_f (C : cx_ Z M d) {x : Int32} {off : Int} {tgt : Nat} (D : decode M.2.1 pc = .ok (.ifCond .le off, 3)) (ht : (pc : Int) + off = (tgt : Int)) (hc : ¬ x ≤ 0) (K : xx_ Z (pc + 3) lv st h) : xx_ Z pc lv (.int x :: st) h := fun H locs ls hw hs hl => lv_if_le C.ex C.co D ht (fun q => absurd q hc) (fun _ => K H locs ls hw hs hl)
theorem xx_icmp_le_t (C : cx_ Z M d) {x y : Int32} {off : Int} {tgt : Nat} (D : decode M.2.1 pc = .ok (.if_icmp .le off, 3)) (ht : (pc : Int) + off = (tgt : Int)) (hc : x ≤ y) (K : xx_ Z tgt lv st h) : xx_ Z pc lv (.int y :: .int x :: st) h := fun H locs ls hw hs hl => lv_icmp_le C.ex C.co D ht (fun _ => K H locs ls hw hs hl) (fun q => absurd hc q)
theorem xx_icmp_le_f (C : cx_ Z M d) {x y : Int32} {off : Int} {tgt : Nat} (D : decode M.2.1 pc = .ok (.if_icmp .le off, 3)) (ht : (pc : Int) + off = (tgt : Int)) (hc : ¬ x ≤ y) (K : xx_ Z (pc + 3) lv st h) : xx_ Z pc lv (.int y :: .int x :: st) h := fun H locs ls hw hs hl => lv_icmp_le C.ex C.co D ht (fun q => absurd q hc) (fun _ => K H locs ls hw hs hl)
theorem xx_goto (C : cx_ Z M d) {off : Int} {tgt : Nat} (D : decode M.2.1 pc = .ok (.goto off, 3)) (ht : (pc : Int) + off = (tgt : Int)) (K : xx_ Z tgt lv st h) : xx_ Z pc lv st h := fun H locs ls hw hs hl => lv_goto C.ex C.co D ht (K H locs ls hw hs hl)
theorem xx_tabOut (C : cx_ Z M d) {dflt lo hi : Int} {offs : Array Int} {len : Nat} {x : Int32} {tgt : Nat} (D : decode M.2.1 pc = .ok (.tableswitch dflt lo hi offs, len)) (hc : x.toInt < lo ∨ hi < x.toInt) (ht : (pc : Int) + dflt = (tgt : Int)) (K : xx_ Z tgt lv st h) : xx_ Z pc lv (.int x :: st) h := fun H locs ls hw hs hl => lv_tableOut C.ex C.co D hc ht (K H locs ls hw hs hl)
theorem xx_tabIn (C : cx_ Z M d) {dflt lo hi : Int} {offs : Array Int} {len : Nat} {x : Int32} {off : Int} {tgt : Nat} (D : decode M.2.1 pc = .ok (.tableswitch dflt lo hi offs, len)) (h1 : ¬ x.toInt < lo) (h2 : ¬ hi < x.toInt) (ho : offs[(x.toInt - lo).toNat]? = some off) (ht : (pc : Int) + off = (tgt : Int)) (K : xx_ Z tgt lv st h) : xx_ Z pc lv (.int x :: st) h := fun H locs ls hw hs hl => lv_tableIn C.ex C.co D h1 h2 ho ht (K H locs ls hw hs hl)
end XX
end
section
/-! ===== heap instructions over the abstract heap ===== -/
theorem uw_0 : ∀ w ∈ u_ws RX0 TX0 3, w ∈ lw_tbl := by decide +kernel
theorem uw_1 : ∀ w ∈ u_ws RX2 TX2 7, w ∈ lw_tbl := by decide +kernel
theorem uw_2 : ∀ w ∈ u_ws RX3 TX3 3, w ∈ lw_tbl := by decide +kernel
theorem uw_3 : ∀ w ∈ u_ws RX4 TX4 3, w ∈ lw_tbl := by decide +kernel
theorem uw_4 : ∀ w ∈ u_ws RX5 TX5 2, w ∈ lw_tbl := by decide +kernel
theorem uw_5 : ∀ w ∈ u_ws RX6 TX6 5, w ∈ lw_tbl := by decide +kernel
theorem uw_6 : ∀ w ∈ u_ws RX7 TX7 9, w ∈ lw_tbl := by decide +kernel
theorem uw_7 : ∀ w ∈ u_ws RX8 TX8 31, w ∈ lw_tbl := by decide +kernel
theorem uw_good {C : String} {T : u_T} {N : Nat} : ∀ w ∈ u_ws C T N, goodWord w = true := by
  intro w hw
  obtain ⟨k, -, rfl⟩ := List.mem_map.mp hw
  unfold u_lay
  split <;> rfl
/-- a class of ours: its row of the table, its types, its words -/
def ck_ (ci : Nat) (q : vw_C) (ty : Nat → FieldType) : Prop := vwCl[ci]? = some q ∧ nf_ ci = q.2.2 ∧ (∀ w ∈ u_ws q.1 q.2.1 q.2.2, w ∈ gw_) ∧ (∀ k, k < q.2.2 → parseFieldDescriptor (q.2.1 k).2.2.1 = some (ty k)) ∧ (∀ a, a < q.2.2 → ∀ b, b < q.2.2 → a ≠ b → (q.2.1 a).2.1 ≠ (q.2.1 b).2.1)
theorem ck_0 : ck_ 0 (RX0, TX0, 3) tyX0 := ⟨rfl, rfl, fun w h => gw_in (uw_0 w h) (uw_good w h), tyX0_ok, nmX0⟩
theorem ck_1 : ck_ 1 (RX2, TX2, 7) tyX2 := ⟨rfl, rfl, fun w h => gw_in (uw_1 w h) (uw_good w h), tyX2_ok, nmX2⟩
theorem ck_2 : ck_ 2 (RX3, TX3, 3) tyX3 := ⟨rfl, rfl, fun w h => gw_in (uw_2 w h) (uw_good w h), tyX3_ok, nmX3⟩
theorem ck_3 : ck_ 3 (RX4, TX4, 3) tyX4 := ⟨rfl, rfl, fun w h => gw_in (uw_3 w h) (uw_good w h), tyX4_ok, nmX4⟩
theorem ck_4 : ck_ 4 (RX5, TX5, 2) tyX5 := ⟨rfl, rfl, fun w h => gw_in (uw_4 w h) (uw_good w h), tyX5_ok, nmX5⟩
theorem ck_5 : ck_ 5 (RX6, TX6, 5) tyX6 := ⟨rfl, rfl, fun w h => gw_in (uw_5 w h) (uw_good w h), tyX6_ok, nmX6⟩
theorem ck_6 : ck_ 6 (RX7, TX7, 9) tyX7 := ⟨rfl, rfl, fun w h => gw_in (uw_6 w h) (uw_good w h), tyX7_ok, nmX7⟩
theorem ck_7 : ck_ 7 (RX8, TX8, 31) tyX8 := ⟨rfl, rfl, fun w h => gw_in (uw_7 w h) (uw_good w h), tyX8_ok, nmX8⟩
/-- the word that links a field: an own one, or a nest mate's -/
def fl_ (own : String) (idx : Nat) (r : String × String × String × Bool) : Prop := Cond.fieldLink own idx r.1 r.2.1 r.2.2.1 ∈ lw_tbl ∨ Cond.fieldLinkNest own idx r.1 r.2.1 r.2.2.1 "ThumbReader" ∈ lw_tbl
theorem nw_in {own : String} {idx : Nat} {a b c e : String} (h : Cond.fieldLinkNest own idx a b c e ∈ lw_tbl) : Cond.fieldLinkNest own idx a b c e ∈ nw_ := List.mem_filter.mpr ⟨h, rfl⟩
section YY
variable {Z : zz_} {M : mt_} {d : Nat} {pc : Nat} {lv : List (Option Value)} {st : List Value} {h : hh_} {H : Heap} {locs : List Loc} {ls : Array Slot} {rest : List Value}
theorem ww_getf (C : cx_ Z M d) {ci j o idx : Nat} {q : vw_C} {ty : Nat → FieldType} {ρ : Nat → Nat → Nat} (ck : ck_ ci q ty) (hj : j < q.2.2) (lk : fl_ M.1.cls idx (q.2.1 j)) (hc : t_OB (gt_B (z_G Z) + o) (gt_C (z_G Z) ci) (nf_ ci) (gt_I (z_G Z) ci) H (fv_ (z_G Z) h ρ ci o)) (D : decode M.2.1 pc = .ok (.getfield idx, 3))
    (K : ww_ Z H locs (F0 (z_m Z) (pc + 3) ls (fv_ (z_G Z) h ρ ci o j :: rest))) : ww_ Z H locs (F0 (z_m Z) pc ls (.ref (gt_B (z_G Z) + o) :: rest)) := by
  obtain ⟨cell, q1, q2, q3, q4⟩ := hc
  obtain ⟨hS, hfc, kC, hkC, hkind⟩ := C.kn.1 ci q ck.1
  obtain ⟨cf, kf, fi, f, hi, hsl⟩ := hS j hj
  have hst := (u_facts hfc hkC (u_lays C.ts ck.2.2.1 hj) hi).1
  have hv : cell.slots[f.slot]? = some (fv_ (z_G Z) h ρ ci o j) := by rw [hsl]; exact q4 j (by rw [ck.2.1]; exact hj)
  rcases lk with lk | lk
  · exact W.getf C.ex C.co C.ow (C.ts _ (gw_in lk rfl)) hi hst q1 (by rw [q3]; exact fun h => by cases h) hv rfl rfl D K
  · exact va_Wgetf C.ex C.co C.ow (va_Nw.use rfl (C.kn.2.2.2.2 _ (nw_in lk))) hi hst q1 (by rw [q3]; exact fun h => by cases h) hv rfl rfl D K
/-- the shape's cell in the world -/
theorem hw_.ob {G : gt_} {U : State} (hw : hw_ G U h H) {o ci : Nat} (so : sh_ o = (0, ci)) : t_OB (gt_B G + o) (gt_C G ci) (nf_ ci) (gt_I G ci) H (fv_ G h (rr_ h) ci o) := (hw.1.2.1 o (sh_rng so (by decide)).2).1 ci so
theorem hw_.ia {G : gt_} {U : State} (hw : hw_ G U h H) {o n : Nat} (so : sh_ o = (1, n)) : H[gt_B G + o]? = some (arrV (gt_1 G) n (fun j => .int (h.1 o j))) := (hw.1.2.1 o (sh_rng so (by decide)).2).2.1 n so
theorem rr_ob {o ci j : Nat} (so : sh_ o = (0, ci)) : rr_ h o j = rf_ h ci o j := by unfold rr_; rw [so]; rfl
theorem rr_ar {o t n j : Nat} (so : sh_ o = (t, n)) (ht : t ≠ 0) : rr_ h o j = re_ t o j := by
  unfold rr_
  rw [so]
  cases t with
  | zero => exact absurd rfl ht
  | succ t => rfl
theorem xx_getI (C : cx_ Z M d) {ci j o idx : Nat} {q : vw_C} {ty : Nat → FieldType} (ck : ck_ ci q ty) (hj : j < q.2.2) (lk : fl_ M.1.cls idx (q.2.1 j)) (so : sh_ o = (0, ci)) (hk : fk_ ci j = 0) (D : decode M.2.1 pc = .ok (.getfield idx, 3)) (K : xx_ Z (pc + 3) lv (.int (h.1 o j) :: st) h) : xx_ Z pc lv (.ref o :: st) h := fun H locs ls hw hs hl => by
  have hr := sh_rng so (by decide)
  rw [List.map_cons, cv_ref _ hr.1 (by omega)]
  refine ww_getf C ck hj lk (hw.ob so) D ?_
  have e : fv_ (z_G Z) h (rr_ h) ci o j = .int (h.1 o j) := by unfold fv_; rw [if_pos hk]
  rw [e]
  exact K H locs ls hw hs hl
theorem xx_getL (C : cx_ Z M d) {ci j o idx : Nat} {q : vw_C} {ty : Nat → FieldType} (ck : ck_ ci q ty) (hj : j < q.2.2) (lk : fl_ M.1.cls idx (q.2.1 j)) (so : sh_ o = (0, ci)) (hk : fk_ ci j = 1) (D : decode M.2.1 pc = .ok (.getfield idx, 3)) (K : xx_ Z (pc + 3) lv (.long (h.2.1 o j) :: st) h) : xx_ Z pc lv (.ref o :: st) h := fun H locs ls hw hs hl => by
  have hr := sh_rng so (by decide)
  rw [List.map_cons, cv_ref _ hr.1 (by omega)]
  refine ww_getf C ck hj lk (hw.ob so) D ?_
  have e : fv_ (z_G Z) h (rr_ h) ci o j = .long (h.2.1 o j) := by unfold fv_; rw [if_neg (by omega), if_pos hk]
  rw [e]
  exact K H locs ls hw hs hl
theorem rf_lt {ci k j : Nat} {G : gt_} {U : State} (hw : hw_ G U h H) (so : sh_ k = (0, ci)) (hj : rc_ ci k j < 500) : rf_ h ci k j < 500 := by
  unfold rf_
  split
  · exact hw.2.1
  · split
    · exact hw.2.2.1
    · split
      · exact hw.2.2.2
      · exact hj
theorem xx_getR (C : cx_ Z M d) {ci j o idx r : Nat} {q : vw_C} {ty : Nat → FieldType} (ck : ck_ ci q ty) (hj : j < q.2.2) (lk : fl_ M.1.cls idx (q.2.1 j)) (so : sh_ o = (0, ci)) (hk : fk_ ci j = 2) (hr0 : rc_ ci o j < 500) (e0 : rf_ h ci o j = r) (D : decode M.2.1 pc = .ok (.getfield idx, 3)) (K : xx_ Z (pc + 3) lv (.ref r :: st) h) : xx_ Z pc lv (.ref o :: st) h := fun H locs ls hw hs hl => by
  have hr := sh_rng so (by decide)
  rw [List.map_cons, cv_ref _ hr.1 (by omega)]
  refine ww_getf C ck hj lk (hw.ob so) D ?_
  have e : fv_ (z_G Z) h (rr_ h) ci o j = cv_ (z_G Z) (.ref r) := by
    unfold fv_
    rw [if_neg (by omega), if_neg (by omega), rr_ob so, ← e0, cv_rv _ (rf_lt hw so hr0)]
  rw [e]
  exact K H locs ls hw hs hl
/-- one cell changes -/
theorem hw_.upd {G : gt_} {s : State} {h' : hh_} {H' : Heap} {o : Nat} (hw : hw_ G s h H) (ho : 0 < o ∧ o ≤ 114) (hn : h'.2.2.1 < 500 ∧ h'.2.2.2.1 < 500 ∧ h'.2.2.2.2 < 500) (z : H'.size = H.size) (oq : ∀ q : Nat, q ≠ gt_B G + o → H'[q]? = H[q]?) (hc : ce_ G h' (rr_ h') H' o) (hi : ∀ k j, k ≠ o → h'.1 k j = h.1 k j) (hl : ∀ k j, k ≠ o → h'.2.1 k j = h.2.1 k j) (hr : ∀ k j, k ≠ o → rr_ h' k j = rr_ h k j) : hw_ G s h' H' := by
  refine ⟨⟨z.trans hw.1.1, fun k hk => ?_, fun k hk => ?_⟩, hn⟩
  · by_cases e : k = o
    · subst e; exact hc
    · obtain ⟨c0, c1, c2, c3⟩ := hw.1.2.1 k hk
      have eq : H'[gt_B G + k]? = H[gt_B G + k]? := oq _ (by omega)
      refine ⟨fun ci s => ?_, fun n s => ?_, fun n s => ?_, fun n s => ?_⟩
      · refine (c0 ci s).kept eq |>.to (fun j _ => ?_)
        unfold fv_
        rw [hi k j e, hl k j e, hr k j e]
      · rw [eq, c1 n s]; congr 1; congr 1; funext j; rw [hi k j e]
      · rw [eq, c2 n s]; congr 1; congr 1; funext j; rw [hr k j e]
      · rw [eq, c3 n s]; congr 1; congr 1; funext j; rw [hr k j e]
  · have h1 := hw.1.2.2 k hk
    have kq : ∀ a : Nat, a < H.size → ¬ gt_A G a → H'[a]? = H[a]? := fun a _ ha => oq a (fun e => ha (by show gt_B G < a; omega))
    exact ⟨h1.1.kept kq, h1.2.kept kq⟩
theorem ww_putf (C : cx_ Z M d) {ci j o idx : Nat} {q : vw_C} {ty : Nat → FieldType} {v : Value} (ck : ck_ ci q ty) (hj : j < q.2.2) (lk : fl_ M.1.cls idx (q.2.1 j)) (hfin : (q.2.1 j).2.2.2 = false) (hv : narrow (ty j) v = v) (hf : fits (ty j) v = true) (hw : hw_ (z_G Z) (z_s Z) h H) (so : sh_ o = (0, ci)) (D : decode M.2.1 pc = .ok (.putfield idx, 3)) (hs : va_S (gt_A (z_G Z)) (z_s Z).heap H locs)
    (K : ∀ (H' : Heap) (locs' : List Loc), H'.size = H.size → (∀ a : Nat, a ≠ gt_B (z_G Z) + o → H'[a]? = H[a]?) → t_OB (gt_B (z_G Z) + o) (gt_C (z_G Z) ci) (nf_ ci) (gt_I (z_G Z) ci) H' (updV (fv_ (z_G Z) h (rr_ h) ci o) j v) → va_S (gt_A (z_G Z)) (z_s Z).heap H' locs' → ww_ Z H' locs' (F0 (z_m Z) (pc + 3) ls rest)) : ww_ Z H locs (F0 (z_m Z) pc ls (v :: .ref (gt_B (z_G Z) + o) :: rest)) := by
  have hK : va_K (gt_C (z_G Z), gt_I (z_G Z)) vwCl [] (z_s Z) := ⟨C.kn.1, fun k x hx => by simp at hx⟩
  have hap := va_apart (own := M.1.cls) (D := (gt_C (z_G Z), gt_I (z_G Z))) C.ts ck.2.2.1 ty ck.2.2.2.1 ck.2.2.2.2 hK ck.1
  obtain ⟨cell, q1, q2, q3, q4⟩ := hw.ob so
  obtain ⟨hS, hfc, kC, hkC, hkind⟩ := C.kn.1 ci q ck.1
  obtain ⟨cf, kf, fi, f, hi, hsl⟩ := hS j hj
  have hlay := C.ts _ (ck.2.2.1 _ (u_in_lay hj))
  unfold u_lay at hlay
  rw [if_neg (by rw [hfin]; decide)] at hlay
  have hst := (u_facts hfc hkC (u_lays C.ts ck.2.2.1 hj) hi).1
  have h6 := u_store hfc hkC hkind hlay hi (ck.2.2.2.1 j hj) hv hf
  rw [ck.2.1] at q4
  have hr := sh_rng so (by decide)
  have fin : ∀ H' : Heap, H'[gt_B (z_G Z) + o]? = some (cell.setSlot f.slot v) → H'.size = H.size → (∀ a, a ≠ gt_B (z_G Z) + o → H'[a]? = H[a]?) → ww_ Z H' (locs ++ [⟨gt_B (z_G Z) + o, f.slot⟩]) (F0 (z_m Z) (pc + 3) ls rest) := fun H' e1 e2 e3 => by
    rw [hsl] at e1
    exact K H' _ e2 e3 ⟨_, e1, q2, q3, by rw [ck.2.1]; exact t_set q4 hap hj v⟩ (hs.put e2 e3 (by show gt_B (z_G Z) < _; omega))
  rcases lk with lk | lk
  · exact W.putK C.ex C.co (f := f) ⟨C.ow, C.ts _ (gw_in lk rfl), ⟨_, _, _, hi⟩, hst⟩ (by rw [q2]; exact h6) q1 q3 (by rw [hsl]; exact k2_hasslot (q4 j hj)) rfl rfl D fin
  · exact va_WputK C.ex C.co (f := f) C.ow (va_Nw.use rfl (C.kn.2.2.2.2 _ (nw_in lk))) hi hst (by rw [q2]; exact h6) q1 q3 (by rw [hsl]; exact k2_hasslot (q4 j hj)) rfl rfl D fin
theorem ce_ob {G : gt_} {ρ : Nat → Nat → Nat} {o ci : Nat} (so : sh_ o = (0, ci)) (hc : t_OB (gt_B G + o) (gt_C G ci) (nf_ ci) (gt_I G ci) H (fv_ G h ρ ci o)) : ce_ G h ρ H o :=
  ⟨fun c e => (by rw [so] at e; cases e; exact hc), fun n e => (by rw [so] at e; cases e), fun n e => (by rw [so] at e; cases e), fun n e => (by rw [so] at e; cases e)⟩
theorem ce_ia {G : gt_} {ρ : Nat → Nat → Nat} {o n : Nat} (so : sh_ o = (1, n)) (hc : H[gt_B G + o]? = some (arrV (gt_1 G) n (fun j => .int (h.1 o j)))) : ce_ G h ρ H o :=
  ⟨fun c e => (by rw [so] at e; cases e), fun n e => (by rw [so] at e; cases e; exact hc), fun n e => (by rw [so] at e; cases e), fun n e => (by rw [so] at e; cases e)⟩
theorem hh_up_ne {α : Type} {f : Nat → Nat → α} {a k b j : Nat} {v : α} (h : b ≠ a) : hh_up f a k v b j = f b j := by unfold hh_up; rw [if_neg (fun q => h q.1)]
theorem xx_putI (C : cx_ Z M d) {ci j o idx : Nat} {q : vw_C} {ty : Nat → FieldType} {v : Int32} (ck : ck_ ci q ty) (hj : j < q.2.2) (lk : fl_ M.1.cls idx (q.2.1 j)) (hfin : (q.2.1 j).2.2.2 = false) (hty : ty j = .int) (so : sh_ o = (0, ci)) (hk : fk_ ci j = 0) (D : decode M.2.1 pc = .ok (.putfield idx, 3)) (K : xx_ Z (pc + 3) lv st (hh_sI h o j v)) : xx_ Z pc lv (.int v :: .ref o :: st) h := fun H locs ls hw hs hl => by
  have hr := sh_rng so (by decide)
  rw [List.map_cons, List.map_cons, cv_ref _ hr.1 (by omega)]
  refine ww_putf C ck hj lk hfin (by rw [hty]; rfl) (by rw [hty]; rfl) hw so D hs (fun H' locs' e2 e3 e4 hs' => ?_)
  refine K H' locs' ls (hw.upd hr hw.2 e2 e3 (ce_ob so (e4.to (fun i _ => ?_))) (fun k i e => hh_up_ne e) (fun _ _ _ => rfl) (fun _ _ _ => rfl)) hs' hl
  show updV _ _ _ _ = fv_ _ _ (rr_ h) _ _ _
  unfold updV fv_ hh_sI hh_up
  by_cases e : i = j
  · subst e; simp [hk]; rfl
  · simp [e]
theorem xx_putL (C : cx_ Z M d) {ci j o idx : Nat} {q : vw_C} {ty : Nat → FieldType} {v : Int64} (ck : ck_ ci q ty) (hj : j < q.2.2) (lk : fl_ M.1.cls idx (q.2.1 j)) (hfin : (q.2.1 j).2.2.2 = false) (hty : ty j = .long) (so : sh_ o = (0, ci)) (hk : fk_ ci j = 1) (D : decode M.2.1 pc = .ok (.putfield idx, 3)) (K : xx_ Z (pc + 3) lv st (hh_sL h o j v)) : xx_ Z pc lv (.long v :: .ref o :: st) h := fun H locs ls hw hs hl => by
  have hr := sh_rng so (by decide)
  rw [List.map_cons, List.map_cons, cv_ref _ hr.1 (by omega)]
  refine ww_putf C ck hj lk hfin (by rw [hty]; rfl) (by rw [hty]; rfl) hw so D hs (fun H' locs' e2 e3 e4 hs' => ?_)
  refine K H' locs' ls (hw.upd hr hw.2 e2 e3 (ce_ob so (e4.to (fun i _ => ?_))) (fun _ _ _ => rfl) (fun k i e => hh_up_ne e) (fun _ _ _ => rfl)) hs' hl
  show updV _ _ _ _ = fv_ _ _ (rr_ h) _ _ _
  unfold updV fv_ hh_sL hh_up
  by_cases e : i = j
  · subst e; simp [hk]; rfl
  · simp [e]
theorem xx_putR (C : cx_ Z M d) {ci j o idx r : Nat} {q : vw_C} {ty : Nat → FieldType} {h' : hh_} (ck : ck_ ci q ty) (hj : j < q.2.2) (lk : fl_ M.1.cls idx (q.2.1 j)) (hfin : (q.2.1 j).2.2.2 = false) (hty : ∃ n, ty j = .object n) (so : sh_ o = (0, ci)) (hk : fk_ ci j = 2) (hr0 : 0 < r ∧ r < 500) (e1 : h'.1 = h.1) (e2 : h'.2.1 = h.2.1) (hn : h.2.2.1 < 500 ∧ h.2.2.2.1 < 500 ∧ h.2.2.2.2 < 500 → h'.2.2.1 < 500 ∧ h'.2.2.2.1 < 500 ∧ h'.2.2.2.2 < 500) (e3 : ∀ k i, rr_ h' k i = if k = o ∧ i = j then r else rr_ h k i) (D : decode M.2.1 pc = .ok (.putfield idx, 3)) (K : xx_ Z (pc + 3) lv st h') : xx_ Z pc lv (.ref r :: .ref o :: st) h := fun H locs ls hw hs hl => by
  have hr := sh_rng so (by decide)
  rw [List.map_cons, List.map_cons, cv_ref _ hr.1 (by omega), cv_ref _ hr0.1 hr0.2]
  obtain ⟨n, hty⟩ := hty
  refine ww_putf C ck hj lk hfin (by rw [hty]; rfl) (by rw [hty]; rfl) hw so D hs (fun H' locs' z2 z3 e4 hs' => ?_)
  refine K H' locs' ls (hw.upd hr (hn hw.2) z2 z3 (ce_ob so (e4.to (fun i _ => ?_))) (fun k i _ => by rw [e1]) (fun k i _ => by rw [e2]) (fun k i e => by rw [e3, if_neg (fun q => e q.1)])) hs' hl
  unfold updV fv_
  rw [e1, e2, e3]
  by_cases e : i = j
  · subst e; simp [hk, rv_, Nat.ne_of_gt hr0.1]
  · simp [e]
theorem vp_lt {i : Int32} {n : Nat} (h : vp_in i n) : i.toNatClampNeg < n := Nat.not_le.mp fun q => h (Or.inr q)
theorem xx_iaload (C : cx_ Z M d) {a n : Nat} {i : Int32} (D : decode M.2.1 pc = .ok (.iaload, 1)) (so : sh_ a = (1, n)) (hin : vp_in i n) (K : xx_ Z (pc + 1) lv (.int (h.1 a i.toNatClampNeg) :: st) h) : xx_ Z pc lv (.int i :: .ref a :: st) h := fun H locs ls hw hs hl => by
  have hr := sh_rng so (by decide)
  rw [List.map_cons, List.map_cons, cv_ref _ hr.1 (by omega)]
  exact W.iald (v := .int (h.1 a i.toNatClampNeg)) C.ex C.co (hw.ia so) (C.kn.2.1 n (fun j => .int (h.1 a j))) (fun q => by cases q) (by rw [arrV_size]; exact hin) (by rw [arrV_read _ _ (vp_lt hin)]) rfl rfl D (K H locs ls hw hs hl)
theorem xx_saload (C : cx_ Z M d) {k : Nat} {i : Int32} (D : decode M.2.1 pc = .ok (.iaload, 1)) (hk : k < 9) (hin : vp_in i (sn_ k).2.length) (K : xx_ Z (pc + 1) lv (.int ((sn_ k).2.getD i.toNatClampNeg 0) :: st) h) : xx_ Z pc lv (.int i :: .ref (500 + k) :: st) h := fun H locs ls hw hs hl => by
  rw [List.map_cons, List.map_cons, cv_sta]
  obtain ⟨cell, h1, h2, h3, h4, h5, h6, h7⟩ := (hw.1.2.2 k hk).1
  exact W.iald (v := .int ((sn_ k).2.getD i.toNatClampNeg 0)) C.ex C.co h1 h2 h3 (fun q => hin (q.imp id (fun q => Nat.le_trans h4 q))) (h6 _ (vp_lt hin)) rfl rfl D (K H locs ls hw hs hl)
theorem xx_getS (C : cx_ Z M d) {k idx : Nat} (hk : k < 9) (lk : fl_ M.1.cls idx ("ThumbReader", (sn_ k).1, "[I", true)) (D : decode M.2.1 pc = .ok (.getstatic idx, 3)) (K : xx_ Z (pc + 3) lv (.ref (500 + k) :: st) h) : xx_ Z pc lv st h := fun H locs ls hw hs hl => by
  obtain ⟨cf, kf, fi, f, a, cell, h1, h2, h3, h4, h5, h6, h7, h8⟩ := (hw.1.2.2 k hk).2
  have K1 := K H locs ls hw hs hl
  rw [List.map_cons, cv_sta] at K1
  rcases lk with lk | lk
  · exact W.gets C.ex C.co C.ow (C.ts _ (gw_in lk rfl)) h1 h2 h3 h4 h5 (fun e => by rw [e] at h6; cases h6) h7 rfl D K1
  · exact va_WgetsN C.ex C.co C.ow (va_Nw.use rfl (C.kn.2.2.2.2 _ (nw_in lk))) h1 h2 h3 h4 h5 (fun e => by rw [e] at h6; cases h6) h7 rfl D K1
theorem re_lt {t a j : Nat} (ha : a ≤ 114) (hj : j < 200) : re_ t a j < 500 ∨ t ≠ 2 := by
  unfold re_
  by_cases e : t = 2
  · left; rw [if_pos e]; omega
  · right; exact e
theorem xx_aaload (C : cx_ Z M d) {a n r : Nat} {i : Int32} (D : decode M.2.1 pc = .ok (.aaload, 1)) (so : sh_ a = (2, n)) (hin : vp_in i n) (hr0 : r < 500) (er : a + 1 + i.toNatClampNeg = r) (K : xx_ Z (pc + 1) lv (.ref r :: st) h) : xx_ Z pc lv (.int i :: .ref a :: st) h := fun H locs ls hw hs hl => by
  have hr := sh_rng so (by decide)
  rw [List.map_cons, List.map_cons, cv_ref _ hr.1 (by omega)]
  have hc := (hw.1.2.1 a hr.2).2.2.1 n so
  have e : cv_ (z_G Z) (.ref r) = rv_ (z_G Z) (rr_ h a i.toNatClampNeg) := by
    rw [cv_rv _ hr0, rr_ar so (by decide), ← er]
    rfl
  have K1 := K H locs ls hw hs hl
  rw [List.map_cons, e] at K1
  exact W.aald (v := rv_ (z_G Z) (rr_ h a i.toNatClampNeg)) (ty := .array .int) C.ex C.co hc (C.kn.2.2.1 n _) rfl (fun q => by cases q) (by rw [arrV_size]; exact hin) (by rw [arrV_read _ _ (vp_lt hin)]) rfl rfl D K1
theorem xx_kaload (C : cx_ Z M d) {a n r : Nat} {i : Int32} (D : decode M.2.1 pc = .ok (.aaload, 1)) (so : sh_ a = (3, n)) (hin : vp_in i n) (hr0 : r < 500) (er : 89 + 3 * i.toNatClampNeg = r) (K : xx_ Z (pc + 1) lv (.ref r :: st) h) : xx_ Z pc lv (.int i :: .ref a :: st) h := fun H locs ls hw hs hl => by
  have hr := sh_rng so (by decide)
  rw [List.map_cons, List.map_cons, cv_ref _ hr.1 (by omega)]
  have hc := (hw.1.2.1 a hr.2).2.2.2 n so
  have e : cv_ (z_G Z) (.ref r) = rv_ (z_G Z) (rr_ h a i.toNatClampNeg) := by
    rw [cv_rv _ hr0, rr_ar so (by decide), ← er]
    rfl
  have K1 := K H locs ls hw hs hl
  rw [List.map_cons, e] at K1
  exact W.aald (v := rv_ (z_G Z) (rr_ h a i.toNatClampNeg)) (ty := .object "ThumbReader$Kept") C.ex C.co hc (C.kn.2.2.2.1 n _) rfl (fun q => by cases q) (by rw [arrV_size]; exact hin) (by rw [arrV_read _ _ (vp_lt hin)]) rfl rfl D K1
theorem xx_alen (C : cx_ Z M d) {a n : Nat} {v : Int32} (D : decode M.2.1 pc = .ok (.arraylength, 1)) (so : sh_ a = (1, n)) (hv : Int32.ofNat n = v) (K : xx_ Z (pc + 1) lv (.int v :: st) h) : xx_ Z pc lv (.ref a :: st) h := fun H locs ls hw hs hl => by
  have hr := sh_rng so (by decide)
  rw [List.map_cons, cv_ref _ hr.1 (by omega)]
  exact W.alen C.ex C.co (hw.ia so) (C.kn.2.1 n (fun j => .int (h.1 a j))) (by rw [arrV_size]; exact hv) rfl rfl D (K H locs ls hw hs hl)
theorem hw_.setI {G : gt_} {s : State} {H' : Heap} {a n i : Nat} {v : Int32} (hw : hw_ G s h H) (so : sh_ a = (1, n)) (e1 : H'[gt_B G + a]? = some ((arrV (gt_1 G) n (fun j => .int (h.1 a j))).setSlot i (.int v))) (z : H'.size = H.size) (oq : ∀ q : Nat, q ≠ gt_B G + a → H'[q]? = H[q]?) : hw_ G s (hh_sI h a i v) H' := by
  refine hw.upd (sh_rng so (by decide)) hw.2 z oq (ce_ia so ?_) (fun k j e => hh_up_ne e) (fun _ _ _ => rfl) (fun _ _ _ => rfl)
  rw [e1, arrV_store]
  congr 1; congr 1; funext j
  unfold updV hh_sI hh_up
  by_cases e : j = i <;> simp [e]
theorem xx_iastore (C : cx_ Z M d) {a n : Nat} {i v : Int32} (D : decode M.2.1 pc = .ok (.iastore, 1)) (so : sh_ a = (1, n)) (hin : vp_in i n) (K : xx_ Z (pc + 1) lv st (hh_sI h a i.toNatClampNeg v)) : xx_ Z pc lv (.int v :: .int i :: .ref a :: st) h := fun H locs ls hw hs hl => by
  have hr := sh_rng so (by decide)
  rw [List.map_cons, List.map_cons, List.map_cons, cv_ref _ hr.1 (by omega)]
  exact W.iast C.ex C.co (hw.ia so) (C.kn.2.1 n (fun j => .int (h.1 a j))) (fun q => by cases q) (by rw [arrV_size]; exact hin) rfl rfl D (fun H' e1 e2 e3 => K H' _ ls (hw.setI so e1 e2 e3) (hs.put e2 e3 (by show gt_B (z_G Z) < _; omega)) hl)
end YY
end
section
/-! ===== contracts, returns, calls ===== -/
def pg_ (G : gt_) (h : hh_) (U : State) : Prop := kn_ G U ∧ hw_ G U h U.heap
def pq_ (G : gt_) (r : Option Value) (h' : hh_) : Array Value → State → Outcome → State → Prop := fun _ st o t => o = .returned (r.map (cv_ G)) ∧ pg_ G h' t ∧ va_F (gt_A G) st t
def rm_ (d : Nat) : Room := { frames := d, cells := 0, slots := 0, locals := 100 * d }
def wy_ (M : mt_) : List Cond := .code M.1 M.2.1 M.2.2.1 M.2.2.2 :: gw_
/-- THE CONTRACT of a method at depth d: with these arguments and this heap it returns r, and the heap is h' -/
def ok_ (l : Launch) (G : gt_) (d : Nat) (M : mt_) (as : List Value) (h : hh_) (r : Option Value) (h' : hh_) : Prop := Met l M.1 (wy_ M) (rm_ d) (fun v U => v = (as.map (cv_ G)).toArray ∧ pg_ G h U) (pq_ G r h') 0 0 (gt_A G)
def rq_ (Z : zz_) (r : Option Value) (h' : hh_) : Prop := z_Q Z = MQ (z_b Z) (pq_ (z_G Z) r h') (z_a Z) (z_s Z) (z_k Z) (z_n Z) (gt_A (z_G Z))
def el_ : List Value → List (Option Value)
  | [] => []
  | v :: vs => if v.category = 2 then some v :: none :: el_ vs else some v :: el_ vs
def ep_ (n : Nat) (as : List Value) : List (Option Value) := el_ as ++ List.replicate (n - (el_ as).length) none
theorem el_args (G : gt_) : ∀ (as : List Value) (pre : Nat) (i : Nat) (v : Value), (el_ as)[i]? = some (some v) → (pre + i, cv_ G v) ∈ lv_args pre (as.map (cv_ G))
  | [], pre, i, v, h => by simp [el_] at h
  | a :: as, pre, i, v, h => by
    unfold el_ at h
    rw [List.map_cons]
    unfold lv_args
    rw [cv_cat]
    by_cases hc : a.category = 2
    · rw [if_pos hc] at h
      rw [if_pos hc]
      match i, h with
      | 0, h => cases h; exact List.mem_cons_self
      | 1, h => cases h
      | i + 2, h =>
        have := el_args G as (pre + 2) i v h
        rw [show pre + (i + 2) = pre + 2 + i by omega]
        exact List.mem_cons_of_mem _ this
    · rw [if_neg hc] at h
      rw [if_neg hc]
      match i, h with
      | 0, h => cases h; exact List.mem_cons_self
      | i + 1, h =>
        have := el_args G as (pre + 1) i v h
        rw [show pre + (i + 1) = pre + 1 + i by omega]
        exact List.mem_cons_of_mem _ this
theorem el_len (G : gt_) : ∀ as : List Value, (lg_sl (as.map (cv_ G))).length = (el_ as).length
  | [] => rfl
  | a :: as => by
    have ih := el_len G as
    unfold lg_sl at ih ⊢
    rw [List.map_cons, List.flatMap_cons, List.length_append, ih, cv_cat]
    rw [el_]
    by_cases hc : a.category = 2
    · rw [if_pos hc, if_pos hc]; simp only [List.length_cons, List.length_nil]; omega
    · rw [if_neg hc, if_neg hc]; simp only [List.length_cons, List.length_nil]; omega
theorem ok_of {l : Launch} {G : gt_} {d : Nat} {M : mt_} {as : List Value} {h h' : hh_} {r : Option Value} (hy : plainName M.1.cls = true) (hlen : (el_ as).length ≤ M.2.2.1)
    (body : ∀ Z : zz_, z_l Z = l → z_G Z = G → cx_ Z M d → rq_ Z r h' → xx_ Z 0 (ep_ M.2.2.1 as) [] h) : ok_ l G d M as h r h' := by
  refine Met.ofW (cc := M.2.1) (maxL := M.2.2.1) (ret := M.2.2.2) hy rfl ?_
  intro p e s m args below meth c s₁ B hml hv
  obtain ⟨rfl, hk, hw⟩ := hv
  have C : cx_ (p, l, e, rm_ d, s, m, (as.map (cv_ G)).toArray, below, meth, c, G, 0, 0, MQ below (pq_ G r h') (as.map (cv_ G)).toArray s 0 0 (gt_A G)) M d :=
    ⟨B.exec, B.bytes, B.returns, hml, findClass_of_methodNamed B.named, fun w hw => atoms_spec (ws := wy_ M) B.pre w (List.mem_cons_of_mem _ hw), hk, B.notSynchronized, Nat.le_refl _, Nat.le_refl _, Nat.le_refl _, Nat.le_refl _⟩
  have hl := lv_entry (as.map (cv_ G)) (n := M.2.2.1) (by rw [el_len]; exact hlen)
  rw [lg_entry_eq]
  refine body (p, l, e, rm_ d, s, m, (as.map (cv_ G)).toArray, below, meth, c, G, 0, 0, MQ below (pq_ G r h') (as.map (cv_ G)).toArray s 0 0 (gt_A G)) rfl rfl C rfl s.heap [] _ hw va_S.rf ?_
  refine ⟨hl.1.trans hml.symm, hl.2.1, fun i v hi => ?_⟩
  unfold ep_ at hi
  have h1 : (el_ as)[i]? = some (some v) := by
    by_cases hlt : i < (el_ as).length
    · rw [List.getElem?_append_left hlt] at hi; exact hi
    · rw [List.getElem?_append_right (by omega)] at hi
      have := List.mem_of_getElem? hi
      rw [List.mem_replicate] at this
      cases this.2
  have h2 := el_args G as 0 i v h1
  rw [Nat.zero_add] at h2
  exact hl.2.2 _ h2
section XR
variable {Z : zz_} {M : mt_} {d : Nat} {pc : Nat} {lv : List (Option Value)} {st : List Value} {h : hh_}
theorem xx_ireturn (C : cx_ Z M d) {v : Int32} (Q : rq_ Z (some (.int v)) h) (D : decode M.2.1 pc = .ok (.ireturn, 1)) (hr : M.2.2.2 = some .int) : xx_ Z pc lv [.int v] h := fun H locs ls hw hs hl => by
  unfold ww_
  rw [Q]
  exact W.iret C.ex C.co (C.re.trans hr) (fun t ht hW => ⟨rfl, ⟨C.kn.warm hW, by rw [ht]; exact hw.moved hW.alike⟩, hs.F ht⟩) hs.2.2 D (hlocks := C.lk)
theorem xx_zreturn (C : cx_ Z M d) {v : Int32} (Q : rq_ Z (some (.int v)) h) (D : decode M.2.1 pc = .ok (.ireturn, 1)) (hr : M.2.2.2 = some .boolean) (hn : v &&& 1 = v) : xx_ Z pc lv [.int v] h := fun H locs ls hw hs hl => by
  unfold ww_
  rw [Q]
  exact W.zret C.ex C.co (C.re.trans hr) (by show Value.int (v &&& 1) = _; rw [hn]) (fun t ht hW => ⟨rfl, ⟨C.kn.warm hW, by rw [ht]; exact hw.moved hW.alike⟩, hs.F ht⟩) hs.2.2 D (hlocks := C.lk)
theorem xx_lreturn (C : cx_ Z M d) {v : Int64} (Q : rq_ Z (some (.long v)) h) (D : decode M.2.1 pc = .ok (.lreturn, 1)) (hr : M.2.2.2 = some .long) : xx_ Z pc lv [.long v] h := fun H locs ls hw hs hl => by
  unfold ww_
  rw [Q]
  exact W.lret C.ex C.co (C.re.trans hr) (fun t ht hW => ⟨rfl, ⟨C.kn.warm hW, by rw [ht]; exact hw.moved hW.alike⟩, hs.F ht⟩) hs.2.2 D (hlocks := C.lk)
theorem xx_return (C : cx_ Z M d) (Q : rq_ Z none h) (D : decode M.2.1 pc = .ok (.return_, 1)) (hr : M.2.2.2 = none) : xx_ Z pc lv [] h := fun H locs ls hw hs hl => by
  unfold ww_
  rw [Q]
  exact W.vret C.ex C.co (C.re.trans hr) (fun t ht hW => ⟨rfl, ⟨C.kn.warm hW, by rw [ht]; exact hw.moved hW.alike⟩, hs.F ht⟩) hs.2.2 D (hlocks := C.lk)
theorem ww_ran {H : Heap} {locs : List Loc} {ls : Array Slot} {st0 rest : List Value} {r : Option Value} {h1 : hh_} {a : Array Value} (hr : va_Run (z_p Z) (z_l Z) (z_e Z) (z_R Z) (z_s Z) (z_m Z) (z_a Z) (z_b Z) (z_t Z) (z_c Z) H locs (z_k Z) (z_n Z) 0 0 (F0 (z_m Z) pc ls st0) (rest.map (cv_ (z_G Z))) (pq_ (z_G Z) r h1 a) (gt_A (z_G Z))) (hs : va_S (gt_A (z_G Z)) (z_s Z).heap H locs) (hl : lr_ (z_G Z) ls (z_c Z).maxLocals lv)
    (K : xx_ Z (pc + 3) lv (r.toList ++ rest) h1) : ww_ Z H locs (F0 (z_m Z) pc ls st0) := by
  intro T hT X
  obtain ⟨v, st₀, t, T', L, h0, X', hL, e1, e2, ⟨hv, ⟨hk, hh⟩, hz, hkp⟩, stp⟩ := hr T hT X
  cases hv
  rw [h0] at hz hkp
  have hal : (z_s Z).vm.Alike t.vm := by rw [← e2]; exact X'.warmed.alike
  obtain ⟨t2, a1, b1⟩ := K T'.heap (locs ++ L) ls (by rw [e1]; exact hh.moved hal.symm)
    ⟨Nat.le_trans hs.1 (by rw [e1]; exact hz), fun q h1 h2 => by rw [e1, hkp q (Nat.lt_of_lt_of_le h1 hs.1) h2]; exact hs.2.1 q h1 h2, fun q hq => by
      rcases List.mem_append.mp hq with h | h
      · exact hs.2.2 q h
      · exact hL q h⟩ hl T' rfl X'
  refine ⟨t2, stp t2 ?_, b1⟩
  have e : (r.map (cv_ (z_G Z))).toList ++ rest.map (cv_ (z_G Z)) = (r.toList ++ rest).map (cv_ (z_G Z)) := by cases r <;> simp
  rw [e]
  exact a1
/-- a method's own words -/
def mk_ (M' : mt_) (n : Nat) : Prop := Cond.code M'.1 M'.2.1 M'.2.2.1 M'.2.2.2 ∈ lw_tbl ∧ Cond.initialized M'.1.cls ∈ lw_tbl ∧ (M'.1.cls ≠ "java/lang/invoke/MethodHandle" ∧ M'.1.cls ≠ "java/lang/invoke/VarHandle" ∧ (parseMethodDescriptor M'.1.desc).map (fun d => d.parameters.length) = some n) ∧ M'.2.2.1 ≤ 60
def mi_ (M' : mt_) : Prop := Cond.instanceMethod M'.1 ∈ lw_tbl ∧ Cond.selects M'.1.cls M'.1 M'.1 ∈ lw_tbl
theorem wy_good {M' : mt_} {n : Nat} (k : mk_ M' n) : GoodIn gw_ (wy_ M') := by
  intro w hw
  rcases List.mem_cons.mp hw with e | e
  · subst e
    exact ⟨gw_in k.1 rfl, good_of_word rfl⟩
  · exact ⟨e, good_of_word (List.mem_filter.mp e).2⟩
theorem cb_ (C : cx_ Z M d) {M' : mt_} {d' n idx : Nat} (k : mk_ M' n) (lk : Cond.methodLink M.1.cls idx M'.1 ∈ lw_tbl) (hd : d' + 1 ≤ d) : CallB (z_R Z) (z_s Z) (z_a Z) M.1.cls idx M'.1 M'.2.1 M'.2.2.1 M'.2.2.2 (wy_ M') (rm_ d') 0 0 n := by
  have hr := C.fr
  have hl := k.2.2.2
  exact callB_of n C.ts (wy_good k) rfl rfl rfl (C.ts _ (gw_in k.2.1 rfl)) (C.ts _ (gw_in lk rfl)) k.2.2.1 ⟨by show d' + 1 ≤ _; omega, by show 8 + (M'.2.2.1 + 11) + 100 * d' ≤ _; omega⟩
theorem cv_room {G : gt_} {rest : List Value} (h : (rest.map fun v => v.category).sum ≤ 8) : ((rest.map (cv_ G)).map fun v => v.category).sum ≤ 8 := by
  rw [List.map_map]
  have e : ((fun v => v.category) ∘ cv_ G : Value → Nat) = fun v => v.category := funext fun v => cv_cat G v
  rw [e]; exact h
theorem pg_blind {G : gt_} {as : List Value} {h : hh_} : FrameBlind (fun v U => v = (as.map (cv_ G)).toArray ∧ pg_ G h U) := fun a U g mk q => ⟨q.1, kn_.same (s := U) (U := U.calling g mk a) (show U.vm = (U.calling g mk a).vm from rfl) q.2.1, q.2.2.moved (U := U.calling g mk a) (Vm.Alike.refl U.vm)⟩
theorem xx_callV (C : cx_ Z M d) {M' : mt_} {d' n idx ci o : Nat} {q : vw_C} {ty : Nat → FieldType} {as rest : List Value} {r : Option Value} {h1 : hh_} (hM : ok_ (z_l Z) (z_G Z) d' M' (.ref o :: as) h r h1) (D : decode M.2.1 pc = .ok (.invokevirtual idx, 3)) (ck : ck_ ci q ty) (hq : M'.1.cls = q.1) (so : sh_ o = (0, ci)) (k : mk_ M' n) (ki : mi_ M') (lk : Cond.methodLink M.1.cls idx M'.1 ∈ lw_tbl) (hd : d' + 1 ≤ d) (hn : as.length = n) (est : as.reverse ++ .ref o :: rest = st) (hrest : (rest.map fun v => v.category).sum ≤ 8) (K : xx_ Z (pc + 3) lv (r.toList ++ rest) h1) : xx_ Z pc lv st h := fun H locs ls hw hs hl => by
  have hr := sh_rng so (by decide)
  subst est
  refine ww_ran (va_runV (As := as.map (cv_ (z_G Z))) (b := gt_B (z_G Z) + o) (C := M'.1.cls) (Ts := gw_) (own := M.1.cls) (n := n) (nL := M.2.2.1) (index := idx) (cc := M.2.1) (bytes := M'.2.1) (maxL := M'.2.2.1) (ret := M'.2.2.2) ⟨C.ex, C.co, C.ml, C.ow, C.ts⟩ hM ⟨cb_ C k lk hd, C.ts _ (gw_in ki.1 rfl), C.ts _ (gw_in ki.2 rfl)⟩ ⟨pg_blind, ?_, fun U hU hW => ⟨?_, C.kn.warm hW, by rw [hU]; exact hw.moved hW.alike⟩⟩ rfl (by rw [List.length_map]; exact hn) (hl.1.trans C.ml) ?_ (lv_room (cv_room hrest)) D ⟨C.ce.1, C.ce.2⟩) hs hl K
  · obtain ⟨cell, q1, q2, q3, q4⟩ := hw.ob so
    exact ⟨cell, q1, by rw [q3]; rfl, by rw [hq, q2]; exact (C.kn.1 ci q ck.1).2.1⟩
  · rw [List.map_cons, cv_ref _ hr.1 (by omega)]
  · show (as.reverse ++ .ref o :: rest).map (cv_ (z_G Z)) = _
    rw [List.map_append, List.map_reverse, List.map_cons, cv_ref _ hr.1 (by omega)]
theorem xx_callS (C : cx_ Z M d) {M' : mt_} {d' n idx : Nat} {as rest : List Value} {r : Option Value} {h1 : hh_} (hM : ok_ (z_l Z) (z_G Z) d' M' as h r h1) (D : decode M.2.1 pc = .ok (.invokestatic idx, 3)) (k : mk_ M' n) (ks : Cond.static M'.1 ∈ lw_tbl) (lk : Cond.methodLink M.1.cls idx M'.1 ∈ lw_tbl) (hd : d' + 1 ≤ d) (hn : as.length = n) (est : as.reverse ++ rest = st) (hrest : (rest.map fun v => v.category).sum ≤ 8) (K : xx_ Z (pc + 3) lv (r.toList ++ rest) h1) : xx_ Z pc lv st h := fun H locs ls hw hs hl => by
  subst est
  refine ww_ran (va_runS (As := as.map (cv_ (z_G Z))) (Ts := gw_) (own := M.1.cls) (n := n) (nL := M.2.2.1) (index := idx) (cc := M.2.1) (bytes := M'.2.1) (maxL := M'.2.2.1) (ret := M'.2.2.2) ⟨C.ex, C.co, C.ml, C.ow, C.ts⟩ hM ⟨cb_ C k lk hd, C.ts _ (gw_in ks rfl)⟩ ⟨pg_blind, fun U hU hW => ⟨rfl, C.kn.warm hW, by rw [hU]; exact hw.moved hW.alike⟩⟩ rfl (by rw [List.length_map]; exact hn) (hl.1.trans C.ml) ?_ (lv_room (cv_room hrest)) D ⟨C.ce.1, C.ce.2⟩) hs hl K
  show (as.reverse ++ rest).map (cv_ (z_G Z)) = _
  rw [List.map_append, List.map_reverse]
theorem cat_le : ∀ (l : List Value), (l.map fun v => v.category).sum ≤ 2 * l.length
  | [] => by simp
  | v :: l => by
    have := cat_le l
    have h2 : v.category ≤ 2 := by rcases lv_cat v with e | e <;> omega
    simp only [List.map_cons, List.sum_cons, List.length_cons]; omega
theorem m1_max : Cond.static Lib.Math.max.name ∈ lw_tbl ∧ Cond.code Lib.Math.max.name Lib.Math.max.code 2 (some .int) ∈ lw_tbl := by decide +kernel
theorem m1_min : Cond.static Lib.Math.min.name ∈ lw_tbl ∧ Cond.code Lib.Math.min.name Lib.Math.min.code 2 (some .int) ∈ lw_tbl := by decide +kernel
theorem m1_abs : Cond.static Lib.Math.abs.name ∈ lw_tbl ∧ Cond.code Lib.Math.abs.name Lib.Math.abs.code 1 (some .int) ∈ lw_tbl := by decide +kernel
theorem m1_ini : Cond.initialized "java/lang/Math" ∈ lw_tbl ∧ Cond.initialized "java/lang/System" ∈ lw_tbl ∧ Cond.native arraycopyName ∈ lw_tbl ∧ Cond.static arraycopyName ∈ lw_tbl := by decide +kernel
theorem xx_max (C : cx_ Z M d) {x y : Int32} {idx : Nat} (D : decode M.2.1 pc = .ok (.invokestatic idx, 3)) (lk : Cond.methodLink M.1.cls idx Lib.Math.max.name ∈ lw_tbl) (hd : 1 ≤ d) (hst : st.length ≤ 20) (K : xx_ Z (pc + 3) lv (.int (if x < y then y else x) :: st) h) : xx_ Z pc lv (.int y :: .int x :: st) h := fun H locs ls hw hs hl => by
  have hc := cat_le (st.map (cv_ (z_G Z)))
  rw [List.length_map] at hc
  have hf := C.fr
  exact va_mmax C.ex C.co hl.1.symm C.ow (C.ts _ (gw_in lk rfl)) (C.ts _ (gw_in m1_max.1 rfl)) (C.ts _ (gw_in m1_ini.1 rfl)) (C.ts _ (gw_in m1_max.2 rfl)) (by omega) (by omega) C.ce.1 C.ce.2 D (K H locs ls hw hs hl)
theorem xx_min (C : cx_ Z M d) {x y : Int32} {idx : Nat} (D : decode M.2.1 pc = .ok (.invokestatic idx, 3)) (lk : Cond.methodLink M.1.cls idx Lib.Math.min.name ∈ lw_tbl) (hd : 1 ≤ d) (hst : st.length ≤ 20) (K : xx_ Z (pc + 3) lv (.int (if y < x then y else x) :: st) h) : xx_ Z pc lv (.int y :: .int x :: st) h := fun H locs ls hw hs hl => by
  have hc := cat_le (st.map (cv_ (z_G Z)))
  rw [List.length_map] at hc
  have hf := C.fr
  exact va_mmin C.ex C.co hl.1.symm C.ow (C.ts _ (gw_in lk rfl)) (C.ts _ (gw_in m1_min.1 rfl)) (C.ts _ (gw_in m1_ini.1 rfl)) (C.ts _ (gw_in m1_min.2 rfl)) (by omega) (by omega) C.ce.1 C.ce.2 D (K H locs ls hw hs hl)
theorem xx_abs (C : cx_ Z M d) {x : Int32} {idx : Nat} (D : decode M.2.1 pc = .ok (.invokestatic idx, 3)) (lk : Cond.methodLink M.1.cls idx Lib.Math.abs.name ∈ lw_tbl) (hd : 1 ≤ d) (hst : st.length ≤ 20) (K : xx_ Z (pc + 3) lv (.int (if 0 ≤ x then x else 0 - x) :: st) h) : xx_ Z pc lv (.int x :: st) h := fun H locs ls hw hs hl => by
  have hc := cat_le (st.map (cv_ (z_G Z)))
  rw [List.length_map] at hc
  have hf := C.fr
  exact va_mabs C.ex C.co hl.1.symm C.ow (C.ts _ (gw_in lk rfl)) (C.ts _ (gw_in m1_abs.1 rfl)) (C.ts _ (gw_in m1_ini.1 rfl)) (C.ts _ (gw_in m1_abs.2 rfl)) (by omega) (by omega) C.ce.1 C.ce.2 D (K H locs ls hw hs hl)
theorem nn_ {z : Int32} (hz : ¬ z < 0) : z.toInt = (z.toNatClampNeg : Int) := by
  have hz0 : (0 : Int) ≤ z.toInt := by
    have := Int32.not_lt.mp hz
    simpa using Int32.le_iff_toInt_le.mp this
  show z.toInt = ((z.toInt.toNat : Nat) : Int)
  omega
theorem xx_acopy (C : cx_ Z M d) {a b n0 n1 idx : Nat} {sp dp n : Int32} (D : decode M.2.1 pc = .ok (.invokestatic idx, 3)) (lk : Cond.methodLink M.1.cls idx arraycopyName ∈ lw_tbl) (sa : sh_ a = (1, n0)) (sb : sh_ b = (1, n1)) (h1 : ¬ sp < 0) (h2 : ¬ dp < 0) (h3 : ¬ n < 0) (h4 : sp.toNatClampNeg + n.toNatClampNeg ≤ n0) (h5 : dp.toNatClampNeg + n.toNatClampNeg ≤ n1) (hd : 1 ≤ d) (hst : st.length ≤ 20) (K : xx_ Z (pc + 3) lv st (hh_cp h a b sp.toNatClampNeg dp.toNatClampNeg n.toNatClampNeg)) : xx_ Z pc lv (.int n :: .int dp :: .ref b :: .int sp :: .ref a :: st) h := fun H locs ls hw hs hl => by
  have hra := sh_rng sa (by decide)
  have hrb := sh_rng sb (by decide)
  have hc := cat_le (st.map (cv_ (z_G Z)))
  rw [List.length_map] at hc
  have hf := C.fr
  have hnw : nativeFrameWords "java/lang/System" "arraycopy" 5 ≤ 30 := by decide +kernel
  simp only [List.map_cons]
  rw [cv_ref _ hra.1 (by omega), cv_ref _ hrb.1 (by omega)]
  have hc0 := hw.ia sa
  have hc1 := hw.ia sb
  intro T hT X
  obtain ⟨-, k0, hk0, cm0, hkk0⟩ := C.kn.2.1 n0 (fun j => .int (h.1 a j))
  obtain ⟨-, k1, hk1, cm1, hkk1⟩ := C.kn.2.1 n1 (fun j => .int (h.1 b j))
  obtain ⟨vm', X', step⟩ := X.arraycopy C.ex C.ow (C.ts _ (gw_in lk rfl)) (C.ts _ (gw_in m1_ini.2.2.1 rfl)) (C.ts _ (gw_in m1_ini.2.2.2 rfl)) (C.ts _ (gw_in m1_ini.2.1 rfl)) (src := gt_B (z_G Z) + a) (dst := gt_B (z_G Z) + b) (cs := arrV (gt_1 (z_G Z)) n0 (fun j => .int (h.1 a j))) (cd := arrV (gt_1 (z_G Z)) n1 (fun j => .int (h.1 b j))) (srcPos := sp) (destPos := dp) (n := n) (by rw [hT]; exact hc0) (by rw [hT]; exact hc1)
    (fun _ h => by cases h) (fun _ h => by cases h) (fun h => by cases h) (fun h => by cases h) hk0 hk1 hkk0 hkk1 (by simp [refKind]) h1 h2 h3
    (by rw [nn_ h1, nn_ h3]; rw [arrV_size]; omega)
    (by rw [nn_ h2, nn_ h3]; rw [arrV_size]; omega)
    (fun vm₁ _ i hi => by
      have e : (arrV (gt_1 (z_G Z)) n0 (fun j => .int (h.1 a j))).slots.getD (sp.toNatClampNeg + i) .null = .int (h.1 a (sp.toNatClampNeg + i)) := by
        rw [Array.getD_eq_getD_getElem?, arrV_read _ _ (by omega)]
        rfl
      refine ⟨?_, ?_⟩
      · rw [e]; rfl
      · rw [e]; exact trivial)
    (g := F0 (z_m Z) pc ls (.int n :: .int dp :: .ref (gt_B (z_G Z) + b) :: .int sp :: .ref (gt_B (z_G Z) + a) :: st.map (cv_ (z_G Z)))) rfl hl.1 (rest := st.map (cv_ (z_G Z))) rfl (by rw [C.co]; exact D) (by omega) (by show 2 * 0 + _ + _ ≤ _; omega)
  have e1 : copied (arrV (gt_1 (z_G Z)) n0 (fun j => .int (h.1 a j))) (arrV (gt_1 (z_G Z)) n1 (fun j => .int (h.1 b j))) sp dp n = arrV (gt_1 (z_G Z)) n1 (fun j => .int (va_cpy (h.1 a) (h.1 b) sp.toNatClampNeg dp.toNatClampNeg n.toNatClampNeg j)) := va_copied (fun z => .int z) _ _ (h.1 a) (h.1 b) h4
  rw [e1] at X' step
  have hlt : gt_B (z_G Z) + b < H.size := (Array.getElem?_eq_some_iff.mp hc1).1
  generalize hcell : arrV (gt_1 (z_G Z)) n1 (fun j => .int (va_cpy (h.1 a) (h.1 b) sp.toNatClampNeg dp.toNatClampNeg n.toNatClampNeg j)) = cell at X' step
  have hheap : ((T.setVm vm').setCell (gt_B (z_G Z) + b) cell).heap = H.setIfInBounds (gt_B (z_G Z) + b) cell := by rw [← hT]; rfl
  have oq : ∀ q : Nat, q ≠ gt_B (z_G Z) + b → (H.setIfInBounds (gt_B (z_G Z) + b) cell)[q]? = H[q]? := fun q hq => by simp [Array.getElem?_setIfInBounds, Ne.symm hq]
  have hself : (H.setIfInBounds (gt_B (z_G Z) + b) cell)[gt_B (z_G Z) + b]? = some cell := by simp [Array.getElem?_setIfInBounds, hlt]
  have hw' : hw_ (z_G Z) (z_s Z) (hh_cp h a b sp.toNatClampNeg dp.toNatClampNeg n.toNatClampNeg) (H.setIfInBounds (gt_B (z_G Z) + b) cell) := by
    refine hw.upd hrb hw.2 (by simp) oq (ce_ia sb ?_) (fun k j e => ?_) (fun _ _ _ => rfl) (fun _ _ _ => rfl)
    · rw [hself, ← hcell]
      congr 1; congr 1; funext j
      unfold hh_cp
      simp
    · unfold hh_cp
      simp [e]
  obtain ⟨t, a1, b1⟩ := K _ _ ls hw' ⟨by simp; exact hs.1, fun q g1 g2 => by
      rw [oq q (fun e => g2 (by show gt_B (z_G Z) < q; omega))]
      exact hs.2.1 q g1 g2, fun q hq => by
      rcases List.mem_append.mp hq with h | h
      · exact hs.2.2 q h
      · obtain ⟨z, -, hz⟩ := List.mem_map.mp h
        rw [← hz]
        show gt_B (z_G Z) < gt_B (z_G Z) + b
        omega⟩ hl _ hheap X'
  exact ⟨t, step t a1, b1⟩
end XR
end
section
/-! ===== pieces of the functions and of their proofs ===== -/
def gd_ {α : Type} (b : Bool) (x : Option α) : Option α := if b = true then x else none
theorem gd_ok {α : Type} {b : Bool} {x : Option α} {r : α} (h : gd_ b x = some r) : b = true ∧ x = some r := by
  unfold gd_ at h
  by_cases e : b = true
  · rw [if_pos e] at h; exact ⟨e, h⟩
  · rw [if_neg e] at h; cases h
theorem ifo_ {α : Type} {c : Prop} [Decidable c] {a b x : α} (h : (if c then a else b) = x) : (c ∧ a = x) ∨ (¬ c ∧ b = x) := by
  by_cases e : c
  · rw [if_pos e] at h; exact Or.inl ⟨e, h⟩
  · rw [if_neg e] at h; exact Or.inr ⟨e, h⟩
theorem bdo_ {α β : Type} {x : Option α} {f : α → Option β} {r : β} (h : x.bind f = some r) : ∃ a, x = some a ∧ f a = some r := by
  cases x with
  | none => cases h
  | some a => exact ⟨a, rfl, h⟩
theorem pe_ {α β : Type} {p : α × β} : p = (p.1, p.2) := rfl
theorem lb_ {a b : Nat} (h : Nat.ble a b = true) : a ≤ b := Nat.le_of_ble_eq_true h
def FU_ : Nat := 5000
def bi_ (i : Int32) (n : Nat) : Bool := !(decide (i < 0) || decide (n ≤ i.toNatClampNeg))
theorem bi_ok {i : Int32} {n : Nat} (h : bi_ i n = true) : vp_in i n := by
  unfold bi_ at h
  unfold vp_in
  simpa using h
def bz_ (v : Int32) : Bool := v == 0 || v == 1
theorem bz_ok {v : Int32} (h : bz_ v = true) : v &&& 1 = v := by
  unfold bz_ at h
  rcases (Bool.or_eq_true _ _).mp h with e | e
  · rw [eq_of_beq e]; decide
  · rw [eq_of_beq e]; decide
theorem zb_0 : (0 : Int32) &&& 1 = 0 := by decide
theorem zb_1 : (1 : Int32) &&& 1 = 1 := by decide
def bn_ (v : Int32) : Bool := !(v == 0)
theorem bn_ok {v : Int32} (h : bn_ v = true) : ¬ v = 0 := by
  intro e
  subst e
  cases h
def bm_ (v : Int64) : Bool := !(v == 0)
theorem bm_ok {v : Int64} (h : bm_ v = true) : ¬ v = 0 := by
  intro e
  subst e
  cases h
def isO_ (o : Nat) : Prop := o = 39 ∨ o = 64
def bo_ (o : Nat) : Bool := o == 39 || o == 64
theorem bo_ok {o : Nat} (h : bo_ o = true) : isO_ o := by
  unfold bo_ at h
  unfold isO_
  simpa using h
def isK_ (o : Nat) : Prop := o = 89 ∨ o = 92 ∨ o = 95
theorem isO_pos {o : Nat} (h : isO_ o) : 0 < o := by rcases h with e | e <;> omega
theorem isO_lt {o : Nat} (h : isO_ o) : o < 500 := by rcases h with e | e <;> omega
theorem isK_pos {o : Nat} (h : isK_ o) : 0 < o := by rcases h with e | e | e <;> omega
theorem isK_lt {o : Nat} (h : isK_ o) : o < 500 := by rcases h with e | e | e <;> omega
theorem isK_in {i : Int32} (h : vp_in i 3) : isK_ (89 + 3 * Int32.toNatClampNeg i) := by
  have := vp_lt h
  unfold isK_
  omega
def bp_ (a : Nat) (i : Int32) : Bool := ((sh_ a).1 == 1) && bi_ i (sh_ a).2
theorem bp_sh {a : Nat} {i : Int32} (h : bp_ a i = true) : sh_ a = (1, (sh_ a).2) := by
  have h1 := (Bool.and_eq_true _ _ ▸ h : ((sh_ a).1 == 1) = true ∧ bi_ i (sh_ a).2 = true).1
  exact Prod.ext (eq_of_beq h1) rfl
theorem bp_in {a : Nat} {i : Int32} (h : bp_ a i = true) : vp_in i (sh_ a).2 := bi_ok (Bool.and_eq_true _ _ ▸ h : ((sh_ a).1 == 1) = true ∧ bi_ i (sh_ a).2 = true).2
def bc_ (sp dp n : Int32) (n0 n1 : Nat) : Bool := !(decide (sp < 0)) && (!(decide (dp < 0)) && (!(decide (n < 0)) && (decide (sp.toNatClampNeg + n.toNatClampNeg ≤ n0) && decide (dp.toNatClampNeg + n.toNatClampNeg ≤ n1))))
theorem bc_all {sp dp n : Int32} {n0 n1 : Nat} (h : bc_ sp dp n n0 n1 = true) : ¬ sp < 0 ∧ ¬ dp < 0 ∧ ¬ n < 0 ∧ sp.toNatClampNeg + n.toNatClampNeg ≤ n0 ∧ dp.toNatClampNeg + n.toNatClampNeg ≤ n1 := by
  unfold bc_ at h
  simp only [Bool.and_eq_true, Bool.not_eq_true', decide_eq_false_iff_not, decide_eq_true_eq] at h
  exact h
theorem bc_1 {sp dp n : Int32} {n0 n1 : Nat} (h : bc_ sp dp n n0 n1 = true) : ¬ sp < 0 := (bc_all h).1
theorem bc_2 {sp dp n : Int32} {n0 n1 : Nat} (h : bc_ sp dp n n0 n1 = true) : ¬ dp < 0 := (bc_all h).2.1
theorem bc_3 {sp dp n : Int32} {n0 n1 : Nat} (h : bc_ sp dp n n0 n1 = true) : ¬ n < 0 := (bc_all h).2.2.1
theorem bc_4 {sp dp n : Int32} {n0 n1 : Nat} (h : bc_ sp dp n n0 n1 = true) : sp.toNatClampNeg + n.toNatClampNeg ≤ n0 := (bc_all h).2.2.2.1
theorem bc_5 {sp dp n : Int32} {n0 n1 : Nat} (h : bc_ sp dp n n0 n1 = true) : dp.toNatClampNeg + n.toNatClampNeg ≤ n1 := (bc_all h).2.2.2.2
theorem sh_pos {k n : Nat} (h : sh_ k = (1, n)) : 0 < k := (sh_rng h (by decide)).1
theorem sh_lt {k n : Nat} (h : sh_ k = (1, n)) : k < 500 := by have := (sh_rng h (by decide)).2; omega
theorem sh_k1 : sh_ 1 = (0, 6) := rfl
theorem sh_k2 : sh_ 2 = (0, 4) := rfl
theorem sh_k3 : sh_ 3 = (2, 6) := rfl
theorem sh_k4 : sh_ 4 = (1, 40) := rfl
theorem sh_k5 : sh_ 5 = (1, 40) := rfl
theorem sh_k6 : sh_ 6 = (1, 40) := rfl
theorem sh_k7 : sh_ 7 = (1, 40) := rfl
theorem sh_k8 : sh_ 8 = (1, 40) := rfl
theorem sh_k9 : sh_ 9 = (1, 40) := rfl
theorem sh_k10 : sh_ 10 = (1, 6) := rfl
theorem sh_k11 : sh_ 11 = (0, 4) := rfl
theorem sh_k12 : sh_ 12 = (2, 4) := rfl
theorem sh_k13 : sh_ 13 = (1, 80) := rfl
theorem sh_k14 : sh_ 14 = (1, 80) := rfl
theorem sh_k15 : sh_ 15 = (1, 80) := rfl
theorem sh_k16 : sh_ 16 = (1, 80) := rfl
theorem sh_k17 : sh_ 17 = (1, 4) := rfl
theorem sh_k18 : sh_ 18 = (3, 3) := rfl
theorem sh_k19 : sh_ 19 = (0, 3) := rfl
theorem sh_k20 : sh_ 20 = (0, 2) := rfl
theorem sh_k21 : sh_ 21 = (1, 5) := rfl
theorem sh_k22 : sh_ 22 = (2, 6) := rfl
theorem sh_k23 : sh_ 23 = (1, 16) := rfl
theorem sh_k24 : sh_ 24 = (1, 16) := rfl
theorem sh_k25 : sh_ 25 = (1, 16) := rfl
theorem sh_k26 : sh_ 26 = (1, 16) := rfl
theorem sh_k27 : sh_ 27 = (1, 16) := rfl
theorem sh_k28 : sh_ 28 = (1, 16) := rfl
theorem sh_k29 : sh_ 29 = (2, 6) := rfl
theorem sh_k30 : sh_ 30 = (1, 16) := rfl
theorem sh_k31 : sh_ 31 = (1, 16) := rfl
theorem sh_k32 : sh_ 32 = (1, 16) := rfl
theorem sh_k33 : sh_ 33 = (1, 16) := rfl
theorem sh_k34 : sh_ 34 = (1, 16) := rfl
theorem sh_k35 : sh_ 35 = (1, 16) := rfl
theorem sh_k36 : sh_ 36 = (0, 5) := rfl
theorem sh_k37 : sh_ 37 = (1, 6) := rfl
theorem sh_k38 : sh_ 38 = (1, 4) := rfl
theorem sh_k39 : sh_ 39 = (0, 1) := rfl
theorem sh_k40 : sh_ 40 = (2, 5) := rfl
theorem sh_k41 : sh_ 41 = (1, 5) := rfl
theorem sh_k42 : sh_ 42 = (1, 5) := rfl
theorem sh_k43 : sh_ 43 = (1, 5) := rfl
theorem sh_k44 : sh_ 44 = (1, 5) := rfl
theorem sh_k45 : sh_ 45 = (1, 5) := rfl
theorem sh_k46 : sh_ 46 = (2, 5) := rfl
theorem sh_k47 : sh_ 47 = (1, 5) := rfl
theorem sh_k48 : sh_ 48 = (1, 5) := rfl
theorem sh_k49 : sh_ 49 = (1, 5) := rfl
theorem sh_k50 : sh_ 50 = (1, 5) := rfl
theorem sh_k51 : sh_ 51 = (1, 5) := rfl
theorem sh_k52 : sh_ 52 = (2, 4) := rfl
theorem sh_k53 : sh_ 53 = (1, 3) := rfl
theorem sh_k54 : sh_ 54 = (1, 3) := rfl
theorem sh_k55 : sh_ 55 = (1, 3) := rfl
theorem sh_k56 : sh_ 56 = (1, 3) := rfl
theorem sh_k57 : sh_ 57 = (2, 4) := rfl
theorem sh_k58 : sh_ 58 = (1, 5) := rfl
theorem sh_k59 : sh_ 59 = (1, 5) := rfl
theorem sh_k60 : sh_ 60 = (1, 5) := rfl
theorem sh_k61 : sh_ 61 = (1, 5) := rfl
theorem sh_k62 : sh_ 62 = (1, 3) := rfl
theorem sh_k63 : sh_ 63 = (1, 40) := rfl
theorem sh_k64 : sh_ 64 = (0, 1) := rfl
theorem sh_k65 : sh_ 65 = (2, 5) := rfl
theorem sh_k66 : sh_ 66 = (1, 5) := rfl
theorem sh_k67 : sh_ 67 = (1, 5) := rfl
theorem sh_k68 : sh_ 68 = (1, 5) := rfl
theorem sh_k69 : sh_ 69 = (1, 5) := rfl
theorem sh_k70 : sh_ 70 = (1, 5) := rfl
theorem sh_k71 : sh_ 71 = (2, 5) := rfl
theorem sh_k72 : sh_ 72 = (1, 5) := rfl
theorem sh_k73 : sh_ 73 = (1, 5) := rfl
theorem sh_k74 : sh_ 74 = (1, 5) := rfl
theorem sh_k75 : sh_ 75 = (1, 5) := rfl
theorem sh_k76 : sh_ 76 = (1, 5) := rfl
theorem sh_k77 : sh_ 77 = (2, 4) := rfl
theorem sh_k78 : sh_ 78 = (1, 3) := rfl
theorem sh_k79 : sh_ 79 = (1, 3) := rfl
theorem sh_k80 : sh_ 80 = (1, 3) := rfl
theorem sh_k81 : sh_ 81 = (1, 3) := rfl
theorem sh_k82 : sh_ 82 = (2, 4) := rfl
theorem sh_k83 : sh_ 83 = (1, 5) := rfl
theorem sh_k84 : sh_ 84 = (1, 5) := rfl
theorem sh_k85 : sh_ 85 = (1, 5) := rfl
theorem sh_k86 : sh_ 86 = (1, 5) := rfl
theorem sh_k87 : sh_ 87 = (1, 3) := rfl
theorem sh_k88 : sh_ 88 = (1, 40) := rfl
theorem sh_k89 : sh_ 89 = (0, 0) := rfl
theorem sh_k90 : sh_ 90 = (1, 40) := rfl
theorem sh_k91 : sh_ 91 = (1, 4) := rfl
theorem sh_k92 : sh_ 92 = (0, 0) := rfl
theorem sh_k93 : sh_ 93 = (1, 40) := rfl
theorem sh_k94 : sh_ 94 = (1, 4) := rfl
theorem sh_k95 : sh_ 95 = (0, 0) := rfl
theorem sh_k96 : sh_ 96 = (1, 40) := rfl
theorem sh_k97 : sh_ 97 = (1, 4) := rfl
theorem sh_k98 : sh_ 98 = (0, 7) := rfl
theorem sh_k99 : sh_ 99 = (1, 6) := rfl
theorem sh_k100 : sh_ 100 = (1, 6) := rfl
theorem sh_k101 : sh_ 101 = (1, 240) := rfl
theorem sh_k102 : sh_ 102 = (1, 40) := rfl
theorem sh_k103 : sh_ 103 = (1, 4) := rfl
theorem sh_k104 : sh_ 104 = (1, 320) := rfl
theorem sh_k105 : sh_ 105 = (1, 25) := rfl
theorem sh_k106 : sh_ 106 = (1, 12) := rfl
theorem sh_k107 : sh_ 107 = (1, 20) := rfl
theorem sh_k108 : sh_ 108 = (1, 60) := rfl
theorem sh_k109 : sh_ 109 = (1, 1000) := rfl
theorem sh_k110 : sh_ 110 = (1, 3090) := rfl
theorem sh_k111 : sh_ 111 = (1, 5) := rfl
theorem sh_k112 : sh_ 112 = (1, 5) := rfl
theorem sh_k113 : sh_ 113 = (1, 5) := rfl
theorem sh_k114 : sh_ 114 = (1, 4) := rfl
theorem sh_a3 : ∀ j, j < 6 → sh_ (4 + j) = (1, 40) := by decide
theorem sh_e3 {i : Int32} (h : vp_in i 6) : sh_ (4 + Int32.toNatClampNeg i) = (1, 40) := sh_a3 _ (vp_lt h)
theorem sh_a12 : ∀ j, j < 4 → sh_ (13 + j) = (1, 80) := by decide
theorem sh_e12 {i : Int32} (h : vp_in i 4) : sh_ (13 + Int32.toNatClampNeg i) = (1, 80) := sh_a12 _ (vp_lt h)
theorem sh_a22 : ∀ j, j < 6 → sh_ (23 + j) = (1, 16) := by decide
theorem sh_e22 {i : Int32} (h : vp_in i 6) : sh_ (23 + Int32.toNatClampNeg i) = (1, 16) := sh_a22 _ (vp_lt h)
theorem sh_a29 : ∀ j, j < 6 → sh_ (30 + j) = (1, 16) := by decide
theorem sh_e29 {i : Int32} (h : vp_in i 6) : sh_ (30 + Int32.toNatClampNeg i) = (1, 16) := sh_a29 _ (vp_lt h)
theorem sh_o {o : Nat} (h : isO_ o) : sh_ o = (0, 1) := by rcases h with e | e <;> subst e <;> rfl
theorem sh_o1 {o : Nat} (h : isO_ o) : sh_ (o + 1) = (2, 5) := by rcases h with e | e <;> subst e <;> rfl
theorem rc_o0 {o : Nat} (h : isO_ o) : rc_ 1 o 0 < 500 := by rcases h with e | e <;> subst e <;> decide
theorem rf_o0 {o : Nat} {h : hh_} (ho : isO_ o) : rf_ h 1 o 0 = (o + 1) := by rcases ho with e | e <;> subst e <;> rfl
theorem sh_b1 {o : Nat} (h : isO_ o) : ∀ j, j < 5 → sh_ (o + 2 + j) = (1, 5) := by rcases h with e | e <;> subst e <;> decide
theorem sh_oe1 {o : Nat} {i : Int32} (ho : isO_ o) (h : vp_in i 5) : sh_ (o + 2 + Int32.toNatClampNeg i) = (1, 5) := sh_b1 ho _ (vp_lt h)
theorem sh_o7 {o : Nat} (h : isO_ o) : sh_ (o + 7) = (2, 5) := by rcases h with e | e <;> subst e <;> rfl
theorem rc_o1 {o : Nat} (h : isO_ o) : rc_ 1 o 1 < 500 := by rcases h with e | e <;> subst e <;> decide
theorem rf_o1 {o : Nat} {h : hh_} (ho : isO_ o) : rf_ h 1 o 1 = (o + 7) := by rcases ho with e | e <;> subst e <;> rfl
theorem sh_b7 {o : Nat} (h : isO_ o) : ∀ j, j < 5 → sh_ (o + 8 + j) = (1, 5) := by rcases h with e | e <;> subst e <;> decide
theorem sh_oe7 {o : Nat} {i : Int32} (ho : isO_ o) (h : vp_in i 5) : sh_ (o + 8 + Int32.toNatClampNeg i) = (1, 5) := sh_b7 ho _ (vp_lt h)
theorem sh_o13 {o : Nat} (h : isO_ o) : sh_ (o + 13) = (2, 4) := by rcases h with e | e <;> subst e <;> rfl
theorem rc_o2 {o : Nat} (h : isO_ o) : rc_ 1 o 2 < 500 := by rcases h with e | e <;> subst e <;> decide
theorem rf_o2 {o : Nat} {h : hh_} (ho : isO_ o) : rf_ h 1 o 2 = (o + 13) := by rcases ho with e | e <;> subst e <;> rfl
theorem sh_b13 {o : Nat} (h : isO_ o) : ∀ j, j < 4 → sh_ (o + 14 + j) = (1, 3) := by rcases h with e | e <;> subst e <;> decide
theorem sh_oe13 {o : Nat} {i : Int32} (ho : isO_ o) (h : vp_in i 4) : sh_ (o + 14 + Int32.toNatClampNeg i) = (1, 3) := sh_b13 ho _ (vp_lt h)
theorem sh_o18 {o : Nat} (h : isO_ o) : sh_ (o + 18) = (2, 4) := by rcases h with e | e <;> subst e <;> rfl
theorem rc_o3 {o : Nat} (h : isO_ o) : rc_ 1 o 3 < 500 := by rcases h with e | e <;> subst e <;> decide
theorem rf_o3 {o : Nat} {h : hh_} (ho : isO_ o) : rf_ h 1 o 3 = (o + 18) := by rcases ho with e | e <;> subst e <;> rfl
theorem sh_b18 {o : Nat} (h : isO_ o) : ∀ j, j < 4 → sh_ (o + 19 + j) = (1, 5) := by rcases h with e | e <;> subst e <;> decide
theorem sh_oe18 {o : Nat} {i : Int32} (ho : isO_ o) (h : vp_in i 4) : sh_ (o + 19 + Int32.toNatClampNeg i) = (1, 5) := sh_b18 ho _ (vp_lt h)
theorem sh_o23 {o : Nat} (h : isO_ o) : sh_ (o + 23) = (1, 3) := by rcases h with e | e <;> subst e <;> rfl
theorem rc_o4 {o : Nat} (h : isO_ o) : rc_ 1 o 4 < 500 := by rcases h with e | e <;> subst e <;> decide
theorem rf_o4 {o : Nat} {h : hh_} (ho : isO_ o) : rf_ h 1 o 4 = (o + 23) := by rcases ho with e | e <;> subst e <;> rfl
theorem sh_o24 {o : Nat} (h : isO_ o) : sh_ (o + 24) = (1, 40) := by rcases h with e | e <;> subst e <;> rfl
theorem rc_o5 {o : Nat} (h : isO_ o) : rc_ 1 o 5 < 500 := by rcases h with e | e <;> subst e <;> decide
theorem rf_o5 {o : Nat} {h : hh_} (ho : isO_ o) : rf_ h 1 o 5 = (o + 24) := by rcases ho with e | e <;> subst e <;> rfl
theorem sh_kp {o : Nat} (h : isK_ o) : sh_ o = (0, 0) := by rcases h with e | e | e <;> subst e <;> rfl
theorem sh_kp0 {o : Nat} (h : isK_ o) : sh_ (o + 1) = (1, 40) := by rcases h with e | e | e <;> subst e <;> rfl
theorem rc_kp0 {o : Nat} (h : isK_ o) : rc_ 0 o 0 < 500 := by rcases h with e | e | e <;> subst e <;> decide
theorem rf_kp0 {o : Nat} {h : hh_} (ho : isK_ o) : rf_ h 0 o 0 = (o + 1) := by rcases ho with e | e | e <;> subst e <;> rfl
theorem sh_kp1 {o : Nat} (h : isK_ o) : sh_ (o + 2) = (1, 4) := by rcases h with e | e | e <;> subst e <;> rfl
theorem rc_kp1 {o : Nat} (h : isK_ o) : rc_ 0 o 1 < 500 := by rcases h with e | e | e <;> subst e <;> decide
theorem rf_kp1 {o : Nat} {h : hh_} (ho : isK_ o) : rf_ h 0 o 1 = (o + 2) := by rcases ho with e | e | e <;> subst e <;> rfl
theorem hn_N {h : hh_} {r : Nat} (hr : 0 < r ∧ r < 500) (hn : h.2.2.1 < 500 ∧ h.2.2.2.1 < 500 ∧ h.2.2.2.2 < 500) : (hh_sN h r).2.2.1 < 500 ∧ (hh_sN h r).2.2.2.1 < 500 ∧ (hh_sN h r).2.2.2.2 < 500 := ⟨hr.2, hn.2.1, hn.2.2⟩
theorem rr_N {h : hh_} {r : Nat} (k i : Nat) : rr_ (hh_sN h r) k i = if k = 1 ∧ i = 7 then r else rr_ h k i := by
  by_cases e : k = 1
  · subst e
    by_cases e2 : i = 7
    · subst e2; rfl
    · rw [if_neg (fun q => e2 q.2), rr_ob sh_k1, rr_ob sh_k1]
      unfold rf_
      simp [e2, hh_sN]
  · rw [if_neg (fun q => e q.1)]
    unfold rr_
    split
    · unfold rf_; simp [e, hh_sN]
    · rfl
theorem hn_D {h : hh_} {r : Nat} (hr : 0 < r ∧ r < 500) (hn : h.2.2.1 < 500 ∧ h.2.2.2.1 < 500 ∧ h.2.2.2.2 < 500) : (hh_sD h r).2.2.1 < 500 ∧ (hh_sD h r).2.2.2.1 < 500 ∧ (hh_sD h r).2.2.2.2 < 500 := ⟨hn.1, hr.2, hn.2.2⟩
theorem rr_D {h : hh_} {r : Nat} (k i : Nat) : rr_ (hh_sD h r) k i = if k = 1 ∧ i = 8 then r else rr_ h k i := by
  by_cases e : k = 1
  · subst e
    by_cases e2 : i = 8
    · subst e2; rfl
    · rw [if_neg (fun q => e2 q.2), rr_ob sh_k1, rr_ob sh_k1]
      unfold rf_
      simp [e2, hh_sD]
  · rw [if_neg (fun q => e q.1)]
    unfold rr_
    split
    · unfold rf_; simp [e, hh_sD]
    · rfl
theorem hn_O {h : hh_} {r : Nat} (hr : 0 < r ∧ r < 500) (hn : h.2.2.1 < 500 ∧ h.2.2.2.1 < 500 ∧ h.2.2.2.2 < 500) : (hh_sO h r).2.2.1 < 500 ∧ (hh_sO h r).2.2.2.1 < 500 ∧ (hh_sO h r).2.2.2.2 < 500 := ⟨hn.1, hn.2.1, hr.2⟩
theorem rr_O {h : hh_} {r : Nat} (k i : Nat) : rr_ (hh_sO h r) k i = if k = 19 ∧ i = 0 then r else rr_ h k i := by
  by_cases e : k = 19
  · subst e
    by_cases e2 : i = 0
    · subst e2; rfl
    · rw [if_neg (fun q => e2 q.2), rr_ob sh_k19, rr_ob sh_k19]
      unfold rf_
      simp [e2, hh_sO]
  · rw [if_neg (fun q => e q.1)]
    unfold rr_
    split
    · unfold rf_; simp [e, hh_sO]
    · rfl
theorem rt_i {Z : zz_} {v r : Int32} {h : hh_} (e : v = r) (Q : rq_ Z (some (.int r)) h) : rq_ Z (some (.int v)) h := e ▸ Q
theorem rt_ip {Z : zz_} {v r : Int32} {h : hh_} (e : some v = some r) (Q : rq_ Z (some (.int r)) h) : rq_ Z (some (.int v)) h := by cases e; exact Q
theorem rt_iw {Z : zz_} {v r : Int32} {h h' : hh_} (e : (v, h) = (r, h')) (Q : rq_ Z (some (.int r)) h') : rq_ Z (some (.int v)) h := by cases e; exact Q
theorem rt_iwp {Z : zz_} {v r : Int32} {h h' : hh_} (e : some (v, h) = some (r, h')) (Q : rq_ Z (some (.int r)) h') : rq_ Z (some (.int v)) h := by cases e; exact Q
theorem rt_l {Z : zz_} {v r : Int64} {h : hh_} (e : v = r) (Q : rq_ Z (some (.long r)) h) : rq_ Z (some (.long v)) h := e ▸ Q
theorem rt_lp {Z : zz_} {v r : Int64} {h : hh_} (e : some v = some r) (Q : rq_ Z (some (.long r)) h) : rq_ Z (some (.long v)) h := by cases e; exact Q
theorem rt_lw {Z : zz_} {v r : Int64} {h h' : hh_} (e : (v, h) = (r, h')) (Q : rq_ Z (some (.long r)) h') : rq_ Z (some (.long v)) h := by cases e; exact Q
theorem rt_lwp {Z : zz_} {v r : Int64} {h h' : hh_} (e : some (v, h) = some (r, h')) (Q : rq_ Z (some (.long r)) h') : rq_ Z (some (.long v)) h := by cases e; exact Q
theorem rt_vw {Z : zz_} {h h' : hh_} (e : h = h') (Q : rq_ Z none h') : rq_ Z none h := by cases e; exact Q
theorem rt_vwp {Z : zz_} {h h' : hh_} (e : some h = some h') (Q : rq_ Z none h') : rq_ Z none h := by cases e; exact Q
def lm_ : List Bool → List (Option Value) → List (Option Value)
  | [], _ => []
  | _, [] => []
  | true :: b, x :: l => x :: lm_ b l
  | false :: b, _ :: l => none :: lm_ b l
theorem lm_get : ∀ (b : List Bool) (l : List (Option Value)) (i : Nat) (v : Value), (lm_ b l)[i]? = some (some v) → l[i]? = some (some v)
  | [], _, i, v, h => by simp [lm_] at h
  | _ :: _, [], i, v, h => by simp [lm_] at h
  | true :: b, x :: l, 0, v, h => h
  | true :: b, x :: l, i + 1, v, h => lm_get b l i v h
  | false :: b, x :: l, 0, v, h => by simp [lm_] at h
  | false :: b, x :: l, i + 1, v, h => lm_get b l i v h
theorem xx_mask {Z : zz_} {pc : Nat} {lv : List (Option Value)} {st : List Value} {h : hh_} (b : List Bool) (K : xx_ Z pc (lm_ b lv) st h) : xx_ Z pc lv st h := fun H locs ls hw hs hl => K H locs ls hw hs ⟨hl.1, hl.2.1, fun i v e => hl.2.2 i v (lm_get b lv i v e)⟩
theorem tab_out {x : Int32} {lo hi : Int} {n : Nat} (h : ∀ k : Nat, k < n → ¬ x = Int32.ofInt (lo + k)) (e : hi = lo + n - 1) : x.toInt < lo ∨ hi < x.toInt := by
  by_cases h1 : x.toInt < lo
  · exact Or.inl h1
  · by_cases h2 : hi < x.toInt
    · exact Or.inr h2
    · exfalso
      refine h (x.toInt - lo).toNat (by omega) ?_
      rw [show lo + ((x.toInt - lo).toNat : Int) = x.toInt by omega]
      exact (Int32.ofInt_toInt x).symm
section XW
variable {Z : zz_} {M : mt_} {d : Nat} {pc : Nat} {lv : List (Option Value)} {st : List Value} {h : hh_}
theorem xx_ldcw (C : cx_ Z M d) {idx : Nat} {v : Int32} (D : decode M.2.1 pc = .ok (.ldc_w idx, 3)) (hv : Cond.constant M.1.cls idx v ∈ lw_tbl) (K : xx_ Z (pc + 3) lv (.int v :: st) h) : xx_ Z pc lv st h := fun H locs ls hw hs hl => lv_ldcw C.ex C.co C.ow (C.ts _ (gw_in hv rfl)) D (K H locs ls hw hs hl)
theorem xx_callVi (C : cx_ Z M d) {M' : mt_} {d' n idx ci o : Nat} {q : vw_C} {ty : Nat → FieldType} {as rest : List Value} {r : Int32} {h1 : hh_} (hM : ok_ (z_l Z) (z_G Z) d' M' (.ref o :: as) h (some (.int r)) h1) (D : decode M.2.1 pc = .ok (.invokevirtual idx, 3)) (ck : ck_ ci q ty) (hq : M'.1.cls = q.1) (so : sh_ o = (0, ci)) (k : mk_ M' n) (ki : mi_ M') (lk : Cond.methodLink M.1.cls idx M'.1 ∈ lw_tbl) (hd : d' + 1 ≤ d) (hn : as.length = n) (est : as.reverse ++ .ref o :: rest = st) (hrest : (rest.map fun v => v.category).sum ≤ 8) (K : xx_ Z (pc + 3) lv (.int r :: rest) h1) : xx_ Z pc lv st h := xx_callV C hM D ck hq so k ki lk hd hn est hrest K
theorem xx_callSi (C : cx_ Z M d) {M' : mt_} {d' n idx : Nat} {as rest : List Value} {r : Int32} {h1 : hh_} (hM : ok_ (z_l Z) (z_G Z) d' M' as h (some (.int r)) h1) (D : decode M.2.1 pc = .ok (.invokestatic idx, 3)) (k : mk_ M' n) (ks : Cond.static M'.1 ∈ lw_tbl) (lk : Cond.methodLink M.1.cls idx M'.1 ∈ lw_tbl) (hd : d' + 1 ≤ d) (hn : as.length = n) (est : as.reverse ++ rest = st) (hrest : (rest.map fun v => v.category).sum ≤ 8) (K : xx_ Z (pc + 3) lv (.int r :: rest) h1) : xx_ Z pc lv st h := xx_callS C hM D k ks lk hd hn est hrest K
theorem xx_callVl (C : cx_ Z M d) {M' : mt_} {d' n idx ci o : Nat} {q : vw_C} {ty : Nat → FieldType} {as rest : List Value} {r : Int64} {h1 : hh_} (hM : ok_ (z_l Z) (z_G Z) d' M' (.ref o :: as) h (some (.long r)) h1) (D : decode M.2.1 pc = .ok (.invokevirtual idx, 3)) (ck : ck_ ci q ty) (hq : M'.1.cls = q.1) (so : sh_ o = (0, ci)) (k : mk_ M' n) (ki : mi_ M') (lk : Cond.methodLink M.1.cls idx M'.1 ∈ lw_tbl) (hd : d' + 1 ≤ d) (hn : as.length = n) (est : as.reverse ++ .ref o :: rest = st) (hrest : (rest.map fun v => v.category).sum ≤ 8) (K : xx_ Z (pc + 3) lv (.long r :: rest) h1) : xx_ Z pc lv st h := xx_callV C hM D ck hq so k ki lk hd hn est hrest K
theorem xx_callSl (C : cx_ Z M d) {M' : mt_} {d' n idx : Nat} {as rest : List Value} {r : Int64} {h1 : hh_} (hM : ok_ (z_l Z) (z_G Z) d' M' as h (some (.long r)) h1) (D : decode M.2.1 pc = .ok (.invokestatic idx, 3)) (k : mk_ M' n) (ks : Cond.static M'.1 ∈ lw_tbl) (lk : Cond.methodLink M.1.cls idx M'.1 ∈ lw_tbl) (hd : d' + 1 ≤ d) (hn : as.length = n) (est : as.reverse ++ rest = st) (hrest : (rest.map fun v => v.category).sum ≤ 8) (K : xx_ Z (pc + 3) lv (.long r :: rest) h1) : xx_ Z pc lv st h := xx_callS C hM D k ks lk hd hn est hrest K
theorem xx_callVv (C : cx_ Z M d) {M' : mt_} {d' n idx ci o : Nat} {q : vw_C} {ty : Nat → FieldType} {as rest : List Value} {h1 : hh_} (hM : ok_ (z_l Z) (z_G Z) d' M' (.ref o :: as) h none h1) (D : decode M.2.1 pc = .ok (.invokevirtual idx, 3)) (ck : ck_ ci q ty) (hq : M'.1.cls = q.1) (so : sh_ o = (0, ci)) (k : mk_ M' n) (ki : mi_ M') (lk : Cond.methodLink M.1.cls idx M'.1 ∈ lw_tbl) (hd : d' + 1 ≤ d) (hn : as.length = n) (est : as.reverse ++ .ref o :: rest = st) (hrest : (rest.map fun v => v.category).sum ≤ 8) (K : xx_ Z (pc + 3) lv rest h1) : xx_ Z pc lv st h := xx_callV C hM D ck hq so k ki lk hd hn est hrest K
theorem xx_callSv (C : cx_ Z M d) {M' : mt_} {d' n idx : Nat} {as rest : List Value} {h1 : hh_} (hM : ok_ (z_l Z) (z_G Z) d' M' as h none h1) (D : decode M.2.1 pc = .ok (.invokestatic idx, 3)) (k : mk_ M' n) (ks : Cond.static M'.1 ∈ lw_tbl) (lk : Cond.methodLink M.1.cls idx M'.1 ∈ lw_tbl) (hd : d' + 1 ≤ d) (hn : as.length = n) (est : as.reverse ++ rest = st) (hrest : (rest.map fun v => v.category).sum ≤ 8) (K : xx_ Z (pc + 3) lv rest h1) : xx_ Z pc lv st h := xx_callS C hM D k ks lk hd hn est hrest K
end XW
theorem ic_m1 : Int32.ofInt (-1) = -1 := by decide
theorem ic_0 : Int32.ofInt (0) = 0 := by decide
theorem ic_1 : Int32.ofInt (1) = 1 := by decide
theorem ic_2 : Int32.ofInt (2) = 2 := by decide
theorem ic_3 : Int32.ofInt (3) = 3 := by decide
theorem ic_4 : Int32.ofInt (4) = 4 := by decide
theorem ic_5 : Int32.ofInt (5) = 5 := by decide
theorem ic_6 : Int32.ofInt (6) = 6 := by decide
theorem ic_7 : Int32.ofInt (7) = 7 := by decide
theorem ic_m9 : Int32.ofInt (-9) = -9 := by decide
theorem pn_RX0 : plainName RX0 = true := by decide +kernel
theorem pn_RX1 : plainName RX1 = true := by decide +kernel
theorem pn_RX2 : plainName RX2 = true := by decide +kernel
theorem pn_RX3 : plainName RX3 = true := by decide +kernel
theorem pn_RX4 : plainName RX4 = true := by decide +kernel
theorem pn_RX5 : plainName RX5 = true := by decide +kernel
theorem pn_RX6 : plainName RX6 = true := by decide +kernel
theorem pn_RX7 : plainName RX7 = true := by decide +kernel
theorem pn_RX8 : plainName RX8 = true := by decide +kernel
end
section
def mt_X5_allows : mt_ := (yX5_allows, cX5_allows, 2, (some .boolean))
def mt_X5_renew : mt_ := (yX5_renew, cX5_renew, 5, none)
def mt_X6_refuse : mt_ := (yX6_refuse, cX6_refuse, 2, (some .int))
def mt_X7_row : mt_ := (yX7_row, cX7_row, 3, (some .int))
def mt_X5_lacks : mt_ := (yX5_lacks, cX5_lacks, 2, (some .boolean))
def mt_X5_findingAt : mt_ := (yX5_findingAt, cX5_findingAt, 3, (some .int))
def mt_X6_tell : mt_ := (yX6_tell, cX6_tell, 2, (some .int))
def mt_X7_lay : mt_ := (yX7_lay, cX7_lay, 6, (some .int))
def mt_X7_at : mt_ := (yX7_at, cX7_at, 4, (some .int))
def mt_X7_tear : mt_ := (yX7_tear, cX7_tear, 2, (some .int))
def mt_X5_spans : mt_ := (yX5_spans, cX5_spans, 4, (some .boolean))
def mt_X7_copy : mt_ := (yX7_copy, cX7_copy, 6, (some .int))
def mt_X5_sum : mt_ := (yX5_sum, cX5_sum, 5, (some .long))
def mt_X7_mean : mt_ := (yX7_mean, cX7_mean, 3, (some .int))
def mt_X7_text : mt_ := (yX7_text, cX7_text, 3, (some .int))
def mt_X7_put : mt_ := (yX7_put, cX7_put, 6, (some .int))
def mt_X4_kindBy : mt_ := (yX4_kindBy, cX4_kindBy, 2, (some .int))
def mt_X4_opensItem : mt_ := (yX4_opensItem, cX4_opensItem, 4, (some .boolean))
def mt_X4_takesFigure : mt_ := (yX4_takesFigure, cX4_takesFigure, 5, (some .boolean))
def mt_X4_goesOn : mt_ := (yX4_goesOn, cX4_goesOn, 2, (some .boolean))
def mt_X4_into : mt_ := (yX4_into, cX4_into, 5, (some .int))
def mt_X7_fault : mt_ := (yX7_fault, cX7_fault, 2, (some .int))
def mt_X2_repeat : mt_ := (yX2_repeat, cX2_repeat, 5, none)
def mt_X2_goBack : mt_ := (yX2_goBack, cX2_goBack, 3, none)
def mt_X7_office : mt_ := (yX7_office, cX7_office, 4, (some .int))
def mt_X2_has : mt_ := (yX2_has, cX2_has, 3, (some .boolean))
def mt_X2_together : mt_ := (yX2_together, cX2_together, 4, (some .int))
def mt_X2_ofHead : mt_ := (yX2_ofHead, cX2_ofHead, 3, (some .int))
def mt_X7_head : mt_ := (yX7_head, cX7_head, 3, (some .int))
def mt_X7_thumb : mt_ := (yX7_thumb, cX7_thumb, 3, (some .int))
def mt_X7_post : mt_ := (yX7_post, cX7_post, 3, (some .int))
def mt_X2_isOf : mt_ := (yX2_isOf, cX2_isOf, 3, (some .boolean))
def mt_X2_felt : mt_ := (yX2_felt, cX2_felt, 5, (some .int))
def mt_X2_middle : mt_ := (yX2_middle, cX2_middle, 4, (some .int))
def mt_X2_middleBy : mt_ := (yX2_middleBy, cX2_middleBy, 5, (some .int))
def mt_X1_dull : mt_ := (yX1_dull, cX1_dull, 5, (some .int))
def mt_X2_least : mt_ := (yX2_least, cX2_least, 5, (some .int))
def mt_X1_clerk : mt_ := (yX1_clerk, cX1_clerk, 5, (some .int))
def mt_X1_hasItsWish : mt_ := (yX1_hasItsWish, cX1_hasItsWish, 5, (some .boolean))
def mt_X1_wishing : mt_ := (yX1_wishing, cX1_wishing, 4, (some .int))
def mt_X2_most : mt_ := (yX2_most, cX2_most, 5, (some .int))
def mt_X1_light : mt_ := (yX1_light, cX1_light, 5, (some .int))
def mt_X1_heavy : mt_ := (yX1_heavy, cX1_heavy, 4, (some .int))
def mt_X7_mark : mt_ := (yX7_mark, cX7_mark, 3, (some .int))
def mt_X7_error : mt_ := (yX7_error, cX7_error, 4, (some .int))
def mt_X7_isPlace : mt_ := (yX7_isPlace, cX7_isPlace, 1, (some .boolean))
def mt_X2_act : mt_ := (yX2_act, cX2_act, 3, none)
def mt_X7_pad : mt_ := (yX7_pad, cX7_pad, 3, (some .int))
def mt_X7_grow : mt_ := (yX7_grow, cX7_grow, 2, (some .int))
def mt_X7_cut : mt_ := (yX7_cut, cX7_cut, 4, (some .int))
def mt_X7_undo : mt_ := (yX7_undo, cX7_undo, 3, (some .int))
def mt_X7_isKeptPlace : mt_ := (yX7_isKeptPlace, cX7_isKeptPlace, 1, (some .boolean))
def mt_X0_take : mt_ := (yX0_take, cX0_take, 3, none)
def mt_X7_keep : mt_ := (yX7_keep, cX7_keep, 2, (some .int))
def mt_X0_giveTo : mt_ := (yX0_giveTo, cX0_giveTo, 3, none)
def mt_X7_on : mt_ := (yX7_on, cX7_on, 2, (some .int))
def mt_X7_reads : mt_ := (yX7_reads, cX7_reads, 4, (some .int))
def mt_X7_findingOfReading : mt_ := (yX7_findingOfReading, cX7_findingOfReading, 3, (some .int))
def mt_X2_canRead : mt_ := (yX2_canRead, cX2_canRead, 5, (some .boolean))
def mt_X7_fits : mt_ := (yX7_fits, cX7_fits, 5, (some .int))
def mt_X2_headsThatFit : mt_ := (yX2_headsThatFit, cX2_headsThatFit, 5, (some .int))
def mt_X7_whose : mt_ := (yX7_whose, cX7_whose, 6, (some .int))
def mt_X7_who : mt_ := (yX7_who, cX7_who, 6, (some .int))
def mt_X2_ways : mt_ := (yX2_ways, cX2_ways, 4, (some .int))
def mt_X2_weight : mt_ := (yX2_weight, cX2_weight, 8, (some .long))
def mt_X6_commonDivisor : mt_ := (yX6_commonDivisor, cX6_commonDivisor, 7, (some .long))
def mt_X6_tellFraction : mt_ := (yX6_tellFraction, cX6_tellFraction, 7, (some .int))
def mt_X7_odds : mt_ := (yX7_odds, cX7_odds, 9, (some .int))
def mt_X2_isApart : mt_ := (yX2_isApart, cX2_isApart, 5, (some .boolean))
def mt_X2_pairsApart : mt_ := (yX2_pairsApart, cX2_pairsApart, 6, (some .int))
def mt_X7_look : mt_ := (yX7_look, cX7_look, 6, (some .int))
def mt_X2_maySeem : mt_ := (yX2_maySeem, cX2_maySeem, 5, (some .boolean))
def mt_X7_alike : mt_ := (yX7_alike, cX7_alike, 5, (some .int))
def mt_X2_isSure : mt_ := (yX2_isSure, cX2_isSure, 6, (some .boolean))
def mt_X2_isLucky : mt_ := (yX2_isLucky, cX2_isLucky, 5, (some .boolean))
def mt_X7_suits : mt_ := (yX7_suits, cX7_suits, 4, (some .int))
def mt_X7_luck : mt_ := (yX7_luck, cX7_luck, 11, (some .int))
def mt_X2_fewestPads : mt_ := (yX2_fewestPads, cX2_fewestPads, 6, (some .int))
def mt_X7_pads : mt_ := (yX7_pads, cX7_pads, 8, (some .int))
def mt_X7_all : mt_ := (yX7_all, cX7_all, 8, (some .int))
def mt_X7_finds : mt_ := (yX7_finds, cX7_finds, 5, (some .int))
def mt_X2_surePosts : mt_ := (yX2_surePosts, cX2_surePosts, 6, (some .int))
def mt_X7_posts : mt_ := (yX7_posts, cX7_posts, 5, (some .int))
def mt_X3_openByOne : mt_ := (yX3_openByOne, cX3_openByOne, 4, none)
def mt_X3_isFree : mt_ := (yX3_isFree, cX3_isFree, 4, (some .boolean))
def mt_X3_payBy : mt_ := (yX3_payBy, cX3_payBy, 5, (some .int))
def mt_X3_reckonFrom : mt_ := (yX3_reckonFrom, cX3_reckonFrom, 5, none)
def mt_X3_reckon : mt_ := (yX3_reckon, cX3_reckon, 6, none)
def mt_X3_bestPay : mt_ := (yX3_bestPay, cX3_bestPay, 1, (some .int))
def mt_X3_bestPost : mt_ := (yX3_bestPost, cX3_bestPost, 5, (some .int))
def mt_X7_layBestPlan : mt_ := (yX7_layBestPlan, cX7_layBestPlan, 6, (some .int))
def mt_X7_plan : mt_ := (yX7_plan, cX7_plan, 3, (some .int))
def mt_X7_plans : mt_ := (yX7_plans, cX7_plans, 2, (some .int))
def mt_X3_openByAll : mt_ := (yX3_openByAll, cX3_openByAll, 4, none)
def mt_X7_safest : mt_ := (yX7_safest, cX7_safest, 2, (some .int))
def mt_X7_gain : mt_ := (yX7_gain, cX7_gain, 7, (some .int))
def mt_X7_findingOfThrees : mt_ := (yX7_findingOfThrees, cX7_findingOfThrees, 5, (some .int))
def mt_X7_threesFit : mt_ := (yX7_threesFit, cX7_threesFit, 9, (some .boolean))
def mt_X7_learn : mt_ := (yX7_learn, cX7_learn, 8, (some .int))
def mt_X7_findingOfFates : mt_ := (yX7_findingOfFates, cX7_findingOfFates, 3, (some .int))
def mt_X2_placesAbove : mt_ := (yX2_placesAbove, cX2_placesAbove, 5, (some .int))
def mt_X7_tells : mt_ := (yX7_tells, cX7_tells, 7, (some .int))
def mt_X7_nextLot : mt_ := (yX7_nextLot, cX7_nextLot, 2, (some .long))
def mt_X7_lots : mt_ := (yX7_lots, cX7_lots, 11, (some .int))
def mt_X7_asked : mt_ := (yX7_asked, cX7_asked, 1, (some .int))
def mt_X7_upper : mt_ := (yX7_upper, cX7_upper, 1, (some .long))
def mt_X7_lower : mt_ := (yX7_lower, cX7_lower, 1, (some .long))
def mt_X7_presentOffices : mt_ := (yX7_presentOffices, cX7_presentOffices, 3, (some .int))
def mt_X5_present : mt_ := (yX5_present, cX5_present, 3, (some .int))
def mt_X2_wishingOnes : mt_ := (yX2_wishingOnes, cX2_wishingOnes, 3, (some .int))
def mt_X2_allTogether : mt_ := (yX2_allTogether, cX2_allTogether, 3, (some .int))
def mt_X7_count : mt_ := (yX7_count, cX7_count, 2, (some .int))
def mt_X7_finding : mt_ := (yX7_finding, cX7_finding, 1, (some .int))
def mt_X7_findings : mt_ := (yX7_findings, cX7_findings, 2, (some .int))
def mt_X2_mix : mt_ := (yX2_mix, cX2_mix, 5, (some .long))
def mt_X5_mix : mt_ := (yX5_mix, cX5_mix, 5, (some .long))
def mt_X7_digest : mt_ := (yX7_digest, cX7_digest, 4, (some .long))
def mt_X8_in : mt_ := (yX8_in, cX8_in, 3, (some .boolean))
def mt_X8_meet : mt_ := (yX8_meet, cX8_meet, 2, (some .int))
def mt_X8_ask : mt_ := (yX8_ask, cX8_ask, 3, (some .int))
def mt_X8_has : mt_ := (yX8_has, cX8_has, 2, (some .boolean))
def mt_X8_lesser : mt_ := (yX8_lesser, cX8_lesser, 2, (some .int))
def mt_X8_greater : mt_ := (yX8_greater, cX8_greater, 2, (some .int))
def mt_X8_part : mt_ := (yX8_part, cX8_part, 11, (some .int))
def mt_X8_isRow : mt_ := (yX8_isRow, cX8_isRow, 1, (some .boolean))
def mt_X8_isText : mt_ := (yX8_isText, cX8_isText, 1, (some .boolean))
def mt_X8_askedRow : mt_ := (yX8_askedRow, cX8_askedRow, 2, (some .int))
def mt_X8_askedText : mt_ := (yX8_askedText, cX8_askedText, 2, (some .int))
def mt_X8_rowAt : mt_ := (yX8_rowAt, cX8_rowAt, 3, (some .int))
def mt_X8_setRow : mt_ := (yX8_setRow, cX8_setRow, 4, none)
def mt_X8_row : mt_ := (yX8_row, cX8_row, 4, (some .int))
def mt_X8_at : mt_ := (yX8_at, cX8_at, 4, (some .int))
def mt_X8_lay : mt_ := (yX8_lay, cX8_lay, 5, (some .int))
def mt_X8_tear : mt_ := (yX8_tear, cX8_tear, 3, (some .int))
def mt_X8_copy : mt_ := (yX8_copy, cX8_copy, 7, (some .int))
def mt_X8_mean : mt_ := (yX8_mean, cX8_mean, 6, (some .int))
def mt_X8_text : mt_ := (yX8_text, cX8_text, 4, (some .int))
def mt_X8_put : mt_ := (yX8_put, cX8_put, 6, (some .int))
def mt_X8_here : mt_ := (yX8_here, cX8_here, 2, (some .int))
def mt_X8_figure : mt_ := (yX8_figure, cX8_figure, 6, (some .boolean))
def mt_X8_kindOf : mt_ := (yX8_kindOf, cX8_kindOf, 1, (some .int))
def mt_X8_readsHead : mt_ := (yX8_readsHead, cX8_readsHead, 4, (some .boolean))
def mt_X8_readsThumb : mt_ := (yX8_readsThumb, cX8_readsThumb, 5, (some .boolean))
def mt_X8_readsPost : mt_ := (yX8_readsPost, cX8_readsPost, 4, (some .boolean))
def mt_X8_goesOn : mt_ := (yX8_goesOn, cX8_goesOn, 3, (some .int))
def mt_X8_fault : mt_ := (yX8_fault, cX8_fault, 3, (some .int))
def mt_X8_office : mt_ := (yX8_office, cX8_office, 4, (some .int))
def mt_X8_isHead : mt_ := (yX8_isHead, cX8_isHead, 2, (some .boolean))
def mt_X8_isThumb : mt_ := (yX8_isThumb, cX8_isThumb, 2, (some .boolean))
def mt_X8_isPost : mt_ := (yX8_isPost, cX8_isPost, 2, (some .boolean))
def mt_X8_isPlace : mt_ := (yX8_isPlace, cX8_isPlace, 1, (some .boolean))
def mt_X8_bump : mt_ := (yX8_bump, cX8_bump, 3, (some .int))
def mt_X8_bumps : mt_ := (yX8_bumps, cX8_bumps, 2, (some .int))
def mt_X8_headOf : mt_ := (yX8_headOf, cX8_headOf, 3, (some .int))
def mt_X8_head : mt_ := (yX8_head, cX8_head, 3, (some .int))
def mt_X8_thumb : mt_ := (yX8_thumb, cX8_thumb, 3, (some .int))
def mt_X8_post : mt_ := (yX8_post, cX8_post, 3, (some .int))
def mt_X8_isA : mt_ := (yX8_isA, cX8_isA, 4, (some .boolean))
def mt_X8_felt : mt_ := (yX8_felt, cX8_felt, 3, (some .int))
def mt_X8_middleOf : mt_ := (yX8_middleOf, cX8_middleOf, 4, (some .int))
def mt_X8_middle : mt_ := (yX8_middle, cX8_middle, 4, (some .int))
def mt_X8_least : mt_ := (yX8_least, cX8_least, 4, (some .int))
def mt_X8_most : mt_ := (yX8_most, cX8_most, 4, (some .int))
def mt_X8_marked : mt_ := (yX8_marked, cX8_marked, 8, (some .int))
def mt_X8_mark : mt_ := (yX8_mark, cX8_mark, 3, (some .int))
def mt_X8_error : mt_ := (yX8_error, cX8_error, 4, (some .int))
def mt_X8_write : mt_ := (yX8_write, cX8_write, 4, none)
def mt_X8_readBack : mt_ := (yX8_readBack, cX8_readBack, 4, none)
def mt_X8_note : mt_ := (yX8_note, cX8_note, 1, none)
def mt_X8_pad : mt_ := (yX8_pad, cX8_pad, 3, (some .int))
def mt_X8_grow : mt_ := (yX8_grow, cX8_grow, 3, (some .int))
def mt_X8_cut : mt_ := (yX8_cut, cX8_cut, 4, (some .int))
def mt_X8_undo : mt_ := (yX8_undo, cX8_undo, 3, (some .int))
def mt_X8_keep : mt_ := (yX8_keep, cX8_keep, 4, (some .int))
def mt_X8_on : mt_ := (yX8_on, cX8_on, 4, (some .int))
def mt_X8_reads : mt_ := (yX8_reads, cX8_reads, 4, (some .int))
def mt_X8_askedReading : mt_ := (yX8_askedReading, cX8_askedReading, 4, (some .int))
def mt_X8_doesFit : mt_ := (yX8_doesFit, cX8_doesFit, 6, (some .boolean))
def mt_X8_fits : mt_ := (yX8_fits, cX8_fits, 5, (some .int))
def mt_X8_headsBy : mt_ := (yX8_headsBy, cX8_headsBy, 5, (some .int))
def mt_X8_whose : mt_ := (yX8_whose, cX8_whose, 6, (some .int))
def mt_X8_who : mt_ := (yX8_who, cX8_who, 6, (some .int))
def mt_X8_spread : mt_ := (yX8_spread, cX8_spread, 4, (some .int))
def mt_X8_weight : mt_ := (yX8_weight, cX8_weight, 7, (some .long))
def mt_X8_odds : mt_ := (yX8_odds, cX8_odds, 8, (some .int))
def mt_X8_areApart : mt_ := (yX8_areApart, cX8_areApart, 5, (some .boolean))
def mt_X8_look : mt_ := (yX8_look, cX8_look, 8, (some .int))
def mt_X8_alike : mt_ := (yX8_alike, cX8_alike, 7, (some .int))
def mt_X8_need : mt_ := (yX8_need, cX8_need, 3, (some .int))
def mt_X8_suitsOf : mt_ := (yX8_suitsOf, cX8_suitsOf, 7, (some .int))
def mt_X8_suits : mt_ := (yX8_suits, cX8_suits, 4, (some .int))
def mt_X8_luck : mt_ := (yX8_luck, cX8_luck, 10, (some .int))
def mt_X8_padsAt : mt_ := (yX8_padsAt, cX8_padsAt, 8, (some .int))
def mt_X8_pads : mt_ := (yX8_pads, cX8_pads, 8, (some .int))
def mt_X8_all : mt_ := (yX8_all, cX8_all, 8, (some .int))
def mt_X8_finds : mt_ := (yX8_finds, cX8_finds, 9, (some .int))
def mt_X8_posts : mt_ := (yX8_posts, cX8_posts, 6, (some .int))
def mt_X8_layMay : mt_ := (yX8_layMay, cX8_layMay, 6, none)
def mt_X8_planOn : mt_ := (yX8_planOn, cX8_planOn, 5, none)
def mt_X8_goPlans : mt_ := (yX8_goPlans, cX8_goPlans, 2, none)
def mt_X8_layPlan : mt_ := (yX8_layPlan, cX8_layPlan, 3, (some .int))
def mt_X8_plan : mt_ := (yX8_plan, cX8_plan, 3, (some .int))
def mt_X8_plans : mt_ := (yX8_plans, cX8_plans, 2, (some .int))
def mt_X8_safest : mt_ := (yX8_safest, cX8_safest, 2, (some .int))
def mt_X8_gain : mt_ := (yX8_gain, cX8_gain, 7, (some .int))
def mt_X8_doesLearn : mt_ := (yX8_doesLearn, cX8_doesLearn, 9, (some .boolean))
def mt_X8_learn : mt_ := (yX8_learn, cX8_learn, 8, (some .int))
def mt_X8_tells : mt_ := (yX8_tells, cX8_tells, 9, (some .int))
def mt_X8_isAlone : mt_ := (yX8_isAlone, cX8_isAlone, 7, (some .boolean))
def mt_X8_lots : mt_ := (yX8_lots, cX8_lots, 10, (some .int))
def mt_X8_asked : mt_ := (yX8_asked, cX8_asked, 1, (some .int))
def mt_X8_upper : mt_ := (yX8_upper, cX8_upper, 1, (some .long))
def mt_X8_lower : mt_ := (yX8_lower, cX8_lower, 1, (some .long))
def mt_X8_tellsOf : mt_ := (yX8_tellsOf, cX8_tellsOf, 5, (some .int))
def mt_X8_count : mt_ := (yX8_count, cX8_count, 2, (some .int))
def mt_X8_finding : mt_ := (yX8_finding, cX8_finding, 1, (some .int))
def mt_X8_findings : mt_ := (yX8_findings, cX8_findings, 2, (some .int))
def mt_X8_mix : mt_ := (yX8_mix, cX8_mix, 2, none)
def mt_X8_mixOffice : mt_ := (yX8_mixOffice, cX8_mixOffice, 3, none)
def mt_X8_digest : mt_ := (yX8_digest, cX8_digest, 3, (some .long))
theorem kk_X5_allows : mk_ mt_X5_allows 1 := ⟨List.mem_of_getElem? (i := 258) (by decide +kernel), List.mem_of_getElem? (i := 62) (by decide +kernel), by decide +kernel, by decide⟩
theorem ki_X5_allows : mi_ mt_X5_allows := ⟨List.mem_of_getElem? (i := 256) (by decide +kernel), List.mem_of_getElem? (i := 257) (by decide +kernel)⟩
theorem kk_X5_renew : mk_ mt_X5_renew 3 := ⟨List.mem_of_getElem? (i := 266) (by decide +kernel), List.mem_of_getElem? (i := 62) (by decide +kernel), by decide +kernel, by decide⟩
theorem ki_X5_renew : mi_ mt_X5_renew := ⟨List.mem_of_getElem? (i := 264) (by decide +kernel), List.mem_of_getElem? (i := 265) (by decide +kernel)⟩
theorem kk_X6_refuse : mk_ mt_X6_refuse 1 := ⟨List.mem_of_getElem? (i := 262) (by decide +kernel), List.mem_of_getElem? (i := 65) (by decide +kernel), by decide +kernel, by decide⟩
theorem ki_X6_refuse : mi_ mt_X6_refuse := ⟨List.mem_of_getElem? (i := 260) (by decide +kernel), List.mem_of_getElem? (i := 261) (by decide +kernel)⟩
theorem kk_X7_row : mk_ mt_X7_row 2 := ⟨List.mem_of_getElem? (i := 254) (by decide +kernel), List.mem_of_getElem? (i := 61) (by decide +kernel), by decide +kernel, by decide⟩
theorem ki_X7_row : mi_ mt_X7_row := ⟨List.mem_of_getElem? (i := 252) (by decide +kernel), List.mem_of_getElem? (i := 253) (by decide +kernel)⟩
theorem kk_X5_lacks : mk_ mt_X5_lacks 1 := ⟨List.mem_of_getElem? (i := 278) (by decide +kernel), List.mem_of_getElem? (i := 62) (by decide +kernel), by decide +kernel, by decide⟩
theorem ki_X5_lacks : mi_ mt_X5_lacks := ⟨List.mem_of_getElem? (i := 276) (by decide +kernel), List.mem_of_getElem? (i := 277) (by decide +kernel)⟩
theorem kk_X5_findingAt : mk_ mt_X5_findingAt 2 := ⟨List.mem_of_getElem? (i := 274) (by decide +kernel), List.mem_of_getElem? (i := 62) (by decide +kernel), by decide +kernel, by decide⟩
theorem ki_X5_findingAt : mi_ mt_X5_findingAt := ⟨List.mem_of_getElem? (i := 272) (by decide +kernel), List.mem_of_getElem? (i := 273) (by decide +kernel)⟩
theorem kk_X6_tell : mk_ mt_X6_tell 1 := ⟨List.mem_of_getElem? (i := 282) (by decide +kernel), List.mem_of_getElem? (i := 65) (by decide +kernel), by decide +kernel, by decide⟩
theorem ki_X6_tell : mi_ mt_X6_tell := ⟨List.mem_of_getElem? (i := 280) (by decide +kernel), List.mem_of_getElem? (i := 281) (by decide +kernel)⟩
theorem kk_X7_lay : mk_ mt_X7_lay 3 := ⟨List.mem_of_getElem? (i := 270) (by decide +kernel), List.mem_of_getElem? (i := 61) (by decide +kernel), by decide +kernel, by decide⟩
theorem ki_X7_lay : mi_ mt_X7_lay := ⟨List.mem_of_getElem? (i := 268) (by decide +kernel), List.mem_of_getElem? (i := 269) (by decide +kernel)⟩
theorem kk_X7_at : mk_ mt_X7_at 2 := ⟨List.mem_of_getElem? (i := 286) (by decide +kernel), List.mem_of_getElem? (i := 61) (by decide +kernel), by decide +kernel, by decide⟩
theorem ki_X7_at : mi_ mt_X7_at := ⟨List.mem_of_getElem? (i := 284) (by decide +kernel), List.mem_of_getElem? (i := 285) (by decide +kernel)⟩
theorem kk_X7_tear : mk_ mt_X7_tear 1 := ⟨List.mem_of_getElem? (i := 290) (by decide +kernel), List.mem_of_getElem? (i := 61) (by decide +kernel), by decide +kernel, by decide⟩
theorem ki_X7_tear : mi_ mt_X7_tear := ⟨List.mem_of_getElem? (i := 288) (by decide +kernel), List.mem_of_getElem? (i := 289) (by decide +kernel)⟩
theorem kk_X5_spans : mk_ mt_X5_spans 3 := ⟨List.mem_of_getElem? (i := 299) (by decide +kernel), List.mem_of_getElem? (i := 62) (by decide +kernel), by decide +kernel, by decide⟩
theorem ki_X5_spans : mi_ mt_X5_spans := ⟨List.mem_of_getElem? (i := 297) (by decide +kernel), List.mem_of_getElem? (i := 298) (by decide +kernel)⟩
theorem kk_X7_copy : mk_ mt_X7_copy 5 := ⟨List.mem_of_getElem? (i := 295) (by decide +kernel), List.mem_of_getElem? (i := 61) (by decide +kernel), by decide +kernel, by decide⟩
theorem ki_X7_copy : mi_ mt_X7_copy := ⟨List.mem_of_getElem? (i := 293) (by decide +kernel), List.mem_of_getElem? (i := 294) (by decide +kernel)⟩
theorem kk_X5_sum : mk_ mt_X5_sum 1 := ⟨List.mem_of_getElem? (i := 310) (by decide +kernel), List.mem_of_getElem? (i := 62) (by decide +kernel), by decide +kernel, by decide⟩
theorem ki_X5_sum : mi_ mt_X5_sum := ⟨List.mem_of_getElem? (i := 308) (by decide +kernel), List.mem_of_getElem? (i := 309) (by decide +kernel)⟩
theorem kk_X7_mean : mk_ mt_X7_mean 1 := ⟨List.mem_of_getElem? (i := 306) (by decide +kernel), List.mem_of_getElem? (i := 61) (by decide +kernel), by decide +kernel, by decide⟩
theorem ki_X7_mean : mi_ mt_X7_mean := ⟨List.mem_of_getElem? (i := 304) (by decide +kernel), List.mem_of_getElem? (i := 305) (by decide +kernel)⟩
theorem kk_X7_text : mk_ mt_X7_text 2 := ⟨List.mem_of_getElem? (i := 314) (by decide +kernel), List.mem_of_getElem? (i := 61) (by decide +kernel), by decide +kernel, by decide⟩
theorem ki_X7_text : mi_ mt_X7_text := ⟨List.mem_of_getElem? (i := 312) (by decide +kernel), List.mem_of_getElem? (i := 313) (by decide +kernel)⟩
theorem kk_X7_put : mk_ mt_X7_put 3 := ⟨List.mem_of_getElem? (i := 318) (by decide +kernel), List.mem_of_getElem? (i := 61) (by decide +kernel), by decide +kernel, by decide⟩
theorem ki_X7_put : mi_ mt_X7_put := ⟨List.mem_of_getElem? (i := 316) (by decide +kernel), List.mem_of_getElem? (i := 317) (by decide +kernel)⟩
theorem kk_X4_kindBy : mk_ mt_X4_kindBy 1 := ⟨List.mem_of_getElem? (i := 347) (by decide +kernel), List.mem_of_getElem? (i := 63) (by decide +kernel), by decide +kernel, by decide⟩
theorem ks_X4_kindBy : Cond.static mt_X4_kindBy.1 ∈ lw_tbl := List.mem_of_getElem? (i := 346) (by decide +kernel)
theorem kk_X4_opensItem : mk_ mt_X4_opensItem 1 := ⟨List.mem_of_getElem? (i := 344) (by decide +kernel), List.mem_of_getElem? (i := 63) (by decide +kernel), by decide +kernel, by decide⟩
theorem ki_X4_opensItem : mi_ mt_X4_opensItem := ⟨List.mem_of_getElem? (i := 343) (by decide +kernel), List.mem_of_getElem? (i := 2) (by decide +kernel)⟩
theorem kk_X4_takesFigure : mk_ mt_X4_takesFigure 1 := ⟨List.mem_of_getElem? (i := 334) (by decide +kernel), List.mem_of_getElem? (i := 63) (by decide +kernel), by decide +kernel, by decide⟩
theorem ki_X4_takesFigure : mi_ mt_X4_takesFigure := ⟨List.mem_of_getElem? (i := 333) (by decide +kernel), List.mem_of_getElem? (i := 1) (by decide +kernel)⟩
theorem kk_X4_goesOn : mk_ mt_X4_goesOn 1 := ⟨List.mem_of_getElem? (i := 330) (by decide +kernel), List.mem_of_getElem? (i := 63) (by decide +kernel), by decide +kernel, by decide⟩
theorem ki_X4_goesOn : mi_ mt_X4_goesOn := ⟨List.mem_of_getElem? (i := 329) (by decide +kernel), List.mem_of_getElem? (i := 0) (by decide +kernel)⟩
theorem kk_X4_into : mk_ mt_X4_into 3 := ⟨List.mem_of_getElem? (i := 326) (by decide +kernel), List.mem_of_getElem? (i := 63) (by decide +kernel), by decide +kernel, by decide⟩
theorem ki_X4_into : mi_ mt_X4_into := ⟨List.mem_of_getElem? (i := 324) (by decide +kernel), List.mem_of_getElem? (i := 325) (by decide +kernel)⟩
theorem kk_X7_fault : mk_ mt_X7_fault 1 := ⟨List.mem_of_getElem? (i := 322) (by decide +kernel), List.mem_of_getElem? (i := 61) (by decide +kernel), by decide +kernel, by decide⟩
theorem ki_X7_fault : mi_ mt_X7_fault := ⟨List.mem_of_getElem? (i := 320) (by decide +kernel), List.mem_of_getElem? (i := 321) (by decide +kernel)⟩
theorem kk_X2_repeat : mk_ mt_X2_repeat 1 := ⟨List.mem_of_getElem? (i := 364) (by decide +kernel), List.mem_of_getElem? (i := 66) (by decide +kernel), by decide +kernel, by decide⟩
theorem ki_X2_repeat : mi_ mt_X2_repeat := ⟨List.mem_of_getElem? (i := 363) (by decide +kernel), List.mem_of_getElem? (i := 3) (by decide +kernel)⟩
theorem kk_X2_goBack : mk_ mt_X2_goBack 1 := ⟨List.mem_of_getElem? (i := 359) (by decide +kernel), List.mem_of_getElem? (i := 66) (by decide +kernel), by decide +kernel, by decide⟩
theorem ki_X2_goBack : mi_ mt_X2_goBack := ⟨List.mem_of_getElem? (i := 357) (by decide +kernel), List.mem_of_getElem? (i := 358) (by decide +kernel)⟩
theorem kk_X7_office : mk_ mt_X7_office 1 := ⟨List.mem_of_getElem? (i := 355) (by decide +kernel), List.mem_of_getElem? (i := 61) (by decide +kernel), by decide +kernel, by decide⟩
theorem ki_X7_office : mi_ mt_X7_office := ⟨List.mem_of_getElem? (i := 353) (by decide +kernel), List.mem_of_getElem? (i := 354) (by decide +kernel)⟩
theorem kk_X2_has : mk_ mt_X2_has 2 := ⟨List.mem_of_getElem? (i := 375) (by decide +kernel), List.mem_of_getElem? (i := 66) (by decide +kernel), by decide +kernel, by decide⟩
theorem ki_X2_has : mi_ mt_X2_has := ⟨List.mem_of_getElem? (i := 373) (by decide +kernel), List.mem_of_getElem? (i := 374) (by decide +kernel)⟩
theorem kk_X2_together : mk_ mt_X2_together 1 := ⟨List.mem_of_getElem? (i := 383) (by decide +kernel), List.mem_of_getElem? (i := 66) (by decide +kernel), by decide +kernel, by decide⟩
theorem ki_X2_together : mi_ mt_X2_together := ⟨List.mem_of_getElem? (i := 381) (by decide +kernel), List.mem_of_getElem? (i := 382) (by decide +kernel)⟩
theorem kk_X2_ofHead : mk_ mt_X2_ofHead 2 := ⟨List.mem_of_getElem? (i := 379) (by decide +kernel), List.mem_of_getElem? (i := 66) (by decide +kernel), by decide +kernel, by decide⟩
theorem ki_X2_ofHead : mi_ mt_X2_ofHead := ⟨List.mem_of_getElem? (i := 377) (by decide +kernel), List.mem_of_getElem? (i := 378) (by decide +kernel)⟩
theorem kk_X7_head : mk_ mt_X7_head 2 := ⟨List.mem_of_getElem? (i := 371) (by decide +kernel), List.mem_of_getElem? (i := 61) (by decide +kernel), by decide +kernel, by decide⟩
theorem ki_X7_head : mi_ mt_X7_head := ⟨List.mem_of_getElem? (i := 369) (by decide +kernel), List.mem_of_getElem? (i := 370) (by decide +kernel)⟩
theorem kk_X7_thumb : mk_ mt_X7_thumb 2 := ⟨List.mem_of_getElem? (i := 387) (by decide +kernel), List.mem_of_getElem? (i := 61) (by decide +kernel), by decide +kernel, by decide⟩
theorem ki_X7_thumb : mi_ mt_X7_thumb := ⟨List.mem_of_getElem? (i := 385) (by decide +kernel), List.mem_of_getElem? (i := 386) (by decide +kernel)⟩
theorem kk_X7_post : mk_ mt_X7_post 2 := ⟨List.mem_of_getElem? (i := 391) (by decide +kernel), List.mem_of_getElem? (i := 61) (by decide +kernel), by decide +kernel, by decide⟩
theorem ki_X7_post : mi_ mt_X7_post := ⟨List.mem_of_getElem? (i := 389) (by decide +kernel), List.mem_of_getElem? (i := 390) (by decide +kernel)⟩
theorem kk_X2_isOf : mk_ mt_X2_isOf 2 := ⟨List.mem_of_getElem? (i := 399) (by decide +kernel), List.mem_of_getElem? (i := 66) (by decide +kernel), by decide +kernel, by decide⟩
theorem ki_X2_isOf : mi_ mt_X2_isOf := ⟨List.mem_of_getElem? (i := 397) (by decide +kernel), List.mem_of_getElem? (i := 398) (by decide +kernel)⟩
theorem kk_X2_felt : mk_ mt_X2_felt 3 := ⟨List.mem_of_getElem? (i := 408) (by decide +kernel), List.mem_of_getElem? (i := 66) (by decide +kernel), by decide +kernel, by decide⟩
theorem ki_X2_felt : mi_ mt_X2_felt := ⟨List.mem_of_getElem? (i := 406) (by decide +kernel), List.mem_of_getElem? (i := 407) (by decide +kernel)⟩
theorem kk_X2_middle : mk_ mt_X2_middle 3 := ⟨List.mem_of_getElem? (i := 423) (by decide +kernel), List.mem_of_getElem? (i := 66) (by decide +kernel), by decide +kernel, by decide⟩
theorem ks_X2_middle : Cond.static mt_X2_middle.1 ∈ lw_tbl := List.mem_of_getElem? (i := 422) (by decide +kernel)
theorem kk_X2_middleBy : mk_ mt_X2_middleBy 4 := ⟨List.mem_of_getElem? (i := 419) (by decide +kernel), List.mem_of_getElem? (i := 66) (by decide +kernel), by decide +kernel, by decide⟩
theorem ki_X2_middleBy : mi_ mt_X2_middleBy := ⟨List.mem_of_getElem? (i := 417) (by decide +kernel), List.mem_of_getElem? (i := 418) (by decide +kernel)⟩
theorem kk_X1_dull : mk_ mt_X1_dull 2 := ⟨List.mem_of_getElem? (i := 449) (by decide +kernel), List.mem_of_getElem? (i := 71) (by decide +kernel), by decide +kernel, by decide⟩
theorem ks_X1_dull : Cond.static mt_X1_dull.1 ∈ lw_tbl := List.mem_of_getElem? (i := 448) (by decide +kernel)
theorem kk_X2_least : mk_ mt_X2_least 4 := ⟨List.mem_of_getElem? (i := 442) (by decide +kernel), List.mem_of_getElem? (i := 66) (by decide +kernel), by decide +kernel, by decide⟩
theorem ki_X2_least : mi_ mt_X2_least := ⟨List.mem_of_getElem? (i := 440) (by decide +kernel), List.mem_of_getElem? (i := 441) (by decide +kernel)⟩
theorem kk_X1_clerk : mk_ mt_X1_clerk 2 := ⟨List.mem_of_getElem? (i := 446) (by decide +kernel), List.mem_of_getElem? (i := 71) (by decide +kernel), by decide +kernel, by decide⟩
theorem ks_X1_clerk : Cond.static mt_X1_clerk.1 ∈ lw_tbl := List.mem_of_getElem? (i := 445) (by decide +kernel)
theorem kk_X1_hasItsWish : mk_ mt_X1_hasItsWish 3 := ⟨List.mem_of_getElem? (i := 438) (by decide +kernel), List.mem_of_getElem? (i := 71) (by decide +kernel), by decide +kernel, by decide⟩
theorem ks_X1_hasItsWish : Cond.static mt_X1_hasItsWish.1 ∈ lw_tbl := List.mem_of_getElem? (i := 437) (by decide +kernel)
theorem kk_X1_wishing : mk_ mt_X1_wishing 2 := ⟨List.mem_of_getElem? (i := 435) (by decide +kernel), List.mem_of_getElem? (i := 71) (by decide +kernel), by decide +kernel, by decide⟩
theorem ks_X1_wishing : Cond.static mt_X1_wishing.1 ∈ lw_tbl := List.mem_of_getElem? (i := 434) (by decide +kernel)
theorem kk_X2_most : mk_ mt_X2_most 4 := ⟨List.mem_of_getElem? (i := 415) (by decide +kernel), List.mem_of_getElem? (i := 66) (by decide +kernel), by decide +kernel, by decide⟩
theorem ki_X2_most : mi_ mt_X2_most := ⟨List.mem_of_getElem? (i := 413) (by decide +kernel), List.mem_of_getElem? (i := 414) (by decide +kernel)⟩
theorem kk_X1_light : mk_ mt_X1_light 2 := ⟨List.mem_of_getElem? (i := 411) (by decide +kernel), List.mem_of_getElem? (i := 71) (by decide +kernel), by decide +kernel, by decide⟩
theorem ks_X1_light : Cond.static mt_X1_light.1 ∈ lw_tbl := List.mem_of_getElem? (i := 410) (by decide +kernel)
theorem kk_X1_heavy : mk_ mt_X1_heavy 1 := ⟨List.mem_of_getElem? (i := 404) (by decide +kernel), List.mem_of_getElem? (i := 71) (by decide +kernel), by decide +kernel, by decide⟩
theorem ks_X1_heavy : Cond.static mt_X1_heavy.1 ∈ lw_tbl := List.mem_of_getElem? (i := 403) (by decide +kernel)
theorem kk_X7_mark : mk_ mt_X7_mark 2 := ⟨List.mem_of_getElem? (i := 395) (by decide +kernel), List.mem_of_getElem? (i := 61) (by decide +kernel), by decide +kernel, by decide⟩
theorem ki_X7_mark : mi_ mt_X7_mark := ⟨List.mem_of_getElem? (i := 393) (by decide +kernel), List.mem_of_getElem? (i := 394) (by decide +kernel)⟩
theorem kk_X7_error : mk_ mt_X7_error 2 := ⟨List.mem_of_getElem? (i := 454) (by decide +kernel), List.mem_of_getElem? (i := 61) (by decide +kernel), by decide +kernel, by decide⟩
theorem ki_X7_error : mi_ mt_X7_error := ⟨List.mem_of_getElem? (i := 452) (by decide +kernel), List.mem_of_getElem? (i := 453) (by decide +kernel)⟩
theorem kk_X7_isPlace : mk_ mt_X7_isPlace 1 := ⟨List.mem_of_getElem? (i := 461) (by decide +kernel), List.mem_of_getElem? (i := 61) (by decide +kernel), by decide +kernel, by decide⟩
theorem ks_X7_isPlace : Cond.static mt_X7_isPlace.1 ∈ lw_tbl := List.mem_of_getElem? (i := 460) (by decide +kernel)
theorem kk_X2_act : mk_ mt_X2_act 2 := ⟨List.mem_of_getElem? (i := 465) (by decide +kernel), List.mem_of_getElem? (i := 66) (by decide +kernel), by decide +kernel, by decide⟩
theorem ki_X2_act : mi_ mt_X2_act := ⟨List.mem_of_getElem? (i := 463) (by decide +kernel), List.mem_of_getElem? (i := 464) (by decide +kernel)⟩
theorem kk_X7_pad : mk_ mt_X7_pad 2 := ⟨List.mem_of_getElem? (i := 458) (by decide +kernel), List.mem_of_getElem? (i := 61) (by decide +kernel), by decide +kernel, by decide⟩
theorem ki_X7_pad : mi_ mt_X7_pad := ⟨List.mem_of_getElem? (i := 456) (by decide +kernel), List.mem_of_getElem? (i := 457) (by decide +kernel)⟩
theorem kk_X7_grow : mk_ mt_X7_grow 1 := ⟨List.mem_of_getElem? (i := 469) (by decide +kernel), List.mem_of_getElem? (i := 61) (by decide +kernel), by decide +kernel, by decide⟩
theorem ki_X7_grow : mi_ mt_X7_grow := ⟨List.mem_of_getElem? (i := 467) (by decide +kernel), List.mem_of_getElem? (i := 468) (by decide +kernel)⟩
theorem kk_X7_cut : mk_ mt_X7_cut 2 := ⟨List.mem_of_getElem? (i := 474) (by decide +kernel), List.mem_of_getElem? (i := 61) (by decide +kernel), by decide +kernel, by decide⟩
theorem ki_X7_cut : mi_ mt_X7_cut := ⟨List.mem_of_getElem? (i := 472) (by decide +kernel), List.mem_of_getElem? (i := 473) (by decide +kernel)⟩
theorem kk_X7_undo : mk_ mt_X7_undo 1 := ⟨List.mem_of_getElem? (i := 478) (by decide +kernel), List.mem_of_getElem? (i := 61) (by decide +kernel), by decide +kernel, by decide⟩
theorem ki_X7_undo : mi_ mt_X7_undo := ⟨List.mem_of_getElem? (i := 476) (by decide +kernel), List.mem_of_getElem? (i := 477) (by decide +kernel)⟩
theorem kk_X7_isKeptPlace : mk_ mt_X7_isKeptPlace 1 := ⟨List.mem_of_getElem? (i := 485) (by decide +kernel), List.mem_of_getElem? (i := 61) (by decide +kernel), by decide +kernel, by decide⟩
theorem ks_X7_isKeptPlace : Cond.static mt_X7_isKeptPlace.1 ∈ lw_tbl := List.mem_of_getElem? (i := 484) (by decide +kernel)
theorem kk_X0_take : mk_ mt_X0_take 1 := ⟨List.mem_of_getElem? (i := 489) (by decide +kernel), List.mem_of_getElem? (i := 67) (by decide +kernel), by decide +kernel, by decide⟩
theorem ki_X0_take : mi_ mt_X0_take := ⟨List.mem_of_getElem? (i := 487) (by decide +kernel), List.mem_of_getElem? (i := 488) (by decide +kernel)⟩
theorem kk_X7_keep : mk_ mt_X7_keep 1 := ⟨List.mem_of_getElem? (i := 482) (by decide +kernel), List.mem_of_getElem? (i := 61) (by decide +kernel), by decide +kernel, by decide⟩
theorem ki_X7_keep : mi_ mt_X7_keep := ⟨List.mem_of_getElem? (i := 480) (by decide +kernel), List.mem_of_getElem? (i := 481) (by decide +kernel)⟩
theorem kk_X0_giveTo : mk_ mt_X0_giveTo 1 := ⟨List.mem_of_getElem? (i := 498) (by decide +kernel), List.mem_of_getElem? (i := 67) (by decide +kernel), by decide +kernel, by decide⟩
theorem ki_X0_giveTo : mi_ mt_X0_giveTo := ⟨List.mem_of_getElem? (i := 496) (by decide +kernel), List.mem_of_getElem? (i := 497) (by decide +kernel)⟩
theorem kk_X7_on : mk_ mt_X7_on 1 := ⟨List.mem_of_getElem? (i := 494) (by decide +kernel), List.mem_of_getElem? (i := 61) (by decide +kernel), by decide +kernel, by decide⟩
theorem ki_X7_on : mi_ mt_X7_on := ⟨List.mem_of_getElem? (i := 492) (by decide +kernel), List.mem_of_getElem? (i := 493) (by decide +kernel)⟩
theorem kk_X7_reads : mk_ mt_X7_reads 3 := ⟨List.mem_of_getElem? (i := 503) (by decide +kernel), List.mem_of_getElem? (i := 61) (by decide +kernel), by decide +kernel, by decide⟩
theorem ki_X7_reads : mi_ mt_X7_reads := ⟨List.mem_of_getElem? (i := 501) (by decide +kernel), List.mem_of_getElem? (i := 502) (by decide +kernel)⟩
theorem kk_X7_findingOfReading : mk_ mt_X7_findingOfReading 1 := ⟨List.mem_of_getElem? (i := 513) (by decide +kernel), List.mem_of_getElem? (i := 61) (by decide +kernel), by decide +kernel, by decide⟩
theorem ki_X7_findingOfReading : mi_ mt_X7_findingOfReading := ⟨List.mem_of_getElem? (i := 512) (by decide +kernel), List.mem_of_getElem? (i := 4) (by decide +kernel)⟩
theorem kk_X2_canRead : mk_ mt_X2_canRead 3 := ⟨List.mem_of_getElem? (i := 517) (by decide +kernel), List.mem_of_getElem? (i := 66) (by decide +kernel), by decide +kernel, by decide⟩
theorem ki_X2_canRead : mi_ mt_X2_canRead := ⟨List.mem_of_getElem? (i := 515) (by decide +kernel), List.mem_of_getElem? (i := 516) (by decide +kernel)⟩
theorem kk_X7_fits : mk_ mt_X7_fits 3 := ⟨List.mem_of_getElem? (i := 509) (by decide +kernel), List.mem_of_getElem? (i := 61) (by decide +kernel), by decide +kernel, by decide⟩
theorem ki_X7_fits : mi_ mt_X7_fits := ⟨List.mem_of_getElem? (i := 507) (by decide +kernel), List.mem_of_getElem? (i := 508) (by decide +kernel)⟩
theorem kk_X2_headsThatFit : mk_ mt_X2_headsThatFit 2 := ⟨List.mem_of_getElem? (i := 527) (by decide +kernel), List.mem_of_getElem? (i := 66) (by decide +kernel), by decide +kernel, by decide⟩
theorem ki_X2_headsThatFit : mi_ mt_X2_headsThatFit := ⟨List.mem_of_getElem? (i := 525) (by decide +kernel), List.mem_of_getElem? (i := 526) (by decide +kernel)⟩
theorem kk_X7_whose : mk_ mt_X7_whose 2 := ⟨List.mem_of_getElem? (i := 523) (by decide +kernel), List.mem_of_getElem? (i := 61) (by decide +kernel), by decide +kernel, by decide⟩
theorem ki_X7_whose : mi_ mt_X7_whose := ⟨List.mem_of_getElem? (i := 521) (by decide +kernel), List.mem_of_getElem? (i := 522) (by decide +kernel)⟩
theorem kk_X7_who : mk_ mt_X7_who 2 := ⟨List.mem_of_getElem? (i := 532) (by decide +kernel), List.mem_of_getElem? (i := 61) (by decide +kernel), by decide +kernel, by decide⟩
theorem ki_X7_who : mi_ mt_X7_who := ⟨List.mem_of_getElem? (i := 530) (by decide +kernel), List.mem_of_getElem? (i := 531) (by decide +kernel)⟩
theorem kk_X2_ways : mk_ mt_X2_ways 3 := ⟨List.mem_of_getElem? (i := 544) (by decide +kernel), List.mem_of_getElem? (i := 66) (by decide +kernel), by decide +kernel, by decide⟩
theorem ki_X2_ways : mi_ mt_X2_ways := ⟨List.mem_of_getElem? (i := 542) (by decide +kernel), List.mem_of_getElem? (i := 543) (by decide +kernel)⟩
theorem kk_X2_weight : mk_ mt_X2_weight 3 := ⟨List.mem_of_getElem? (i := 540) (by decide +kernel), List.mem_of_getElem? (i := 66) (by decide +kernel), by decide +kernel, by decide⟩
theorem ki_X2_weight : mi_ mt_X2_weight := ⟨List.mem_of_getElem? (i := 538) (by decide +kernel), List.mem_of_getElem? (i := 539) (by decide +kernel)⟩
theorem kk_X6_commonDivisor : mk_ mt_X6_commonDivisor 2 := ⟨List.mem_of_getElem? (i := 551) (by decide +kernel), List.mem_of_getElem? (i := 65) (by decide +kernel), by decide +kernel, by decide⟩
theorem ks_X6_commonDivisor : Cond.static mt_X6_commonDivisor.1 ∈ lw_tbl := List.mem_of_getElem? (i := 550) (by decide +kernel)
theorem kk_X6_tellFraction : mk_ mt_X6_tellFraction 2 := ⟨List.mem_of_getElem? (i := 548) (by decide +kernel), List.mem_of_getElem? (i := 65) (by decide +kernel), by decide +kernel, by decide⟩
theorem ki_X6_tellFraction : mi_ mt_X6_tellFraction := ⟨List.mem_of_getElem? (i := 546) (by decide +kernel), List.mem_of_getElem? (i := 547) (by decide +kernel)⟩
theorem kk_X7_odds : mk_ mt_X7_odds 3 := ⟨List.mem_of_getElem? (i := 536) (by decide +kernel), List.mem_of_getElem? (i := 61) (by decide +kernel), by decide +kernel, by decide⟩
theorem ki_X7_odds : mi_ mt_X7_odds := ⟨List.mem_of_getElem? (i := 534) (by decide +kernel), List.mem_of_getElem? (i := 535) (by decide +kernel)⟩
theorem kk_X2_isApart : mk_ mt_X2_isApart 4 := ⟨List.mem_of_getElem? (i := 563) (by decide +kernel), List.mem_of_getElem? (i := 66) (by decide +kernel), by decide +kernel, by decide⟩
theorem ki_X2_isApart : mi_ mt_X2_isApart := ⟨List.mem_of_getElem? (i := 562) (by decide +kernel), List.mem_of_getElem? (i := 5) (by decide +kernel)⟩
theorem kk_X2_pairsApart : mk_ mt_X2_pairsApart 2 := ⟨List.mem_of_getElem? (i := 559) (by decide +kernel), List.mem_of_getElem? (i := 66) (by decide +kernel), by decide +kernel, by decide⟩
theorem ki_X2_pairsApart : mi_ mt_X2_pairsApart := ⟨List.mem_of_getElem? (i := 557) (by decide +kernel), List.mem_of_getElem? (i := 558) (by decide +kernel)⟩
theorem kk_X7_look : mk_ mt_X7_look 1 := ⟨List.mem_of_getElem? (i := 555) (by decide +kernel), List.mem_of_getElem? (i := 61) (by decide +kernel), by decide +kernel, by decide⟩
theorem ki_X7_look : mi_ mt_X7_look := ⟨List.mem_of_getElem? (i := 553) (by decide +kernel), List.mem_of_getElem? (i := 554) (by decide +kernel)⟩
theorem kk_X2_maySeem : mk_ mt_X2_maySeem 3 := ⟨List.mem_of_getElem? (i := 571) (by decide +kernel), List.mem_of_getElem? (i := 66) (by decide +kernel), by decide +kernel, by decide⟩
theorem ki_X2_maySeem : mi_ mt_X2_maySeem := ⟨List.mem_of_getElem? (i := 569) (by decide +kernel), List.mem_of_getElem? (i := 570) (by decide +kernel)⟩
theorem kk_X7_alike : mk_ mt_X7_alike 2 := ⟨List.mem_of_getElem? (i := 567) (by decide +kernel), List.mem_of_getElem? (i := 61) (by decide +kernel), by decide +kernel, by decide⟩
theorem ki_X7_alike : mi_ mt_X7_alike := ⟨List.mem_of_getElem? (i := 565) (by decide +kernel), List.mem_of_getElem? (i := 566) (by decide +kernel)⟩
theorem kk_X2_isSure : mk_ mt_X2_isSure 4 := ⟨List.mem_of_getElem? (i := 579) (by decide +kernel), List.mem_of_getElem? (i := 66) (by decide +kernel), by decide +kernel, by decide⟩
theorem ki_X2_isSure : mi_ mt_X2_isSure := ⟨List.mem_of_getElem? (i := 577) (by decide +kernel), List.mem_of_getElem? (i := 578) (by decide +kernel)⟩
theorem kk_X2_isLucky : mk_ mt_X2_isLucky 3 := ⟨List.mem_of_getElem? (i := 583) (by decide +kernel), List.mem_of_getElem? (i := 66) (by decide +kernel), by decide +kernel, by decide⟩
theorem ki_X2_isLucky : mi_ mt_X2_isLucky := ⟨List.mem_of_getElem? (i := 581) (by decide +kernel), List.mem_of_getElem? (i := 582) (by decide +kernel)⟩
theorem kk_X7_suits : mk_ mt_X7_suits 3 := ⟨List.mem_of_getElem? (i := 575) (by decide +kernel), List.mem_of_getElem? (i := 61) (by decide +kernel), by decide +kernel, by decide⟩
theorem ki_X7_suits : mi_ mt_X7_suits := ⟨List.mem_of_getElem? (i := 573) (by decide +kernel), List.mem_of_getElem? (i := 574) (by decide +kernel)⟩
theorem kk_X7_luck : mk_ mt_X7_luck 3 := ⟨List.mem_of_getElem? (i := 587) (by decide +kernel), List.mem_of_getElem? (i := 61) (by decide +kernel), by decide +kernel, by decide⟩
theorem ki_X7_luck : mi_ mt_X7_luck := ⟨List.mem_of_getElem? (i := 585) (by decide +kernel), List.mem_of_getElem? (i := 586) (by decide +kernel)⟩
theorem kk_X2_fewestPads : mk_ mt_X2_fewestPads 4 := ⟨List.mem_of_getElem? (i := 597) (by decide +kernel), List.mem_of_getElem? (i := 66) (by decide +kernel), by decide +kernel, by decide⟩
theorem ki_X2_fewestPads : mi_ mt_X2_fewestPads := ⟨List.mem_of_getElem? (i := 595) (by decide +kernel), List.mem_of_getElem? (i := 596) (by decide +kernel)⟩
theorem kk_X7_pads : mk_ mt_X7_pads 4 := ⟨List.mem_of_getElem? (i := 593) (by decide +kernel), List.mem_of_getElem? (i := 61) (by decide +kernel), by decide +kernel, by decide⟩
theorem ki_X7_pads : mi_ mt_X7_pads := ⟨List.mem_of_getElem? (i := 591) (by decide +kernel), List.mem_of_getElem? (i := 592) (by decide +kernel)⟩
theorem kk_X7_all : mk_ mt_X7_all 2 := ⟨List.mem_of_getElem? (i := 601) (by decide +kernel), List.mem_of_getElem? (i := 61) (by decide +kernel), by decide +kernel, by decide⟩
theorem ki_X7_all : mi_ mt_X7_all := ⟨List.mem_of_getElem? (i := 599) (by decide +kernel), List.mem_of_getElem? (i := 600) (by decide +kernel)⟩
theorem kk_X7_finds : mk_ mt_X7_finds 3 := ⟨List.mem_of_getElem? (i := 605) (by decide +kernel), List.mem_of_getElem? (i := 61) (by decide +kernel), by decide +kernel, by decide⟩
theorem ki_X7_finds : mi_ mt_X7_finds := ⟨List.mem_of_getElem? (i := 603) (by decide +kernel), List.mem_of_getElem? (i := 604) (by decide +kernel)⟩
theorem kk_X2_surePosts : mk_ mt_X2_surePosts 3 := ⟨List.mem_of_getElem? (i := 613) (by decide +kernel), List.mem_of_getElem? (i := 66) (by decide +kernel), by decide +kernel, by decide⟩
theorem ki_X2_surePosts : mi_ mt_X2_surePosts := ⟨List.mem_of_getElem? (i := 611) (by decide +kernel), List.mem_of_getElem? (i := 612) (by decide +kernel)⟩
theorem kk_X7_posts : mk_ mt_X7_posts 2 := ⟨List.mem_of_getElem? (i := 609) (by decide +kernel), List.mem_of_getElem? (i := 61) (by decide +kernel), by decide +kernel, by decide⟩
theorem ki_X7_posts : mi_ mt_X7_posts := ⟨List.mem_of_getElem? (i := 607) (by decide +kernel), List.mem_of_getElem? (i := 608) (by decide +kernel)⟩
theorem kk_X3_openByOne : mk_ mt_X3_openByOne 2 := ⟨List.mem_of_getElem? (i := 622) (by decide +kernel), List.mem_of_getElem? (i := 64) (by decide +kernel), by decide +kernel, by decide⟩
theorem ki_X3_openByOne : mi_ mt_X3_openByOne := ⟨List.mem_of_getElem? (i := 620) (by decide +kernel), List.mem_of_getElem? (i := 621) (by decide +kernel)⟩
theorem kk_X3_isFree : mk_ mt_X3_isFree 3 := ⟨List.mem_of_getElem? (i := 635) (by decide +kernel), List.mem_of_getElem? (i := 64) (by decide +kernel), by decide +kernel, by decide⟩
theorem ki_X3_isFree : mi_ mt_X3_isFree := ⟨List.mem_of_getElem? (i := 634) (by decide +kernel), List.mem_of_getElem? (i := 7) (by decide +kernel)⟩
theorem kk_X3_payBy : mk_ mt_X3_payBy 4 := ⟨List.mem_of_getElem? (i := 639) (by decide +kernel), List.mem_of_getElem? (i := 64) (by decide +kernel), by decide +kernel, by decide⟩
theorem ki_X3_payBy : mi_ mt_X3_payBy := ⟨List.mem_of_getElem? (i := 638) (by decide +kernel), List.mem_of_getElem? (i := 8) (by decide +kernel)⟩
theorem kk_X3_reckonFrom : mk_ mt_X3_reckonFrom 3 := ⟨List.mem_of_getElem? (i := 631) (by decide +kernel), List.mem_of_getElem? (i := 64) (by decide +kernel), by decide +kernel, by decide⟩
theorem ki_X3_reckonFrom : mi_ mt_X3_reckonFrom := ⟨List.mem_of_getElem? (i := 630) (by decide +kernel), List.mem_of_getElem? (i := 6) (by decide +kernel)⟩
theorem kk_X3_reckon : mk_ mt_X3_reckon 1 := ⟨List.mem_of_getElem? (i := 627) (by decide +kernel), List.mem_of_getElem? (i := 64) (by decide +kernel), by decide +kernel, by decide⟩
theorem ki_X3_reckon : mi_ mt_X3_reckon := ⟨List.mem_of_getElem? (i := 625) (by decide +kernel), List.mem_of_getElem? (i := 626) (by decide +kernel)⟩
theorem kk_X3_bestPay : mk_ mt_X3_bestPay 0 := ⟨List.mem_of_getElem? (i := 652) (by decide +kernel), List.mem_of_getElem? (i := 64) (by decide +kernel), by decide +kernel, by decide⟩
theorem ki_X3_bestPay : mi_ mt_X3_bestPay := ⟨List.mem_of_getElem? (i := 650) (by decide +kernel), List.mem_of_getElem? (i := 651) (by decide +kernel)⟩
theorem kk_X3_bestPost : mk_ mt_X3_bestPost 3 := ⟨List.mem_of_getElem? (i := 648) (by decide +kernel), List.mem_of_getElem? (i := 64) (by decide +kernel), by decide +kernel, by decide⟩
theorem ki_X3_bestPost : mi_ mt_X3_bestPost := ⟨List.mem_of_getElem? (i := 646) (by decide +kernel), List.mem_of_getElem? (i := 647) (by decide +kernel)⟩
theorem kk_X7_layBestPlan : mk_ mt_X7_layBestPlan 1 := ⟨List.mem_of_getElem? (i := 644) (by decide +kernel), List.mem_of_getElem? (i := 61) (by decide +kernel), by decide +kernel, by decide⟩
theorem ki_X7_layBestPlan : mi_ mt_X7_layBestPlan := ⟨List.mem_of_getElem? (i := 643) (by decide +kernel), List.mem_of_getElem? (i := 9) (by decide +kernel)⟩
theorem kk_X7_plan : mk_ mt_X7_plan 2 := ⟨List.mem_of_getElem? (i := 618) (by decide +kernel), List.mem_of_getElem? (i := 61) (by decide +kernel), by decide +kernel, by decide⟩
theorem ki_X7_plan : mi_ mt_X7_plan := ⟨List.mem_of_getElem? (i := 616) (by decide +kernel), List.mem_of_getElem? (i := 617) (by decide +kernel)⟩
theorem kk_X7_plans : mk_ mt_X7_plans 1 := ⟨List.mem_of_getElem? (i := 656) (by decide +kernel), List.mem_of_getElem? (i := 61) (by decide +kernel), by decide +kernel, by decide⟩
theorem ki_X7_plans : mi_ mt_X7_plans := ⟨List.mem_of_getElem? (i := 654) (by decide +kernel), List.mem_of_getElem? (i := 655) (by decide +kernel)⟩
theorem kk_X3_openByAll : mk_ mt_X3_openByAll 1 := ⟨List.mem_of_getElem? (i := 664) (by decide +kernel), List.mem_of_getElem? (i := 64) (by decide +kernel), by decide +kernel, by decide⟩
theorem ki_X3_openByAll : mi_ mt_X3_openByAll := ⟨List.mem_of_getElem? (i := 662) (by decide +kernel), List.mem_of_getElem? (i := 663) (by decide +kernel)⟩
theorem kk_X7_safest : mk_ mt_X7_safest 1 := ⟨List.mem_of_getElem? (i := 660) (by decide +kernel), List.mem_of_getElem? (i := 61) (by decide +kernel), by decide +kernel, by decide⟩
theorem ki_X7_safest : mi_ mt_X7_safest := ⟨List.mem_of_getElem? (i := 658) (by decide +kernel), List.mem_of_getElem? (i := 659) (by decide +kernel)⟩
theorem kk_X7_gain : mk_ mt_X7_gain 2 := ⟨List.mem_of_getElem? (i := 668) (by decide +kernel), List.mem_of_getElem? (i := 61) (by decide +kernel), by decide +kernel, by decide⟩
theorem ki_X7_gain : mi_ mt_X7_gain := ⟨List.mem_of_getElem? (i := 666) (by decide +kernel), List.mem_of_getElem? (i := 667) (by decide +kernel)⟩
theorem kk_X7_findingOfThrees : mk_ mt_X7_findingOfThrees 1 := ⟨List.mem_of_getElem? (i := 676) (by decide +kernel), List.mem_of_getElem? (i := 61) (by decide +kernel), by decide +kernel, by decide⟩
theorem ki_X7_findingOfThrees : mi_ mt_X7_findingOfThrees := ⟨List.mem_of_getElem? (i := 675) (by decide +kernel), List.mem_of_getElem? (i := 10) (by decide +kernel)⟩
theorem kk_X7_threesFit : mk_ mt_X7_threesFit 4 := ⟨List.mem_of_getElem? (i := 680) (by decide +kernel), List.mem_of_getElem? (i := 61) (by decide +kernel), by decide +kernel, by decide⟩
theorem ki_X7_threesFit : mi_ mt_X7_threesFit := ⟨List.mem_of_getElem? (i := 679) (by decide +kernel), List.mem_of_getElem? (i := 11) (by decide +kernel)⟩
theorem kk_X7_learn : mk_ mt_X7_learn 2 := ⟨List.mem_of_getElem? (i := 672) (by decide +kernel), List.mem_of_getElem? (i := 61) (by decide +kernel), by decide +kernel, by decide⟩
theorem ki_X7_learn : mi_ mt_X7_learn := ⟨List.mem_of_getElem? (i := 670) (by decide +kernel), List.mem_of_getElem? (i := 671) (by decide +kernel)⟩
theorem kk_X7_findingOfFates : mk_ mt_X7_findingOfFates 1 := ⟨List.mem_of_getElem? (i := 693) (by decide +kernel), List.mem_of_getElem? (i := 61) (by decide +kernel), by decide +kernel, by decide⟩
theorem ki_X7_findingOfFates : mi_ mt_X7_findingOfFates := ⟨List.mem_of_getElem? (i := 692) (by decide +kernel), List.mem_of_getElem? (i := 12) (by decide +kernel)⟩
theorem kk_X2_placesAbove : mk_ mt_X2_placesAbove 2 := ⟨List.mem_of_getElem? (i := 697) (by decide +kernel), List.mem_of_getElem? (i := 66) (by decide +kernel), by decide +kernel, by decide⟩
theorem ki_X2_placesAbove : mi_ mt_X2_placesAbove := ⟨List.mem_of_getElem? (i := 695) (by decide +kernel), List.mem_of_getElem? (i := 696) (by decide +kernel)⟩
theorem kk_X7_tells : mk_ mt_X7_tells 1 := ⟨List.mem_of_getElem? (i := 689) (by decide +kernel), List.mem_of_getElem? (i := 61) (by decide +kernel), by decide +kernel, by decide⟩
theorem ki_X7_tells : mi_ mt_X7_tells := ⟨List.mem_of_getElem? (i := 687) (by decide +kernel), List.mem_of_getElem? (i := 688) (by decide +kernel)⟩
theorem kk_X7_nextLot : mk_ mt_X7_nextLot 1 := ⟨List.mem_of_getElem? (i := 705) (by decide +kernel), List.mem_of_getElem? (i := 61) (by decide +kernel), by decide +kernel, by decide⟩
theorem ks_X7_nextLot : Cond.static mt_X7_nextLot.1 ∈ lw_tbl := List.mem_of_getElem? (i := 704) (by decide +kernel)
theorem kk_X7_lots : mk_ mt_X7_lots 3 := ⟨List.mem_of_getElem? (i := 701) (by decide +kernel), List.mem_of_getElem? (i := 61) (by decide +kernel), by decide +kernel, by decide⟩
theorem ki_X7_lots : mi_ mt_X7_lots := ⟨List.mem_of_getElem? (i := 699) (by decide +kernel), List.mem_of_getElem? (i := 700) (by decide +kernel)⟩
theorem kk_X7_asked : mk_ mt_X7_asked 0 := ⟨List.mem_of_getElem? (i := 710) (by decide +kernel), List.mem_of_getElem? (i := 61) (by decide +kernel), by decide +kernel, by decide⟩
theorem ki_X7_asked : mi_ mt_X7_asked := ⟨List.mem_of_getElem? (i := 708) (by decide +kernel), List.mem_of_getElem? (i := 709) (by decide +kernel)⟩
theorem kk_X7_upper : mk_ mt_X7_upper 0 := ⟨List.mem_of_getElem? (i := 714) (by decide +kernel), List.mem_of_getElem? (i := 61) (by decide +kernel), by decide +kernel, by decide⟩
theorem ki_X7_upper : mi_ mt_X7_upper := ⟨List.mem_of_getElem? (i := 712) (by decide +kernel), List.mem_of_getElem? (i := 713) (by decide +kernel)⟩
theorem kk_X7_lower : mk_ mt_X7_lower 0 := ⟨List.mem_of_getElem? (i := 718) (by decide +kernel), List.mem_of_getElem? (i := 61) (by decide +kernel), by decide +kernel, by decide⟩
theorem ki_X7_lower : mi_ mt_X7_lower := ⟨List.mem_of_getElem? (i := 716) (by decide +kernel), List.mem_of_getElem? (i := 717) (by decide +kernel)⟩
theorem kk_X7_presentOffices : mk_ mt_X7_presentOffices 0 := ⟨List.mem_of_getElem? (i := 739) (by decide +kernel), List.mem_of_getElem? (i := 61) (by decide +kernel), by decide +kernel, by decide⟩
theorem ki_X7_presentOffices : mi_ mt_X7_presentOffices := ⟨List.mem_of_getElem? (i := 738) (by decide +kernel), List.mem_of_getElem? (i := 13) (by decide +kernel)⟩
theorem kk_X5_present : mk_ mt_X5_present 0 := ⟨List.mem_of_getElem? (i := 735) (by decide +kernel), List.mem_of_getElem? (i := 62) (by decide +kernel), by decide +kernel, by decide⟩
theorem ki_X5_present : mi_ mt_X5_present := ⟨List.mem_of_getElem? (i := 733) (by decide +kernel), List.mem_of_getElem? (i := 734) (by decide +kernel)⟩
theorem kk_X2_wishingOnes : mk_ mt_X2_wishingOnes 0 := ⟨List.mem_of_getElem? (i := 730) (by decide +kernel), List.mem_of_getElem? (i := 66) (by decide +kernel), by decide +kernel, by decide⟩
theorem ki_X2_wishingOnes : mi_ mt_X2_wishingOnes := ⟨List.mem_of_getElem? (i := 728) (by decide +kernel), List.mem_of_getElem? (i := 729) (by decide +kernel)⟩
theorem kk_X2_allTogether : mk_ mt_X2_allTogether 0 := ⟨List.mem_of_getElem? (i := 726) (by decide +kernel), List.mem_of_getElem? (i := 66) (by decide +kernel), by decide +kernel, by decide⟩
theorem ki_X2_allTogether : mi_ mt_X2_allTogether := ⟨List.mem_of_getElem? (i := 724) (by decide +kernel), List.mem_of_getElem? (i := 725) (by decide +kernel)⟩
theorem kk_X7_count : mk_ mt_X7_count 1 := ⟨List.mem_of_getElem? (i := 722) (by decide +kernel), List.mem_of_getElem? (i := 61) (by decide +kernel), by decide +kernel, by decide⟩
theorem ki_X7_count : mi_ mt_X7_count := ⟨List.mem_of_getElem? (i := 720) (by decide +kernel), List.mem_of_getElem? (i := 721) (by decide +kernel)⟩
theorem kk_X7_finding : mk_ mt_X7_finding 0 := ⟨List.mem_of_getElem? (i := 743) (by decide +kernel), List.mem_of_getElem? (i := 61) (by decide +kernel), by decide +kernel, by decide⟩
theorem ki_X7_finding : mi_ mt_X7_finding := ⟨List.mem_of_getElem? (i := 741) (by decide +kernel), List.mem_of_getElem? (i := 742) (by decide +kernel)⟩
theorem kk_X7_findings : mk_ mt_X7_findings 1 := ⟨List.mem_of_getElem? (i := 747) (by decide +kernel), List.mem_of_getElem? (i := 61) (by decide +kernel), by decide +kernel, by decide⟩
theorem ki_X7_findings : mi_ mt_X7_findings := ⟨List.mem_of_getElem? (i := 745) (by decide +kernel), List.mem_of_getElem? (i := 746) (by decide +kernel)⟩
theorem kk_X2_mix : mk_ mt_X2_mix 1 := ⟨List.mem_of_getElem? (i := 758) (by decide +kernel), List.mem_of_getElem? (i := 66) (by decide +kernel), by decide +kernel, by decide⟩
theorem ki_X2_mix : mi_ mt_X2_mix := ⟨List.mem_of_getElem? (i := 756) (by decide +kernel), List.mem_of_getElem? (i := 757) (by decide +kernel)⟩
theorem kk_X5_mix : mk_ mt_X5_mix 1 := ⟨List.mem_of_getElem? (i := 764) (by decide +kernel), List.mem_of_getElem? (i := 62) (by decide +kernel), by decide +kernel, by decide⟩
theorem ki_X5_mix : mi_ mt_X5_mix := ⟨List.mem_of_getElem? (i := 762) (by decide +kernel), List.mem_of_getElem? (i := 763) (by decide +kernel)⟩
theorem kk_X7_digest : mk_ mt_X7_digest 0 := ⟨List.mem_of_getElem? (i := 751) (by decide +kernel), List.mem_of_getElem? (i := 61) (by decide +kernel), by decide +kernel, by decide⟩
theorem ki_X7_digest : mi_ mt_X7_digest := ⟨List.mem_of_getElem? (i := 749) (by decide +kernel), List.mem_of_getElem? (i := 750) (by decide +kernel)⟩
theorem kk_X8_in : mk_ mt_X8_in 3 := ⟨List.mem_of_getElem? (i := 875) (by decide +kernel), List.mem_of_getElem? (i := 68) (by decide +kernel), by decide +kernel, by decide⟩
theorem ks_X8_in : Cond.static mt_X8_in.1 ∈ lw_tbl := List.mem_of_getElem? (i := 874) (by decide +kernel)
theorem kk_X8_meet : mk_ mt_X8_meet 1 := ⟨List.mem_of_getElem? (i := 879) (by decide +kernel), List.mem_of_getElem? (i := 68) (by decide +kernel), by decide +kernel, by decide⟩
theorem ki_X8_meet : mi_ mt_X8_meet := ⟨List.mem_of_getElem? (i := 878) (by decide +kernel), List.mem_of_getElem? (i := 14) (by decide +kernel)⟩
theorem kk_X8_ask : mk_ mt_X8_ask 2 := ⟨List.mem_of_getElem? (i := 899) (by decide +kernel), List.mem_of_getElem? (i := 68) (by decide +kernel), by decide +kernel, by decide⟩
theorem ki_X8_ask : mi_ mt_X8_ask := ⟨List.mem_of_getElem? (i := 898) (by decide +kernel), List.mem_of_getElem? (i := 18) (by decide +kernel)⟩
theorem kk_X8_has : mk_ mt_X8_has 2 := ⟨List.mem_of_getElem? (i := 1194) (by decide +kernel), List.mem_of_getElem? (i := 68) (by decide +kernel), by decide +kernel, by decide⟩
theorem ks_X8_has : Cond.static mt_X8_has.1 ∈ lw_tbl := List.mem_of_getElem? (i := 1193) (by decide +kernel)
theorem kk_X8_lesser : mk_ mt_X8_lesser 2 := ⟨List.mem_of_getElem? (i := 1035) (by decide +kernel), List.mem_of_getElem? (i := 68) (by decide +kernel), by decide +kernel, by decide⟩
theorem ks_X8_lesser : Cond.static mt_X8_lesser.1 ∈ lw_tbl := List.mem_of_getElem? (i := 1034) (by decide +kernel)
theorem kk_X8_greater : mk_ mt_X8_greater 2 := ⟨List.mem_of_getElem? (i := 1029) (by decide +kernel), List.mem_of_getElem? (i := 68) (by decide +kernel), by decide +kernel, by decide⟩
theorem ks_X8_greater : Cond.static mt_X8_greater.1 ∈ lw_tbl := List.mem_of_getElem? (i := 1028) (by decide +kernel)
theorem kk_X8_part : mk_ mt_X8_part 2 := ⟨List.mem_of_getElem? (i := 1126) (by decide +kernel), List.mem_of_getElem? (i := 68) (by decide +kernel), by decide +kernel, by decide⟩
theorem ki_X8_part : mi_ mt_X8_part := ⟨List.mem_of_getElem? (i := 1125) (by decide +kernel), List.mem_of_getElem? (i := 46) (by decide +kernel)⟩
theorem kk_X8_isRow : mk_ mt_X8_isRow 1 := ⟨List.mem_of_getElem? (i := 872) (by decide +kernel), List.mem_of_getElem? (i := 68) (by decide +kernel), by decide +kernel, by decide⟩
theorem ks_X8_isRow : Cond.static mt_X8_isRow.1 ∈ lw_tbl := List.mem_of_getElem? (i := 871) (by decide +kernel)
theorem kk_X8_isText : mk_ mt_X8_isText 1 := ⟨List.mem_of_getElem? (i := 923) (by decide +kernel), List.mem_of_getElem? (i := 68) (by decide +kernel), by decide +kernel, by decide⟩
theorem ks_X8_isText : Cond.static mt_X8_isText.1 ∈ lw_tbl := List.mem_of_getElem? (i := 922) (by decide +kernel)
theorem kk_X8_askedRow : mk_ mt_X8_askedRow 1 := ⟨List.mem_of_getElem? (i := 891) (by decide +kernel), List.mem_of_getElem? (i := 68) (by decide +kernel), by decide +kernel, by decide⟩
theorem ki_X8_askedRow : mi_ mt_X8_askedRow := ⟨List.mem_of_getElem? (i := 890) (by decide +kernel), List.mem_of_getElem? (i := 16) (by decide +kernel)⟩
theorem kk_X8_askedText : mk_ mt_X8_askedText 1 := ⟨List.mem_of_getElem? (i := 931) (by decide +kernel), List.mem_of_getElem? (i := 68) (by decide +kernel), by decide +kernel, by decide⟩
theorem ki_X8_askedText : mi_ mt_X8_askedText := ⟨List.mem_of_getElem? (i := 930) (by decide +kernel), List.mem_of_getElem? (i := 19) (by decide +kernel)⟩
theorem kk_X8_rowAt : mk_ mt_X8_rowAt 2 := ⟨List.mem_of_getElem? (i := 895) (by decide +kernel), List.mem_of_getElem? (i := 68) (by decide +kernel), by decide +kernel, by decide⟩
theorem ki_X8_rowAt : mi_ mt_X8_rowAt := ⟨List.mem_of_getElem? (i := 894) (by decide +kernel), List.mem_of_getElem? (i := 17) (by decide +kernel)⟩
theorem kk_X8_setRow : mk_ mt_X8_setRow 3 := ⟨List.mem_of_getElem? (i := 883) (by decide +kernel), List.mem_of_getElem? (i := 68) (by decide +kernel), by decide +kernel, by decide⟩
theorem ki_X8_setRow : mi_ mt_X8_setRow := ⟨List.mem_of_getElem? (i := 882) (by decide +kernel), List.mem_of_getElem? (i := 15) (by decide +kernel)⟩
theorem kk_X8_row : mk_ mt_X8_row 2 := ⟨List.mem_of_getElem? (i := 869) (by decide +kernel), List.mem_of_getElem? (i := 68) (by decide +kernel), by decide +kernel, by decide⟩
theorem ki_X8_row : mi_ mt_X8_row := ⟨List.mem_of_getElem? (i := 867) (by decide +kernel), List.mem_of_getElem? (i := 868) (by decide +kernel)⟩
theorem kk_X8_at : mk_ mt_X8_at 2 := ⟨List.mem_of_getElem? (i := 887) (by decide +kernel), List.mem_of_getElem? (i := 68) (by decide +kernel), by decide +kernel, by decide⟩
theorem ki_X8_at : mi_ mt_X8_at := ⟨List.mem_of_getElem? (i := 885) (by decide +kernel), List.mem_of_getElem? (i := 886) (by decide +kernel)⟩
theorem kk_X8_lay : mk_ mt_X8_lay 3 := ⟨List.mem_of_getElem? (i := 903) (by decide +kernel), List.mem_of_getElem? (i := 68) (by decide +kernel), by decide +kernel, by decide⟩
theorem ki_X8_lay : mi_ mt_X8_lay := ⟨List.mem_of_getElem? (i := 901) (by decide +kernel), List.mem_of_getElem? (i := 902) (by decide +kernel)⟩
theorem kk_X8_tear : mk_ mt_X8_tear 1 := ⟨List.mem_of_getElem? (i := 908) (by decide +kernel), List.mem_of_getElem? (i := 68) (by decide +kernel), by decide +kernel, by decide⟩
theorem ki_X8_tear : mi_ mt_X8_tear := ⟨List.mem_of_getElem? (i := 906) (by decide +kernel), List.mem_of_getElem? (i := 907) (by decide +kernel)⟩
theorem kk_X8_copy : mk_ mt_X8_copy 5 := ⟨List.mem_of_getElem? (i := 912) (by decide +kernel), List.mem_of_getElem? (i := 68) (by decide +kernel), by decide +kernel, by decide⟩
theorem ki_X8_copy : mi_ mt_X8_copy := ⟨List.mem_of_getElem? (i := 910) (by decide +kernel), List.mem_of_getElem? (i := 911) (by decide +kernel)⟩
theorem kk_X8_mean : mk_ mt_X8_mean 1 := ⟨List.mem_of_getElem? (i := 916) (by decide +kernel), List.mem_of_getElem? (i := 68) (by decide +kernel), by decide +kernel, by decide⟩
theorem ki_X8_mean : mi_ mt_X8_mean := ⟨List.mem_of_getElem? (i := 914) (by decide +kernel), List.mem_of_getElem? (i := 915) (by decide +kernel)⟩
theorem kk_X8_text : mk_ mt_X8_text 2 := ⟨List.mem_of_getElem? (i := 920) (by decide +kernel), List.mem_of_getElem? (i := 68) (by decide +kernel), by decide +kernel, by decide⟩
theorem ki_X8_text : mi_ mt_X8_text := ⟨List.mem_of_getElem? (i := 918) (by decide +kernel), List.mem_of_getElem? (i := 919) (by decide +kernel)⟩
theorem kk_X8_put : mk_ mt_X8_put 3 := ⟨List.mem_of_getElem? (i := 927) (by decide +kernel), List.mem_of_getElem? (i := 68) (by decide +kernel), by decide +kernel, by decide⟩
theorem ki_X8_put : mi_ mt_X8_put := ⟨List.mem_of_getElem? (i := 925) (by decide +kernel), List.mem_of_getElem? (i := 926) (by decide +kernel)⟩
theorem kk_X8_here : mk_ mt_X8_here 1 := ⟨List.mem_of_getElem? (i := 943) (by decide +kernel), List.mem_of_getElem? (i := 68) (by decide +kernel), by decide +kernel, by decide⟩
theorem ki_X8_here : mi_ mt_X8_here := ⟨List.mem_of_getElem? (i := 942) (by decide +kernel), List.mem_of_getElem? (i := 21) (by decide +kernel)⟩
theorem kk_X8_figure : mk_ mt_X8_figure 4 := ⟨List.mem_of_getElem? (i := 951) (by decide +kernel), List.mem_of_getElem? (i := 68) (by decide +kernel), by decide +kernel, by decide⟩
theorem ki_X8_figure : mi_ mt_X8_figure := ⟨List.mem_of_getElem? (i := 950) (by decide +kernel), List.mem_of_getElem? (i := 23) (by decide +kernel)⟩
theorem kk_X8_kindOf : mk_ mt_X8_kindOf 1 := ⟨List.mem_of_getElem? (i := 962) (by decide +kernel), List.mem_of_getElem? (i := 68) (by decide +kernel), by decide +kernel, by decide⟩
theorem ks_X8_kindOf : Cond.static mt_X8_kindOf.1 ∈ lw_tbl := List.mem_of_getElem? (i := 961) (by decide +kernel)
theorem kk_X8_readsHead : mk_ mt_X8_readsHead 1 := ⟨List.mem_of_getElem? (i := 947) (by decide +kernel), List.mem_of_getElem? (i := 68) (by decide +kernel), by decide +kernel, by decide⟩
theorem ki_X8_readsHead : mi_ mt_X8_readsHead := ⟨List.mem_of_getElem? (i := 946) (by decide +kernel), List.mem_of_getElem? (i := 22) (by decide +kernel)⟩
theorem kk_X8_readsThumb : mk_ mt_X8_readsThumb 1 := ⟨List.mem_of_getElem? (i := 959) (by decide +kernel), List.mem_of_getElem? (i := 68) (by decide +kernel), by decide +kernel, by decide⟩
theorem ki_X8_readsThumb : mi_ mt_X8_readsThumb := ⟨List.mem_of_getElem? (i := 958) (by decide +kernel), List.mem_of_getElem? (i := 25) (by decide +kernel)⟩
theorem kk_X8_readsPost : mk_ mt_X8_readsPost 1 := ⟨List.mem_of_getElem? (i := 955) (by decide +kernel), List.mem_of_getElem? (i := 68) (by decide +kernel), by decide +kernel, by decide⟩
theorem ki_X8_readsPost : mi_ mt_X8_readsPost := ⟨List.mem_of_getElem? (i := 954) (by decide +kernel), List.mem_of_getElem? (i := 24) (by decide +kernel)⟩
theorem kk_X8_goesOn : mk_ mt_X8_goesOn 1 := ⟨List.mem_of_getElem? (i := 939) (by decide +kernel), List.mem_of_getElem? (i := 68) (by decide +kernel), by decide +kernel, by decide⟩
theorem ki_X8_goesOn : mi_ mt_X8_goesOn := ⟨List.mem_of_getElem? (i := 938) (by decide +kernel), List.mem_of_getElem? (i := 20) (by decide +kernel)⟩
theorem kk_X8_fault : mk_ mt_X8_fault 1 := ⟨List.mem_of_getElem? (i := 935) (by decide +kernel), List.mem_of_getElem? (i := 68) (by decide +kernel), by decide +kernel, by decide⟩
theorem ki_X8_fault : mi_ mt_X8_fault := ⟨List.mem_of_getElem? (i := 933) (by decide +kernel), List.mem_of_getElem? (i := 934) (by decide +kernel)⟩
theorem kk_X8_office : mk_ mt_X8_office 1 := ⟨List.mem_of_getElem? (i := 966) (by decide +kernel), List.mem_of_getElem? (i := 68) (by decide +kernel), by decide +kernel, by decide⟩
theorem ki_X8_office : mi_ mt_X8_office := ⟨List.mem_of_getElem? (i := 964) (by decide +kernel), List.mem_of_getElem? (i := 965) (by decide +kernel)⟩
theorem kk_X8_isHead : mk_ mt_X8_isHead 1 := ⟨List.mem_of_getElem? (i := 974) (by decide +kernel), List.mem_of_getElem? (i := 68) (by decide +kernel), by decide +kernel, by decide⟩
theorem ki_X8_isHead : mi_ mt_X8_isHead := ⟨List.mem_of_getElem? (i := 973) (by decide +kernel), List.mem_of_getElem? (i := 26) (by decide +kernel)⟩
theorem kk_X8_isThumb : mk_ mt_X8_isThumb 1 := ⟨List.mem_of_getElem? (i := 994) (by decide +kernel), List.mem_of_getElem? (i := 68) (by decide +kernel), by decide +kernel, by decide⟩
theorem ki_X8_isThumb : mi_ mt_X8_isThumb := ⟨List.mem_of_getElem? (i := 993) (by decide +kernel), List.mem_of_getElem? (i := 30) (by decide +kernel)⟩
theorem kk_X8_isPost : mk_ mt_X8_isPost 1 := ⟨List.mem_of_getElem? (i := 1002) (by decide +kernel), List.mem_of_getElem? (i := 68) (by decide +kernel), by decide +kernel, by decide⟩
theorem ki_X8_isPost : mi_ mt_X8_isPost := ⟨List.mem_of_getElem? (i := 1001) (by decide +kernel), List.mem_of_getElem? (i := 31) (by decide +kernel)⟩
theorem kk_X8_isPlace : mk_ mt_X8_isPlace 1 := ⟨List.mem_of_getElem? (i := 1050) (by decide +kernel), List.mem_of_getElem? (i := 68) (by decide +kernel), by decide +kernel, by decide⟩
theorem ks_X8_isPlace : Cond.static mt_X8_isPlace.1 ∈ lw_tbl := List.mem_of_getElem? (i := 1049) (by decide +kernel)
theorem kk_X8_bump : mk_ mt_X8_bump 2 := ⟨List.mem_of_getElem? (i := 986) (by decide +kernel), List.mem_of_getElem? (i := 68) (by decide +kernel), by decide +kernel, by decide⟩
theorem ki_X8_bump : mi_ mt_X8_bump := ⟨List.mem_of_getElem? (i := 985) (by decide +kernel), List.mem_of_getElem? (i := 29) (by decide +kernel)⟩
theorem kk_X8_bumps : mk_ mt_X8_bumps 1 := ⟨List.mem_of_getElem? (i := 982) (by decide +kernel), List.mem_of_getElem? (i := 68) (by decide +kernel), by decide +kernel, by decide⟩
theorem ki_X8_bumps : mi_ mt_X8_bumps := ⟨List.mem_of_getElem? (i := 981) (by decide +kernel), List.mem_of_getElem? (i := 28) (by decide +kernel)⟩
theorem kk_X8_headOf : mk_ mt_X8_headOf 2 := ⟨List.mem_of_getElem? (i := 978) (by decide +kernel), List.mem_of_getElem? (i := 68) (by decide +kernel), by decide +kernel, by decide⟩
theorem ki_X8_headOf : mi_ mt_X8_headOf := ⟨List.mem_of_getElem? (i := 977) (by decide +kernel), List.mem_of_getElem? (i := 27) (by decide +kernel)⟩
theorem kk_X8_head : mk_ mt_X8_head 2 := ⟨List.mem_of_getElem? (i := 970) (by decide +kernel), List.mem_of_getElem? (i := 68) (by decide +kernel), by decide +kernel, by decide⟩
theorem ki_X8_head : mi_ mt_X8_head := ⟨List.mem_of_getElem? (i := 968) (by decide +kernel), List.mem_of_getElem? (i := 969) (by decide +kernel)⟩
theorem kk_X8_thumb : mk_ mt_X8_thumb 2 := ⟨List.mem_of_getElem? (i := 990) (by decide +kernel), List.mem_of_getElem? (i := 68) (by decide +kernel), by decide +kernel, by decide⟩
theorem ki_X8_thumb : mi_ mt_X8_thumb := ⟨List.mem_of_getElem? (i := 988) (by decide +kernel), List.mem_of_getElem? (i := 989) (by decide +kernel)⟩
theorem kk_X8_post : mk_ mt_X8_post 2 := ⟨List.mem_of_getElem? (i := 998) (by decide +kernel), List.mem_of_getElem? (i := 68) (by decide +kernel), by decide +kernel, by decide⟩
theorem ki_X8_post : mi_ mt_X8_post := ⟨List.mem_of_getElem? (i := 996) (by decide +kernel), List.mem_of_getElem? (i := 997) (by decide +kernel)⟩
theorem kk_X8_isA : mk_ mt_X8_isA 2 := ⟨List.mem_of_getElem? (i := 1010) (by decide +kernel), List.mem_of_getElem? (i := 68) (by decide +kernel), by decide +kernel, by decide⟩
theorem ki_X8_isA : mi_ mt_X8_isA := ⟨List.mem_of_getElem? (i := 1009) (by decide +kernel), List.mem_of_getElem? (i := 32) (by decide +kernel)⟩
theorem kk_X8_felt : mk_ mt_X8_felt 2 := ⟨List.mem_of_getElem? (i := 1026) (by decide +kernel), List.mem_of_getElem? (i := 68) (by decide +kernel), by decide +kernel, by decide⟩
theorem ki_X8_felt : mi_ mt_X8_felt := ⟨List.mem_of_getElem? (i := 1025) (by decide +kernel), List.mem_of_getElem? (i := 36) (by decide +kernel)⟩
theorem kk_X8_middleOf : mk_ mt_X8_middleOf 4 := ⟨List.mem_of_getElem? (i := 1032) (by decide +kernel), List.mem_of_getElem? (i := 68) (by decide +kernel), by decide +kernel, by decide⟩
theorem ks_X8_middleOf : Cond.static mt_X8_middleOf.1 ∈ lw_tbl := List.mem_of_getElem? (i := 1031) (by decide +kernel)
theorem kk_X8_middle : mk_ mt_X8_middle 3 := ⟨List.mem_of_getElem? (i := 1022) (by decide +kernel), List.mem_of_getElem? (i := 68) (by decide +kernel), by decide +kernel, by decide⟩
theorem ki_X8_middle : mi_ mt_X8_middle := ⟨List.mem_of_getElem? (i := 1021) (by decide +kernel), List.mem_of_getElem? (i := 35) (by decide +kernel)⟩
theorem kk_X8_least : mk_ mt_X8_least 3 := ⟨List.mem_of_getElem? (i := 1018) (by decide +kernel), List.mem_of_getElem? (i := 68) (by decide +kernel), by decide +kernel, by decide⟩
theorem ki_X8_least : mi_ mt_X8_least := ⟨List.mem_of_getElem? (i := 1017) (by decide +kernel), List.mem_of_getElem? (i := 34) (by decide +kernel)⟩
theorem kk_X8_most : mk_ mt_X8_most 3 := ⟨List.mem_of_getElem? (i := 1039) (by decide +kernel), List.mem_of_getElem? (i := 68) (by decide +kernel), by decide +kernel, by decide⟩
theorem ki_X8_most : mi_ mt_X8_most := ⟨List.mem_of_getElem? (i := 1038) (by decide +kernel), List.mem_of_getElem? (i := 37) (by decide +kernel)⟩
theorem kk_X8_marked : mk_ mt_X8_marked 2 := ⟨List.mem_of_getElem? (i := 1014) (by decide +kernel), List.mem_of_getElem? (i := 68) (by decide +kernel), by decide +kernel, by decide⟩
theorem ki_X8_marked : mi_ mt_X8_marked := ⟨List.mem_of_getElem? (i := 1013) (by decide +kernel), List.mem_of_getElem? (i := 33) (by decide +kernel)⟩
theorem kk_X8_mark : mk_ mt_X8_mark 2 := ⟨List.mem_of_getElem? (i := 1006) (by decide +kernel), List.mem_of_getElem? (i := 68) (by decide +kernel), by decide +kernel, by decide⟩
theorem ki_X8_mark : mi_ mt_X8_mark := ⟨List.mem_of_getElem? (i := 1004) (by decide +kernel), List.mem_of_getElem? (i := 1005) (by decide +kernel)⟩
theorem kk_X8_error : mk_ mt_X8_error 2 := ⟨List.mem_of_getElem? (i := 1043) (by decide +kernel), List.mem_of_getElem? (i := 68) (by decide +kernel), by decide +kernel, by decide⟩
theorem ki_X8_error : mi_ mt_X8_error := ⟨List.mem_of_getElem? (i := 1041) (by decide +kernel), List.mem_of_getElem? (i := 1042) (by decide +kernel)⟩
theorem kk_X8_write : mk_ mt_X8_write 2 := ⟨List.mem_of_getElem? (i := 1058) (by decide +kernel), List.mem_of_getElem? (i := 68) (by decide +kernel), by decide +kernel, by decide⟩
theorem ki_X8_write : mi_ mt_X8_write := ⟨List.mem_of_getElem? (i := 1057) (by decide +kernel), List.mem_of_getElem? (i := 39) (by decide +kernel)⟩
theorem kk_X8_readBack : mk_ mt_X8_readBack 2 := ⟨List.mem_of_getElem? (i := 1074) (by decide +kernel), List.mem_of_getElem? (i := 68) (by decide +kernel), by decide +kernel, by decide⟩
theorem ki_X8_readBack : mi_ mt_X8_readBack := ⟨List.mem_of_getElem? (i := 1073) (by decide +kernel), List.mem_of_getElem? (i := 40) (by decide +kernel)⟩
theorem kk_X8_note : mk_ mt_X8_note 0 := ⟨List.mem_of_getElem? (i := 1054) (by decide +kernel), List.mem_of_getElem? (i := 68) (by decide +kernel), by decide +kernel, by decide⟩
theorem ki_X8_note : mi_ mt_X8_note := ⟨List.mem_of_getElem? (i := 1053) (by decide +kernel), List.mem_of_getElem? (i := 38) (by decide +kernel)⟩
theorem kk_X8_pad : mk_ mt_X8_pad 2 := ⟨List.mem_of_getElem? (i := 1047) (by decide +kernel), List.mem_of_getElem? (i := 68) (by decide +kernel), by decide +kernel, by decide⟩
theorem ki_X8_pad : mi_ mt_X8_pad := ⟨List.mem_of_getElem? (i := 1045) (by decide +kernel), List.mem_of_getElem? (i := 1046) (by decide +kernel)⟩
theorem kk_X8_grow : mk_ mt_X8_grow 1 := ⟨List.mem_of_getElem? (i := 1062) (by decide +kernel), List.mem_of_getElem? (i := 68) (by decide +kernel), by decide +kernel, by decide⟩
theorem ki_X8_grow : mi_ mt_X8_grow := ⟨List.mem_of_getElem? (i := 1060) (by decide +kernel), List.mem_of_getElem? (i := 1061) (by decide +kernel)⟩
theorem kk_X8_cut : mk_ mt_X8_cut 2 := ⟨List.mem_of_getElem? (i := 1066) (by decide +kernel), List.mem_of_getElem? (i := 68) (by decide +kernel), by decide +kernel, by decide⟩
theorem ki_X8_cut : mi_ mt_X8_cut := ⟨List.mem_of_getElem? (i := 1064) (by decide +kernel), List.mem_of_getElem? (i := 1065) (by decide +kernel)⟩
theorem kk_X8_undo : mk_ mt_X8_undo 1 := ⟨List.mem_of_getElem? (i := 1070) (by decide +kernel), List.mem_of_getElem? (i := 68) (by decide +kernel), by decide +kernel, by decide⟩
theorem ki_X8_undo : mi_ mt_X8_undo := ⟨List.mem_of_getElem? (i := 1068) (by decide +kernel), List.mem_of_getElem? (i := 1069) (by decide +kernel)⟩
theorem kk_X8_keep : mk_ mt_X8_keep 1 := ⟨List.mem_of_getElem? (i := 1078) (by decide +kernel), List.mem_of_getElem? (i := 68) (by decide +kernel), by decide +kernel, by decide⟩
theorem ki_X8_keep : mi_ mt_X8_keep := ⟨List.mem_of_getElem? (i := 1076) (by decide +kernel), List.mem_of_getElem? (i := 1077) (by decide +kernel)⟩
theorem kk_X8_on : mk_ mt_X8_on 1 := ⟨List.mem_of_getElem? (i := 1082) (by decide +kernel), List.mem_of_getElem? (i := 68) (by decide +kernel), by decide +kernel, by decide⟩
theorem ki_X8_on : mi_ mt_X8_on := ⟨List.mem_of_getElem? (i := 1080) (by decide +kernel), List.mem_of_getElem? (i := 1081) (by decide +kernel)⟩
theorem kk_X8_reads : mk_ mt_X8_reads 3 := ⟨List.mem_of_getElem? (i := 1086) (by decide +kernel), List.mem_of_getElem? (i := 68) (by decide +kernel), by decide +kernel, by decide⟩
theorem ki_X8_reads : mi_ mt_X8_reads := ⟨List.mem_of_getElem? (i := 1084) (by decide +kernel), List.mem_of_getElem? (i := 1085) (by decide +kernel)⟩
theorem kk_X8_askedReading : mk_ mt_X8_askedReading 1 := ⟨List.mem_of_getElem? (i := 1094) (by decide +kernel), List.mem_of_getElem? (i := 68) (by decide +kernel), by decide +kernel, by decide⟩
theorem ki_X8_askedReading : mi_ mt_X8_askedReading := ⟨List.mem_of_getElem? (i := 1093) (by decide +kernel), List.mem_of_getElem? (i := 41) (by decide +kernel)⟩
theorem kk_X8_doesFit : mk_ mt_X8_doesFit 3 := ⟨List.mem_of_getElem? (i := 1098) (by decide +kernel), List.mem_of_getElem? (i := 68) (by decide +kernel), by decide +kernel, by decide⟩
theorem ki_X8_doesFit : mi_ mt_X8_doesFit := ⟨List.mem_of_getElem? (i := 1097) (by decide +kernel), List.mem_of_getElem? (i := 42) (by decide +kernel)⟩
theorem kk_X8_fits : mk_ mt_X8_fits 3 := ⟨List.mem_of_getElem? (i := 1090) (by decide +kernel), List.mem_of_getElem? (i := 68) (by decide +kernel), by decide +kernel, by decide⟩
theorem ki_X8_fits : mi_ mt_X8_fits := ⟨List.mem_of_getElem? (i := 1088) (by decide +kernel), List.mem_of_getElem? (i := 1089) (by decide +kernel)⟩
theorem kk_X8_headsBy : mk_ mt_X8_headsBy 2 := ⟨List.mem_of_getElem? (i := 1106) (by decide +kernel), List.mem_of_getElem? (i := 68) (by decide +kernel), by decide +kernel, by decide⟩
theorem ki_X8_headsBy : mi_ mt_X8_headsBy := ⟨List.mem_of_getElem? (i := 1105) (by decide +kernel), List.mem_of_getElem? (i := 43) (by decide +kernel)⟩
theorem kk_X8_whose : mk_ mt_X8_whose 2 := ⟨List.mem_of_getElem? (i := 1102) (by decide +kernel), List.mem_of_getElem? (i := 68) (by decide +kernel), by decide +kernel, by decide⟩
theorem ki_X8_whose : mi_ mt_X8_whose := ⟨List.mem_of_getElem? (i := 1100) (by decide +kernel), List.mem_of_getElem? (i := 1101) (by decide +kernel)⟩
theorem kk_X8_who : mk_ mt_X8_who 2 := ⟨List.mem_of_getElem? (i := 1110) (by decide +kernel), List.mem_of_getElem? (i := 68) (by decide +kernel), by decide +kernel, by decide⟩
theorem ki_X8_who : mi_ mt_X8_who := ⟨List.mem_of_getElem? (i := 1108) (by decide +kernel), List.mem_of_getElem? (i := 1109) (by decide +kernel)⟩
theorem kk_X8_spread : mk_ mt_X8_spread 3 := ⟨List.mem_of_getElem? (i := 1122) (by decide +kernel), List.mem_of_getElem? (i := 68) (by decide +kernel), by decide +kernel, by decide⟩
theorem ki_X8_spread : mi_ mt_X8_spread := ⟨List.mem_of_getElem? (i := 1121) (by decide +kernel), List.mem_of_getElem? (i := 45) (by decide +kernel)⟩
theorem kk_X8_weight : mk_ mt_X8_weight 3 := ⟨List.mem_of_getElem? (i := 1118) (by decide +kernel), List.mem_of_getElem? (i := 68) (by decide +kernel), by decide +kernel, by decide⟩
theorem ki_X8_weight : mi_ mt_X8_weight := ⟨List.mem_of_getElem? (i := 1117) (by decide +kernel), List.mem_of_getElem? (i := 44) (by decide +kernel)⟩
theorem kk_X8_odds : mk_ mt_X8_odds 3 := ⟨List.mem_of_getElem? (i := 1114) (by decide +kernel), List.mem_of_getElem? (i := 68) (by decide +kernel), by decide +kernel, by decide⟩
theorem ki_X8_odds : mi_ mt_X8_odds := ⟨List.mem_of_getElem? (i := 1112) (by decide +kernel), List.mem_of_getElem? (i := 1113) (by decide +kernel)⟩
theorem kk_X8_areApart : mk_ mt_X8_areApart 4 := ⟨List.mem_of_getElem? (i := 1134) (by decide +kernel), List.mem_of_getElem? (i := 68) (by decide +kernel), by decide +kernel, by decide⟩
theorem ki_X8_areApart : mi_ mt_X8_areApart := ⟨List.mem_of_getElem? (i := 1133) (by decide +kernel), List.mem_of_getElem? (i := 47) (by decide +kernel)⟩
theorem kk_X8_look : mk_ mt_X8_look 1 := ⟨List.mem_of_getElem? (i := 1130) (by decide +kernel), List.mem_of_getElem? (i := 68) (by decide +kernel), by decide +kernel, by decide⟩
theorem ki_X8_look : mi_ mt_X8_look := ⟨List.mem_of_getElem? (i := 1128) (by decide +kernel), List.mem_of_getElem? (i := 1129) (by decide +kernel)⟩
theorem kk_X8_alike : mk_ mt_X8_alike 2 := ⟨List.mem_of_getElem? (i := 1138) (by decide +kernel), List.mem_of_getElem? (i := 68) (by decide +kernel), by decide +kernel, by decide⟩
theorem ki_X8_alike : mi_ mt_X8_alike := ⟨List.mem_of_getElem? (i := 1136) (by decide +kernel), List.mem_of_getElem? (i := 1137) (by decide +kernel)⟩
theorem kk_X8_need : mk_ mt_X8_need 2 := ⟨List.mem_of_getElem? (i := 1150) (by decide +kernel), List.mem_of_getElem? (i := 68) (by decide +kernel), by decide +kernel, by decide⟩
theorem ki_X8_need : mi_ mt_X8_need := ⟨List.mem_of_getElem? (i := 1149) (by decide +kernel), List.mem_of_getElem? (i := 49) (by decide +kernel)⟩
theorem kk_X8_suitsOf : mk_ mt_X8_suitsOf 3 := ⟨List.mem_of_getElem? (i := 1146) (by decide +kernel), List.mem_of_getElem? (i := 68) (by decide +kernel), by decide +kernel, by decide⟩
theorem ki_X8_suitsOf : mi_ mt_X8_suitsOf := ⟨List.mem_of_getElem? (i := 1145) (by decide +kernel), List.mem_of_getElem? (i := 48) (by decide +kernel)⟩
theorem kk_X8_suits : mk_ mt_X8_suits 3 := ⟨List.mem_of_getElem? (i := 1142) (by decide +kernel), List.mem_of_getElem? (i := 68) (by decide +kernel), by decide +kernel, by decide⟩
theorem ki_X8_suits : mi_ mt_X8_suits := ⟨List.mem_of_getElem? (i := 1140) (by decide +kernel), List.mem_of_getElem? (i := 1141) (by decide +kernel)⟩
theorem kk_X8_luck : mk_ mt_X8_luck 3 := ⟨List.mem_of_getElem? (i := 1154) (by decide +kernel), List.mem_of_getElem? (i := 68) (by decide +kernel), by decide +kernel, by decide⟩
theorem ki_X8_luck : mi_ mt_X8_luck := ⟨List.mem_of_getElem? (i := 1152) (by decide +kernel), List.mem_of_getElem? (i := 1153) (by decide +kernel)⟩
theorem kk_X8_padsAt : mk_ mt_X8_padsAt 4 := ⟨List.mem_of_getElem? (i := 1162) (by decide +kernel), List.mem_of_getElem? (i := 68) (by decide +kernel), by decide +kernel, by decide⟩
theorem ki_X8_padsAt : mi_ mt_X8_padsAt := ⟨List.mem_of_getElem? (i := 1161) (by decide +kernel), List.mem_of_getElem? (i := 50) (by decide +kernel)⟩
theorem kk_X8_pads : mk_ mt_X8_pads 4 := ⟨List.mem_of_getElem? (i := 1158) (by decide +kernel), List.mem_of_getElem? (i := 68) (by decide +kernel), by decide +kernel, by decide⟩
theorem ki_X8_pads : mi_ mt_X8_pads := ⟨List.mem_of_getElem? (i := 1156) (by decide +kernel), List.mem_of_getElem? (i := 1157) (by decide +kernel)⟩
theorem kk_X8_all : mk_ mt_X8_all 2 := ⟨List.mem_of_getElem? (i := 1167) (by decide +kernel), List.mem_of_getElem? (i := 68) (by decide +kernel), by decide +kernel, by decide⟩
theorem ki_X8_all : mi_ mt_X8_all := ⟨List.mem_of_getElem? (i := 1165) (by decide +kernel), List.mem_of_getElem? (i := 1166) (by decide +kernel)⟩
theorem kk_X8_finds : mk_ mt_X8_finds 3 := ⟨List.mem_of_getElem? (i := 1171) (by decide +kernel), List.mem_of_getElem? (i := 68) (by decide +kernel), by decide +kernel, by decide⟩
theorem ki_X8_finds : mi_ mt_X8_finds := ⟨List.mem_of_getElem? (i := 1169) (by decide +kernel), List.mem_of_getElem? (i := 1170) (by decide +kernel)⟩
theorem kk_X8_posts : mk_ mt_X8_posts 2 := ⟨List.mem_of_getElem? (i := 1175) (by decide +kernel), List.mem_of_getElem? (i := 68) (by decide +kernel), by decide +kernel, by decide⟩
theorem ki_X8_posts : mi_ mt_X8_posts := ⟨List.mem_of_getElem? (i := 1173) (by decide +kernel), List.mem_of_getElem? (i := 1174) (by decide +kernel)⟩
theorem kk_X8_layMay : mk_ mt_X8_layMay 1 := ⟨List.mem_of_getElem? (i := 1187) (by decide +kernel), List.mem_of_getElem? (i := 68) (by decide +kernel), by decide +kernel, by decide⟩
theorem ki_X8_layMay : mi_ mt_X8_layMay := ⟨List.mem_of_getElem? (i := 1186) (by decide +kernel), List.mem_of_getElem? (i := 52) (by decide +kernel)⟩
theorem kk_X8_planOn : mk_ mt_X8_planOn 3 := ⟨List.mem_of_getElem? (i := 1191) (by decide +kernel), List.mem_of_getElem? (i := 68) (by decide +kernel), by decide +kernel, by decide⟩
theorem ki_X8_planOn : mi_ mt_X8_planOn := ⟨List.mem_of_getElem? (i := 1190) (by decide +kernel), List.mem_of_getElem? (i := 53) (by decide +kernel)⟩
theorem kk_X8_goPlans : mk_ mt_X8_goPlans 1 := ⟨List.mem_of_getElem? (i := 1183) (by decide +kernel), List.mem_of_getElem? (i := 68) (by decide +kernel), by decide +kernel, by decide⟩
theorem ki_X8_goPlans : mi_ mt_X8_goPlans := ⟨List.mem_of_getElem? (i := 1182) (by decide +kernel), List.mem_of_getElem? (i := 51) (by decide +kernel)⟩
theorem kk_X8_layPlan : mk_ mt_X8_layPlan 1 := ⟨List.mem_of_getElem? (i := 1198) (by decide +kernel), List.mem_of_getElem? (i := 68) (by decide +kernel), by decide +kernel, by decide⟩
theorem ki_X8_layPlan : mi_ mt_X8_layPlan := ⟨List.mem_of_getElem? (i := 1197) (by decide +kernel), List.mem_of_getElem? (i := 54) (by decide +kernel)⟩
theorem kk_X8_plan : mk_ mt_X8_plan 2 := ⟨List.mem_of_getElem? (i := 1179) (by decide +kernel), List.mem_of_getElem? (i := 68) (by decide +kernel), by decide +kernel, by decide⟩
theorem ki_X8_plan : mi_ mt_X8_plan := ⟨List.mem_of_getElem? (i := 1177) (by decide +kernel), List.mem_of_getElem? (i := 1178) (by decide +kernel)⟩
theorem kk_X8_plans : mk_ mt_X8_plans 1 := ⟨List.mem_of_getElem? (i := 1202) (by decide +kernel), List.mem_of_getElem? (i := 68) (by decide +kernel), by decide +kernel, by decide⟩
theorem ki_X8_plans : mi_ mt_X8_plans := ⟨List.mem_of_getElem? (i := 1200) (by decide +kernel), List.mem_of_getElem? (i := 1201) (by decide +kernel)⟩
theorem kk_X8_safest : mk_ mt_X8_safest 1 := ⟨List.mem_of_getElem? (i := 1206) (by decide +kernel), List.mem_of_getElem? (i := 68) (by decide +kernel), by decide +kernel, by decide⟩
theorem ki_X8_safest : mi_ mt_X8_safest := ⟨List.mem_of_getElem? (i := 1204) (by decide +kernel), List.mem_of_getElem? (i := 1205) (by decide +kernel)⟩
theorem kk_X8_gain : mk_ mt_X8_gain 2 := ⟨List.mem_of_getElem? (i := 1210) (by decide +kernel), List.mem_of_getElem? (i := 68) (by decide +kernel), by decide +kernel, by decide⟩
theorem ki_X8_gain : mi_ mt_X8_gain := ⟨List.mem_of_getElem? (i := 1208) (by decide +kernel), List.mem_of_getElem? (i := 1209) (by decide +kernel)⟩
theorem kk_X8_doesLearn : mk_ mt_X8_doesLearn 4 := ⟨List.mem_of_getElem? (i := 1218) (by decide +kernel), List.mem_of_getElem? (i := 68) (by decide +kernel), by decide +kernel, by decide⟩
theorem ki_X8_doesLearn : mi_ mt_X8_doesLearn := ⟨List.mem_of_getElem? (i := 1217) (by decide +kernel), List.mem_of_getElem? (i := 55) (by decide +kernel)⟩
theorem kk_X8_learn : mk_ mt_X8_learn 2 := ⟨List.mem_of_getElem? (i := 1214) (by decide +kernel), List.mem_of_getElem? (i := 68) (by decide +kernel), by decide +kernel, by decide⟩
theorem ki_X8_learn : mi_ mt_X8_learn := ⟨List.mem_of_getElem? (i := 1212) (by decide +kernel), List.mem_of_getElem? (i := 1213) (by decide +kernel)⟩
theorem kk_X8_tells : mk_ mt_X8_tells 1 := ⟨List.mem_of_getElem? (i := 1222) (by decide +kernel), List.mem_of_getElem? (i := 68) (by decide +kernel), by decide +kernel, by decide⟩
theorem ki_X8_tells : mi_ mt_X8_tells := ⟨List.mem_of_getElem? (i := 1220) (by decide +kernel), List.mem_of_getElem? (i := 1221) (by decide +kernel)⟩
theorem kk_X8_isAlone : mk_ mt_X8_isAlone 2 := ⟨List.mem_of_getElem? (i := 1233) (by decide +kernel), List.mem_of_getElem? (i := 68) (by decide +kernel), by decide +kernel, by decide⟩
theorem ki_X8_isAlone : mi_ mt_X8_isAlone := ⟨List.mem_of_getElem? (i := 1232) (by decide +kernel), List.mem_of_getElem? (i := 56) (by decide +kernel)⟩
theorem kk_X8_lots : mk_ mt_X8_lots 3 := ⟨List.mem_of_getElem? (i := 1226) (by decide +kernel), List.mem_of_getElem? (i := 68) (by decide +kernel), by decide +kernel, by decide⟩
theorem ki_X8_lots : mi_ mt_X8_lots := ⟨List.mem_of_getElem? (i := 1224) (by decide +kernel), List.mem_of_getElem? (i := 1225) (by decide +kernel)⟩
theorem kk_X8_asked : mk_ mt_X8_asked 0 := ⟨List.mem_of_getElem? (i := 1237) (by decide +kernel), List.mem_of_getElem? (i := 68) (by decide +kernel), by decide +kernel, by decide⟩
theorem ki_X8_asked : mi_ mt_X8_asked := ⟨List.mem_of_getElem? (i := 1235) (by decide +kernel), List.mem_of_getElem? (i := 1236) (by decide +kernel)⟩
theorem kk_X8_upper : mk_ mt_X8_upper 0 := ⟨List.mem_of_getElem? (i := 1241) (by decide +kernel), List.mem_of_getElem? (i := 68) (by decide +kernel), by decide +kernel, by decide⟩
theorem ki_X8_upper : mi_ mt_X8_upper := ⟨List.mem_of_getElem? (i := 1239) (by decide +kernel), List.mem_of_getElem? (i := 1240) (by decide +kernel)⟩
theorem kk_X8_lower : mk_ mt_X8_lower 0 := ⟨List.mem_of_getElem? (i := 1245) (by decide +kernel), List.mem_of_getElem? (i := 68) (by decide +kernel), by decide +kernel, by decide⟩
theorem ki_X8_lower : mi_ mt_X8_lower := ⟨List.mem_of_getElem? (i := 1243) (by decide +kernel), List.mem_of_getElem? (i := 1244) (by decide +kernel)⟩
theorem kk_X8_tellsOf : mk_ mt_X8_tellsOf 1 := ⟨List.mem_of_getElem? (i := 1253) (by decide +kernel), List.mem_of_getElem? (i := 68) (by decide +kernel), by decide +kernel, by decide⟩
theorem ki_X8_tellsOf : mi_ mt_X8_tellsOf := ⟨List.mem_of_getElem? (i := 1252) (by decide +kernel), List.mem_of_getElem? (i := 57) (by decide +kernel)⟩
theorem kk_X8_count : mk_ mt_X8_count 1 := ⟨List.mem_of_getElem? (i := 1249) (by decide +kernel), List.mem_of_getElem? (i := 68) (by decide +kernel), by decide +kernel, by decide⟩
theorem ki_X8_count : mi_ mt_X8_count := ⟨List.mem_of_getElem? (i := 1247) (by decide +kernel), List.mem_of_getElem? (i := 1248) (by decide +kernel)⟩
theorem kk_X8_finding : mk_ mt_X8_finding 0 := ⟨List.mem_of_getElem? (i := 1257) (by decide +kernel), List.mem_of_getElem? (i := 68) (by decide +kernel), by decide +kernel, by decide⟩
theorem ki_X8_finding : mi_ mt_X8_finding := ⟨List.mem_of_getElem? (i := 1255) (by decide +kernel), List.mem_of_getElem? (i := 1256) (by decide +kernel)⟩
theorem kk_X8_findings : mk_ mt_X8_findings 1 := ⟨List.mem_of_getElem? (i := 1261) (by decide +kernel), List.mem_of_getElem? (i := 68) (by decide +kernel), by decide +kernel, by decide⟩
theorem ki_X8_findings : mi_ mt_X8_findings := ⟨List.mem_of_getElem? (i := 1259) (by decide +kernel), List.mem_of_getElem? (i := 1260) (by decide +kernel)⟩
theorem kk_X8_mix : mk_ mt_X8_mix 1 := ⟨List.mem_of_getElem? (i := 1270) (by decide +kernel), List.mem_of_getElem? (i := 68) (by decide +kernel), by decide +kernel, by decide⟩
theorem ki_X8_mix : mi_ mt_X8_mix := ⟨List.mem_of_getElem? (i := 1269) (by decide +kernel), List.mem_of_getElem? (i := 58) (by decide +kernel)⟩
theorem kk_X8_mixOffice : mk_ mt_X8_mixOffice 0 := ⟨List.mem_of_getElem? (i := 1275) (by decide +kernel), List.mem_of_getElem? (i := 68) (by decide +kernel), by decide +kernel, by decide⟩
theorem ki_X8_mixOffice : mi_ mt_X8_mixOffice := ⟨List.mem_of_getElem? (i := 1274) (by decide +kernel), List.mem_of_getElem? (i := 59) (by decide +kernel)⟩
theorem kk_X8_digest : mk_ mt_X8_digest 0 := ⟨List.mem_of_getElem? (i := 1265) (by decide +kernel), List.mem_of_getElem? (i := 68) (by decide +kernel), by decide +kernel, by decide⟩
theorem ki_X8_digest : mi_ mt_X8_digest := ⟨List.mem_of_getElem? (i := 1263) (by decide +kernel), List.mem_of_getElem? (i := 1264) (by decide +kernel)⟩
theorem lc_RX2_43 : Cond.constantLong RX2 43 31 ∈ lw_tbl := List.mem_of_getElem? (i := 759) (by decide +kernel)
theorem lc_RX5_24 : Cond.constantLong RX5 24 31 ∈ lw_tbl := List.mem_of_getElem? (i := 765) (by decide +kernel)
theorem lc_RX7_265 : Cond.constantLong RX7 265 2147483647 ∈ lw_tbl := List.mem_of_getElem? (i := 702) (by decide +kernel)
theorem lc_RX7_299 : Cond.constantLong RX7 299 17 ∈ lw_tbl := List.mem_of_getElem? (i := 752) (by decide +kernel)
theorem lc_RX7_301 : Cond.constantLong RX7 301 31 ∈ lw_tbl := List.mem_of_getElem? (i := 753) (by decide +kernel)
theorem lc_RX7_310 : Cond.constantLong RX7 310 48271 ∈ lw_tbl := List.mem_of_getElem? (i := 706) (by decide +kernel)
theorem lc_RX8_274 : Cond.constant RX8 274 2147483646 ∈ lw_tbl := List.mem_of_getElem? (i := 1227) (by decide +kernel)
theorem lc_RX8_275 : Cond.constantLong RX8 275 48271 ∈ lw_tbl := List.mem_of_getElem? (i := 1228) (by decide +kernel)
theorem lc_RX8_277 : Cond.constantLong RX8 277 2147483647 ∈ lw_tbl := List.mem_of_getElem? (i := 1229) (by decide +kernel)
theorem lc_RX8_285 : Cond.constantLong RX8 285 31 ∈ lw_tbl := List.mem_of_getElem? (i := 1271) (by decide +kernel)
theorem lc_RX8_293 : Cond.constantLong RX8 293 17 ∈ lw_tbl := List.mem_of_getElem? (i := 1266) (by decide +kernel)
theorem lf_RX0_15 : fl_ RX0 15 (TX0 1) := Or.inl (List.mem_of_getElem? (i := 213) (by decide +kernel))
theorem lf_RX0_18 : fl_ RX0 18 (TX0 2) := Or.inl (List.mem_of_getElem? (i := 214) (by decide +kernel))
theorem lf_RX0_22 : fl_ RX0 22 (TX2 6) := Or.inr (List.mem_of_getElem? (i := 189) (by decide +kernel))
theorem lf_RX0_25 : fl_ RX0 25 (TX2 5) := Or.inr (List.mem_of_getElem? (i := 188) (by decide +kernel))
theorem lf_RX0_32 : fl_ RX0 32 (TX2 2) := Or.inr (List.mem_of_getElem? (i := 174) (by decide +kernel))
theorem lf_RX0_9 : fl_ RX0 9 (TX0 0) := Or.inl (List.mem_of_getElem? (i := 212) (by decide +kernel))
theorem lf_RX1_35 : fl_ RX1 35 (TX2 2) := Or.inr (List.mem_of_getElem? (i := 176) (by decide +kernel))
theorem lf_RX1_9 : fl_ RX1 9 (TX2 4) := Or.inr (List.mem_of_getElem? (i := 184) (by decide +kernel))
theorem lf_RX2_11 : fl_ RX2 11 (TX2 0) := Or.inl (List.mem_of_getElem? (i := 169) (by decide +kernel))
theorem lf_RX2_16 : fl_ RX2 16 (TX2 1) := Or.inl (List.mem_of_getElem? (i := 171) (by decide +kernel))
theorem lf_RX2_19 : fl_ RX2 19 (TX2 2) := Or.inl (List.mem_of_getElem? (i := 173) (by decide +kernel))
theorem lf_RX2_22 : fl_ RX2 22 (TX2 3) := Or.inl (List.mem_of_getElem? (i := 178) (by decide +kernel))
theorem lf_RX2_25 : fl_ RX2 25 (TX2 4) := Or.inl (List.mem_of_getElem? (i := 182) (by decide +kernel))
theorem lf_RX2_29 : fl_ RX2 29 (TX2 5) := Or.inl (List.mem_of_getElem? (i := 187) (by decide +kernel))
theorem lf_RX2_40 : fl_ RX2 40 ("ThumbReader", (sn_ 5).1, "[I", true) := Or.inr (List.mem_of_getElem? (i := 400) (by decide +kernel))
theorem lf_RX2_49 : fl_ RX2 49 (TX2 6) := Or.inl (List.mem_of_getElem? (i := 190) (by decide +kernel))
theorem lf_RX2_68 : fl_ RX2 68 ("ThumbReader", (sn_ 6).1, "[I", true) := Or.inr (List.mem_of_getElem? (i := 424) (by decide +kernel))
theorem lf_RX2_71 : fl_ RX2 71 ("ThumbReader", (sn_ 7).1, "[I", true) := Or.inr (List.mem_of_getElem? (i := 426) (by decide +kernel))
theorem lf_RX2_74 : fl_ RX2 74 ("ThumbReader", (sn_ 8).1, "[I", true) := Or.inr (List.mem_of_getElem? (i := 428) (by decide +kernel))
theorem lf_RX3_17 : fl_ RX3 17 (TX3 1) := Or.inl (List.mem_of_getElem? (i := 125) (by decide +kernel))
theorem lf_RX3_20 : fl_ RX3 20 (TX3 2) := Or.inl (List.mem_of_getElem? (i := 126) (by decide +kernel))
theorem lf_RX3_23 : fl_ RX3 23 (TX2 4) := Or.inr (List.mem_of_getElem? (i := 183) (by decide +kernel))
theorem lf_RX3_50 : fl_ RX3 50 (TX2 3) := Or.inr (List.mem_of_getElem? (i := 180) (by decide +kernel))
theorem lf_RX3_9 : fl_ RX3 9 (TX3 0) := Or.inl (List.mem_of_getElem? (i := 123) (by decide +kernel))
theorem lf_RX4_15 : fl_ RX4 15 (TX4 1) := Or.inl (List.mem_of_getElem? (i := 107) (by decide +kernel))
theorem lf_RX4_19 : fl_ RX4 19 (TX4 2) := Or.inl (List.mem_of_getElem? (i := 108) (by decide +kernel))
theorem lf_RX4_22 : fl_ RX4 22 (TX2 4) := Or.inr (List.mem_of_getElem? (i := 185) (by decide +kernel))
theorem lf_RX4_42 : fl_ RX4 42 ("ThumbReader", (sn_ 4).1, "[I", true) := Or.inr (List.mem_of_getElem? (i := 350) (by decide +kernel))
theorem lf_RX4_45 : fl_ RX4 45 (TX2 2) := Or.inr (List.mem_of_getElem? (i := 175) (by decide +kernel))
theorem lf_RX4_49 : fl_ RX4 49 ("ThumbReader", (sn_ 0).1, "[I", true) := Or.inr (List.mem_of_getElem? (i := 335) (by decide +kernel))
theorem lf_RX4_52 : fl_ RX4 52 ("ThumbReader", (sn_ 3).1, "[I", true) := Or.inr (List.mem_of_getElem? (i := 348) (by decide +kernel))
theorem lf_RX4_55 : fl_ RX4 55 ("ThumbReader", (sn_ 1).1, "[I", true) := Or.inr (List.mem_of_getElem? (i := 337) (by decide +kernel))
theorem lf_RX4_58 : fl_ RX4 58 ("ThumbReader", (sn_ 2).1, "[I", true) := Or.inr (List.mem_of_getElem? (i := 339) (by decide +kernel))
theorem lf_RX4_61 : fl_ RX4 61 (TX2 0) := Or.inr (List.mem_of_getElem? (i := 170) (by decide +kernel))
theorem lf_RX4_64 : fl_ RX4 64 (TX2 3) := Or.inr (List.mem_of_getElem? (i := 179) (by decide +kernel))
theorem lf_RX4_9 : fl_ RX4 9 (TX4 0) := Or.inl (List.mem_of_getElem? (i := 106) (by decide +kernel))
theorem lf_RX5_11 : fl_ RX5 11 (TX5 0) := Or.inl (List.mem_of_getElem? (i := 88) (by decide +kernel))
theorem lf_RX5_16 : fl_ RX5 16 (TX5 1) := Or.inl (List.mem_of_getElem? (i := 90) (by decide +kernel))
theorem lf_RX6_15 : fl_ RX6 15 (TX6 4) := Or.inl (List.mem_of_getElem? (i := 149) (by decide +kernel))
theorem lf_RX6_19 : fl_ RX6 19 (TX6 2) := Or.inl (List.mem_of_getElem? (i := 145) (by decide +kernel))
theorem lf_RX6_27 : fl_ RX6 27 (TX6 3) := Or.inl (List.mem_of_getElem? (i := 147) (by decide +kernel))
theorem lf_RX6_30 : fl_ RX6 30 (TX6 1) := Or.inl (List.mem_of_getElem? (i := 143) (by decide +kernel))
theorem lf_RX6_9 : fl_ RX6 9 (TX6 0) := Or.inl (List.mem_of_getElem? (i := 141) (by decide +kernel))
theorem lf_RX7_114 : fl_ RX7 114 (TX0 2) := Or.inr (List.mem_of_getElem? (i := 215) (by decide +kernel))
theorem lf_RX7_118 : fl_ RX7 118 (TX2 4) := Or.inr (List.mem_of_getElem? (i := 186) (by decide +kernel))
theorem lf_RX7_126 : fl_ RX7 126 (TX2 2) := Or.inr (List.mem_of_getElem? (i := 177) (by decide +kernel))
theorem lf_RX7_129 : fl_ RX7 129 (TX2 3) := Or.inr (List.mem_of_getElem? (i := 181) (by decide +kernel))
theorem lf_RX7_14 : fl_ RX7 14 (TX7 0) := Or.inl (List.mem_of_getElem? (i := 223) (by decide +kernel))
theorem lf_RX7_157 : fl_ RX7 157 (TX2 1) := Or.inr (List.mem_of_getElem? (i := 172) (by decide +kernel))
theorem lf_RX7_160 : fl_ RX7 160 (TX2 6) := Or.inr (List.mem_of_getElem? (i := 191) (by decide +kernel))
theorem lf_RX7_18 : fl_ RX7 18 (TX7 1) := Or.inl (List.mem_of_getElem? (i := 224) (by decide +kernel))
theorem lf_RX7_23 : fl_ RX7 23 (TX7 2) := Or.inl (List.mem_of_getElem? (i := 225) (by decide +kernel))
theorem lf_RX7_241 : fl_ RX7 241 (TX3 2) := Or.inr (List.mem_of_getElem? (i := 127) (by decide +kernel))
theorem lf_RX7_250 : fl_ RX7 250 (TX3 0) := Or.inr (List.mem_of_getElem? (i := 124) (by decide +kernel))
theorem lf_RX7_271 : fl_ RX7 271 (TX6 2) := Or.inr (List.mem_of_getElem? (i := 146) (by decide +kernel))
theorem lf_RX7_274 : fl_ RX7 274 (TX6 3) := Or.inr (List.mem_of_getElem? (i := 148) (by decide +kernel))
theorem lf_RX7_278 : fl_ RX7 278 (TX6 4) := Or.inr (List.mem_of_getElem? (i := 150) (by decide +kernel))
theorem lf_RX7_293 : fl_ RX7 293 (TX6 1) := Or.inr (List.mem_of_getElem? (i := 144) (by decide +kernel))
theorem lf_RX7_296 : fl_ RX7 296 (TX6 0) := Or.inr (List.mem_of_getElem? (i := 142) (by decide +kernel))
theorem lf_RX7_30 : fl_ RX7 30 (TX7 3) := Or.inl (List.mem_of_getElem? (i := 226) (by decide +kernel))
theorem lf_RX7_37 : fl_ RX7 37 (TX7 4) := Or.inl (List.mem_of_getElem? (i := 227) (by decide +kernel))
theorem lf_RX7_44 : fl_ RX7 44 (TX7 5) := Or.inl (List.mem_of_getElem? (i := 228) (by decide +kernel))
theorem lf_RX7_48 : fl_ RX7 48 (TX7 6) := Or.inl (List.mem_of_getElem? (i := 229) (by decide +kernel))
theorem lf_RX7_55 : fl_ RX7 55 (TX7 7) := Or.inl (List.mem_of_getElem? (i := 230) (by decide +kernel))
theorem lf_RX7_59 : fl_ RX7 59 (TX7 8) := Or.inl (List.mem_of_getElem? (i := 231) (by decide +kernel))
theorem lf_RX7_79 : fl_ RX7 79 (TX5 0) := Or.inr (List.mem_of_getElem? (i := 89) (by decide +kernel))
theorem lf_RX7_89 : fl_ RX7 89 (TX5 1) := Or.inr (List.mem_of_getElem? (i := 91) (by decide +kernel))
theorem lf_RX8_107 : fl_ RX8 107 (TX8 16) := Or.inl (List.mem_of_getElem? (i := 788) (by decide +kernel))
theorem lf_RX8_113 : fl_ RX8 113 (TX8 17) := Or.inl (List.mem_of_getElem? (i := 789) (by decide +kernel))
theorem lf_RX8_116 : fl_ RX8 116 (TX8 18) := Or.inl (List.mem_of_getElem? (i := 790) (by decide +kernel))
theorem lf_RX8_119 : fl_ RX8 119 (TX8 19) := Or.inl (List.mem_of_getElem? (i := 791) (by decide +kernel))
theorem lf_RX8_13 : fl_ RX8 13 (TX8 4) := Or.inl (List.mem_of_getElem? (i := 776) (by decide +kernel))
theorem lf_RX8_141 : fl_ RX8 141 (TX8 10) := Or.inl (List.mem_of_getElem? (i := 782) (by decide +kernel))
theorem lf_RX8_144 : fl_ RX8 144 (TX8 11) := Or.inl (List.mem_of_getElem? (i := 783) (by decide +kernel))
theorem lf_RX8_147 : fl_ RX8 147 (TX8 12) := Or.inl (List.mem_of_getElem? (i := 784) (by decide +kernel))
theorem lf_RX8_150 : fl_ RX8 150 (TX8 21) := Or.inl (List.mem_of_getElem? (i := 793) (by decide +kernel))
theorem lf_RX8_17 : fl_ RX8 17 (TX8 5) := Or.inl (List.mem_of_getElem? (i := 777) (by decide +kernel))
theorem lf_RX8_20 : fl_ RX8 20 (TX8 6) := Or.inl (List.mem_of_getElem? (i := 778) (by decide +kernel))
theorem lf_RX8_23 : fl_ RX8 23 (TX8 7) := Or.inl (List.mem_of_getElem? (i := 779) (by decide +kernel))
theorem lf_RX8_249 : fl_ RX8 249 (TX8 28) := Or.inl (List.mem_of_getElem? (i := 800) (by decide +kernel))
theorem lf_RX8_252 : fl_ RX8 252 (TX8 27) := Or.inl (List.mem_of_getElem? (i := 799) (by decide +kernel))
theorem lf_RX8_26 : fl_ RX8 26 (TX8 8) := Or.inl (List.mem_of_getElem? (i := 780) (by decide +kernel))
theorem lf_RX8_287 : fl_ RX8 287 (TX8 30) := Or.inl (List.mem_of_getElem? (i := 802) (by decide +kernel))
theorem lf_RX8_29 : fl_ RX8 29 (TX8 9) := Or.inl (List.mem_of_getElem? (i := 781) (by decide +kernel))
theorem lf_RX8_32 : fl_ RX8 32 (TX8 13) := Or.inl (List.mem_of_getElem? (i := 785) (by decide +kernel))
theorem lf_RX8_35 : fl_ RX8 35 (TX8 14) := Or.inl (List.mem_of_getElem? (i := 786) (by decide +kernel))
theorem lf_RX8_38 : fl_ RX8 38 (TX8 15) := Or.inl (List.mem_of_getElem? (i := 787) (by decide +kernel))
theorem lf_RX8_41 : fl_ RX8 41 (TX8 20) := Or.inl (List.mem_of_getElem? (i := 792) (by decide +kernel))
theorem lf_RX8_44 : fl_ RX8 44 (TX8 22) := Or.inl (List.mem_of_getElem? (i := 794) (by decide +kernel))
theorem lf_RX8_47 : fl_ RX8 47 (TX8 23) := Or.inl (List.mem_of_getElem? (i := 795) (by decide +kernel))
theorem lf_RX8_50 : fl_ RX8 50 (TX8 24) := Or.inl (List.mem_of_getElem? (i := 796) (by decide +kernel))
theorem lf_RX8_53 : fl_ RX8 53 (TX8 25) := Or.inl (List.mem_of_getElem? (i := 797) (by decide +kernel))
theorem lf_RX8_56 : fl_ RX8 56 (TX8 26) := Or.inl (List.mem_of_getElem? (i := 798) (by decide +kernel))
theorem lf_RX8_59 : fl_ RX8 59 (TX8 29) := Or.inl (List.mem_of_getElem? (i := 801) (by decide +kernel))
theorem lf_RX8_62 : fl_ RX8 62 (TX8 0) := Or.inl (List.mem_of_getElem? (i := 772) (by decide +kernel))
theorem lf_RX8_66 : fl_ RX8 66 (TX8 2) := Or.inl (List.mem_of_getElem? (i := 774) (by decide +kernel))
theorem lf_RX8_69 : fl_ RX8 69 (TX8 3) := Or.inl (List.mem_of_getElem? (i := 775) (by decide +kernel))
theorem lf_RX8_7 : fl_ RX8 7 (TX8 1) := Or.inl (List.mem_of_getElem? (i := 773) (by decide +kernel))
theorem lm_RX0_26 : Cond.methodLink RX0 26 arraycopyName ∈ lw_tbl := List.mem_of_getElem? (i := 490) (by decide +kernel)
theorem lm_RX0_36 : Cond.methodLink RX0 36 yX2_goBack ∈ lw_tbl := List.mem_of_getElem? (i := 499) (by decide +kernel)
theorem lm_RX1_15 : Cond.methodLink RX1 15 yX2_felt ∈ lw_tbl := List.mem_of_getElem? (i := 405) (by decide +kernel)
theorem lm_RX1_19 : Cond.methodLink RX1 19 yX2_most ∈ lw_tbl := List.mem_of_getElem? (i := 412) (by decide +kernel)
theorem lm_RX1_23 : Cond.methodLink RX1 23 Lib.Math.max.name ∈ lw_tbl := List.mem_of_getElem? (i := 430) (by decide +kernel)
theorem lm_RX1_29 : Cond.methodLink RX1 29 yX1_hasItsWish ∈ lw_tbl := List.mem_of_getElem? (i := 436) (by decide +kernel)
theorem lm_RX1_39 : Cond.methodLink RX1 39 yX2_least ∈ lw_tbl := List.mem_of_getElem? (i := 439) (by decide +kernel)
theorem lm_RX1_42 : Cond.methodLink RX1 42 yX2_middleBy ∈ lw_tbl := List.mem_of_getElem? (i := 450) (by decide +kernel)
theorem lm_RX2_102 : Cond.methodLink RX2 102 yX2_ways ∈ lw_tbl := List.mem_of_getElem? (i := 541) (by decide +kernel)
theorem lm_RX2_105 : Cond.methodLink RX2 105 yX2_isApart ∈ lw_tbl := List.mem_of_getElem? (i := 560) (by decide +kernel)
theorem lm_RX2_109 : Cond.methodLink RX2 109 yX2_isSure ∈ lw_tbl := List.mem_of_getElem? (i := 614) (by decide +kernel)
theorem lm_RX2_32 : Cond.methodLink RX2 32 yX2_together ∈ lw_tbl := List.mem_of_getElem? (i := 380) (by decide +kernel)
theorem lm_RX2_36 : Cond.methodLink RX2 36 yX2_isOf ∈ lw_tbl := List.mem_of_getElem? (i := 731) (by decide +kernel)
theorem lm_RX2_45 : Cond.methodLink RX2 45 yX2_ofHead ∈ lw_tbl := List.mem_of_getElem? (i := 760) (by decide +kernel)
theorem lm_RX2_53 : Cond.methodLink RX2 53 yX2_repeat ∈ lw_tbl := List.mem_of_getElem? (i := 361) (by decide +kernel)
theorem lm_RX2_57 : Cond.methodLink RX2 57 arraycopyName ∈ lw_tbl := List.mem_of_getElem? (i := 360) (by decide +kernel)
theorem lm_RX2_63 : Cond.methodLink RX2 63 Lib.Math.min.name ∈ lw_tbl := List.mem_of_getElem? (i := 365) (by decide +kernel)
theorem lm_RX2_77 : Cond.methodLink RX2 77 yX2_felt ∈ lw_tbl := List.mem_of_getElem? (i := 420) (by decide +kernel)
theorem lm_RX2_81 : Cond.methodLink RX2 81 yX2_middle ∈ lw_tbl := List.mem_of_getElem? (i := 421) (by decide +kernel)
theorem lm_RX2_85 : Cond.methodLink RX2 85 yX2_middleBy ∈ lw_tbl := List.mem_of_getElem? (i := 416) (by decide +kernel)
theorem lm_RX2_89 : Cond.methodLink RX2 89 Lib.Math.max.name ∈ lw_tbl := List.mem_of_getElem? (i := 443) (by decide +kernel)
theorem lm_RX2_92 : Cond.methodLink RX2 92 yX2_most ∈ lw_tbl := List.mem_of_getElem? (i := 519) (by decide +kernel)
theorem lm_RX2_95 : Cond.methodLink RX2 95 yX2_least ∈ lw_tbl := List.mem_of_getElem? (i := 518) (by decide +kernel)
theorem lm_RX2_98 : Cond.methodLink RX2 98 yX2_canRead ∈ lw_tbl := List.mem_of_getElem? (i := 528) (by decide +kernel)
theorem lm_RX3_28 : Cond.methodLink RX3 28 yX2_surePosts ∈ lw_tbl := List.mem_of_getElem? (i := 623) (by decide +kernel)
theorem lm_RX3_32 : Cond.methodLink RX3 32 yX3_reckonFrom ∈ lw_tbl := List.mem_of_getElem? (i := 628) (by decide +kernel)
theorem lm_RX3_36 : Cond.methodLink RX3 36 yX3_isFree ∈ lw_tbl := List.mem_of_getElem? (i := 632) (by decide +kernel)
theorem lm_RX3_40 : Cond.methodLink RX3 40 yX3_payBy ∈ lw_tbl := List.mem_of_getElem? (i := 636) (by decide +kernel)
theorem lm_RX3_44 : Cond.methodLink RX3 44 Lib.Math.max.name ∈ lw_tbl := List.mem_of_getElem? (i := 640) (by decide +kernel)
theorem lm_RX4_28 : Cond.methodLink RX4 28 yX4_goesOn ∈ lw_tbl := List.mem_of_getElem? (i := 327) (by decide +kernel)
theorem lm_RX4_32 : Cond.methodLink RX4 32 yX4_takesFigure ∈ lw_tbl := List.mem_of_getElem? (i := 331) (by decide +kernel)
theorem lm_RX4_35 : Cond.methodLink RX4 35 yX4_opensItem ∈ lw_tbl := List.mem_of_getElem? (i := 341) (by decide +kernel)
theorem lm_RX4_38 : Cond.methodLink RX4 38 yX4_kindBy ∈ lw_tbl := List.mem_of_getElem? (i := 345) (by decide +kernel)
theorem lm_RX5_20 : Cond.methodLink RX5 20 yX5_lacks ∈ lw_tbl := List.mem_of_getElem? (i := 275) (by decide +kernel)
theorem lm_RX6_23 : Cond.methodLink RX6 23 yX6_commonDivisor ∈ lw_tbl := List.mem_of_getElem? (i := 549) (by decide +kernel)
theorem lm_RX7_102 : Cond.methodLink RX7 102 yX5_sum ∈ lw_tbl := List.mem_of_getElem? (i := 307) (by decide +kernel)
theorem lm_RX7_106 : Cond.methodLink RX7 106 yX4_into ∈ lw_tbl := List.mem_of_getElem? (i := 323) (by decide +kernel)
theorem lm_RX7_110 : Cond.methodLink RX7 110 yX2_goBack ∈ lw_tbl := List.mem_of_getElem? (i := 356) (by decide +kernel)
theorem lm_RX7_119 : Cond.methodLink RX7 119 yX2_has ∈ lw_tbl := List.mem_of_getElem? (i := 372) (by decide +kernel)
theorem lm_RX7_123 : Cond.methodLink RX7 123 yX2_ofHead ∈ lw_tbl := List.mem_of_getElem? (i := 376) (by decide +kernel)
theorem lm_RX7_132 : Cond.methodLink RX7 132 yX2_isOf ∈ lw_tbl := List.mem_of_getElem? (i := 396) (by decide +kernel)
theorem lm_RX7_135 : Cond.methodLink RX7 135 yX1_heavy ∈ lw_tbl := List.mem_of_getElem? (i := 402) (by decide +kernel)
theorem lm_RX7_141 : Cond.methodLink RX7 141 yX1_light ∈ lw_tbl := List.mem_of_getElem? (i := 409) (by decide +kernel)
theorem lm_RX7_145 : Cond.methodLink RX7 145 yX1_wishing ∈ lw_tbl := List.mem_of_getElem? (i := 433) (by decide +kernel)
theorem lm_RX7_148 : Cond.methodLink RX7 148 yX1_clerk ∈ lw_tbl := List.mem_of_getElem? (i := 444) (by decide +kernel)
theorem lm_RX7_151 : Cond.methodLink RX7 151 yX1_dull ∈ lw_tbl := List.mem_of_getElem? (i := 447) (by decide +kernel)
theorem lm_RX7_154 : Cond.methodLink RX7 154 yX7_isPlace ∈ lw_tbl := List.mem_of_getElem? (i := 459) (by decide +kernel)
theorem lm_RX7_161 : Cond.methodLink RX7 161 yX2_act ∈ lw_tbl := List.mem_of_getElem? (i := 462) (by decide +kernel)
theorem lm_RX7_164 : Cond.methodLink RX7 164 yX2_together ∈ lw_tbl := List.mem_of_getElem? (i := 470) (by decide +kernel)
theorem lm_RX7_167 : Cond.methodLink RX7 167 yX7_isKeptPlace ∈ lw_tbl := List.mem_of_getElem? (i := 483) (by decide +kernel)
theorem lm_RX7_170 : Cond.methodLink RX7 170 yX0_take ∈ lw_tbl := List.mem_of_getElem? (i := 486) (by decide +kernel)
theorem lm_RX7_174 : Cond.methodLink RX7 174 yX0_giveTo ∈ lw_tbl := List.mem_of_getElem? (i := 495) (by decide +kernel)
theorem lm_RX7_177 : Cond.methodLink RX7 177 yX2_most ∈ lw_tbl := List.mem_of_getElem? (i := 504) (by decide +kernel)
theorem lm_RX7_181 : Cond.methodLink RX7 181 yX2_least ∈ lw_tbl := List.mem_of_getElem? (i := 505) (by decide +kernel)
theorem lm_RX7_184 : Cond.methodLink RX7 184 yX7_findingOfReading ∈ lw_tbl := List.mem_of_getElem? (i := 510) (by decide +kernel)
theorem lm_RX7_187 : Cond.methodLink RX7 187 yX2_canRead ∈ lw_tbl := List.mem_of_getElem? (i := 514) (by decide +kernel)
theorem lm_RX7_191 : Cond.methodLink RX7 191 yX2_headsThatFit ∈ lw_tbl := List.mem_of_getElem? (i := 524) (by decide +kernel)
theorem lm_RX7_195 : Cond.methodLink RX7 195 yX2_weight ∈ lw_tbl := List.mem_of_getElem? (i := 537) (by decide +kernel)
theorem lm_RX7_199 : Cond.methodLink RX7 199 yX6_tellFraction ∈ lw_tbl := List.mem_of_getElem? (i := 545) (by decide +kernel)
theorem lm_RX7_203 : Cond.methodLink RX7 203 yX2_pairsApart ∈ lw_tbl := List.mem_of_getElem? (i := 556) (by decide +kernel)
theorem lm_RX7_206 : Cond.methodLink RX7 206 yX2_maySeem ∈ lw_tbl := List.mem_of_getElem? (i := 568) (by decide +kernel)
theorem lm_RX7_209 : Cond.methodLink RX7 209 yX2_isSure ∈ lw_tbl := List.mem_of_getElem? (i := 576) (by decide +kernel)
theorem lm_RX7_213 : Cond.methodLink RX7 213 yX2_isLucky ∈ lw_tbl := List.mem_of_getElem? (i := 580) (by decide +kernel)
theorem lm_RX7_216 : Cond.methodLink RX7 216 Lib.Math.max.name ∈ lw_tbl := List.mem_of_getElem? (i := 588) (by decide +kernel)
theorem lm_RX7_221 : Cond.methodLink RX7 221 yX2_ways ∈ lw_tbl := List.mem_of_getElem? (i := 589) (by decide +kernel)
theorem lm_RX7_225 : Cond.methodLink RX7 225 yX2_fewestPads ∈ lw_tbl := List.mem_of_getElem? (i := 594) (by decide +kernel)
theorem lm_RX7_228 : Cond.methodLink RX7 228 yX2_surePosts ∈ lw_tbl := List.mem_of_getElem? (i := 610) (by decide +kernel)
theorem lm_RX7_231 : Cond.methodLink RX7 231 yX3_openByOne ∈ lw_tbl := List.mem_of_getElem? (i := 619) (by decide +kernel)
theorem lm_RX7_235 : Cond.methodLink RX7 235 yX3_reckon ∈ lw_tbl := List.mem_of_getElem? (i := 624) (by decide +kernel)
theorem lm_RX7_238 : Cond.methodLink RX7 238 yX7_layBestPlan ∈ lw_tbl := List.mem_of_getElem? (i := 641) (by decide +kernel)
theorem lm_RX7_243 : Cond.methodLink RX7 243 yX3_openByAll ∈ lw_tbl := List.mem_of_getElem? (i := 661) (by decide +kernel)
theorem lm_RX7_246 : Cond.methodLink RX7 246 yX3_bestPay ∈ lw_tbl := List.mem_of_getElem? (i := 649) (by decide +kernel)
theorem lm_RX7_253 : Cond.methodLink RX7 253 yX7_findingOfThrees ∈ lw_tbl := List.mem_of_getElem? (i := 673) (by decide +kernel)
theorem lm_RX7_256 : Cond.methodLink RX7 256 yX7_threesFit ∈ lw_tbl := List.mem_of_getElem? (i := 677) (by decide +kernel)
theorem lm_RX7_259 : Cond.methodLink RX7 259 yX7_findingOfFates ∈ lw_tbl := List.mem_of_getElem? (i := 690) (by decide +kernel)
theorem lm_RX7_262 : Cond.methodLink RX7 262 yX2_placesAbove ∈ lw_tbl := List.mem_of_getElem? (i := 694) (by decide +kernel)
theorem lm_RX7_267 : Cond.methodLink RX7 267 yX7_nextLot ∈ lw_tbl := List.mem_of_getElem? (i := 703) (by decide +kernel)
theorem lm_RX7_281 : Cond.methodLink RX7 281 yX2_allTogether ∈ lw_tbl := List.mem_of_getElem? (i := 723) (by decide +kernel)
theorem lm_RX7_284 : Cond.methodLink RX7 284 yX2_wishingOnes ∈ lw_tbl := List.mem_of_getElem? (i := 727) (by decide +kernel)
theorem lm_RX7_287 : Cond.methodLink RX7 287 yX5_present ∈ lw_tbl := List.mem_of_getElem? (i := 732) (by decide +kernel)
theorem lm_RX7_290 : Cond.methodLink RX7 290 yX7_presentOffices ∈ lw_tbl := List.mem_of_getElem? (i := 736) (by decide +kernel)
theorem lm_RX7_303 : Cond.methodLink RX7 303 yX7_count ∈ lw_tbl := List.mem_of_getElem? (i := 754) (by decide +kernel)
theorem lm_RX7_306 : Cond.methodLink RX7 306 yX2_mix ∈ lw_tbl := List.mem_of_getElem? (i := 755) (by decide +kernel)
theorem lm_RX7_309 : Cond.methodLink RX7 309 yX5_mix ∈ lw_tbl := List.mem_of_getElem? (i := 761) (by decide +kernel)
theorem lm_RX7_312 : Cond.methodLink RX7 312 yX2_felt ∈ lw_tbl := List.mem_of_getElem? (i := 681) (by decide +kernel)
theorem lm_RX7_315 : Cond.methodLink RX7 315 yX2_middle ∈ lw_tbl := List.mem_of_getElem? (i := 682) (by decide +kernel)
theorem lm_RX7_319 : Cond.methodLink RX7 319 Lib.Math.abs.name ∈ lw_tbl := List.mem_of_getElem? (i := 683) (by decide +kernel)
theorem lm_RX7_322 : Cond.methodLink RX7 322 yX3_bestPost ∈ lw_tbl := List.mem_of_getElem? (i := 645) (by decide +kernel)
theorem lm_RX7_63 : Cond.methodLink RX7 63 yX5_allows ∈ lw_tbl := List.mem_of_getElem? (i := 255) (by decide +kernel)
theorem lm_RX7_67 : Cond.methodLink RX7 67 yX6_refuse ∈ lw_tbl := List.mem_of_getElem? (i := 259) (by decide +kernel)
theorem lm_RX7_71 : Cond.methodLink RX7 71 yX5_renew ∈ lw_tbl := List.mem_of_getElem? (i := 263) (by decide +kernel)
theorem lm_RX7_75 : Cond.methodLink RX7 75 yX5_findingAt ∈ lw_tbl := List.mem_of_getElem? (i := 271) (by decide +kernel)
theorem lm_RX7_83 : Cond.methodLink RX7 83 yX6_tell ∈ lw_tbl := List.mem_of_getElem? (i := 279) (by decide +kernel)
theorem lm_RX7_86 : Cond.methodLink RX7 86 yX5_lacks ∈ lw_tbl := List.mem_of_getElem? (i := 291) (by decide +kernel)
theorem lm_RX7_92 : Cond.methodLink RX7 92 yX5_spans ∈ lw_tbl := List.mem_of_getElem? (i := 296) (by decide +kernel)
theorem lm_RX7_96 : Cond.methodLink RX7 96 arraycopyName ∈ lw_tbl := List.mem_of_getElem? (i := 300) (by decide +kernel)
theorem lm_RX8_101 : Cond.methodLink RX8 101 yX8_at ∈ lw_tbl := List.mem_of_getElem? (i := 904) (by decide +kernel)
theorem lm_RX8_104 : Cond.methodLink RX8 104 yX8_askedText ∈ lw_tbl := List.mem_of_getElem? (i := 928) (by decide +kernel)
theorem lm_RX8_110 : Cond.methodLink RX8 110 yX8_here ∈ lw_tbl := List.mem_of_getElem? (i := 940) (by decide +kernel)
theorem lm_RX8_122 : Cond.methodLink RX8 122 yX8_figure ∈ lw_tbl := List.mem_of_getElem? (i := 948) (by decide +kernel)
theorem lm_RX8_126 : Cond.methodLink RX8 126 yX8_kindOf ∈ lw_tbl := List.mem_of_getElem? (i := 960) (by decide +kernel)
theorem lm_RX8_129 : Cond.methodLink RX8 129 yX8_readsHead ∈ lw_tbl := List.mem_of_getElem? (i := 944) (by decide +kernel)
theorem lm_RX8_132 : Cond.methodLink RX8 132 yX8_readsPost ∈ lw_tbl := List.mem_of_getElem? (i := 952) (by decide +kernel)
theorem lm_RX8_135 : Cond.methodLink RX8 135 yX8_readsThumb ∈ lw_tbl := List.mem_of_getElem? (i := 956) (by decide +kernel)
theorem lm_RX8_138 : Cond.methodLink RX8 138 yX8_goesOn ∈ lw_tbl := List.mem_of_getElem? (i := 936) (by decide +kernel)
theorem lm_RX8_153 : Cond.methodLink RX8 153 yX8_bump ∈ lw_tbl := List.mem_of_getElem? (i := 983) (by decide +kernel)
theorem lm_RX8_156 : Cond.methodLink RX8 156 yX8_bumps ∈ lw_tbl := List.mem_of_getElem? (i := 979) (by decide +kernel)
theorem lm_RX8_159 : Cond.methodLink RX8 159 yX8_isHead ∈ lw_tbl := List.mem_of_getElem? (i := 971) (by decide +kernel)
theorem lm_RX8_162 : Cond.methodLink RX8 162 yX8_headOf ∈ lw_tbl := List.mem_of_getElem? (i := 975) (by decide +kernel)
theorem lm_RX8_165 : Cond.methodLink RX8 165 yX8_isThumb ∈ lw_tbl := List.mem_of_getElem? (i := 991) (by decide +kernel)
theorem lm_RX8_168 : Cond.methodLink RX8 168 yX8_isPost ∈ lw_tbl := List.mem_of_getElem? (i := 999) (by decide +kernel)
theorem lm_RX8_171 : Cond.methodLink RX8 171 yX8_greater ∈ lw_tbl := List.mem_of_getElem? (i := 1027) (by decide +kernel)
theorem lm_RX8_174 : Cond.methodLink RX8 174 yX8_lesser ∈ lw_tbl := List.mem_of_getElem? (i := 1033) (by decide +kernel)
theorem lm_RX8_177 : Cond.methodLink RX8 177 yX8_felt ∈ lw_tbl := List.mem_of_getElem? (i := 1023) (by decide +kernel)
theorem lm_RX8_180 : Cond.methodLink RX8 180 yX8_middleOf ∈ lw_tbl := List.mem_of_getElem? (i := 1030) (by decide +kernel)
theorem lm_RX8_184 : Cond.methodLink RX8 184 yX8_middle ∈ lw_tbl := List.mem_of_getElem? (i := 1019) (by decide +kernel)
theorem lm_RX8_188 : Cond.methodLink RX8 188 yX8_least ∈ lw_tbl := List.mem_of_getElem? (i := 1015) (by decide +kernel)
theorem lm_RX8_191 : Cond.methodLink RX8 191 yX8_most ∈ lw_tbl := List.mem_of_getElem? (i := 1036) (by decide +kernel)
theorem lm_RX8_194 : Cond.methodLink RX8 194 yX8_isA ∈ lw_tbl := List.mem_of_getElem? (i := 1007) (by decide +kernel)
theorem lm_RX8_198 : Cond.methodLink RX8 198 yX8_marked ∈ lw_tbl := List.mem_of_getElem? (i := 1011) (by decide +kernel)
theorem lm_RX8_201 : Cond.methodLink RX8 201 yX8_write ∈ lw_tbl := List.mem_of_getElem? (i := 1055) (by decide +kernel)
theorem lm_RX8_205 : Cond.methodLink RX8 205 yX8_isPlace ∈ lw_tbl := List.mem_of_getElem? (i := 1048) (by decide +kernel)
theorem lm_RX8_208 : Cond.methodLink RX8 208 yX8_note ∈ lw_tbl := List.mem_of_getElem? (i := 1051) (by decide +kernel)
theorem lm_RX8_211 : Cond.methodLink RX8 211 yX8_readBack ∈ lw_tbl := List.mem_of_getElem? (i := 1071) (by decide +kernel)
theorem lm_RX8_214 : Cond.methodLink RX8 214 yX8_askedReading ∈ lw_tbl := List.mem_of_getElem? (i := 1091) (by decide +kernel)
theorem lm_RX8_217 : Cond.methodLink RX8 217 yX8_doesFit ∈ lw_tbl := List.mem_of_getElem? (i := 1095) (by decide +kernel)
theorem lm_RX8_220 : Cond.methodLink RX8 220 yX8_headsBy ∈ lw_tbl := List.mem_of_getElem? (i := 1103) (by decide +kernel)
theorem lm_RX8_223 : Cond.methodLink RX8 223 yX8_spread ∈ lw_tbl := List.mem_of_getElem? (i := 1119) (by decide +kernel)
theorem lm_RX8_226 : Cond.methodLink RX8 226 yX8_weight ∈ lw_tbl := List.mem_of_getElem? (i := 1115) (by decide +kernel)
theorem lm_RX8_230 : Cond.methodLink RX8 230 yX8_part ∈ lw_tbl := List.mem_of_getElem? (i := 1123) (by decide +kernel)
theorem lm_RX8_234 : Cond.methodLink RX8 234 yX8_areApart ∈ lw_tbl := List.mem_of_getElem? (i := 1131) (by decide +kernel)
theorem lm_RX8_237 : Cond.methodLink RX8 237 yX8_need ∈ lw_tbl := List.mem_of_getElem? (i := 1147) (by decide +kernel)
theorem lm_RX8_240 : Cond.methodLink RX8 240 yX8_suitsOf ∈ lw_tbl := List.mem_of_getElem? (i := 1143) (by decide +kernel)
theorem lm_RX8_243 : Cond.methodLink RX8 243 yX8_padsAt ∈ lw_tbl := List.mem_of_getElem? (i := 1159) (by decide +kernel)
theorem lm_RX8_246 : Cond.methodLink RX8 246 yX8_row ∈ lw_tbl := List.mem_of_getElem? (i := 1163) (by decide +kernel)
theorem lm_RX8_255 : Cond.methodLink RX8 255 yX8_has ∈ lw_tbl := List.mem_of_getElem? (i := 1192) (by decide +kernel)
theorem lm_RX8_258 : Cond.methodLink RX8 258 yX8_planOn ∈ lw_tbl := List.mem_of_getElem? (i := 1188) (by decide +kernel)
theorem lm_RX8_261 : Cond.methodLink RX8 261 yX8_layMay ∈ lw_tbl := List.mem_of_getElem? (i := 1184) (by decide +kernel)
theorem lm_RX8_265 : Cond.methodLink RX8 265 yX8_goPlans ∈ lw_tbl := List.mem_of_getElem? (i := 1180) (by decide +kernel)
theorem lm_RX8_268 : Cond.methodLink RX8 268 yX8_layPlan ∈ lw_tbl := List.mem_of_getElem? (i := 1195) (by decide +kernel)
theorem lm_RX8_271 : Cond.methodLink RX8 271 yX8_doesLearn ∈ lw_tbl := List.mem_of_getElem? (i := 1215) (by decide +kernel)
theorem lm_RX8_279 : Cond.methodLink RX8 279 yX8_isAlone ∈ lw_tbl := List.mem_of_getElem? (i := 1230) (by decide +kernel)
theorem lm_RX8_282 : Cond.methodLink RX8 282 yX8_tellsOf ∈ lw_tbl := List.mem_of_getElem? (i := 1250) (by decide +kernel)
theorem lm_RX8_290 : Cond.methodLink RX8 290 yX8_mix ∈ lw_tbl := List.mem_of_getElem? (i := 1267) (by decide +kernel)
theorem lm_RX8_295 : Cond.methodLink RX8 295 yX8_mixOffice ∈ lw_tbl := List.mem_of_getElem? (i := 1272) (by decide +kernel)
theorem lm_RX8_72 : Cond.methodLink RX8 72 yX8_in ∈ lw_tbl := List.mem_of_getElem? (i := 873) (by decide +kernel)
theorem lm_RX8_76 : Cond.methodLink RX8 76 yX8_isRow ∈ lw_tbl := List.mem_of_getElem? (i := 870) (by decide +kernel)
theorem lm_RX8_80 : Cond.methodLink RX8 80 yX8_meet ∈ lw_tbl := List.mem_of_getElem? (i := 876) (by decide +kernel)
theorem lm_RX8_84 : Cond.methodLink RX8 84 yX8_isText ∈ lw_tbl := List.mem_of_getElem? (i := 921) (by decide +kernel)
theorem lm_RX8_87 : Cond.methodLink RX8 87 yX8_setRow ∈ lw_tbl := List.mem_of_getElem? (i := 880) (by decide +kernel)
theorem lm_RX8_91 : Cond.methodLink RX8 91 yX8_askedRow ∈ lw_tbl := List.mem_of_getElem? (i := 888) (by decide +kernel)
theorem lm_RX8_94 : Cond.methodLink RX8 94 yX8_rowAt ∈ lw_tbl := List.mem_of_getElem? (i := 892) (by decide +kernel)
theorem lm_RX8_98 : Cond.methodLink RX8 98 yX8_ask ∈ lw_tbl := List.mem_of_getElem? (i := 896) (by decide +kernel)
theorem bq_m9 : (Int8.ofInt (-9)).toInt32 = -9 := by decide
theorem bq_m4 : (Int8.ofInt (-4)).toInt32 = -4 := by decide
theorem bq_m3 : (Int8.ofInt (-3)).toInt32 = -3 := by decide
theorem bq_m2 : (Int8.ofInt (-2)).toInt32 = -2 := by decide
theorem bq_6 : (Int8.ofInt (6)).toInt32 = 6 := by decide
theorem bq_7 : (Int8.ofInt (7)).toInt32 = 7 := by decide
theorem bq_8 : (Int8.ofInt (8)).toInt32 = 8 := by decide
theorem bq_9 : (Int8.ofInt (9)).toInt32 = 9 := by decide
theorem bq_12 : (Int8.ofInt (12)).toInt32 = 12 := by decide
theorem bq_15 : (Int8.ofInt (15)).toInt32 = 15 := by decide
theorem bq_20 : (Int8.ofInt (20)).toInt32 = 20 := by decide
theorem bq_24 : (Int8.ofInt (24)).toInt32 = 24 := by decide
theorem bq_25 : (Int8.ofInt (25)).toInt32 = 25 := by decide
theorem bq_30 : (Int8.ofInt (30)).toInt32 = 30 := by decide
theorem bq_32 : (Int8.ofInt (32)).toInt32 = 32 := by decide
theorem bq_37 : (Int8.ofInt (37)).toInt32 = 37 := by decide
theorem bq_40 : (Int8.ofInt (40)).toInt32 = 40 := by decide
theorem bq_48 : (Int8.ofInt (48)).toInt32 = 48 := by decide
theorem bq_60 : (Int8.ofInt (60)).toInt32 = 60 := by decide
theorem bq_80 : (Int8.ofInt (80)).toInt32 = 80 := by decide
theorem bq_99 : (Int8.ofInt (99)).toInt32 = 99 := by decide
theorem bq_100 : (Int8.ofInt (100)).toInt32 = 100 := by decide
theorem bq_104 : (Int8.ofInt (104)).toInt32 = 104 := by decide
theorem bq_108 : (Int8.ofInt (108)).toInt32 = 108 := by decide
theorem bq_112 : (Int8.ofInt (112)).toInt32 = 112 := by decide
theorem bq_116 : (Int8.ofInt (116)).toInt32 = 116 := by decide
theorem bq_118 : (Int8.ofInt (118)).toInt32 = 118 := by decide
theorem bq_119 : (Int8.ofInt (119)).toInt32 = 119 := by decide
theorem sq_1000 : (Int16.ofInt (1000)).toInt32 = 1000 := by decide
theorem sq_1030 : (Int16.ofInt (1030)).toInt32 = 1030 := by decide
end
section
theorem dd_X5_allows : dd_ cX5_allows [(0, .iload_n 1, 1), (1, .ifCond .lt 16, 3), (4, .iload_n 1, 1), (5, .aload_n 0, 1), (6, .getfield 16, 3), (9, .arraylength, 1), (10, .if_icmp .ge 7, 3), (13, .iconst 1, 1), (14, .goto 4, 3), (17, .iconst 0, 1), (18, .ireturn, 1)] := by decide +kernel
theorem dd_X5_renew : dd_ cX5_renew [(0, .aload_n 0, 1), (1, .getfield 16, 3), (4, .iload_n 1, 1), (5, .iload_n 2, 1), (6, .iastore, 1), (7, .iconst 0, 1), (8, .istore 4, 2), (10, .iload 4, 2), (12, .iload_n 2, 1), (13, .if_icmp .ge 19, 3), (16, .aload_n 0, 1), (17, .getfield 11, 3), (20, .iload_n 1, 1), (21, .aaload, 1), (22, .iload 4, 2), (24, .iload_n 3, 1), (25, .iastore, 1), (26, .iinc 4 1, 3), (29, .goto (-19), 3), (32, .return_, 1)] := by decide +kernel
theorem dd_X6_refuse : dd_ cX6_refuse [(0, .aload_n 0, 1), (1, .iload_n 1, 1), (2, .putfield 30, 3), (5, .aload_n 0, 1), (6, .getfield 9, 3), (9, .iload_n 1, 1), (10, .dup2, 1), (11, .iaload, 1), (12, .iconst 1, 1), (13, .iadd, 1), (14, .iastore, 1), (15, .bipush (-3), 2), (17, .ireturn, 1)] := by decide +kernel
theorem dd_X7_row : dd_ cX7_row [(0, .aload_n 0, 1), (1, .getfield 14, 3), (4, .iload_n 1, 1), (5, .invokevirtual 63, 3), (8, .ifCond .eq 9, 3), (11, .iload_n 2, 1), (12, .bipush 40, 2), (14, .if_icmp .le 5, 3), (17, .iconst (-1), 1), (18, .ireturn, 1), (19, .iload_n 2, 1), (20, .ifCond .ge 12, 3), (23, .aload_n 0, 1), (24, .getfield 44, 3), (27, .iconst 5, 1), (28, .invokevirtual 67, 3), (31, .ireturn, 1), (32, .aload_n 0, 1), (33, .getfield 14, 3), (36, .iload_n 1, 1), (37, .iload_n 2, 1), (38, .iconst 0, 1), (39, .invokevirtual 71, 3), (42, .iload_n 2, 1), (43, .ireturn, 1)] := by decide +kernel
theorem dd_X5_lacks : dd_ cX5_lacks [(0, .aload_n 0, 1), (1, .getfield 16, 3), (4, .iload_n 1, 1), (5, .iaload, 1), (6, .iconst (-1), 1), (7, .if_icmp .ne 7, 3), (10, .iconst 1, 1), (11, .goto 4, 3), (14, .iconst 0, 1), (15, .ireturn, 1)] := by decide +kernel
theorem dd_X5_findingAt : dd_ cX5_findingAt [(0, .aload_n 0, 1), (1, .iload_n 1, 1), (2, .invokevirtual 20, 3), (5, .ifCond .eq 5, 3), (8, .iconst 1, 1), (9, .ireturn, 1), (10, .iload_n 2, 1), (11, .ifCond .lt 13, 3), (14, .iload_n 2, 1), (15, .aload_n 0, 1), (16, .getfield 16, 3), (19, .iload_n 1, 1), (20, .iaload, 1), (21, .if_icmp .lt 7, 3), (24, .iconst 2, 1), (25, .goto 4, 3), (28, .iconst 0, 1), (29, .ireturn, 1)] := by decide +kernel
theorem dd_X6_tell : dd_ cX6_tell [(0, .aload_n 0, 1), (1, .iload_n 1, 1), (2, .putfield 19, 3), (5, .iconst 1, 1), (6, .ireturn, 1)] := by decide +kernel
theorem dd_X7_lay : dd_ cX7_lay [(0, .aload_n 0, 1), (1, .getfield 14, 3), (4, .iload_n 1, 1), (5, .invokevirtual 63, 3), (8, .ifCond .ne 5, 3), (11, .iconst (-1), 1), (12, .ireturn, 1), (13, .aload_n 0, 1), (14, .getfield 14, 3), (17, .iload_n 1, 1), (18, .iload_n 2, 1), (19, .invokevirtual 75, 3), (22, .istore 4, 2), (24, .iload 4, 2), (26, .ifCond .eq 13, 3), (29, .aload_n 0, 1), (30, .getfield 44, 3), (33, .iload 4, 2), (35, .invokevirtual 67, 3), (38, .ireturn, 1), (39, .aload_n 0, 1), (40, .getfield 14, 3), (43, .getfield 79, 3), (46, .iload_n 1, 1), (47, .aaload, 1), (48, .iload_n 2, 1), (49, .iaload, 1), (50, .istore 5, 2), (52, .aload_n 0, 1), (53, .getfield 14, 3), (56, .getfield 79, 3), (59, .iload_n 1, 1), (60, .aaload, 1), (61, .iload_n 2, 1), (62, .iload_n 3, 1), (63, .iastore, 1), (64, .aload_n 0, 1), (65, .getfield 44, 3), (68, .iload 5, 2), (70, .invokevirtual 83, 3), (73, .ireturn, 1)] := by decide +kernel
theorem dd_X7_at : dd_ cX7_at [(0, .aload_n 0, 1), (1, .getfield 14, 3), (4, .iload_n 1, 1), (5, .invokevirtual 63, 3), (8, .ifCond .ne 5, 3), (11, .iconst (-1), 1), (12, .ireturn, 1), (13, .aload_n 0, 1), (14, .getfield 14, 3), (17, .iload_n 1, 1), (18, .iload_n 2, 1), (19, .invokevirtual 75, 3), (22, .istore_n 3, 1), (23, .iload_n 3, 1), (24, .ifCond .eq 12, 3), (27, .aload_n 0, 1), (28, .getfield 44, 3), (31, .iload_n 3, 1), (32, .invokevirtual 67, 3), (35, .ireturn, 1), (36, .aload_n 0, 1), (37, .getfield 44, 3), (40, .aload_n 0, 1), (41, .getfield 14, 3), (44, .getfield 79, 3), (47, .iload_n 1, 1), (48, .aaload, 1), (49, .iload_n 2, 1), (50, .iaload, 1), (51, .invokevirtual 83, 3), (54, .ireturn, 1)] := by decide +kernel
theorem dd_X7_tear : dd_ cX7_tear [(0, .aload_n 0, 1), (1, .getfield 14, 3), (4, .iload_n 1, 1), (5, .invokevirtual 63, 3), (8, .ifCond .ne 5, 3), (11, .iconst (-1), 1), (12, .ireturn, 1), (13, .aload_n 0, 1), (14, .getfield 14, 3), (17, .iload_n 1, 1), (18, .invokevirtual 86, 3), (21, .ifCond .eq 12, 3), (24, .aload_n 0, 1), (25, .getfield 44, 3), (28, .iconst 1, 1), (29, .invokevirtual 67, 3), (32, .ireturn, 1), (33, .aload_n 0, 1), (34, .getfield 14, 3), (37, .getfield 89, 3), (40, .iload_n 1, 1), (41, .iconst (-1), 1), (42, .iastore, 1), (43, .iconst 1, 1), (44, .ireturn, 1)] := by decide +kernel
theorem dd_X5_spans : dd_ cX5_spans [(0, .iload_n 2, 1), (1, .ifCond .lt 29, 3), (4, .iload_n 3, 1), (5, .aload_n 0, 1), (6, .getfield 16, 3), (9, .iload_n 1, 1), (10, .iaload, 1), (11, .if_icmp .gt 19, 3), (14, .iload_n 2, 1), (15, .aload_n 0, 1), (16, .getfield 16, 3), (19, .iload_n 1, 1), (20, .iaload, 1), (21, .iload_n 3, 1), (22, .isub, 1), (23, .if_icmp .gt 7, 3), (26, .iconst 1, 1), (27, .goto 4, 3), (30, .iconst 0, 1), (31, .ireturn, 1)] := by decide +kernel
theorem dd_X7_copy : dd_ cX7_copy [(0, .aload_n 0, 1), (1, .getfield 14, 3), (4, .iload_n 1, 1), (5, .invokevirtual 63, 3), (8, .ifCond .eq 14, 3), (11, .aload_n 0, 1), (12, .getfield 14, 3), (15, .iload_n 3, 1), (16, .invokevirtual 63, 3), (19, .ifCond .ne 5, 3), (22, .iconst (-1), 1), (23, .ireturn, 1), (24, .iload 5, 2), (26, .ifCond .ge 12, 3), (29, .aload_n 0, 1), (30, .getfield 44, 3), (33, .iconst 5, 1), (34, .invokevirtual 67, 3), (37, .ireturn, 1), (38, .aload_n 0, 1), (39, .getfield 14, 3), (42, .iload_n 1, 1), (43, .invokevirtual 86, 3), (46, .ifCond .ne 14, 3), (49, .aload_n 0, 1), (50, .getfield 14, 3), (53, .iload_n 3, 1), (54, .invokevirtual 86, 3), (57, .ifCond .eq 12, 3), (60, .aload_n 0, 1), (61, .getfield 44, 3), (64, .iconst 1, 1), (65, .invokevirtual 67, 3), (68, .ireturn, 1), (69, .aload_n 0, 1), (70, .getfield 14, 3), (73, .iload_n 1, 1), (74, .iload_n 2, 1), (75, .iload 5, 2), (77, .invokevirtual 92, 3), (80, .ifCond .eq 18, 3), (83, .aload_n 0, 1), (84, .getfield 14, 3), (87, .iload_n 3, 1), (88, .iload 4, 2), (90, .iload 5, 2), (92, .invokevirtual 92, 3), (95, .ifCond .ne 12, 3), (98, .aload_n 0, 1), (99, .getfield 44, 3), (102, .iconst 2, 1), (103, .invokevirtual 67, 3), (106, .ireturn, 1), (107, .aload_n 0, 1), (108, .getfield 14, 3), (111, .getfield 79, 3), (114, .iload_n 1, 1), (115, .aaload, 1), (116, .iload_n 2, 1), (117, .aload_n 0, 1), (118, .getfield 14, 3), (121, .getfield 79, 3), (124, .iload_n 3, 1), (125, .aaload, 1), (126, .iload 4, 2), (128, .iload 5, 2), (130, .invokestatic 96, 3), (133, .iconst 1, 1), (134, .ireturn, 1)] := by decide +kernel
theorem dd_X5_sum : dd_ cX5_sum [(0, .lconst 0, 1), (1, .lstore_n 2, 1), (2, .iconst 0, 1), (3, .istore 4, 2), (5, .iload 4, 2), (7, .aload_n 0, 1), (8, .getfield 16, 3), (11, .iload_n 1, 1), (12, .iaload, 1), (13, .if_icmp .ge 22, 3), (16, .lload_n 2, 1), (17, .aload_n 0, 1), (18, .getfield 11, 3), (21, .iload_n 1, 1), (22, .aaload, 1), (23, .iload 4, 2), (25, .iaload, 1), (26, .i2l, 1), (27, .ladd, 1), (28, .lstore_n 2, 1), (29, .iinc 4 1, 3), (32, .goto (-27), 3), (35, .lload_n 2, 1), (36, .lreturn, 1)] := by decide +kernel
theorem dd_X7_mean : dd_ cX7_mean [(0, .aload_n 0, 1), (1, .getfield 14, 3), (4, .iload_n 1, 1), (5, .invokevirtual 63, 3), (8, .ifCond .ne 5, 3), (11, .iconst (-1), 1), (12, .ireturn, 1), (13, .aload_n 0, 1), (14, .getfield 14, 3), (17, .iload_n 1, 1), (18, .invokevirtual 86, 3), (21, .ifCond .eq 12, 3), (24, .aload_n 0, 1), (25, .getfield 44, 3), (28, .iconst 1, 1), (29, .invokevirtual 67, 3), (32, .ireturn, 1), (33, .aload_n 0, 1), (34, .getfield 14, 3), (37, .getfield 89, 3), (40, .iload_n 1, 1), (41, .iaload, 1), (42, .istore_n 2, 1), (43, .iload_n 2, 1), (44, .ifCond .ne 12, 3), (47, .aload_n 0, 1), (48, .getfield 44, 3), (51, .iconst 4, 1), (52, .invokevirtual 67, 3), (55, .ireturn, 1), (56, .aload_n 0, 1), (57, .getfield 44, 3), (60, .aload_n 0, 1), (61, .getfield 14, 3), (64, .iload_n 1, 1), (65, .invokevirtual 102, 3), (68, .iload_n 2, 1), (69, .i2l, 1), (70, .ldiv, 1), (71, .l2i, 1), (72, .invokevirtual 83, 3), (75, .ireturn, 1)] := by decide +kernel
theorem dd_X7_text : dd_ cX7_text [(0, .aload_n 0, 1), (1, .getfield 18, 3), (4, .iload_n 1, 1), (5, .invokevirtual 63, 3), (8, .ifCond .eq 9, 3), (11, .iload_n 2, 1), (12, .bipush 80, 2), (14, .if_icmp .le 5, 3), (17, .iconst (-1), 1), (18, .ireturn, 1), (19, .iload_n 2, 1), (20, .ifCond .ge 12, 3), (23, .aload_n 0, 1), (24, .getfield 44, 3), (27, .iconst 5, 1), (28, .invokevirtual 67, 3), (31, .ireturn, 1), (32, .aload_n 0, 1), (33, .getfield 18, 3), (36, .iload_n 1, 1), (37, .iload_n 2, 1), (38, .bipush 32, 2), (40, .invokevirtual 71, 3), (43, .iload_n 2, 1), (44, .ireturn, 1)] := by decide +kernel
theorem dd_X7_put : dd_ cX7_put [(0, .aload_n 0, 1), (1, .getfield 18, 3), (4, .iload_n 1, 1), (5, .invokevirtual 63, 3), (8, .ifCond .ne 5, 3), (11, .iconst (-1), 1), (12, .ireturn, 1), (13, .aload_n 0, 1), (14, .getfield 18, 3), (17, .iload_n 1, 1), (18, .iload_n 2, 1), (19, .invokevirtual 75, 3), (22, .istore 4, 2), (24, .iload 4, 2), (26, .ifCond .eq 13, 3), (29, .aload_n 0, 1), (30, .getfield 44, 3), (33, .iload 4, 2), (35, .invokevirtual 67, 3), (38, .ireturn, 1), (39, .aload_n 0, 1), (40, .getfield 18, 3), (43, .getfield 79, 3), (46, .iload_n 1, 1), (47, .aaload, 1), (48, .iload_n 2, 1), (49, .iaload, 1), (50, .istore 5, 2), (52, .aload_n 0, 1), (53, .getfield 18, 3), (56, .getfield 79, 3), (59, .iload_n 1, 1), (60, .aaload, 1), (61, .iload_n 2, 1), (62, .iload_n 3, 1), (63, .i2b, 1), (64, .iastore, 1), (65, .iload 5, 2), (67, .sipush 1000, 3), (70, .iadd, 1), (71, .ireturn, 1)] := by decide +kernel
theorem dd_X4_kindBy : dd_ cX4_kindBy [(0, .iconst 0, 1), (1, .istore_n 1, 1), (2, .iload_n 1, 1), (3, .bipush 6, 2), (5, .if_icmp .ge 20, 3), (8, .getstatic 52, 3), (11, .iload_n 1, 1), (12, .iaload, 1), (13, .iload_n 0, 1), (14, .if_icmp .ne 5, 3), (17, .iload_n 1, 1), (18, .ireturn, 1), (19, .iinc 1 1, 3), (22, .goto (-20), 3), (25, .bipush (-9), 2), (27, .ireturn, 1)] := by decide +kernel
theorem dd_X4_opensItem : dd_ cX4_opensItem [(0, .iload_n 1, 1), (1, .invokestatic 38, 3), (4, .istore_n 2, 1), (5, .iload_n 2, 1), (6, .bipush (-9), 2), (8, .if_icmp .eq 7, 3), (11, .iconst 1, 1), (12, .goto 25, 3), (15, .iload_n 1, 1), (16, .bipush 104, 2), (18, .if_icmp .ne 7, 3), (21, .iconst 0, 1), (22, .goto 15, 3), (25, .iload_n 1, 1), (26, .bipush 112, 2), (28, .if_icmp .ne 7, 3), (31, .iconst 2, 1), (32, .goto 5, 3), (35, .bipush (-9), 2), (37, .istore_n 3, 1), (38, .iload_n 3, 1), (39, .aload_n 0, 1), (40, .getfield 15, 3), (43, .if_icmp .lt 36, 3), (46, .iload_n 3, 1), (47, .ifCond .eq 15, 3), (50, .aload_n 0, 1), (51, .getfield 9, 3), (54, .getfield 22, 3), (57, .iconst 0, 1), (58, .iaload, 1), (59, .ifCond .eq 20, 3), (62, .aload_n 0, 1), (63, .getfield 9, 3), (66, .getfield 22, 3), (69, .iload_n 3, 1), (70, .iaload, 1), (71, .getstatic 42, 3), (74, .iload_n 3, 1), (75, .iaload, 1), (76, .if_icmp .lt 5, 3), (79, .iconst 0, 1), (80, .ireturn, 1), (81, .iload_n 3, 1), (82, .iconst 1, 1), (83, .if_icmp .ne 23, 3), (86, .aload_n 0, 1), (87, .getfield 9, 3), (90, .getfield 45, 3), (93, .aload_n 0, 1), (94, .getfield 9, 3), (97, .getfield 22, 3), (100, .iconst 1, 1), (101, .iaload, 1), (102, .aaload, 1), (103, .iconst 0, 1), (104, .iload_n 2, 1), (105, .iastore, 1), (106, .aload_n 0, 1), (107, .iload_n 3, 1), (108, .putfield 15, 3), (111, .aload_n 0, 1), (112, .getstatic 49, 3), (115, .iload_n 3, 1), (116, .iaload, 1), (117, .putfield 19, 3), (120, .aload_n 0, 1), (121, .getfield 9, 3), (124, .getfield 22, 3), (127, .iload_n 3, 1), (128, .dup2, 1), (129, .iaload, 1), (130, .iconst 1, 1), (131, .iadd, 1), (132, .iastore, 1), (133, .iconst 1, 1), (134, .ireturn, 1)] := by decide +kernel
theorem dd_X4_takesFigure : dd_ cX4_takesFigure [(0, .getstatic 49, 3), (3, .aload_n 0, 1), (4, .getfield 15, 3), (7, .iaload, 1), (8, .aload_n 0, 1), (9, .getfield 19, 3), (12, .isub, 1), (13, .istore_n 2, 1), (14, .iload_n 1, 1), (15, .bipush 48, 2), (17, .isub, 1), (18, .istore_n 3, 1), (19, .iload_n 3, 1), (20, .getstatic 55, 3), (23, .aload_n 0, 1), (24, .getfield 15, 3), (27, .iconst 5, 1), (28, .imul, 1), (29, .iload_n 2, 1), (30, .iadd, 1), (31, .iaload, 1), (32, .if_icmp .lt 19, 3), (35, .iload_n 3, 1), (36, .getstatic 58, 3), (39, .aload_n 0, 1), (40, .getfield 15, 3), (43, .iconst 5, 1), (44, .imul, 1), (45, .iload_n 2, 1), (46, .iadd, 1), (47, .iaload, 1), (48, .if_icmp .le 5, 3), (51, .iconst 0, 1), (52, .ireturn, 1), (53, .aload_n 0, 1), (54, .getfield 9, 3), (57, .getfield 22, 3), (60, .aload_n 0, 1), (61, .getfield 15, 3), (64, .iaload, 1), (65, .iconst 1, 1), (66, .isub, 1), (67, .istore 4, 2), (69, .aload_n 0, 1), (70, .getfield 15, 3), (73, .ifCond .ne 19, 3), (76, .aload_n 0, 1), (77, .getfield 9, 3), (80, .getfield 61, 3), (83, .iload 4, 2), (85, .aaload, 1), (86, .iload_n 2, 1), (87, .iload_n 3, 1), (88, .iastore, 1), (89, .goto 42, 3), (92, .aload_n 0, 1), (93, .getfield 15, 3), (96, .iconst 1, 1), (97, .if_icmp .ne 21, 3), (100, .aload_n 0, 1), (101, .getfield 9, 3), (104, .getfield 45, 3), (107, .iload 4, 2), (109, .aaload, 1), (110, .iconst 1, 1), (111, .iload_n 2, 1), (112, .iadd, 1), (113, .iload_n 3, 1), (114, .iastore, 1), (115, .goto 16, 3), (118, .aload_n 0, 1), (119, .getfield 9, 3), (122, .getfield 64, 3), (125, .iload 4, 2), (127, .aaload, 1), (128, .iload_n 2, 1), (129, .iload_n 3, 1), (130, .iastore, 1), (131, .aload_n 0, 1), (132, .dup, 1), (133, .getfield 19, 3), (136, .iconst 1, 1), (137, .isub, 1), (138, .putfield 19, 3), (141, .iconst 1, 1), (142, .ireturn, 1)] := by decide +kernel
theorem dd_X4_goesOn : dd_ cX4_goesOn [(0, .aload_n 0, 1), (1, .getfield 19, 3), (4, .ifCond .le 9, 3), (7, .aload_n 0, 1), (8, .iload_n 1, 1), (9, .invokevirtual 32, 3), (12, .ireturn, 1), (13, .iload_n 1, 1), (14, .bipush 32, 2), (16, .if_icmp .eq 11, 3), (19, .aload_n 0, 1), (20, .iload_n 1, 1), (21, .invokevirtual 35, 3), (24, .ifCond .eq 7, 3), (27, .iconst 1, 1), (28, .goto 4, 3), (31, .iconst 0, 1), (32, .ireturn, 1)] := by decide +kernel
theorem dd_X4_into : dd_ cX4_into [(0, .aload_n 0, 1), (1, .aload_n 1, 1), (2, .putfield 9, 3), (5, .aload_n 0, 1), (6, .iconst 0, 1), (7, .putfield 15, 3), (10, .aload_n 0, 1), (11, .iconst 0, 1), (12, .putfield 19, 3), (15, .iconst 0, 1), (16, .istore 4, 2), (18, .iload 4, 2), (20, .aload_n 0, 1), (21, .getfield 9, 3), (24, .getfield 22, 3), (27, .arraylength, 1), (28, .if_icmp .ge 20, 3), (31, .aload_n 0, 1), (32, .getfield 9, 3), (35, .getfield 22, 3), (38, .iload 4, 2), (40, .iconst 0, 1), (41, .iastore, 1), (42, .iinc 4 1, 3), (45, .goto (-27), 3), (48, .iconst 0, 1), (49, .istore 4, 2), (51, .iload 4, 2), (53, .iload_n 3, 1), (54, .if_icmp .ge 23, 3), (57, .aload_n 0, 1), (58, .aload_n 2, 1), (59, .iload 4, 2), (61, .iaload, 1), (62, .invokevirtual 28, 3), (65, .ifCond .ne 6, 3), (68, .iload 4, 2), (70, .ireturn, 1), (71, .iinc 4 1, 3), (74, .goto (-23), 3), (77, .aload_n 0, 1), (78, .getfield 19, 3), (81, .ifCond .gt 15, 3), (84, .aload_n 0, 1), (85, .getfield 9, 3), (88, .getfield 22, 3), (91, .iconst 0, 1), (92, .iaload, 1), (93, .ifCond .ne 7, 3), (96, .iload_n 3, 1), (97, .goto 5, 3), (100, .bipush (-9), 2), (102, .ireturn, 1)] := by decide +kernel
theorem dd_X7_fault : dd_ cX7_fault [(0, .aload_n 0, 1), (1, .getfield 18, 3), (4, .iload_n 1, 1), (5, .invokevirtual 63, 3), (8, .ifCond .ne 5, 3), (11, .iconst (-1), 1), (12, .ireturn, 1), (13, .aload_n 0, 1), (14, .getfield 18, 3), (17, .iload_n 1, 1), (18, .invokevirtual 86, 3), (21, .ifCond .eq 12, 3), (24, .aload_n 0, 1), (25, .getfield 44, 3), (28, .iconst 1, 1), (29, .invokevirtual 67, 3), (32, .ireturn, 1), (33, .aload_n 0, 1), (34, .getfield 30, 3), (37, .aload_n 0, 1), (38, .getfield 59, 3), (41, .aload_n 0, 1), (42, .getfield 18, 3), (45, .getfield 79, 3), (48, .iload_n 1, 1), (49, .aaload, 1), (50, .aload_n 0, 1), (51, .getfield 18, 3), (54, .getfield 89, 3), (57, .iload_n 1, 1), (58, .iaload, 1), (59, .invokevirtual 106, 3), (62, .ireturn, 1)] := by decide +kernel
theorem dd_X2_repeat : dd_ cX2_repeat [(0, .aload_n 0, 1), (1, .getfield 16, 3), (4, .iload_n 1, 1), (5, .bipush 8, 2), (7, .idiv, 1), (8, .aaload, 1), (9, .astore_n 2, 1), (10, .iload_n 1, 1), (11, .bipush 8, 2), (13, .irem, 1), (14, .istore_n 3, 1), (15, .iload_n 3, 1), (16, .iconst 5, 1), (17, .if_icmp .lt 10, 3), (20, .aload_n 2, 1), (21, .iconst 4, 1), (22, .iload_n 3, 1), (23, .iconst 5, 1), (24, .isub, 1), (25, .iastore, 1), (26, .return_, 1), (27, .iconst 0, 1), (28, .istore 4, 2), (30, .iload 4, 2), (32, .iconst 4, 1), (33, .if_icmp .ge 34, 3), (36, .iload_n 3, 1), (37, .iconst 4, 1), (38, .if_icmp .eq 9, 3), (41, .iload_n 3, 1), (42, .iload 4, 2), (44, .if_icmp .ne 17, 3), (47, .aload_n 2, 1), (48, .iload 4, 2), (50, .iconst 5, 1), (51, .aload_n 2, 1), (52, .iload 4, 2), (54, .iaload, 1), (55, .iconst 1, 1), (56, .iadd, 1), (57, .invokestatic 63, 3), (60, .iastore, 1), (61, .iinc 4 1, 3), (64, .goto (-34), 3), (67, .return_, 1)] := by decide +kernel
theorem dd_X2_goBack : dd_ cX2_goBack [(0, .iconst 0, 1), (1, .istore_n 2, 1), (2, .iload_n 2, 1), (3, .aload_n 0, 1), (4, .getfield 25, 3), (7, .iconst 0, 1), (8, .iaload, 1), (9, .if_icmp .ge 27, 3), (12, .aload_n 0, 1), (13, .getfield 11, 3), (16, .iload_n 2, 1), (17, .aaload, 1), (18, .iconst 0, 1), (19, .aload_n 0, 1), (20, .getfield 16, 3), (23, .iload_n 2, 1), (24, .aaload, 1), (25, .iconst 0, 1), (26, .iconst 5, 1), (27, .invokestatic 57, 3), (30, .iinc 2 1, 3), (33, .goto (-31), 3), (36, .iconst 0, 1), (37, .istore_n 2, 1), (38, .iload_n 2, 1), (39, .iload_n 1, 1), (40, .if_icmp .ge 19, 3), (43, .aload_n 0, 1), (44, .aload_n 0, 1), (45, .getfield 29, 3), (48, .iload_n 2, 1), (49, .iaload, 1), (50, .invokevirtual 53, 3), (53, .iinc 2 1, 3), (56, .goto (-18), 3), (59, .aload_n 0, 1), (60, .iload_n 1, 1), (61, .putfield 49, 3), (64, .return_, 1)] := by decide +kernel
theorem dd_X7_office : dd_ cX7_office [(0, .aload_n 0, 1), (1, .getfield 18, 3), (4, .iload_n 1, 1), (5, .invokevirtual 63, 3), (8, .ifCond .ne 5, 3), (11, .iconst (-1), 1), (12, .ireturn, 1), (13, .aload_n 0, 1), (14, .getfield 18, 3), (17, .iload_n 1, 1), (18, .invokevirtual 86, 3), (21, .ifCond .eq 12, 3), (24, .aload_n 0, 1), (25, .getfield 44, 3), (28, .iconst 1, 1), (29, .invokevirtual 67, 3), (32, .ireturn, 1), (33, .aload_n 0, 1), (34, .getfield 30, 3), (37, .aload_n 0, 1), (38, .getfield 59, 3), (41, .aload_n 0, 1), (42, .getfield 18, 3), (45, .getfield 79, 3), (48, .iload_n 1, 1), (49, .aaload, 1), (50, .aload_n 0, 1), (51, .getfield 18, 3), (54, .getfield 89, 3), (57, .iload_n 1, 1), (58, .iaload, 1), (59, .invokevirtual 106, 3), (62, .bipush (-9), 2), (64, .if_icmp .eq 6, 3), (67, .bipush (-4), 2), (69, .ireturn, 1), (70, .aload_n 0, 1), (71, .getfield 55, 3), (74, .astore_n 2, 1), (75, .aload_n 0, 1), (76, .aload_n 0, 1), (77, .getfield 59, 3), (80, .putfield 55, 3), (83, .aload_n 0, 1), (84, .aload_n 2, 1), (85, .putfield 59, 3), (88, .aload_n 0, 1), (89, .getfield 55, 3), (92, .iconst 0, 1), (93, .invokevirtual 110, 3), (96, .iconst 0, 1), (97, .istore_n 3, 1), (98, .iload_n 3, 1), (99, .iconst 3, 1), (100, .if_icmp .ge 19, 3), (103, .aload_n 0, 1), (104, .getfield 23, 3), (107, .iload_n 3, 1), (108, .aaload, 1), (109, .iconst (-1), 1), (110, .putfield 114, 3), (113, .iinc 3 1, 3), (116, .goto (-18), 3), (119, .aload_n 0, 1), (120, .getfield 55, 3), (123, .getfield 118, 3), (126, .iconst 0, 1), (127, .iaload, 1), (128, .ireturn, 1)] := by decide +kernel
theorem dd_X2_has : dd_ cX2_has [(0, .iload_n 2, 1), (1, .ifCond .lt 17, 3), (4, .iload_n 2, 1), (5, .aload_n 0, 1), (6, .getfield 25, 3), (9, .iload_n 1, 1), (10, .iaload, 1), (11, .if_icmp .ge 7, 3), (14, .iconst 1, 1), (15, .goto 4, 3), (18, .iconst 0, 1), (19, .ireturn, 1)] := by decide +kernel
theorem dd_X2_together : dd_ cX2_together [(0, .iconst 0, 1), (1, .istore_n 2, 1), (2, .iconst 0, 1), (3, .istore_n 3, 1), (4, .iload_n 3, 1), (5, .iconst 4, 1), (6, .if_icmp .ge 20, 3), (9, .iload_n 2, 1), (10, .aload_n 0, 1), (11, .getfield 16, 3), (14, .iload_n 1, 1), (15, .aaload, 1), (16, .iload_n 3, 1), (17, .iaload, 1), (18, .iadd, 1), (19, .istore_n 2, 1), (20, .iinc 3 1, 3), (23, .goto (-19), 3), (26, .iload_n 2, 1), (27, .ireturn, 1)] := by decide +kernel
theorem dd_X2_ofHead : dd_ cX2_ofHead [(0, .iload_n 2, 1), (1, .iconst 5, 1), (2, .if_icmp .ne 11, 3), (5, .aload_n 0, 1), (6, .iload_n 1, 1), (7, .invokevirtual 32, 3), (10, .goto 11, 3), (13, .aload_n 0, 1), (14, .getfield 16, 3), (17, .iload_n 1, 1), (18, .aaload, 1), (19, .iload_n 2, 1), (20, .iaload, 1), (21, .ireturn, 1)] := by decide +kernel
theorem dd_X7_head : dd_ cX7_head [(0, .aload_n 0, 1), (1, .getfield 55, 3), (4, .iconst 0, 1), (5, .iload_n 1, 1), (6, .invokevirtual 119, 3), (9, .ifCond .eq 12, 3), (12, .iload_n 2, 1), (13, .ifCond .lt 8, 3), (16, .iload_n 2, 1), (17, .iconst 5, 1), (18, .if_icmp .le 5, 3), (21, .iconst (-1), 1), (22, .ireturn, 1), (23, .aload_n 0, 1), (24, .getfield 44, 3), (27, .aload_n 0, 1), (28, .getfield 55, 3), (31, .iload_n 1, 1), (32, .iload_n 2, 1), (33, .invokevirtual 123, 3), (36, .invokevirtual 83, 3), (39, .ireturn, 1)] := by decide +kernel
theorem dd_X7_thumb : dd_ cX7_thumb [(0, .aload_n 0, 1), (1, .getfield 55, 3), (4, .iconst 1, 1), (5, .iload_n 1, 1), (6, .invokevirtual 119, 3), (9, .ifCond .eq 12, 3), (12, .iload_n 2, 1), (13, .ifCond .lt 8, 3), (16, .iload_n 2, 1), (17, .iconst 2, 1), (18, .if_icmp .le 5, 3), (21, .iconst (-1), 1), (22, .ireturn, 1), (23, .aload_n 0, 1), (24, .getfield 44, 3), (27, .aload_n 0, 1), (28, .getfield 55, 3), (31, .getfield 126, 3), (34, .iload_n 1, 1), (35, .aaload, 1), (36, .iload_n 2, 1), (37, .iaload, 1), (38, .invokevirtual 83, 3), (41, .ireturn, 1)] := by decide +kernel
theorem dd_X7_post : dd_ cX7_post [(0, .aload_n 0, 1), (1, .getfield 55, 3), (4, .iconst 2, 1), (5, .iload_n 1, 1), (6, .invokevirtual 119, 3), (9, .ifCond .eq 12, 3), (12, .iload_n 2, 1), (13, .ifCond .lt 8, 3), (16, .iload_n 2, 1), (17, .iconst 4, 1), (18, .if_icmp .le 5, 3), (21, .iconst (-1), 1), (22, .ireturn, 1), (23, .aload_n 0, 1), (24, .getfield 44, 3), (27, .aload_n 0, 1), (28, .getfield 55, 3), (31, .getfield 129, 3), (34, .iload_n 1, 1), (35, .aaload, 1), (36, .iload_n 2, 1), (37, .iaload, 1), (38, .invokevirtual 83, 3), (41, .ireturn, 1)] := by decide +kernel
theorem dd_X2_isOf : dd_ cX2_isOf [(0, .aload_n 0, 1), (1, .getfield 19, 3), (4, .iload_n 1, 1), (5, .aaload, 1), (6, .iconst 0, 1), (7, .iaload, 1), (8, .iload_n 2, 1), (9, .if_icmp .eq 19, 3), (12, .getstatic 40, 3), (15, .aload_n 0, 1), (16, .getfield 19, 3), (19, .iload_n 1, 1), (20, .aaload, 1), (21, .iconst 0, 1), (22, .iaload, 1), (23, .iaload, 1), (24, .iload_n 2, 1), (25, .if_icmp .ne 7, 3), (28, .iconst 1, 1), (29, .goto 4, 3), (32, .iconst 0, 1), (33, .ireturn, 1)] := by decide +kernel
theorem dd_X2_felt : dd_ cX2_felt [(0, .aload_n 0, 1), (1, .getfield 16, 3), (4, .iload_n 1, 1), (5, .aaload, 1), (6, .iload_n 2, 1), (7, .iaload, 1), (8, .iload_n 3, 1), (9, .iadd, 1), (10, .istore 4, 2), (12, .aload_n 0, 1), (13, .getfield 16, 3), (16, .iload_n 1, 1), (17, .aaload, 1), (18, .iconst 4, 1), (19, .iaload, 1), (20, .iconst 1, 1), (21, .if_icmp .le 15, 3), (24, .iload 4, 2), (26, .ifCond .le 10, 3), (29, .iload 4, 2), (31, .iconst 1, 1), (32, .isub, 1), (33, .goto 5, 3), (36, .iload 4, 2), (38, .ireturn, 1)] := by decide +kernel
theorem dd_X2_middle : dd_ cX2_middle [(0, .iload_n 2, 1), (1, .getstatic 68, 3), (4, .iload_n 0, 1), (5, .iaload, 1), (6, .iadd, 1), (7, .iload_n 1, 1), (8, .ifCond .eq 11, 3), (11, .getstatic 71, 3), (14, .iload_n 0, 1), (15, .iaload, 1), (16, .goto 4, 3), (19, .iconst 0, 1), (20, .iadd, 1), (21, .istore_n 3, 1), (22, .iload_n 3, 1), (23, .ifCond .ge 5, 3), (26, .iconst 0, 1), (27, .ireturn, 1), (28, .iload_n 3, 1), (29, .getstatic 74, 3), (32, .iload_n 0, 1), (33, .iaload, 1), (34, .if_icmp .le 11, 3), (37, .getstatic 74, 3), (40, .iload_n 0, 1), (41, .iaload, 1), (42, .goto 4, 3), (45, .iload_n 3, 1), (46, .ireturn, 1)] := by decide +kernel
theorem dd_X2_middleBy : dd_ cX2_middleBy [(0, .aload_n 0, 1), (1, .getfield 19, 3), (4, .iload_n 1, 1), (5, .aaload, 1), (6, .iconst 0, 1), (7, .iaload, 1), (8, .aload_n 0, 1), (9, .getfield 19, 3), (12, .iload_n 1, 1), (13, .aaload, 1), (14, .iconst 2, 1), (15, .iaload, 1), (16, .iload_n 3, 1), (17, .if_icmp .ne 7, 3), (20, .iconst 1, 1), (21, .goto 4, 3), (24, .iconst 0, 1), (25, .aload_n 0, 1), (26, .iload_n 2, 1), (27, .iload_n 3, 1), (28, .iload 4, 2), (30, .invokevirtual 77, 3), (33, .invokestatic 81, 3), (36, .ireturn, 1)] := by decide +kernel
theorem dd_X1_dull : dd_ cX1_dull [(0, .iconst 0, 1), (1, .istore_n 2, 1), (2, .iconst 0, 1), (3, .istore_n 3, 1), (4, .iload_n 3, 1), (5, .aload_n 0, 1), (6, .getfield 9, 3), (9, .iconst 0, 1), (10, .iaload, 1), (11, .if_icmp .ge 45, 3), (14, .iconst 0, 1), (15, .istore 4, 2), (17, .iload 4, 2), (19, .iconst 4, 1), (20, .if_icmp .ge 30, 3), (23, .iload_n 2, 1), (24, .aload_n 0, 1), (25, .iload_n 1, 1), (26, .iload_n 3, 1), (27, .iload 4, 2), (29, .iconst 0, 1), (30, .invokevirtual 42, 3), (33, .iconst 3, 1), (34, .if_icmp .ne 7, 3), (37, .iconst 1, 1), (38, .goto 4, 3), (41, .iconst 0, 1), (42, .iadd, 1), (43, .istore_n 2, 1), (44, .iinc 4 1, 3), (47, .goto (-30), 3), (50, .iinc 3 1, 3), (53, .goto (-49), 3), (56, .iload_n 2, 1), (57, .ireturn, 1)] := by decide +kernel
theorem dd_X2_least : dd_ cX2_least [(0, .iconst 0, 1), (1, .aload_n 0, 1), (2, .iload_n 1, 1), (3, .iload_n 2, 1), (4, .iload_n 3, 1), (5, .iload 4, 2), (7, .invokevirtual 85, 3), (10, .aload_n 0, 1), (11, .getfield 19, 3), (14, .iload_n 1, 1), (15, .aaload, 1), (16, .iconst 1, 1), (17, .iaload, 1), (18, .isub, 1), (19, .invokestatic 89, 3), (22, .ireturn, 1)] := by decide +kernel
theorem dd_X1_clerk : dd_ cX1_clerk [(0, .iconst 0, 1), (1, .istore_n 2, 1), (2, .iconst 0, 1), (3, .istore_n 3, 1), (4, .iload_n 3, 1), (5, .aload_n 0, 1), (6, .getfield 9, 3), (9, .iconst 0, 1), (10, .iaload, 1), (11, .if_icmp .ge 45, 3), (14, .iconst 0, 1), (15, .istore 4, 2), (17, .iload 4, 2), (19, .iconst 4, 1), (20, .if_icmp .ge 30, 3), (23, .iload_n 2, 1), (24, .aload_n 0, 1), (25, .iload_n 1, 1), (26, .iload_n 3, 1), (27, .iload 4, 2), (29, .iconst 0, 1), (30, .invokevirtual 39, 3), (33, .aload_n 0, 1), (34, .iload_n 3, 1), (35, .iload 4, 2), (37, .iconst 0, 1), (38, .invokevirtual 15, 3), (41, .isub, 1), (42, .iadd, 1), (43, .istore_n 2, 1), (44, .iinc 4 1, 3), (47, .goto (-30), 3), (50, .iinc 3 1, 3), (53, .goto (-49), 3), (56, .iload_n 2, 1), (57, .ireturn, 1)] := by decide +kernel
theorem dd_X1_hasItsWish : dd_ cX1_hasItsWish [(0, .aload_n 0, 1), (1, .getfield 35, 3), (4, .iload_n 1, 1), (5, .aaload, 1), (6, .iconst 2, 1), (7, .iaload, 1), (8, .istore_n 3, 1), (9, .iconst 0, 1), (10, .istore 4, 2), (12, .iload 4, 2), (14, .iconst 4, 1), (15, .if_icmp .ge 37, 3), (18, .iload 4, 2), (20, .iload_n 3, 1), (21, .if_icmp .eq 25, 3), (24, .aload_n 0, 1), (25, .iload_n 1, 1), (26, .iload_n 2, 1), (27, .iload 4, 2), (29, .iconst 0, 1), (30, .invokevirtual 39, 3), (33, .aload_n 0, 1), (34, .iload_n 1, 1), (35, .iload_n 2, 1), (36, .iload_n 3, 1), (37, .iconst 0, 1), (38, .invokevirtual 39, 3), (41, .if_icmp .lt 5, 3), (44, .iconst 0, 1), (45, .ireturn, 1), (46, .iinc 4 1, 3), (49, .goto (-37), 3), (52, .iconst 1, 1), (53, .ireturn, 1)] := by decide +kernel
theorem dd_X1_wishing : dd_ cX1_wishing [(0, .iconst 0, 1), (1, .istore_n 2, 1), (2, .iconst 0, 1), (3, .istore_n 3, 1), (4, .iload_n 3, 1), (5, .aload_n 0, 1), (6, .getfield 9, 3), (9, .iconst 0, 1), (10, .iaload, 1), (11, .if_icmp .ge 26, 3), (14, .iload_n 2, 1), (15, .aload_n 0, 1), (16, .iload_n 1, 1), (17, .iload_n 3, 1), (18, .invokestatic 29, 3), (21, .ifCond .eq 7, 3), (24, .iconst 1, 1), (25, .goto 4, 3), (28, .iconst 0, 1), (29, .iadd, 1), (30, .istore_n 2, 1), (31, .iinc 3 1, 3), (34, .goto (-30), 3), (37, .iload_n 2, 1), (38, .ireturn, 1)] := by decide +kernel
theorem dd_X2_most : dd_ cX2_most [(0, .aload_n 0, 1), (1, .iload_n 1, 1), (2, .iload_n 2, 1), (3, .iload_n 3, 1), (4, .iload 4, 2), (6, .invokevirtual 85, 3), (9, .aload_n 0, 1), (10, .getfield 19, 3), (13, .iload_n 1, 1), (14, .aaload, 1), (15, .iconst 1, 1), (16, .iaload, 1), (17, .iadd, 1), (18, .ireturn, 1)] := by decide +kernel
theorem dd_X1_light : dd_ cX1_light [(0, .iconst 0, 1), (1, .istore_n 2, 1), (2, .iconst 0, 1), (3, .istore_n 3, 1), (4, .iload_n 3, 1), (5, .aload_n 0, 1), (6, .getfield 9, 3), (9, .iconst 0, 1), (10, .iaload, 1), (11, .if_icmp .ge 38, 3), (14, .iconst 0, 1), (15, .istore 4, 2), (17, .iload 4, 2), (19, .iconst 4, 1), (20, .if_icmp .ge 23, 3), (23, .iload_n 2, 1), (24, .aload_n 0, 1), (25, .iload_n 1, 1), (26, .iload_n 3, 1), (27, .iload 4, 2), (29, .iconst 0, 1), (30, .invokevirtual 19, 3), (33, .invokestatic 23, 3), (36, .istore_n 2, 1), (37, .iinc 4 1, 3), (40, .goto (-23), 3), (43, .iinc 3 1, 3), (46, .goto (-42), 3), (49, .iload_n 2, 1), (50, .ireturn, 1)] := by decide +kernel
theorem dd_X1_heavy : dd_ cX1_heavy [(0, .iconst 0, 1), (1, .istore_n 1, 1), (2, .iconst 0, 1), (3, .istore_n 2, 1), (4, .iload_n 2, 1), (5, .aload_n 0, 1), (6, .getfield 9, 3), (9, .iconst 0, 1), (10, .iaload, 1), (11, .if_icmp .ge 40, 3), (14, .iconst 0, 1), (15, .istore_n 3, 1), (16, .iload_n 3, 1), (17, .iconst 4, 1), (18, .if_icmp .ge 27, 3), (21, .iload_n 1, 1), (22, .aload_n 0, 1), (23, .iload_n 2, 1), (24, .iload_n 3, 1), (25, .iconst 0, 1), (26, .invokevirtual 15, 3), (29, .ifCond .ne 7, 3), (32, .iconst 1, 1), (33, .goto 4, 3), (36, .iconst 0, 1), (37, .iadd, 1), (38, .istore_n 1, 1), (39, .iinc 3 1, 3), (42, .goto (-26), 3), (45, .iinc 2 1, 3), (48, .goto (-44), 3), (51, .iload_n 1, 1), (52, .ireturn, 1)] := by decide +kernel
theorem dd_X7_mark : dd_ cX7_mark [(0, .aload_n 0, 1), (1, .getfield 55, 3), (4, .iconst 1, 1), (5, .iload_n 1, 1), (6, .invokevirtual 119, 3), (9, .ifCond .eq 14, 3), (12, .iload_n 2, 1), (13, .iconst 1, 1), (14, .if_icmp .lt 9, 3), (17, .iload_n 2, 1), (18, .bipush 6, 2), (20, .if_icmp .lt 5, 3), (23, .iconst (-1), 1), (24, .ireturn, 1), (25, .aload_n 0, 1), (26, .getfield 55, 3), (29, .iload_n 1, 1), (30, .iload_n 2, 1), (31, .invokevirtual 132, 3), (34, .ifCond .ne 12, 3), (37, .aload_n 0, 1), (38, .getfield 44, 3), (41, .iconst 3, 1), (42, .invokevirtual 67, 3), (45, .ireturn, 1), (46, .iload_n 2, 1), (47, .tableswitch 64 1 4 #[29, 37, 46, 55], 29), (76, .aload_n 0, 1), (77, .getfield 55, 3), (80, .invokestatic 135, 3), (83, .ireturn, 1), (84, .aload_n 0, 1), (85, .getfield 55, 3), (88, .iload_n 1, 1), (89, .invokestatic 141, 3), (92, .ireturn, 1), (93, .aload_n 0, 1), (94, .getfield 55, 3), (97, .iload_n 1, 1), (98, .invokestatic 145, 3), (101, .ireturn, 1), (102, .aload_n 0, 1), (103, .getfield 55, 3), (106, .iload_n 1, 1), (107, .invokestatic 148, 3), (110, .ireturn, 1), (111, .aload_n 0, 1), (112, .getfield 55, 3), (115, .iload_n 1, 1), (116, .invokestatic 151, 3), (119, .ireturn, 1)] := by decide +kernel
theorem dd_X7_error : dd_ cX7_error [(0, .aload_n 0, 1), (1, .getfield 55, 3), (4, .iconst 1, 1), (5, .iload_n 1, 1), (6, .invokevirtual 119, 3), (9, .ifCond .eq 12, 3), (12, .iload_n 2, 1), (13, .ifCond .lt 8, 3), (16, .iload_n 2, 1), (17, .iconst 2, 1), (18, .if_icmp .le 5, 3), (21, .iconst (-1), 1), (22, .ireturn, 1), (23, .aload_n 0, 1), (24, .getfield 55, 3), (27, .getfield 126, 3), (30, .iload_n 1, 1), (31, .aaload, 1), (32, .iconst 1, 1), (33, .iaload, 1), (34, .istore_n 3, 1), (35, .aload_n 0, 1), (36, .getfield 55, 3), (39, .getfield 126, 3), (42, .iload_n 1, 1), (43, .aaload, 1), (44, .iconst 1, 1), (45, .iload_n 2, 1), (46, .iastore, 1), (47, .iload_n 3, 1), (48, .ireturn, 1)] := by decide +kernel
theorem dd_X7_isPlace : dd_ cX7_isPlace [(0, .iload_n 0, 1), (1, .ifCond .lt 12, 3), (4, .iload_n 0, 1), (5, .iconst 4, 1), (6, .if_icmp .ge 7, 3), (9, .iconst 1, 1), (10, .goto 4, 3), (13, .iconst 0, 1), (14, .ireturn, 1)] := by decide +kernel
theorem dd_X2_act : dd_ cX2_act [(0, .aload_n 0, 1), (1, .getfield 29, 3), (4, .aload_n 0, 1), (5, .getfield 49, 3), (8, .iload_n 1, 1), (9, .bipush 8, 2), (11, .imul, 1), (12, .iload_n 2, 1), (13, .iadd, 1), (14, .iastore, 1), (15, .aload_n 0, 1), (16, .aload_n 0, 1), (17, .getfield 29, 3), (20, .aload_n 0, 1), (21, .getfield 49, 3), (24, .iaload, 1), (25, .invokevirtual 53, 3), (28, .aload_n 0, 1), (29, .dup, 1), (30, .getfield 49, 3), (33, .iconst 1, 1), (34, .iadd, 1), (35, .putfield 49, 3), (38, .return_, 1)] := by decide +kernel
theorem dd_X7_pad : dd_ cX7_pad [(0, .aload_n 0, 1), (1, .getfield 55, 3), (4, .iconst 0, 1), (5, .iload_n 1, 1), (6, .invokevirtual 119, 3), (9, .ifCond .eq 10, 3), (12, .iload_n 2, 1), (13, .invokestatic 154, 3), (16, .ifCond .ne 5, 3), (19, .iconst (-1), 1), (20, .ireturn, 1), (21, .aload_n 0, 1), (22, .getfield 55, 3), (25, .getfield 157, 3), (28, .iload_n 1, 1), (29, .aaload, 1), (30, .iload_n 2, 1), (31, .iaload, 1), (32, .iconst 5, 1), (33, .if_icmp .lt 6, 3), (36, .bipush (-4), 2), (38, .ireturn, 1), (39, .aload_n 0, 1), (40, .getfield 55, 3), (43, .getfield 160, 3), (46, .bipush 40, 2), (48, .if_icmp .lt 6, 3), (51, .bipush (-2), 2), (53, .ireturn, 1), (54, .aload_n 0, 1), (55, .getfield 55, 3), (58, .iload_n 1, 1), (59, .iload_n 2, 1), (60, .invokevirtual 161, 3), (63, .aload_n 0, 1), (64, .getfield 55, 3), (67, .getfield 157, 3), (70, .iload_n 1, 1), (71, .aaload, 1), (72, .iload_n 2, 1), (73, .iaload, 1), (74, .ireturn, 1)] := by decide +kernel
theorem dd_X7_grow : dd_ cX7_grow [(0, .aload_n 0, 1), (1, .getfield 55, 3), (4, .iconst 0, 1), (5, .iload_n 1, 1), (6, .invokevirtual 119, 3), (9, .ifCond .ne 5, 3), (12, .iconst (-1), 1), (13, .ireturn, 1), (14, .aload_n 0, 1), (15, .getfield 55, 3), (18, .getfield 160, 3), (21, .bipush 40, 2), (23, .if_icmp .lt 6, 3), (26, .bipush (-2), 2), (28, .ireturn, 1), (29, .aload_n 0, 1), (30, .getfield 55, 3), (33, .iload_n 1, 1), (34, .iconst 4, 1), (35, .invokevirtual 161, 3), (38, .aload_n 0, 1), (39, .getfield 55, 3), (42, .iload_n 1, 1), (43, .invokevirtual 164, 3), (46, .ireturn, 1)] := by decide +kernel
theorem dd_X7_cut : dd_ cX7_cut [(0, .aload_n 0, 1), (1, .getfield 55, 3), (4, .iconst 0, 1), (5, .iload_n 1, 1), (6, .invokevirtual 119, 3), (9, .ifCond .eq 12, 3), (12, .iload_n 2, 1), (13, .ifCond .lt 8, 3), (16, .iload_n 2, 1), (17, .iconst 2, 1), (18, .if_icmp .le 5, 3), (21, .iconst (-1), 1), (22, .ireturn, 1), (23, .aload_n 0, 1), (24, .getfield 55, 3), (27, .getfield 157, 3), (30, .iload_n 1, 1), (31, .aaload, 1), (32, .iconst 4, 1), (33, .iaload, 1), (34, .istore_n 3, 1), (35, .iload_n 3, 1), (36, .iload_n 2, 1), (37, .if_icmp .gt 6, 3), (40, .bipush (-4), 2), (42, .ireturn, 1), (43, .aload_n 0, 1), (44, .getfield 55, 3), (47, .getfield 160, 3), (50, .bipush 40, 2), (52, .if_icmp .lt 6, 3), (55, .bipush (-2), 2), (57, .ireturn, 1), (58, .aload_n 0, 1), (59, .getfield 55, 3), (62, .iload_n 1, 1), (63, .iconst 5, 1), (64, .iload_n 2, 1), (65, .iadd, 1), (66, .invokevirtual 161, 3), (69, .iload_n 3, 1), (70, .ireturn, 1)] := by decide +kernel
theorem dd_X7_undo : dd_ cX7_undo [(0, .iload_n 1, 1), (1, .ifCond .lt 14, 3), (4, .iload_n 1, 1), (5, .aload_n 0, 1), (6, .getfield 55, 3), (9, .getfield 160, 3), (12, .if_icmp .le 5, 3), (15, .iconst (-1), 1), (16, .ireturn, 1), (17, .aload_n 0, 1), (18, .getfield 55, 3), (21, .getfield 160, 3), (24, .iload_n 1, 1), (25, .isub, 1), (26, .istore_n 2, 1), (27, .aload_n 0, 1), (28, .getfield 55, 3), (31, .iload_n 1, 1), (32, .invokevirtual 110, 3), (35, .iload_n 2, 1), (36, .ireturn, 1)] := by decide +kernel
theorem dd_X7_isKeptPlace : dd_ cX7_isKeptPlace [(0, .iload_n 0, 1), (1, .ifCond .lt 12, 3), (4, .iload_n 0, 1), (5, .iconst 3, 1), (6, .if_icmp .ge 7, 3), (9, .iconst 1, 1), (10, .goto 4, 3), (13, .iconst 0, 1), (14, .ireturn, 1)] := by decide +kernel
theorem dd_X0_take : dd_ cX0_take [(0, .aload_n 0, 1), (1, .aload_n 1, 1), (2, .getfield 22, 3), (5, .putfield 18, 3), (8, .aload_n 1, 1), (9, .getfield 25, 3), (12, .iconst 0, 1), (13, .aload_n 0, 1), (14, .getfield 9, 3), (17, .iconst 0, 1), (18, .bipush 40, 2), (20, .invokestatic 26, 3), (23, .iconst 0, 1), (24, .istore_n 2, 1), (25, .iload_n 2, 1), (26, .aload_n 0, 1), (27, .getfield 15, 3), (30, .arraylength, 1), (31, .if_icmp .ge 23, 3), (34, .aload_n 0, 1), (35, .getfield 15, 3), (38, .iload_n 2, 1), (39, .aload_n 1, 1), (40, .getfield 32, 3), (43, .iload_n 2, 1), (44, .aaload, 1), (45, .iconst 1, 1), (46, .iaload, 1), (47, .iastore, 1), (48, .iinc 2 1, 3), (51, .goto (-26), 3), (54, .return_, 1)] := by decide +kernel
theorem dd_X7_keep : dd_ cX7_keep [(0, .iload_n 1, 1), (1, .invokestatic 167, 3), (4, .ifCond .ne 5, 3), (7, .iconst (-1), 1), (8, .ireturn, 1), (9, .aload_n 0, 1), (10, .getfield 55, 3), (13, .getfield 118, 3), (16, .iconst 0, 1), (17, .iaload, 1), (18, .ifCond .ne 6, 3), (21, .bipush (-4), 2), (23, .ireturn, 1), (24, .aload_n 0, 1), (25, .getfield 23, 3), (28, .iload_n 1, 1), (29, .aaload, 1), (30, .aload_n 0, 1), (31, .getfield 55, 3), (34, .invokevirtual 170, 3), (37, .aload_n 0, 1), (38, .getfield 55, 3), (41, .getfield 160, 3), (44, .ireturn, 1)] := by decide +kernel
theorem dd_X0_giveTo : dd_ cX0_giveTo [(0, .aload_n 0, 1), (1, .getfield 9, 3), (4, .iconst 0, 1), (5, .aload_n 1, 1), (6, .getfield 25, 3), (9, .iconst 0, 1), (10, .bipush 40, 2), (12, .invokestatic 26, 3), (15, .iconst 0, 1), (16, .istore_n 2, 1), (17, .iload_n 2, 1), (18, .aload_n 0, 1), (19, .getfield 15, 3), (22, .arraylength, 1), (23, .if_icmp .ge 23, 3), (26, .aload_n 1, 1), (27, .getfield 32, 3), (30, .iload_n 2, 1), (31, .aaload, 1), (32, .iconst 1, 1), (33, .aload_n 0, 1), (34, .getfield 15, 3), (37, .iload_n 2, 1), (38, .iaload, 1), (39, .iastore, 1), (40, .iinc 2 1, 3), (43, .goto (-26), 3), (46, .aload_n 1, 1), (47, .aload_n 0, 1), (48, .getfield 18, 3), (51, .invokevirtual 36, 3), (54, .return_, 1)] := by decide +kernel
theorem dd_X7_on : dd_ cX7_on [(0, .iload_n 1, 1), (1, .invokestatic 167, 3), (4, .ifCond .ne 5, 3), (7, .iconst (-1), 1), (8, .ireturn, 1), (9, .aload_n 0, 1), (10, .getfield 23, 3), (13, .iload_n 1, 1), (14, .aaload, 1), (15, .getfield 114, 3), (18, .iconst (-1), 1), (19, .if_icmp .ne 12, 3), (22, .aload_n 0, 1), (23, .getfield 44, 3), (26, .iconst 1, 1), (27, .invokevirtual 67, 3), (30, .ireturn, 1), (31, .aload_n 0, 1), (32, .getfield 23, 3), (35, .iload_n 1, 1), (36, .aaload, 1), (37, .aload_n 0, 1), (38, .getfield 55, 3), (41, .invokevirtual 174, 3), (44, .aload_n 0, 1), (45, .getfield 55, 3), (48, .getfield 160, 3), (51, .ireturn, 1)] := by decide +kernel
theorem dd_X7_reads : dd_ cX7_reads [(0, .aload_n 0, 1), (1, .getfield 55, 3), (4, .iconst 1, 1), (5, .iload_n 1, 1), (6, .invokevirtual 119, 3), (9, .ifCond .eq 22, 3), (12, .aload_n 0, 1), (13, .getfield 55, 3), (16, .iconst 0, 1), (17, .iload_n 2, 1), (18, .invokevirtual 119, 3), (21, .ifCond .eq 10, 3), (24, .iload_n 3, 1), (25, .invokestatic 154, 3), (28, .ifCond .ne 5, 3), (31, .iconst (-1), 1), (32, .ireturn, 1), (33, .aload_n 0, 1), (34, .getfield 44, 3), (37, .aload_n 0, 1), (38, .getfield 55, 3), (41, .iload_n 1, 1), (42, .iload_n 2, 1), (43, .iload_n 3, 1), (44, .iconst 0, 1), (45, .invokevirtual 177, 3), (48, .invokevirtual 83, 3), (51, .pop, 1), (52, .aload_n 0, 1), (53, .getfield 55, 3), (56, .iload_n 1, 1), (57, .iload_n 2, 1), (58, .iload_n 3, 1), (59, .iconst 0, 1), (60, .invokevirtual 181, 3), (63, .ireturn, 1)] := by decide +kernel
theorem dd_X7_findingOfReading : dd_ cX7_findingOfReading [(0, .aload_n 0, 1), (1, .getfield 14, 3), (4, .iload_n 1, 1), (5, .invokevirtual 86, 3), (8, .ifCond .eq 5, 3), (11, .iconst 1, 1), (12, .ireturn, 1), (13, .aload_n 0, 1), (14, .getfield 14, 3), (17, .getfield 89, 3), (20, .iload_n 1, 1), (21, .iaload, 1), (22, .iconst 4, 1), (23, .if_icmp .eq 5, 3), (26, .iconst 5, 1), (27, .ireturn, 1), (28, .iconst 0, 1), (29, .istore_n 2, 1), (30, .iload_n 2, 1), (31, .iconst 4, 1), (32, .if_icmp .ge 41, 3), (35, .aload_n 0, 1), (36, .getfield 14, 3), (39, .getfield 79, 3), (42, .iload_n 1, 1), (43, .aaload, 1), (44, .iload_n 2, 1), (45, .iaload, 1), (46, .ifCond .lt 19, 3), (49, .aload_n 0, 1), (50, .getfield 14, 3), (53, .getfield 79, 3), (56, .iload_n 1, 1), (57, .aaload, 1), (58, .iload_n 2, 1), (59, .iaload, 1), (60, .bipush 9, 2), (62, .if_icmp .le 5, 3), (65, .iconst 3, 1), (66, .ireturn, 1), (67, .iinc 2 1, 3), (70, .goto (-40), 3), (73, .iconst 0, 1), (74, .ireturn, 1)] := by decide +kernel
theorem dd_X2_canRead : dd_ cX2_canRead [(0, .iconst 0, 1), (1, .istore 4, 2), (3, .iload 4, 2), (5, .iconst 4, 1), (6, .if_icmp .ge 43, 3), (9, .aload_n 3, 1), (10, .iload 4, 2), (12, .iaload, 1), (13, .aload_n 0, 1), (14, .iload_n 1, 1), (15, .iload_n 2, 1), (16, .iload 4, 2), (18, .iconst 0, 1), (19, .invokevirtual 95, 3), (22, .if_icmp .lt 19, 3), (25, .aload_n 3, 1), (26, .iload 4, 2), (28, .iaload, 1), (29, .aload_n 0, 1), (30, .iload_n 1, 1), (31, .iload_n 2, 1), (32, .iload 4, 2), (34, .iconst 0, 1), (35, .invokevirtual 92, 3), (38, .if_icmp .le 5, 3), (41, .iconst 0, 1), (42, .ireturn, 1), (43, .iinc 4 1, 3), (46, .goto (-43), 3), (49, .iconst 1, 1), (50, .ireturn, 1)] := by decide +kernel
theorem dd_X7_fits : dd_ cX7_fits [(0, .aload_n 0, 1), (1, .getfield 55, 3), (4, .iconst 1, 1), (5, .iload_n 1, 1), (6, .invokevirtual 119, 3), (9, .ifCond .eq 26, 3), (12, .aload_n 0, 1), (13, .getfield 55, 3), (16, .iconst 0, 1), (17, .iload_n 2, 1), (18, .invokevirtual 119, 3), (21, .ifCond .eq 14, 3), (24, .aload_n 0, 1), (25, .getfield 14, 3), (28, .iload_n 3, 1), (29, .invokevirtual 63, 3), (32, .ifCond .ne 5, 3), (35, .iconst (-1), 1), (36, .ireturn, 1), (37, .aload_n 0, 1), (38, .iload_n 3, 1), (39, .invokevirtual 184, 3), (42, .istore 4, 2), (44, .iload 4, 2), (46, .ifCond .eq 13, 3), (49, .aload_n 0, 1), (50, .getfield 44, 3), (53, .iload 4, 2), (55, .invokevirtual 67, 3), (58, .ireturn, 1), (59, .aload_n 0, 1), (60, .getfield 55, 3), (63, .iload_n 1, 1), (64, .iload_n 2, 1), (65, .aload_n 0, 1), (66, .getfield 14, 3), (69, .getfield 79, 3), (72, .iload_n 3, 1), (73, .aaload, 1), (74, .invokevirtual 187, 3), (77, .ifCond .eq 7, 3), (80, .iconst 1, 1), (81, .goto 4, 3), (84, .iconst 0, 1), (85, .ireturn, 1)] := by decide +kernel
theorem dd_X2_headsThatFit : dd_ cX2_headsThatFit [(0, .iconst 0, 1), (1, .istore_n 3, 1), (2, .iconst 0, 1), (3, .istore 4, 2), (5, .iload 4, 2), (7, .aload_n 0, 1), (8, .getfield 25, 3), (11, .iconst 0, 1), (12, .iaload, 1), (13, .if_icmp .ge 27, 3), (16, .aload_n 0, 1), (17, .iload_n 1, 1), (18, .iload 4, 2), (20, .aload_n 2, 1), (21, .invokevirtual 98, 3), (24, .ifCond .eq 10, 3), (27, .iload_n 3, 1), (28, .iconst 1, 1), (29, .iload 4, 2), (31, .ishl, 1), (32, .ior, 1), (33, .istore_n 3, 1), (34, .iinc 4 1, 3), (37, .goto (-32), 3), (40, .iload_n 3, 1), (41, .ireturn, 1)] := by decide +kernel
theorem dd_X7_whose : dd_ cX7_whose [(0, .aload_n 0, 1), (1, .getfield 55, 3), (4, .iconst 1, 1), (5, .iload_n 1, 1), (6, .invokevirtual 119, 3), (9, .ifCond .eq 14, 3), (12, .aload_n 0, 1), (13, .getfield 14, 3), (16, .iload_n 2, 1), (17, .invokevirtual 63, 3), (20, .ifCond .ne 5, 3), (23, .iconst (-1), 1), (24, .ireturn, 1), (25, .aload_n 0, 1), (26, .iload_n 2, 1), (27, .invokevirtual 184, 3), (30, .istore_n 3, 1), (31, .iload_n 3, 1), (32, .ifCond .eq 12, 3), (35, .aload_n 0, 1), (36, .getfield 44, 3), (39, .iload_n 3, 1), (40, .invokevirtual 67, 3), (43, .ireturn, 1), (44, .iconst 0, 1), (45, .istore 4, 2), (47, .iconst 0, 1), (48, .istore 5, 2), (50, .iload 5, 2), (52, .aload_n 0, 1), (53, .getfield 55, 3), (56, .getfield 118, 3), (59, .iconst 1, 1), (60, .iaload, 1), (61, .if_icmp .ge 32, 3), (64, .iload 4, 2), (66, .aload_n 0, 1), (67, .getfield 55, 3), (70, .iload 5, 2), (72, .aload_n 0, 1), (73, .getfield 14, 3), (76, .getfield 79, 3), (79, .iload_n 2, 1), (80, .aaload, 1), (81, .invokevirtual 191, 3), (84, .ior, 1), (85, .istore 4, 2), (87, .iinc 5 1, 3), (90, .goto (-40), 3), (93, .aload_n 0, 1), (94, .getfield 44, 3), (97, .iload 4, 2), (99, .invokevirtual 83, 3), (102, .pop, 1), (103, .aload_n 0, 1), (104, .getfield 55, 3), (107, .iload_n 1, 1), (108, .aload_n 0, 1), (109, .getfield 14, 3), (112, .getfield 79, 3), (115, .iload_n 2, 1), (116, .aaload, 1), (117, .invokevirtual 191, 3), (120, .ireturn, 1)] := by decide +kernel
theorem dd_X7_who : dd_ cX7_who [(0, .aload_n 0, 1), (1, .getfield 55, 3), (4, .iconst 0, 1), (5, .iload_n 1, 1), (6, .invokevirtual 119, 3), (9, .ifCond .eq 14, 3), (12, .aload_n 0, 1), (13, .getfield 14, 3), (16, .iload_n 2, 1), (17, .invokevirtual 63, 3), (20, .ifCond .ne 5, 3), (23, .iconst (-1), 1), (24, .ireturn, 1), (25, .aload_n 0, 1), (26, .iload_n 2, 1), (27, .invokevirtual 184, 3), (30, .istore_n 3, 1), (31, .iload_n 3, 1), (32, .ifCond .eq 12, 3), (35, .aload_n 0, 1), (36, .getfield 44, 3), (39, .iload_n 3, 1), (40, .invokevirtual 67, 3), (43, .ireturn, 1), (44, .iconst 0, 1), (45, .istore 4, 2), (47, .iconst 0, 1), (48, .istore 5, 2), (50, .iload 5, 2), (52, .aload_n 0, 1), (53, .getfield 55, 3), (56, .getfield 118, 3), (59, .iconst 1, 1), (60, .iaload, 1), (61, .if_icmp .ge 40, 3), (64, .aload_n 0, 1), (65, .getfield 55, 3), (68, .iload 5, 2), (70, .iload_n 1, 1), (71, .aload_n 0, 1), (72, .getfield 14, 3), (75, .getfield 79, 3), (78, .iload_n 2, 1), (79, .aaload, 1), (80, .invokevirtual 187, 3), (83, .ifCond .eq 12, 3), (86, .iload 4, 2), (88, .iconst 1, 1), (89, .iload 5, 2), (91, .ishl, 1), (92, .ior, 1), (93, .istore 4, 2), (95, .iinc 5 1, 3), (98, .goto (-48), 3), (101, .iload 4, 2), (103, .ireturn, 1)] := by decide +kernel
theorem dd_X2_ways : dd_ cX2_ways [(0, .iconst 1, 1), (1, .aload_n 0, 1), (2, .iload_n 1, 1), (3, .iload_n 2, 1), (4, .iload_n 3, 1), (5, .iconst 0, 1), (6, .invokevirtual 92, 3), (9, .aload_n 0, 1), (10, .iload_n 1, 1), (11, .iload_n 2, 1), (12, .iload_n 3, 1), (13, .iconst 0, 1), (14, .invokevirtual 95, 3), (17, .isub, 1), (18, .iconst 1, 1), (19, .iadd, 1), (20, .invokestatic 89, 3), (23, .ireturn, 1)] := by decide +kernel
theorem dd_X2_weight : dd_ cX2_weight [(0, .iload_n 3, 1), (1, .iload_n 2, 1), (2, .ishr, 1), (3, .iconst 1, 1), (4, .iand, 1), (5, .ifCond .ne 5, 3), (8, .lconst 0, 1), (9, .lreturn, 1), (10, .lconst 1, 1), (11, .lstore 4, 2), (13, .iconst 0, 1), (14, .istore 6, 2), (16, .iload 6, 2), (18, .aload_n 0, 1), (19, .getfield 25, 3), (22, .iconst 0, 1), (23, .iaload, 1), (24, .if_icmp .ge 55, 3), (27, .iload 6, 2), (29, .iload_n 2, 1), (30, .if_icmp .eq 43, 3), (33, .iload_n 3, 1), (34, .iload 6, 2), (36, .ishr, 1), (37, .iconst 1, 1), (38, .iand, 1), (39, .iconst 1, 1), (40, .if_icmp .ne 33, 3), (43, .iconst 0, 1), (44, .istore 7, 2), (46, .iload 7, 2), (48, .iconst 4, 1), (49, .if_icmp .ge 24, 3), (52, .lload 4, 2), (54, .aload_n 0, 1), (55, .iload_n 1, 1), (56, .iload 6, 2), (58, .iload 7, 2), (60, .invokevirtual 102, 3), (63, .i2l, 1), (64, .lmul, 1), (65, .lstore 4, 2), (67, .iinc 7 1, 3), (70, .goto (-24), 3), (73, .iinc 6 1, 3), (76, .goto (-60), 3), (79, .lload 4, 2), (81, .lreturn, 1)] := by decide +kernel
theorem dd_X6_commonDivisor : dd_ cX6_commonDivisor [(0, .iconst 0, 1), (1, .istore 4, 2), (3, .iload 4, 2), (5, .bipush 100, 2), (7, .if_icmp .ge 25, 3), (10, .lload_n 2, 1), (11, .lconst 0, 1), (12, .lcmp, 1), (13, .ifCond .eq 19, 3), (16, .lload_n 0, 1), (17, .lload_n 2, 1), (18, .lrem, 1), (19, .lstore 5, 2), (21, .lload_n 2, 1), (22, .lstore_n 0, 1), (23, .lload 5, 2), (25, .lstore_n 2, 1), (26, .iinc 4 1, 3), (29, .goto (-26), 3), (32, .lload_n 0, 1), (33, .lreturn, 1)] := by decide +kernel
theorem dd_X6_tellFraction : dd_ cX6_tellFraction [(0, .lload_n 1, 1), (1, .lload_n 3, 1), (2, .invokestatic 23, 3), (5, .lstore 5, 2), (7, .lload 5, 2), (9, .lconst 0, 1), (10, .lcmp, 1), (11, .ifCond .eq 19, 3), (14, .aload_n 0, 1), (15, .lload_n 1, 1), (16, .lload 5, 2), (18, .ldiv, 1), (19, .putfield 27, 3), (22, .aload_n 0, 1), (23, .lload_n 3, 1), (24, .lload 5, 2), (26, .ldiv, 1), (27, .putfield 15, 3), (30, .iconst 1, 1), (31, .ireturn, 1)] := by decide +kernel
theorem dd_X7_odds : dd_ cX7_odds [(0, .aload_n 0, 1), (1, .getfield 55, 3), (4, .iconst 1, 1), (5, .iload_n 1, 1), (6, .invokevirtual 119, 3), (9, .ifCond .eq 26, 3), (12, .aload_n 0, 1), (13, .getfield 55, 3), (16, .iconst 0, 1), (17, .iload_n 2, 1), (18, .invokevirtual 119, 3), (21, .ifCond .eq 14, 3), (24, .aload_n 0, 1), (25, .getfield 14, 3), (28, .iload_n 3, 1), (29, .invokevirtual 63, 3), (32, .ifCond .ne 5, 3), (35, .iconst (-1), 1), (36, .ireturn, 1), (37, .aload_n 0, 1), (38, .iload_n 3, 1), (39, .invokevirtual 184, 3), (42, .istore 4, 2), (44, .iload 4, 2), (46, .ifCond .eq 13, 3), (49, .aload_n 0, 1), (50, .getfield 44, 3), (53, .iload 4, 2), (55, .invokevirtual 67, 3), (58, .ireturn, 1), (59, .aload_n 0, 1), (60, .getfield 55, 3), (63, .iload_n 1, 1), (64, .aload_n 0, 1), (65, .getfield 14, 3), (68, .getfield 79, 3), (71, .iload_n 3, 1), (72, .aaload, 1), (73, .invokevirtual 191, 3), (76, .istore 5, 2), (78, .iload 5, 2), (80, .ifCond .ne 12, 3), (83, .aload_n 0, 1), (84, .getfield 44, 3), (87, .iconst 4, 1), (88, .invokevirtual 67, 3), (91, .ireturn, 1), (92, .lconst 0, 1), (93, .lstore 6, 2), (95, .iconst 0, 1), (96, .istore 8, 2), (98, .iload 8, 2), (100, .aload_n 0, 1), (101, .getfield 55, 3), (104, .getfield 118, 3), (107, .iconst 0, 1), (108, .iaload, 1), (109, .if_icmp .ge 26, 3), (112, .lload 6, 2), (114, .aload_n 0, 1), (115, .getfield 55, 3), (118, .iload_n 1, 1), (119, .iload 8, 2), (121, .iload 5, 2), (123, .invokevirtual 195, 3), (126, .ladd, 1), (127, .lstore 6, 2), (129, .iinc 8 1, 3), (132, .goto (-34), 3), (135, .aload_n 0, 1), (136, .getfield 44, 3), (139, .aload_n 0, 1), (140, .getfield 55, 3), (143, .iload_n 1, 1), (144, .iload_n 2, 1), (145, .iload 5, 2), (147, .invokevirtual 195, 3), (150, .lload 6, 2), (152, .invokevirtual 199, 3), (155, .ireturn, 1)] := by decide +kernel
theorem dd_X2_isApart : dd_ cX2_isApart [(0, .aload_n 0, 1), (1, .iload_n 1, 1), (2, .iload_n 2, 1), (3, .iload 4, 2), (5, .iconst 0, 1), (6, .invokevirtual 95, 3), (9, .aload_n 0, 1), (10, .iload_n 1, 1), (11, .iload_n 3, 1), (12, .iload 4, 2), (14, .iconst 0, 1), (15, .invokevirtual 92, 3), (18, .if_icmp .gt 24, 3), (21, .aload_n 0, 1), (22, .iload_n 1, 1), (23, .iload_n 3, 1), (24, .iload 4, 2), (26, .iconst 0, 1), (27, .invokevirtual 95, 3), (30, .aload_n 0, 1), (31, .iload_n 1, 1), (32, .iload_n 2, 1), (33, .iload 4, 2), (35, .iconst 0, 1), (36, .invokevirtual 92, 3), (39, .if_icmp .le 7, 3), (42, .iconst 1, 1), (43, .goto 4, 3), (46, .iconst 0, 1), (47, .ireturn, 1)] := by decide +kernel
theorem dd_X2_pairsApart : dd_ cX2_pairsApart [(0, .iconst 0, 1), (1, .istore_n 3, 1), (2, .iconst 0, 1), (3, .istore 4, 2), (5, .iload 4, 2), (7, .aload_n 0, 1), (8, .getfield 25, 3), (11, .iconst 0, 1), (12, .iaload, 1), (13, .if_icmp .ge 46, 3), (16, .iconst 0, 1), (17, .istore 5, 2), (19, .iload 5, 2), (21, .iload 4, 2), (23, .if_icmp .ge 30, 3), (26, .iload_n 3, 1), (27, .aload_n 0, 1), (28, .iload_n 1, 1), (29, .iload 4, 2), (31, .iload 5, 2), (33, .iload_n 2, 1), (34, .invokevirtual 105, 3), (37, .ifCond .eq 7, 3), (40, .iconst 1, 1), (41, .goto 4, 3), (44, .iconst 0, 1), (45, .iadd, 1), (46, .istore_n 3, 1), (47, .iinc 5 1, 3), (50, .goto (-31), 3), (53, .iinc 4 1, 3), (56, .goto (-51), 3), (59, .iload_n 3, 1), (60, .ireturn, 1)] := by decide +kernel
theorem dd_X7_look : dd_ cX7_look [(0, .aload_n 0, 1), (1, .getfield 55, 3), (4, .iconst 1, 1), (5, .iload_n 1, 1), (6, .invokevirtual 119, 3), (9, .ifCond .ne 5, 3), (12, .iconst (-1), 1), (13, .ireturn, 1), (14, .iconst 0, 1), (15, .istore_n 2, 1), (16, .iconst (-1), 1), (17, .istore_n 3, 1), (18, .iconst 0, 1), (19, .istore 4, 2), (21, .iload 4, 2), (23, .iconst 4, 1), (24, .if_icmp .ge 33, 3), (27, .aload_n 0, 1), (28, .getfield 55, 3), (31, .iload_n 1, 1), (32, .iload 4, 2), (34, .invokevirtual 203, 3), (37, .istore 5, 2), (39, .iload 5, 2), (41, .iload_n 3, 1), (42, .if_icmp .le 9, 3), (45, .iload 5, 2), (47, .istore_n 3, 1), (48, .iload 4, 2), (50, .istore_n 2, 1), (51, .iinc 4 1, 3), (54, .goto (-33), 3), (57, .aload_n 0, 1), (58, .getfield 44, 3), (61, .iload_n 3, 1), (62, .invokevirtual 83, 3), (65, .pop, 1), (66, .iload_n 2, 1), (67, .ireturn, 1)] := by decide +kernel
theorem dd_X2_maySeem : dd_ cX2_maySeem [(0, .iconst 0, 1), (1, .istore 4, 2), (3, .iload 4, 2), (5, .iconst 4, 1), (6, .if_icmp .ge 23, 3), (9, .aload_n 0, 1), (10, .iload_n 1, 1), (11, .iload_n 2, 1), (12, .iload_n 3, 1), (13, .iload 4, 2), (15, .invokevirtual 105, 3), (18, .ifCond .eq 5, 3), (21, .iconst 0, 1), (22, .ireturn, 1), (23, .iinc 4 1, 3), (26, .goto (-23), 3), (29, .iconst 1, 1), (30, .ireturn, 1)] := by decide +kernel
theorem dd_X7_alike : dd_ cX7_alike [(0, .aload_n 0, 1), (1, .getfield 55, 3), (4, .iconst 1, 1), (5, .iload_n 1, 1), (6, .invokevirtual 119, 3), (9, .ifCond .eq 15, 3), (12, .aload_n 0, 1), (13, .getfield 55, 3), (16, .iconst 0, 1), (17, .iload_n 2, 1), (18, .invokevirtual 119, 3), (21, .ifCond .ne 5, 3), (24, .iconst (-1), 1), (25, .ireturn, 1), (26, .iconst 0, 1), (27, .istore_n 3, 1), (28, .iconst 0, 1), (29, .istore 4, 2), (31, .iload 4, 2), (33, .aload_n 0, 1), (34, .getfield 55, 3), (37, .getfield 118, 3), (40, .iconst 0, 1), (41, .iaload, 1), (42, .if_icmp .ge 30, 3), (45, .aload_n 0, 1), (46, .getfield 55, 3), (49, .iload_n 1, 1), (50, .iload_n 2, 1), (51, .iload 4, 2), (53, .invokevirtual 206, 3), (56, .ifCond .eq 10, 3), (59, .iload_n 3, 1), (60, .iconst 1, 1), (61, .iload 4, 2), (63, .ishl, 1), (64, .ior, 1), (65, .istore_n 3, 1), (66, .iinc 4 1, 3), (69, .goto (-38), 3), (72, .iload_n 3, 1), (73, .ireturn, 1)] := by decide +kernel
theorem dd_X2_isSure : dd_ cX2_isSure [(0, .iconst 0, 1), (1, .istore 5, 2), (3, .iload 5, 2), (5, .iconst 4, 1), (6, .if_icmp .ge 43, 3), (9, .aload_n 0, 1), (10, .iload_n 1, 1), (11, .iload_n 2, 1), (12, .iload 5, 2), (14, .iload 5, 2), (16, .iload 4, 2), (18, .if_icmp .ne 7, 3), (21, .iconst 1, 1), (22, .goto 4, 3), (25, .iconst 0, 1), (26, .invokevirtual 95, 3), (29, .aload_n 0, 1), (30, .getfield 22, 3), (33, .iload_n 3, 1), (34, .aaload, 1), (35, .iload 5, 2), (37, .iaload, 1), (38, .if_icmp .ge 5, 3), (41, .iconst 0, 1), (42, .ireturn, 1), (43, .iinc 5 1, 3), (46, .goto (-43), 3), (49, .iconst 1, 1), (50, .ireturn, 1)] := by decide +kernel
theorem dd_X2_isLucky : dd_ cX2_isLucky [(0, .iconst 0, 1), (1, .istore 4, 2), (3, .iload 4, 2), (5, .iconst 4, 1), (6, .if_icmp .ge 32, 3), (9, .aload_n 0, 1), (10, .iload_n 1, 1), (11, .iload_n 2, 1), (12, .iload 4, 2), (14, .iconst 0, 1), (15, .invokevirtual 92, 3), (18, .aload_n 0, 1), (19, .getfield 22, 3), (22, .iload_n 3, 1), (23, .aaload, 1), (24, .iload 4, 2), (26, .iaload, 1), (27, .if_icmp .ge 5, 3), (30, .iconst 0, 1), (31, .ireturn, 1), (32, .iinc 4 1, 3), (35, .goto (-32), 3), (38, .iconst 1, 1), (39, .ireturn, 1)] := by decide +kernel
theorem dd_X7_suits : dd_ cX7_suits [(0, .aload_n 0, 1), (1, .getfield 55, 3), (4, .iconst 1, 1), (5, .iload_n 1, 1), (6, .invokevirtual 119, 3), (9, .ifCond .eq 27, 3), (12, .aload_n 0, 1), (13, .getfield 55, 3), (16, .iconst 0, 1), (17, .iload_n 2, 1), (18, .invokevirtual 119, 3), (21, .ifCond .eq 15, 3), (24, .aload_n 0, 1), (25, .getfield 55, 3), (28, .iconst 2, 1), (29, .iload_n 3, 1), (30, .invokevirtual 119, 3), (33, .ifCond .ne 5, 3), (36, .iconst (-1), 1), (37, .ireturn, 1), (38, .aload_n 0, 1), (39, .getfield 55, 3), (42, .iload_n 1, 1), (43, .iload_n 2, 1), (44, .iload_n 3, 1), (45, .bipush (-9), 2), (47, .invokevirtual 209, 3), (50, .ifCond .eq 5, 3), (53, .iconst 2, 1), (54, .ireturn, 1), (55, .aload_n 0, 1), (56, .getfield 55, 3), (59, .iload_n 1, 1), (60, .iload_n 2, 1), (61, .iload_n 3, 1), (62, .invokevirtual 213, 3), (65, .ifCond .eq 7, 3), (68, .iconst 1, 1), (69, .goto 4, 3), (72, .iconst 0, 1), (73, .ireturn, 1)] := by decide +kernel
theorem dd_X7_luck : dd_ cX7_luck [(0, .aload_n 0, 1), (1, .getfield 55, 3), (4, .iconst 1, 1), (5, .iload_n 1, 1), (6, .invokevirtual 119, 3), (9, .ifCond .eq 27, 3), (12, .aload_n 0, 1), (13, .getfield 55, 3), (16, .iconst 0, 1), (17, .iload_n 2, 1), (18, .invokevirtual 119, 3), (21, .ifCond .eq 15, 3), (24, .aload_n 0, 1), (25, .getfield 55, 3), (28, .iconst 2, 1), (29, .iload_n 3, 1), (30, .invokevirtual 119, 3), (33, .ifCond .ne 5, 3), (36, .iconst (-1), 1), (37, .ireturn, 1), (38, .lconst 1, 1), (39, .lstore 4, 2), (41, .lconst 1, 1), (42, .lstore 6, 2), (44, .iconst 0, 1), (45, .istore 8, 2), (47, .iload 8, 2), (49, .iconst 4, 1), (50, .if_icmp .ge 86, 3), (53, .aload_n 0, 1), (54, .getfield 55, 3), (57, .iload_n 1, 1), (58, .iload_n 2, 1), (59, .iload 8, 2), (61, .iconst 0, 1), (62, .invokevirtual 181, 3), (65, .istore 9, 2), (67, .aload_n 0, 1), (68, .getfield 55, 3), (71, .iload_n 1, 1), (72, .iload_n 2, 1), (73, .iload 8, 2), (75, .iconst 0, 1), (76, .invokevirtual 177, 3), (79, .istore 10, 2), (81, .lload 4, 2), (83, .iconst 0, 1), (84, .iload 10, 2), (86, .iload 9, 2), (88, .aload_n 0, 1), (89, .getfield 55, 3), (92, .getfield 129, 3), (95, .iload_n 3, 1), (96, .aaload, 1), (97, .iload 8, 2), (99, .iaload, 1), (100, .invokestatic 216, 3), (103, .isub, 1), (104, .iconst 1, 1), (105, .iadd, 1), (106, .invokestatic 216, 3), (109, .i2l, 1), (110, .lmul, 1), (111, .lstore 4, 2), (113, .lload 6, 2), (115, .aload_n 0, 1), (116, .getfield 55, 3), (119, .iload_n 1, 1), (120, .iload_n 2, 1), (121, .iload 8, 2), (123, .invokevirtual 221, 3), (126, .i2l, 1), (127, .lmul, 1), (128, .lstore 6, 2), (130, .iinc 8 1, 3), (133, .goto (-86), 3), (136, .aload_n 0, 1), (137, .getfield 44, 3), (140, .lload 4, 2), (142, .lload 6, 2), (144, .invokevirtual 199, 3), (147, .ireturn, 1)] := by decide +kernel
theorem dd_X2_fewestPads : dd_ cX2_fewestPads [(0, .iconst 0, 1), (1, .istore 5, 2), (3, .aload_n 0, 1), (4, .getfield 16, 3), (7, .iload_n 2, 1), (8, .aaload, 1), (9, .iload 4, 2), (11, .iaload, 1), (12, .iload 5, 2), (14, .iadd, 1), (15, .iconst 5, 1), (16, .if_icmp .gt 34, 3), (19, .aload_n 0, 1), (20, .iload_n 1, 1), (21, .iload_n 2, 1), (22, .iload 4, 2), (24, .iload 5, 2), (26, .invokevirtual 95, 3), (29, .aload_n 0, 1), (30, .getfield 22, 3), (33, .iload_n 3, 1), (34, .aaload, 1), (35, .iload 4, 2), (37, .iaload, 1), (38, .if_icmp .lt 6, 3), (41, .iload 5, 2), (43, .ireturn, 1), (44, .iinc 5 1, 3), (47, .goto (-44), 3), (50, .bipush (-9), 2), (52, .ireturn, 1)] := by decide +kernel
theorem dd_X7_pads : dd_ cX7_pads [(0, .aload_n 0, 1), (1, .getfield 55, 3), (4, .iconst 1, 1), (5, .iload_n 1, 1), (6, .invokevirtual 119, 3), (9, .ifCond .eq 39, 3), (12, .aload_n 0, 1), (13, .getfield 55, 3), (16, .iconst 0, 1), (17, .iload_n 2, 1), (18, .invokevirtual 119, 3), (21, .ifCond .eq 27, 3), (24, .aload_n 0, 1), (25, .getfield 55, 3), (28, .iconst 2, 1), (29, .iload_n 3, 1), (30, .invokevirtual 119, 3), (33, .ifCond .eq 15, 3), (36, .aload_n 0, 1), (37, .getfield 14, 3), (40, .iload 4, 2), (42, .invokevirtual 63, 3), (45, .ifCond .ne 5, 3), (48, .iconst (-1), 1), (49, .ireturn, 1), (50, .iconst 0, 1), (51, .istore 5, 2), (53, .iconst 0, 1), (54, .istore 6, 2), (56, .iload 6, 2), (58, .iconst 4, 1), (59, .if_icmp .ge 40, 3), (62, .aload_n 0, 1), (63, .getfield 55, 3), (66, .iload_n 1, 1), (67, .iload_n 2, 1), (68, .iload_n 3, 1), (69, .iload 6, 2), (71, .invokevirtual 225, 3), (74, .istore 7, 2), (76, .iload 7, 2), (78, .bipush (-9), 2), (80, .if_icmp .ne 6, 3), (83, .bipush (-9), 2), (85, .ireturn, 1), (86, .iload 5, 2), (88, .iload 7, 2), (90, .iadd, 1), (91, .istore 5, 2), (93, .iinc 6 1, 3), (96, .goto (-40), 3), (99, .aload_n 0, 1), (100, .getfield 14, 3), (103, .iload 4, 2), (105, .iconst 4, 1), (106, .iconst 0, 1), (107, .invokevirtual 71, 3), (110, .iconst 0, 1), (111, .istore 6, 2), (113, .iload 6, 2), (115, .iconst 4, 1), (116, .if_icmp .ge 34, 3), (119, .aload_n 0, 1), (120, .getfield 14, 3), (123, .getfield 79, 3), (126, .iload 4, 2), (128, .aaload, 1), (129, .iload 6, 2), (131, .aload_n 0, 1), (132, .getfield 55, 3), (135, .iload_n 1, 1), (136, .iload_n 2, 1), (137, .iload_n 3, 1), (138, .iload 6, 2), (140, .invokevirtual 225, 3), (143, .iastore, 1), (144, .iinc 6 1, 3), (147, .goto (-34), 3), (150, .iload 5, 2), (152, .ireturn, 1)] := by decide +kernel
theorem dd_X7_all : dd_ cX7_all [(0, .aload_n 0, 1), (1, .getfield 55, 3), (4, .iconst 0, 1), (5, .iload_n 1, 1), (6, .invokevirtual 119, 3), (9, .ifCond .eq 15, 3), (12, .aload_n 0, 1), (13, .getfield 55, 3), (16, .iconst 2, 1), (17, .iload_n 2, 1), (18, .invokevirtual 119, 3), (21, .ifCond .ne 5, 3), (24, .iconst (-1), 1), (25, .ireturn, 1), (26, .aload_n 0, 1), (27, .getfield 55, 3), (30, .getfield 118, 3), (33, .iconst 1, 1), (34, .iaload, 1), (35, .ifCond .ne 6, 3), (38, .bipush (-4), 2), (40, .ireturn, 1), (41, .iconst 0, 1), (42, .istore_n 3, 1), (43, .iconst 0, 1), (44, .istore 4, 2), (46, .iload 4, 2), (48, .iconst 4, 1), (49, .if_icmp .ge 74, 3), (52, .iconst 0, 1), (53, .istore 5, 2), (55, .iconst 0, 1), (56, .istore 6, 2), (58, .iload 6, 2), (60, .aload_n 0, 1), (61, .getfield 55, 3), (64, .getfield 118, 3), (67, .iconst 1, 1), (68, .iaload, 1), (69, .if_icmp .ge 43, 3), (72, .aload_n 0, 1), (73, .getfield 55, 3), (76, .iload 6, 2), (78, .iload_n 1, 1), (79, .iload_n 2, 1), (80, .iload 4, 2), (82, .invokevirtual 225, 3), (85, .istore 7, 2), (87, .iload 7, 2), (89, .bipush (-9), 2), (91, .if_icmp .ne 6, 3), (94, .bipush (-9), 2), (96, .ireturn, 1), (97, .iload 5, 2), (99, .iload 7, 2), (101, .invokestatic 216, 3), (104, .istore 5, 2), (106, .iinc 6 1, 3), (109, .goto (-51), 3), (112, .iload_n 3, 1), (113, .iload 5, 2), (115, .iadd, 1), (116, .istore_n 3, 1), (117, .iinc 4 1, 3), (120, .goto (-74), 3), (123, .iload_n 3, 1), (124, .ireturn, 1)] := by decide +kernel
theorem dd_X7_finds : dd_ cX7_finds [(0, .aload_n 0, 1), (1, .getfield 55, 3), (4, .iconst 1, 1), (5, .iload_n 1, 1), (6, .invokevirtual 119, 3), (9, .ifCond .eq 22, 3), (12, .aload_n 0, 1), (13, .getfield 55, 3), (16, .iconst 0, 1), (17, .iload_n 2, 1), (18, .invokevirtual 119, 3), (21, .ifCond .eq 10, 3), (24, .iload_n 3, 1), (25, .invokestatic 154, 3), (28, .ifCond .ne 5, 3), (31, .iconst (-1), 1), (32, .ireturn, 1), (33, .aload_n 0, 1), (34, .getfield 55, 3), (37, .getfield 157, 3), (40, .iload_n 2, 1), (41, .aaload, 1), (42, .iload_n 3, 1), (43, .iaload, 1), (44, .iconst 5, 1), (45, .if_icmp .lt 6, 3), (48, .bipush (-4), 2), (50, .ireturn, 1), (51, .iconst 0, 1), (52, .istore 4, 2), (54, .iload 4, 2), (56, .aload_n 0, 1), (57, .getfield 55, 3), (60, .getfield 118, 3), (63, .iconst 1, 1), (64, .iaload, 1), (65, .if_icmp .ge 45, 3), (68, .iload 4, 2), (70, .iload_n 1, 1), (71, .if_icmp .eq 33, 3), (74, .aload_n 0, 1), (75, .getfield 55, 3), (78, .iload 4, 2), (80, .iload_n 2, 1), (81, .iload_n 3, 1), (82, .iconst 1, 1), (83, .invokevirtual 181, 3), (86, .aload_n 0, 1), (87, .getfield 55, 3), (90, .iload 4, 2), (92, .iload_n 2, 1), (93, .iload_n 3, 1), (94, .iconst 0, 1), (95, .invokevirtual 177, 3), (98, .if_icmp .le 6, 3), (101, .iload 4, 2), (103, .ireturn, 1), (104, .iinc 4 1, 3), (107, .goto (-53), 3), (110, .bipush (-9), 2), (112, .ireturn, 1)] := by decide +kernel
theorem dd_X2_surePosts : dd_ cX2_surePosts [(0, .iconst 0, 1), (1, .istore 4, 2), (3, .iconst 0, 1), (4, .istore 5, 2), (6, .iload 5, 2), (8, .aload_n 0, 1), (9, .getfield 25, 3), (12, .iconst 2, 1), (13, .iaload, 1), (14, .if_icmp .ge 30, 3), (17, .aload_n 0, 1), (18, .iload_n 1, 1), (19, .iload_n 2, 1), (20, .iload 5, 2), (22, .iload_n 3, 1), (23, .invokevirtual 109, 3), (26, .ifCond .eq 12, 3), (29, .iload 4, 2), (31, .iconst 1, 1), (32, .iload 5, 2), (34, .ishl, 1), (35, .ior, 1), (36, .istore 4, 2), (38, .iinc 5 1, 3), (41, .goto (-35), 3), (44, .iload 4, 2), (46, .ireturn, 1)] := by decide +kernel
theorem dd_X7_posts : dd_ cX7_posts [(0, .aload_n 0, 1), (1, .getfield 55, 3), (4, .iconst 1, 1), (5, .iload_n 1, 1), (6, .invokevirtual 119, 3), (9, .ifCond .eq 15, 3), (12, .aload_n 0, 1), (13, .getfield 55, 3), (16, .iconst 0, 1), (17, .iload_n 2, 1), (18, .invokevirtual 119, 3), (21, .ifCond .ne 5, 3), (24, .iconst (-1), 1), (25, .ireturn, 1), (26, .iconst 0, 1), (27, .istore_n 3, 1), (28, .iconst 0, 1), (29, .istore 4, 2), (31, .iload 4, 2), (33, .aload_n 0, 1), (34, .getfield 55, 3), (37, .getfield 118, 3), (40, .iconst 2, 1), (41, .iaload, 1), (42, .if_icmp .ge 30, 3), (45, .aload_n 0, 1), (46, .getfield 55, 3), (49, .iload_n 1, 1), (50, .iload_n 2, 1), (51, .iload 4, 2), (53, .invokevirtual 213, 3), (56, .ifCond .eq 10, 3), (59, .iload_n 3, 1), (60, .iconst 1, 1), (61, .iload 4, 2), (63, .ishl, 1), (64, .ior, 1), (65, .istore_n 3, 1), (66, .iinc 4 1, 3), (69, .goto (-38), 3), (72, .aload_n 0, 1), (73, .getfield 44, 3), (76, .iload_n 3, 1), (77, .invokevirtual 83, 3), (80, .pop, 1), (81, .aload_n 0, 1), (82, .getfield 55, 3), (85, .iload_n 1, 1), (86, .iload_n 2, 1), (87, .bipush (-9), 2), (89, .invokevirtual 228, 3), (92, .ireturn, 1)] := by decide +kernel
theorem dd_X3_openByOne : dd_ cX3_openByOne [(0, .iconst 0, 1), (1, .istore_n 3, 1), (2, .iload_n 3, 1), (3, .aload_n 1, 1), (4, .getfield 23, 3), (7, .iconst 0, 1), (8, .iaload, 1), (9, .if_icmp .ge 23, 3), (12, .aload_n 0, 1), (13, .getfield 9, 3), (16, .iload_n 3, 1), (17, .aload_n 1, 1), (18, .iload_n 2, 1), (19, .iload_n 3, 1), (20, .bipush (-9), 2), (22, .invokevirtual 28, 3), (25, .iastore, 1), (26, .iinc 3 1, 3), (29, .goto (-27), 3), (32, .return_, 1)] := by decide +kernel
theorem dd_X3_isFree : dd_ cX3_isFree [(0, .aload_n 0, 1), (1, .getfield 9, 3), (4, .iload_n 1, 1), (5, .iaload, 1), (6, .iload_n 3, 1), (7, .iconst (-1), 1), (8, .ixor, 1), (9, .iand, 1), (10, .iconst 1, 1), (11, .iload_n 2, 1), (12, .ishl, 1), (13, .iand, 1), (14, .ifCond .eq 7, 3), (17, .iconst 1, 1), (18, .goto 4, 3), (21, .iconst 0, 1), (22, .ireturn, 1)] := by decide +kernel
theorem dd_X3_payBy : dd_ cX3_payBy [(0, .aload_n 1, 1), (1, .getfield 50, 3), (4, .iload_n 3, 1), (5, .aaload, 1), (6, .iconst 4, 1), (7, .iaload, 1), (8, .aload_n 0, 1), (9, .getfield 17, 3), (12, .iload_n 2, 1), (13, .iconst 1, 1), (14, .iadd, 1), (15, .aaload, 1), (16, .iload 4, 2), (18, .iconst 1, 1), (19, .iload_n 3, 1), (20, .ishl, 1), (21, .ior, 1), (22, .iaload, 1), (23, .iadd, 1), (24, .ireturn, 1)] := by decide +kernel
theorem dd_X3_reckonFrom : dd_ cX3_reckonFrom [(0, .aload_n 0, 1), (1, .getfield 17, 3), (4, .iload_n 2, 1), (5, .aaload, 1), (6, .iload_n 3, 1), (7, .aload_n 0, 1), (8, .getfield 17, 3), (11, .iload_n 2, 1), (12, .iconst 1, 1), (13, .iadd, 1), (14, .aaload, 1), (15, .iload_n 3, 1), (16, .iaload, 1), (17, .iastore, 1), (18, .aload_n 0, 1), (19, .getfield 20, 3), (22, .iload_n 2, 1), (23, .aaload, 1), (24, .iload_n 3, 1), (25, .aload_n 0, 1), (26, .getfield 20, 3), (29, .iload_n 2, 1), (30, .iconst 1, 1), (31, .iadd, 1), (32, .aaload, 1), (33, .iload_n 3, 1), (34, .iaload, 1), (35, .iastore, 1), (36, .iconst 0, 1), (37, .istore 4, 2), (39, .iload 4, 2), (41, .aload_n 1, 1), (42, .getfield 23, 3), (45, .iconst 2, 1), (46, .iaload, 1), (47, .if_icmp .ge 74, 3), (50, .aload_n 0, 1), (51, .iload_n 2, 1), (52, .iload 4, 2), (54, .iload_n 3, 1), (55, .invokevirtual 36, 3), (58, .ifCond .eq 57, 3), (61, .aload_n 0, 1), (62, .getfield 17, 3), (65, .iload_n 2, 1), (66, .aaload, 1), (67, .iload_n 3, 1), (68, .aload_n 0, 1), (69, .getfield 17, 3), (72, .iload_n 2, 1), (73, .aaload, 1), (74, .iload_n 3, 1), (75, .iaload, 1), (76, .aload_n 0, 1), (77, .aload_n 1, 1), (78, .iload_n 2, 1), (79, .iload 4, 2), (81, .iload_n 3, 1), (82, .invokevirtual 40, 3), (85, .invokestatic 44, 3), (88, .iastore, 1), (89, .aload_n 0, 1), (90, .getfield 20, 3), (93, .iload_n 2, 1), (94, .aaload, 1), (95, .iload_n 3, 1), (96, .dup2, 1), (97, .iaload, 1), (98, .aload_n 0, 1), (99, .getfield 20, 3), (102, .iload_n 2, 1), (103, .iconst 1, 1), (104, .iadd, 1), (105, .aaload, 1), (106, .iload_n 3, 1), (107, .iconst 1, 1), (108, .iload 4, 2), (110, .ishl, 1), (111, .ior, 1), (112, .iaload, 1), (113, .iadd, 1), (114, .iastore, 1), (115, .iinc 4 1, 3), (118, .goto (-79), 3), (121, .return_, 1)] := by decide +kernel
theorem dd_X3_reckon : dd_ cX3_reckon [(0, .aload_n 1, 1), (1, .getfield 23, 3), (4, .iconst 0, 1), (5, .iaload, 1), (6, .istore_n 2, 1), (7, .iconst 1, 1), (8, .aload_n 1, 1), (9, .getfield 23, 3), (12, .iconst 2, 1), (13, .iaload, 1), (14, .ishl, 1), (15, .istore_n 3, 1), (16, .iconst 0, 1), (17, .istore 4, 2), (19, .iload 4, 2), (21, .iload_n 3, 1), (22, .if_icmp .ge 29, 3), (25, .aload_n 0, 1), (26, .getfield 17, 3), (29, .iload_n 2, 1), (30, .aaload, 1), (31, .iload 4, 2), (33, .iconst 0, 1), (34, .iastore, 1), (35, .aload_n 0, 1), (36, .getfield 20, 3), (39, .iload_n 2, 1), (40, .aaload, 1), (41, .iload 4, 2), (43, .iconst 1, 1), (44, .iastore, 1), (45, .iinc 4 1, 3), (48, .goto (-29), 3), (51, .iload_n 2, 1), (52, .iconst 1, 1), (53, .isub, 1), (54, .istore 4, 2), (56, .iload 4, 2), (58, .ifCond .lt 33, 3), (61, .iconst 0, 1), (62, .istore 5, 2), (64, .iload 5, 2), (66, .iload_n 3, 1), (67, .if_icmp .ge 18, 3), (70, .aload_n 0, 1), (71, .aload_n 1, 1), (72, .iload 4, 2), (74, .iload 5, 2), (76, .invokevirtual 32, 3), (79, .iinc 5 1, 3), (82, .goto (-18), 3), (85, .iinc 4 (-1), 3), (88, .goto (-32), 3), (91, .return_, 1)] := by decide +kernel
theorem dd_X3_bestPay : dd_ cX3_bestPay [(0, .aload_n 0, 1), (1, .getfield 17, 3), (4, .iconst 0, 1), (5, .aaload, 1), (6, .iconst 0, 1), (7, .iaload, 1), (8, .ireturn, 1)] := by decide +kernel
theorem dd_X3_bestPost : dd_ cX3_bestPost [(0, .iconst 0, 1), (1, .istore 4, 2), (3, .iload 4, 2), (5, .aload_n 1, 1), (6, .getfield 23, 3), (9, .iconst 2, 1), (10, .iaload, 1), (11, .if_icmp .ge 43, 3), (14, .aload_n 0, 1), (15, .iload_n 2, 1), (16, .iload 4, 2), (18, .iload_n 3, 1), (19, .invokevirtual 36, 3), (22, .ifCond .eq 26, 3), (25, .aload_n 0, 1), (26, .aload_n 1, 1), (27, .iload_n 2, 1), (28, .iload 4, 2), (30, .iload_n 3, 1), (31, .invokevirtual 40, 3), (34, .aload_n 0, 1), (35, .getfield 17, 3), (38, .iload_n 2, 1), (39, .aaload, 1), (40, .iload_n 3, 1), (41, .iaload, 1), (42, .if_icmp .ne 6, 3), (45, .iload 4, 2), (47, .ireturn, 1), (48, .iinc 4 1, 3), (51, .goto (-48), 3), (54, .bipush (-9), 2), (56, .ireturn, 1)] := by decide +kernel
theorem dd_X7_layBestPlan : dd_ cX7_layBestPlan [(0, .aload_n 0, 1), (1, .getfield 55, 3), (4, .getfield 118, 3), (7, .iconst 0, 1), (8, .iaload, 1), (9, .istore_n 2, 1), (10, .iconst 0, 1), (11, .istore_n 3, 1), (12, .aload_n 0, 1), (13, .getfield 14, 3), (16, .iload_n 1, 1), (17, .iload_n 2, 1), (18, .bipush (-9), 2), (20, .invokevirtual 71, 3), (23, .iconst 0, 1), (24, .istore 4, 2), (26, .iload 4, 2), (28, .iload_n 2, 1), (29, .if_icmp .ge 53, 3), (32, .aload_n 0, 1), (33, .getfield 37, 3), (36, .aload_n 0, 1), (37, .getfield 55, 3), (40, .iload 4, 2), (42, .iload_n 3, 1), (43, .invokevirtual 322, 3), (46, .istore 5, 2), (48, .iload 5, 2), (50, .bipush (-9), 2), (52, .if_icmp .eq 24, 3), (55, .aload_n 0, 1), (56, .getfield 14, 3), (59, .getfield 79, 3), (62, .iload_n 1, 1), (63, .aaload, 1), (64, .iload 4, 2), (66, .iload 5, 2), (68, .iastore, 1), (69, .iload_n 3, 1), (70, .iconst 1, 1), (71, .iload 5, 2), (73, .ishl, 1), (74, .ior, 1), (75, .istore_n 3, 1), (76, .iinc 4 1, 3), (79, .goto (-53), 3), (82, .aload_n 0, 1), (83, .getfield 37, 3), (86, .invokevirtual 246, 3), (89, .ireturn, 1)] := by decide +kernel
theorem dd_X7_plan : dd_ cX7_plan [(0, .aload_n 0, 1), (1, .getfield 55, 3), (4, .iconst 1, 1), (5, .iload_n 1, 1), (6, .invokevirtual 119, 3), (9, .ifCond .eq 14, 3), (12, .aload_n 0, 1), (13, .getfield 14, 3), (16, .iload_n 2, 1), (17, .invokevirtual 63, 3), (20, .ifCond .ne 5, 3), (23, .iconst (-1), 1), (24, .ireturn, 1), (25, .aload_n 0, 1), (26, .getfield 55, 3), (29, .getfield 118, 3), (32, .iconst 0, 1), (33, .iaload, 1), (34, .ifCond .ne 6, 3), (37, .bipush (-4), 2), (39, .ireturn, 1), (40, .aload_n 0, 1), (41, .getfield 37, 3), (44, .aload_n 0, 1), (45, .getfield 55, 3), (48, .iload_n 1, 1), (49, .invokevirtual 231, 3), (52, .aload_n 0, 1), (53, .getfield 37, 3), (56, .aload_n 0, 1), (57, .getfield 55, 3), (60, .invokevirtual 235, 3), (63, .aload_n 0, 1), (64, .iload_n 2, 1), (65, .invokevirtual 238, 3), (68, .ireturn, 1)] := by decide +kernel
theorem dd_X7_plans : dd_ cX7_plans [(0, .aload_n 0, 1), (1, .getfield 55, 3), (4, .iconst 1, 1), (5, .iload_n 1, 1), (6, .invokevirtual 119, 3), (9, .ifCond .ne 5, 3), (12, .iconst (-1), 1), (13, .ireturn, 1), (14, .aload_n 0, 1), (15, .getfield 37, 3), (18, .aload_n 0, 1), (19, .getfield 55, 3), (22, .iload_n 1, 1), (23, .invokevirtual 231, 3), (26, .aload_n 0, 1), (27, .getfield 37, 3), (30, .aload_n 0, 1), (31, .getfield 55, 3), (34, .invokevirtual 235, 3), (37, .aload_n 0, 1), (38, .getfield 44, 3), (41, .aload_n 0, 1), (42, .getfield 37, 3), (45, .getfield 241, 3), (48, .iconst 0, 1), (49, .aaload, 1), (50, .iconst 0, 1), (51, .iaload, 1), (52, .i2l, 1), (53, .lconst 1, 1), (54, .invokevirtual 199, 3), (57, .ireturn, 1)] := by decide +kernel
theorem dd_X3_openByAll : dd_ cX3_openByAll [(0, .iconst 0, 1), (1, .istore_n 2, 1), (2, .iload_n 2, 1), (3, .aload_n 1, 1), (4, .getfield 23, 3), (7, .iconst 0, 1), (8, .iaload, 1), (9, .if_icmp .ge 60, 3), (12, .aload_n 0, 1), (13, .getfield 9, 3), (16, .iload_n 2, 1), (17, .iconst 1, 1), (18, .aload_n 1, 1), (19, .getfield 23, 3), (22, .iconst 2, 1), (23, .iaload, 1), (24, .ishl, 1), (25, .iconst 1, 1), (26, .isub, 1), (27, .iastore, 1), (28, .iconst 0, 1), (29, .istore_n 3, 1), (30, .iload_n 3, 1), (31, .aload_n 1, 1), (32, .getfield 23, 3), (35, .iconst 1, 1), (36, .iaload, 1), (37, .if_icmp .ge 26, 3), (40, .aload_n 0, 1), (41, .getfield 9, 3), (44, .iload_n 2, 1), (45, .dup2, 1), (46, .iaload, 1), (47, .aload_n 1, 1), (48, .iload_n 3, 1), (49, .iload_n 2, 1), (50, .bipush (-9), 2), (52, .invokevirtual 28, 3), (55, .iand, 1), (56, .iastore, 1), (57, .iinc 3 1, 3), (60, .goto (-30), 3), (63, .iinc 2 1, 3), (66, .goto (-64), 3), (69, .return_, 1)] := by decide +kernel
theorem dd_X7_safest : dd_ cX7_safest [(0, .aload_n 0, 1), (1, .getfield 14, 3), (4, .iload_n 1, 1), (5, .invokevirtual 63, 3), (8, .ifCond .ne 5, 3), (11, .iconst (-1), 1), (12, .ireturn, 1), (13, .aload_n 0, 1), (14, .getfield 55, 3), (17, .getfield 118, 3), (20, .iconst 0, 1), (21, .iaload, 1), (22, .ifCond .ne 6, 3), (25, .bipush (-4), 2), (27, .ireturn, 1), (28, .aload_n 0, 1), (29, .getfield 37, 3), (32, .aload_n 0, 1), (33, .getfield 55, 3), (36, .invokevirtual 243, 3), (39, .aload_n 0, 1), (40, .getfield 37, 3), (43, .aload_n 0, 1), (44, .getfield 55, 3), (47, .invokevirtual 235, 3), (50, .aload_n 0, 1), (51, .iload_n 1, 1), (52, .invokevirtual 238, 3), (55, .ireturn, 1)] := by decide +kernel
theorem dd_X7_gain : dd_ cX7_gain [(0, .aload_n 0, 1), (1, .getfield 55, 3), (4, .iconst 1, 1), (5, .iload_n 1, 1), (6, .invokevirtual 119, 3), (9, .ifCond .eq 15, 3), (12, .aload_n 0, 1), (13, .getfield 55, 3), (16, .iconst 0, 1), (17, .iload_n 2, 1), (18, .invokevirtual 119, 3), (21, .ifCond .ne 5, 3), (24, .iconst (-1), 1), (25, .ireturn, 1), (26, .aload_n 0, 1), (27, .getfield 37, 3), (30, .aload_n 0, 1), (31, .getfield 55, 3), (34, .iload_n 1, 1), (35, .invokevirtual 231, 3), (38, .aload_n 0, 1), (39, .getfield 37, 3), (42, .aload_n 0, 1), (43, .getfield 55, 3), (46, .invokevirtual 235, 3), (49, .aload_n 0, 1), (50, .getfield 37, 3), (53, .invokevirtual 246, 3), (56, .istore_n 3, 1), (57, .bipush (-9), 2), (59, .istore 4, 2), (61, .iconst 0, 1), (62, .istore 5, 2), (64, .iconst 0, 1), (65, .istore 6, 2), (67, .iload 6, 2), (69, .iconst 4, 1), (70, .if_icmp .ge 85, 3), (73, .aload_n 0, 1), (74, .getfield 55, 3), (77, .getfield 157, 3), (80, .iload_n 2, 1), (81, .aaload, 1), (82, .iload 6, 2), (84, .iaload, 1), (85, .iconst 5, 1), (86, .if_icmp .ge 63, 3), (89, .aload_n 0, 1), (90, .getfield 37, 3), (93, .getfield 250, 3), (96, .iload_n 2, 1), (97, .aload_n 0, 1), (98, .getfield 55, 3), (101, .iload_n 1, 1), (102, .iload_n 2, 1), (103, .iload 6, 2), (105, .invokevirtual 228, 3), (108, .iastore, 1), (109, .aload_n 0, 1), (110, .getfield 37, 3), (113, .aload_n 0, 1), (114, .getfield 55, 3), (117, .invokevirtual 235, 3), (120, .aload_n 0, 1), (121, .getfield 37, 3), (124, .invokevirtual 246, 3), (127, .iload_n 3, 1), (128, .isub, 1), (129, .iload 5, 2), (131, .if_icmp .le 18, 3), (134, .aload_n 0, 1), (135, .getfield 37, 3), (138, .invokevirtual 246, 3), (141, .iload_n 3, 1), (142, .isub, 1), (143, .istore 5, 2), (145, .iload 6, 2), (147, .istore 4, 2), (149, .iinc 6 1, 3), (152, .goto (-85), 3), (155, .iload 4, 2), (157, .bipush (-9), 2), (159, .if_icmp .ne 6, 3), (162, .bipush (-9), 2), (164, .ireturn, 1), (165, .aload_n 0, 1), (166, .getfield 44, 3), (169, .iload 4, 2), (171, .invokevirtual 83, 3), (174, .pop, 1), (175, .iload 5, 2), (177, .ireturn, 1)] := by decide +kernel
theorem dd_X7_findingOfThrees : dd_ cX7_findingOfThrees [(0, .aload_n 0, 1), (1, .getfield 14, 3), (4, .iload_n 1, 1), (5, .invokevirtual 86, 3), (8, .ifCond .eq 5, 3), (11, .iconst 1, 1), (12, .ireturn, 1), (13, .aload_n 0, 1), (14, .getfield 14, 3), (17, .getfield 89, 3), (20, .iload_n 1, 1), (21, .iaload, 1), (22, .iconst 3, 1), (23, .irem, 1), (24, .ifCond .eq 5, 3), (27, .iconst 5, 1), (28, .ireturn, 1), (29, .aload_n 0, 1), (30, .getfield 14, 3), (33, .getfield 79, 3), (36, .iload_n 1, 1), (37, .aaload, 1), (38, .astore_n 2, 1), (39, .iconst 0, 1), (40, .istore_n 3, 1), (41, .iload_n 3, 1), (42, .iconst 2, 1), (43, .iadd, 1), (44, .aload_n 0, 1), (45, .getfield 14, 3), (48, .getfield 89, 3), (51, .iload_n 1, 1), (52, .iaload, 1), (53, .if_icmp .ge 66, 3), (56, .aload_n 2, 1), (57, .iload_n 3, 1), (58, .iconst 2, 1), (59, .iadd, 1), (60, .iaload, 1), (61, .ifCond .lt 17, 3), (64, .aload_n 2, 1), (65, .iload_n 3, 1), (66, .iconst 2, 1), (67, .iadd, 1), (68, .iaload, 1), (69, .bipush 9, 2), (71, .if_icmp .gt 7, 3), (74, .iconst 1, 1), (75, .goto 4, 3), (78, .iconst 0, 1), (79, .istore 4, 2), (81, .aload_n 0, 1), (82, .getfield 55, 3), (85, .iconst 0, 1), (86, .aload_n 2, 1), (87, .iload_n 3, 1), (88, .iaload, 1), (89, .invokevirtual 119, 3), (92, .ifCond .eq 19, 3), (95, .aload_n 2, 1), (96, .iload_n 3, 1), (97, .iconst 1, 1), (98, .iadd, 1), (99, .iaload, 1), (100, .invokestatic 154, 3), (103, .ifCond .eq 8, 3), (106, .iload 4, 2), (108, .ifCond .ne 5, 3), (111, .iconst 3, 1), (112, .ireturn, 1), (113, .iinc 3 3, 3), (116, .goto (-75), 3), (119, .iconst 0, 1), (120, .ireturn, 1)] := by decide +kernel
theorem dd_X7_threesFit : dd_ cX7_threesFit [(0, .aload_n 0, 1), (1, .getfield 14, 3), (4, .getfield 79, 3), (7, .iload_n 1, 1), (8, .aaload, 1), (9, .astore 5, 2), (11, .iconst 0, 1), (12, .istore 6, 2), (14, .iload 6, 2), (16, .iconst 2, 1), (17, .iadd, 1), (18, .aload_n 0, 1), (19, .getfield 14, 3), (22, .getfield 89, 3), (25, .iload_n 1, 1), (26, .iaload, 1), (27, .if_icmp .ge 70, 3), (30, .aload 5, 2), (32, .iload 6, 2), (34, .iconst 1, 1), (35, .iadd, 1), (36, .iaload, 1), (37, .istore 7, 2), (39, .iload_n 2, 1), (40, .iload 7, 2), (42, .iload 4, 2), (44, .if_icmp .ne 7, 3), (47, .iconst 1, 1), (48, .goto 4, 3), (51, .iconst 0, 1), (52, .aload_n 0, 1), (53, .getfield 55, 3), (56, .aload 5, 2), (58, .iload 6, 2), (60, .iaload, 1), (61, .iload 7, 2), (63, .iconst 0, 1), (64, .invokevirtual 312, 3), (67, .invokestatic 315, 3), (70, .istore 8, 2), (72, .aload 5, 2), (74, .iload 6, 2), (76, .iconst 2, 1), (77, .iadd, 1), (78, .iaload, 1), (79, .iload 8, 2), (81, .isub, 1), (82, .invokestatic 319, 3), (85, .iload_n 3, 1), (86, .if_icmp .le 5, 3), (89, .iconst 0, 1), (90, .ireturn, 1), (91, .iinc 6 3, 3), (94, .goto (-80), 3), (97, .iconst 1, 1), (98, .ireturn, 1)] := by decide +kernel
theorem dd_X7_learn : dd_ cX7_learn [(0, .aload_n 0, 1), (1, .getfield 14, 3), (4, .iload_n 1, 1), (5, .invokevirtual 63, 3), (8, .ifCond .eq 12, 3), (11, .iload_n 2, 1), (12, .ifCond .lt 8, 3), (15, .iload_n 2, 1), (16, .iconst 2, 1), (17, .if_icmp .le 5, 3), (20, .iconst (-1), 1), (21, .ireturn, 1), (22, .aload_n 0, 1), (23, .iload_n 1, 1), (24, .invokevirtual 253, 3), (27, .istore_n 3, 1), (28, .iload_n 3, 1), (29, .ifCond .eq 12, 3), (32, .aload_n 0, 1), (33, .getfield 44, 3), (36, .iload_n 3, 1), (37, .invokevirtual 67, 3), (40, .ireturn, 1), (41, .iconst 0, 1), (42, .istore 4, 2), (44, .iconst 0, 1), (45, .istore 5, 2), (47, .iconst 0, 1), (48, .istore 6, 2), (50, .iload 6, 2), (52, .bipush 6, 2), (54, .if_icmp .ge 55, 3), (57, .iconst 0, 1), (58, .istore 7, 2), (60, .iload 7, 2), (62, .iconst 4, 1), (63, .if_icmp .ge 40, 3), (66, .aload_n 0, 1), (67, .iload_n 1, 1), (68, .iload 6, 2), (70, .iload_n 2, 1), (71, .iload 7, 2), (73, .invokevirtual 256, 3), (76, .ifCond .eq 21, 3), (79, .iload 4, 2), (81, .iconst 1, 1), (82, .iload 6, 2), (84, .ishl, 1), (85, .ior, 1), (86, .istore 4, 2), (88, .iload 5, 2), (90, .iconst 1, 1), (91, .iload 7, 2), (93, .ishl, 1), (94, .ior, 1), (95, .istore 5, 2), (97, .iinc 7 1, 3), (100, .goto (-40), 3), (103, .iinc 6 1, 3), (106, .goto (-56), 3), (109, .aload_n 0, 1), (110, .getfield 44, 3), (113, .iload 5, 2), (115, .invokevirtual 83, 3), (118, .pop, 1), (119, .iload 4, 2), (121, .ireturn, 1)] := by decide +kernel
theorem dd_X7_findingOfFates : dd_ cX7_findingOfFates [(0, .aload_n 0, 1), (1, .getfield 14, 3), (4, .iload_n 1, 1), (5, .invokevirtual 86, 3), (8, .ifCond .eq 5, 3), (11, .iconst 1, 1), (12, .ireturn, 1), (13, .aload_n 0, 1), (14, .getfield 14, 3), (17, .getfield 89, 3), (20, .iload_n 1, 1), (21, .iaload, 1), (22, .aload_n 0, 1), (23, .getfield 55, 3), (26, .getfield 118, 3), (29, .iconst 0, 1), (30, .iaload, 1), (31, .if_icmp .eq 5, 3), (34, .iconst 5, 1), (35, .ireturn, 1), (36, .iconst 0, 1), (37, .istore_n 2, 1), (38, .iload_n 2, 1), (39, .aload_n 0, 1), (40, .getfield 14, 3), (43, .getfield 89, 3), (46, .iload_n 1, 1), (47, .iaload, 1), (48, .if_icmp .ge 40, 3), (51, .aload_n 0, 1), (52, .getfield 14, 3), (55, .getfield 79, 3), (58, .iload_n 1, 1), (59, .aaload, 1), (60, .iload_n 2, 1), (61, .iaload, 1), (62, .ifCond .eq 20, 3), (65, .aload_n 0, 1), (66, .getfield 14, 3), (69, .getfield 79, 3), (72, .iload_n 1, 1), (73, .aaload, 1), (74, .iload_n 2, 1), (75, .iaload, 1), (76, .iconst 1, 1), (77, .if_icmp .eq 5, 3), (80, .iconst 3, 1), (81, .ireturn, 1), (82, .iinc 2 1, 3), (85, .goto (-47), 3), (88, .iconst 0, 1), (89, .ireturn, 1)] := by decide +kernel
theorem dd_X2_placesAbove : dd_ cX2_placesAbove [(0, .iconst 0, 1), (1, .istore_n 3, 1), (2, .iconst 0, 1), (3, .istore 4, 2), (5, .iload 4, 2), (7, .iconst 4, 1), (8, .if_icmp .ge 37, 3), (11, .aload_n 0, 1), (12, .getfield 16, 3), (15, .iload_n 1, 1), (16, .aaload, 1), (17, .iload 4, 2), (19, .iaload, 1), (20, .aload_n 0, 1), (21, .getfield 16, 3), (24, .iload_n 2, 1), (25, .aaload, 1), (26, .iload 4, 2), (28, .iaload, 1), (29, .if_icmp .le 10, 3), (32, .iload_n 3, 1), (33, .iconst 1, 1), (34, .iload 4, 2), (36, .ishl, 1), (37, .ior, 1), (38, .istore_n 3, 1), (39, .iinc 4 1, 3), (42, .goto (-37), 3), (45, .iload_n 3, 1), (46, .ireturn, 1)] := by decide +kernel
theorem dd_X7_tells : dd_ cX7_tells [(0, .aload_n 0, 1), (1, .getfield 14, 3), (4, .iload_n 1, 1), (5, .invokevirtual 63, 3), (8, .ifCond .ne 5, 3), (11, .iconst (-1), 1), (12, .ireturn, 1), (13, .aload_n 0, 1), (14, .iload_n 1, 1), (15, .invokevirtual 259, 3), (18, .istore_n 2, 1), (19, .iload_n 2, 1), (20, .ifCond .eq 12, 3), (23, .aload_n 0, 1), (24, .getfield 44, 3), (27, .iload_n 2, 1), (28, .invokevirtual 67, 3), (31, .ireturn, 1), (32, .bipush 15, 2), (34, .istore_n 3, 1), (35, .iconst 0, 1), (36, .istore 4, 2), (38, .iconst 0, 1), (39, .istore 5, 2), (41, .iload 5, 2), (43, .aload_n 0, 1), (44, .getfield 55, 3), (47, .getfield 118, 3), (50, .iconst 0, 1), (51, .iaload, 1), (52, .if_icmp .ge 108, 3), (55, .iconst 0, 1), (56, .istore 6, 2), (58, .iload 6, 2), (60, .aload_n 0, 1), (61, .getfield 55, 3), (64, .getfield 118, 3), (67, .iconst 0, 1), (68, .iaload, 1), (69, .if_icmp .ge 85, 3), (72, .aload_n 0, 1), (73, .getfield 14, 3), (76, .getfield 79, 3), (79, .iload_n 1, 1), (80, .aaload, 1), (81, .iload 5, 2), (83, .iaload, 1), (84, .iconst 1, 1), (85, .if_icmp .ne 63, 3), (88, .aload_n 0, 1), (89, .getfield 14, 3), (92, .getfield 79, 3), (95, .iload_n 1, 1), (96, .aaload, 1), (97, .iload 6, 2), (99, .iaload, 1), (100, .ifCond .ne 48, 3), (103, .iload_n 3, 1), (104, .aload_n 0, 1), (105, .getfield 55, 3), (108, .iload 5, 2), (110, .iload 6, 2), (112, .invokevirtual 262, 3), (115, .iand, 1), (116, .istore_n 3, 1), (117, .iload 4, 2), (119, .aload_n 0, 1), (120, .getfield 55, 3), (123, .iload 5, 2), (125, .invokevirtual 164, 3), (128, .aload_n 0, 1), (129, .getfield 55, 3), (132, .iload 6, 2), (134, .invokevirtual 164, 3), (137, .if_icmp .le 7, 3), (140, .iconst 1, 1), (141, .goto 4, 3), (144, .iconst 0, 1), (145, .iadd, 1), (146, .istore 4, 2), (148, .iinc 6 1, 3), (151, .goto (-93), 3), (154, .iinc 5 1, 3), (157, .goto (-116), 3), (160, .aload_n 0, 1), (161, .getfield 44, 3), (164, .iload 4, 2), (166, .invokevirtual 83, 3), (169, .pop, 1), (170, .iload_n 3, 1), (171, .ireturn, 1)] := by decide +kernel
theorem dd_X7_nextLot : dd_ cX7_nextLot [(0, .ldc2_w 310, 3), (3, .lload_n 0, 1), (4, .lmul, 1), (5, .ldc2_w 265, 3), (8, .lrem, 1), (9, .lreturn, 1)] := by decide +kernel
theorem dd_X7_lots : dd_ cX7_lots [(0, .aload_n 0, 1), (1, .getfield 55, 3), (4, .iconst 1, 1), (5, .iload_n 1, 1), (6, .invokevirtual 119, 3), (9, .ifCond .eq 27, 3), (12, .iload_n 2, 1), (13, .iconst 1, 1), (14, .if_icmp .lt 22, 3), (17, .iload_n 2, 1), (18, .iconst 5, 1), (19, .if_icmp .gt 17, 3), (22, .iload_n 3, 1), (23, .iconst 1, 1), (24, .if_icmp .lt 12, 3), (27, .iload_n 3, 1), (28, .i2l, 1), (29, .ldc2_w 265, 3), (32, .lcmp, 1), (33, .ifCond .lt 5, 3), (36, .iconst (-1), 1), (37, .ireturn, 1), (38, .aload_n 0, 1), (39, .getfield 55, 3), (42, .getfield 118, 3), (45, .iconst 0, 1), (46, .iaload, 1), (47, .istore 4, 2), (49, .iload 4, 2), (51, .ifCond .ne 6, 3), (54, .bipush (-4), 2), (56, .ireturn, 1), (57, .iconst 0, 1), (58, .istore 5, 2), (60, .iload_n 3, 1), (61, .i2l, 1), (62, .lstore 6, 2), (64, .iconst 0, 1), (65, .istore 8, 2), (67, .iload 8, 2), (69, .iload_n 2, 1), (70, .if_icmp .ge 114, 3), (73, .lload 6, 2), (75, .invokestatic 267, 3), (78, .lstore 6, 2), (80, .lload 6, 2), (82, .iload 4, 2), (84, .i2l, 1), (85, .lrem, 1), (86, .l2i, 1), (87, .istore 9, 2), (89, .iconst 0, 1), (90, .istore 10, 2), (92, .iload 10, 2), (94, .iconst 4, 1), (95, .if_icmp .ge 54, 3), (98, .lload 6, 2), (100, .invokestatic 267, 3), (103, .lstore 6, 2), (105, .aload_n 0, 1), (106, .getfield 48, 3), (109, .iload 10, 2), (111, .aload_n 0, 1), (112, .getfield 55, 3), (115, .iload_n 1, 1), (116, .iload 9, 2), (118, .iload 10, 2), (120, .iconst 0, 1), (121, .invokevirtual 181, 3), (124, .lload 6, 2), (126, .aload_n 0, 1), (127, .getfield 55, 3), (130, .iload_n 1, 1), (131, .iload 9, 2), (133, .iload 10, 2), (135, .invokevirtual 221, 3), (138, .i2l, 1), (139, .lrem, 1), (140, .l2i, 1), (141, .iadd, 1), (142, .iastore, 1), (143, .iinc 10 1, 3), (146, .goto (-54), 3), (149, .iload 5, 2), (151, .aload_n 0, 1), (152, .getfield 55, 3), (155, .iload_n 1, 1), (156, .aload_n 0, 1), (157, .getfield 48, 3), (160, .invokevirtual 191, 3), (163, .iconst 1, 1), (164, .iload 9, 2), (166, .ishl, 1), (167, .if_icmp .ne 7, 3), (170, .iconst 1, 1), (171, .goto 4, 3), (174, .iconst 0, 1), (175, .iadd, 1), (176, .istore 5, 2), (178, .iinc 8 1, 3), (181, .goto (-114), 3), (184, .iload 5, 2), (186, .ireturn, 1)] := by decide +kernel
theorem dd_X7_asked : dd_ cX7_asked [(0, .aload_n 0, 1), (1, .getfield 44, 3), (4, .getfield 271, 3), (7, .ireturn, 1)] := by decide +kernel
theorem dd_X7_upper : dd_ cX7_upper [(0, .aload_n 0, 1), (1, .getfield 44, 3), (4, .getfield 274, 3), (7, .lreturn, 1)] := by decide +kernel
theorem dd_X7_lower : dd_ cX7_lower [(0, .aload_n 0, 1), (1, .getfield 44, 3), (4, .getfield 278, 3), (7, .lreturn, 1)] := by decide +kernel
theorem dd_X7_presentOffices : dd_ cX7_presentOffices [(0, .iconst 0, 1), (1, .istore_n 1, 1), (2, .iconst 0, 1), (3, .istore_n 2, 1), (4, .iload_n 2, 1), (5, .iconst 3, 1), (6, .if_icmp .ge 30, 3), (9, .iload_n 1, 1), (10, .aload_n 0, 1), (11, .getfield 23, 3), (14, .iload_n 2, 1), (15, .aaload, 1), (16, .getfield 114, 3), (19, .iconst (-1), 1), (20, .if_icmp .ne 7, 3), (23, .iconst 0, 1), (24, .goto 4, 3), (27, .iconst 1, 1), (28, .iadd, 1), (29, .istore_n 1, 1), (30, .iinc 2 1, 3), (33, .goto (-29), 3), (36, .iload_n 1, 1), (37, .ireturn, 1)] := by decide +kernel
theorem dd_X5_present : dd_ cX5_present [(0, .iconst 0, 1), (1, .istore_n 1, 1), (2, .iconst 0, 1), (3, .istore_n 2, 1), (4, .iload_n 2, 1), (5, .aload_n 0, 1), (6, .getfield 16, 3), (9, .arraylength, 1), (10, .if_icmp .ge 25, 3), (13, .iload_n 1, 1), (14, .aload_n 0, 1), (15, .iload_n 2, 1), (16, .invokevirtual 20, 3), (19, .ifCond .eq 7, 3), (22, .iconst 0, 1), (23, .goto 4, 3), (26, .iconst 1, 1), (27, .iadd, 1), (28, .istore_n 1, 1), (29, .iinc 2 1, 3), (32, .goto (-28), 3), (35, .iload_n 1, 1), (36, .ireturn, 1)] := by decide +kernel
theorem dd_X2_wishingOnes : dd_ cX2_wishingOnes [(0, .iconst 0, 1), (1, .istore_n 1, 1), (2, .iconst 0, 1), (3, .istore_n 2, 1), (4, .iload_n 2, 1), (5, .aload_n 0, 1), (6, .getfield 25, 3), (9, .iconst 1, 1), (10, .iaload, 1), (11, .if_icmp .ge 26, 3), (14, .iload_n 1, 1), (15, .aload_n 0, 1), (16, .iload_n 2, 1), (17, .iconst 3, 1), (18, .invokevirtual 36, 3), (21, .ifCond .eq 7, 3), (24, .iconst 1, 1), (25, .goto 4, 3), (28, .iconst 0, 1), (29, .iadd, 1), (30, .istore_n 1, 1), (31, .iinc 2 1, 3), (34, .goto (-30), 3), (37, .iload_n 1, 1), (38, .ireturn, 1)] := by decide +kernel
theorem dd_X2_allTogether : dd_ cX2_allTogether [(0, .iconst 0, 1), (1, .istore_n 1, 1), (2, .iconst 0, 1), (3, .istore_n 2, 1), (4, .iload_n 2, 1), (5, .aload_n 0, 1), (6, .getfield 25, 3), (9, .iconst 0, 1), (10, .iaload, 1), (11, .if_icmp .ge 17, 3), (14, .iload_n 1, 1), (15, .aload_n 0, 1), (16, .iload_n 2, 1), (17, .invokevirtual 32, 3), (20, .iadd, 1), (21, .istore_n 1, 1), (22, .iinc 2 1, 3), (25, .goto (-21), 3), (28, .iload_n 1, 1), (29, .ireturn, 1)] := by decide +kernel
theorem dd_X7_count : dd_ cX7_count [(0, .iload_n 1, 1), (1, .tableswitch 126 0 8 #[51, 61, 71, 81, 89, 97, 105, 113, 121], 51), (52, .aload_n 0, 1), (53, .getfield 55, 3), (56, .getfield 118, 3), (59, .iconst 0, 1), (60, .iaload, 1), (61, .ireturn, 1), (62, .aload_n 0, 1), (63, .getfield 55, 3), (66, .getfield 118, 3), (69, .iconst 1, 1), (70, .iaload, 1), (71, .ireturn, 1), (72, .aload_n 0, 1), (73, .getfield 55, 3), (76, .getfield 118, 3), (79, .iconst 2, 1), (80, .iaload, 1), (81, .ireturn, 1), (82, .aload_n 0, 1), (83, .getfield 55, 3), (86, .getfield 160, 3), (89, .ireturn, 1), (90, .aload_n 0, 1), (91, .getfield 55, 3), (94, .invokevirtual 281, 3), (97, .ireturn, 1), (98, .aload_n 0, 1), (99, .getfield 55, 3), (102, .invokevirtual 284, 3), (105, .ireturn, 1), (106, .aload_n 0, 1), (107, .getfield 14, 3), (110, .invokevirtual 287, 3), (113, .ireturn, 1), (114, .aload_n 0, 1), (115, .getfield 18, 3), (118, .invokevirtual 287, 3), (121, .ireturn, 1), (122, .aload_n 0, 1), (123, .invokevirtual 290, 3), (126, .ireturn, 1), (127, .iconst (-1), 1), (128, .ireturn, 1)] := by decide +kernel
theorem dd_X7_finding : dd_ cX7_finding [(0, .aload_n 0, 1), (1, .getfield 44, 3), (4, .getfield 293, 3), (7, .ireturn, 1)] := by decide +kernel
theorem dd_X7_findings : dd_ cX7_findings [(0, .iload_n 1, 1), (1, .iconst 1, 1), (2, .if_icmp .lt 8, 3), (5, .iload_n 1, 1), (6, .iconst 5, 1), (7, .if_icmp .le 5, 3), (10, .iconst (-1), 1), (11, .ireturn, 1), (12, .aload_n 0, 1), (13, .getfield 44, 3), (16, .getfield 296, 3), (19, .iload_n 1, 1), (20, .iaload, 1), (21, .ireturn, 1)] := by decide +kernel
theorem dd_X2_mix : dd_ cX2_mix [(0, .iconst 0, 1), (1, .istore_n 3, 1), (2, .iload_n 3, 1), (3, .aload_n 0, 1), (4, .getfield 25, 3), (7, .iconst 0, 1), (8, .iaload, 1), (9, .if_icmp .ge 39, 3), (12, .iconst 0, 1), (13, .istore 4, 2), (15, .iload 4, 2), (17, .iconst 5, 1), (18, .if_icmp .gt 24, 3), (21, .ldc2_w 43, 3), (24, .lload_n 1, 1), (25, .lmul, 1), (26, .aload_n 0, 1), (27, .iload_n 3, 1), (28, .iload 4, 2), (30, .invokevirtual 45, 3), (33, .i2l, 1), (34, .ladd, 1), (35, .lstore_n 1, 1), (36, .iinc 4 1, 3), (39, .goto (-24), 3), (42, .iinc 3 1, 3), (45, .goto (-43), 3), (48, .iconst 0, 1), (49, .istore_n 3, 1), (50, .iload_n 3, 1), (51, .aload_n 0, 1), (52, .getfield 25, 3), (55, .iconst 1, 1), (56, .iaload, 1), (57, .if_icmp .ge 41, 3), (60, .iconst 0, 1), (61, .istore 4, 2), (63, .iload 4, 2), (65, .iconst 2, 1), (66, .if_icmp .gt 26, 3), (69, .ldc2_w 43, 3), (72, .lload_n 1, 1), (73, .lmul, 1), (74, .aload_n 0, 1), (75, .getfield 19, 3), (78, .iload_n 3, 1), (79, .aaload, 1), (80, .iload 4, 2), (82, .iaload, 1), (83, .i2l, 1), (84, .ladd, 1), (85, .lstore_n 1, 1), (86, .iinc 4 1, 3), (89, .goto (-26), 3), (92, .iinc 3 1, 3), (95, .goto (-45), 3), (98, .iconst 0, 1), (99, .istore_n 3, 1), (100, .iload_n 3, 1), (101, .aload_n 0, 1), (102, .getfield 25, 3), (105, .iconst 2, 1), (106, .iaload, 1), (107, .if_icmp .ge 41, 3), (110, .iconst 0, 1), (111, .istore 4, 2), (113, .iload 4, 2), (115, .iconst 4, 1), (116, .if_icmp .gt 26, 3), (119, .ldc2_w 43, 3), (122, .lload_n 1, 1), (123, .lmul, 1), (124, .aload_n 0, 1), (125, .getfield 22, 3), (128, .iload_n 3, 1), (129, .aaload, 1), (130, .iload 4, 2), (132, .iaload, 1), (133, .i2l, 1), (134, .ladd, 1), (135, .lstore_n 1, 1), (136, .iinc 4 1, 3), (139, .goto (-26), 3), (142, .iinc 3 1, 3), (145, .goto (-45), 3), (148, .lload_n 1, 1), (149, .lreturn, 1)] := by decide +kernel
theorem dd_X5_mix : dd_ cX5_mix [(0, .iconst 0, 1), (1, .istore_n 3, 1), (2, .iload_n 3, 1), (3, .aload_n 0, 1), (4, .getfield 16, 3), (7, .arraylength, 1), (8, .if_icmp .ge 60, 3), (11, .ldc2_w 24, 3), (14, .lload_n 1, 1), (15, .lmul, 1), (16, .aload_n 0, 1), (17, .getfield 16, 3), (20, .iload_n 3, 1), (21, .iaload, 1), (22, .i2l, 1), (23, .ladd, 1), (24, .lstore_n 1, 1), (25, .iconst 0, 1), (26, .istore 4, 2), (28, .iload 4, 2), (30, .aload_n 0, 1), (31, .getfield 16, 3), (34, .iload_n 3, 1), (35, .iaload, 1), (36, .if_icmp .ge 26, 3), (39, .ldc2_w 24, 3), (42, .lload_n 1, 1), (43, .lmul, 1), (44, .aload_n 0, 1), (45, .getfield 11, 3), (48, .iload_n 3, 1), (49, .aaload, 1), (50, .iload 4, 2), (52, .iaload, 1), (53, .i2l, 1), (54, .ladd, 1), (55, .lstore_n 1, 1), (56, .iinc 4 1, 3), (59, .goto (-31), 3), (62, .iinc 3 1, 3), (65, .goto (-63), 3), (68, .lload_n 1, 1), (69, .lreturn, 1)] := by decide +kernel
theorem dd_X7_digest : dd_ cX7_digest [(0, .ldc2_w 299, 3), (3, .lstore_n 1, 1), (4, .iconst 0, 1), (5, .istore_n 3, 1), (6, .iload_n 3, 1), (7, .bipush 8, 2), (9, .if_icmp .gt 22, 3), (12, .ldc2_w 301, 3), (15, .lload_n 1, 1), (16, .lmul, 1), (17, .aload_n 0, 1), (18, .iload_n 3, 1), (19, .invokevirtual 303, 3), (22, .i2l, 1), (23, .ladd, 1), (24, .lstore_n 1, 1), (25, .iinc 3 1, 3), (28, .goto (-22), 3), (31, .aload_n 0, 1), (32, .getfield 55, 3), (35, .lload_n 1, 1), (36, .invokevirtual 306, 3), (39, .lstore_n 1, 1), (40, .iconst 0, 1), (41, .istore_n 3, 1), (42, .iload_n 3, 1), (43, .iconst 3, 1), (44, .if_icmp .ge 26, 3), (47, .ldc2_w 301, 3), (50, .lload_n 1, 1), (51, .lmul, 1), (52, .aload_n 0, 1), (53, .getfield 23, 3), (56, .iload_n 3, 1), (57, .aaload, 1), (58, .getfield 114, 3), (61, .i2l, 1), (62, .ladd, 1), (63, .lstore_n 1, 1), (64, .iinc 3 1, 3), (67, .goto (-25), 3), (70, .aload_n 0, 1), (71, .getfield 18, 3), (74, .aload_n 0, 1), (75, .getfield 14, 3), (78, .lload_n 1, 1), (79, .invokevirtual 309, 3), (82, .invokevirtual 309, 3), (85, .lreturn, 1)] := by decide +kernel
theorem dd_X8_in : dd_ cX8_in [(0, .iload_n 0, 1), (1, .iload_n 1, 1), (2, .if_icmp .lt 12, 3), (5, .iload_n 0, 1), (6, .iload_n 2, 1), (7, .if_icmp .gt 7, 3), (10, .iconst 1, 1), (11, .goto 4, 3), (14, .iconst 0, 1), (15, .ireturn, 1)] := by decide +kernel
theorem dd_X8_meet : dd_ cX8_meet [(0, .aload_n 0, 1), (1, .iload_n 1, 1), (2, .putfield 62, 3), (5, .aload_n 0, 1), (6, .getfield 7, 3), (9, .iload_n 1, 1), (10, .dup2, 1), (11, .iaload, 1), (12, .iconst 1, 1), (13, .iadd, 1), (14, .iastore, 1), (15, .bipush (-3), 2), (17, .ireturn, 1)] := by decide +kernel
theorem dd_X8_ask : dd_ cX8_ask [(0, .aload_n 0, 1), (1, .iload_n 1, 1), (2, .putfield 66, 3), (5, .iload_n 2, 1), (6, .ireturn, 1)] := by decide +kernel
theorem dd_X8_has : dd_ cX8_has [(0, .iload_n 0, 1), (1, .iload_n 1, 1), (2, .ishr, 1), (3, .iconst 1, 1), (4, .iand, 1), (5, .iconst 1, 1), (6, .if_icmp .ne 7, 3), (9, .iconst 1, 1), (10, .goto 4, 3), (13, .iconst 0, 1), (14, .ireturn, 1)] := by decide +kernel
theorem dd_X8_lesser : dd_ cX8_lesser [(0, .iload_n 0, 1), (1, .iload_n 1, 1), (2, .if_icmp .ge 7, 3), (5, .iload_n 0, 1), (6, .goto 4, 3), (9, .iload_n 1, 1), (10, .ireturn, 1)] := by decide +kernel
theorem dd_X8_greater : dd_ cX8_greater [(0, .iload_n 0, 1), (1, .iload_n 1, 1), (2, .if_icmp .le 7, 3), (5, .iload_n 0, 1), (6, .goto 4, 3), (9, .iload_n 1, 1), (10, .ireturn, 1)] := by decide +kernel
theorem dd_X8_part : dd_ cX8_part [(0, .lload_n 1, 1), (1, .lstore 5, 2), (3, .lload_n 3, 1), (4, .lstore 7, 2), (6, .lload 7, 2), (8, .lconst 0, 1), (9, .lcmp, 1), (10, .ifCond .eq 21, 3), (13, .lload 5, 2), (15, .lload 7, 2), (17, .lrem, 1), (18, .lstore 9, 2), (20, .lload 7, 2), (22, .lstore 5, 2), (24, .lload 9, 2), (26, .lstore 7, 2), (28, .goto (-22), 3), (31, .aload_n 0, 1), (32, .lload_n 1, 1), (33, .lload 5, 2), (35, .ldiv, 1), (36, .putfield 69, 3), (39, .aload_n 0, 1), (40, .lload_n 3, 1), (41, .lload 5, 2), (43, .ldiv, 1), (44, .putfield 13, 3), (47, .iconst 1, 1), (48, .ireturn, 1)] := by decide +kernel
theorem dd_X8_isRow : dd_ cX8_isRow [(0, .iload_n 0, 1), (1, .iconst 0, 1), (2, .iconst 5, 1), (3, .invokestatic 72, 3), (6, .ireturn, 1)] := by decide +kernel
theorem dd_X8_isText : dd_ cX8_isText [(0, .iload_n 0, 1), (1, .iconst 0, 1), (2, .iconst 3, 1), (3, .invokestatic 72, 3), (6, .ireturn, 1)] := by decide +kernel
theorem dd_X8_askedRow : dd_ cX8_askedRow [(0, .iload_n 1, 1), (1, .invokestatic 76, 3), (4, .ifCond .ne 7, 3), (7, .iconst (-1), 1), (8, .goto 21, 3), (11, .aload_n 0, 1), (12, .getfield 17, 3), (15, .iload_n 1, 1), (16, .iaload, 1), (17, .ifCond .ge 11, 3), (20, .aload_n 0, 1), (21, .iconst 1, 1), (22, .invokevirtual 80, 3), (25, .goto 4, 3), (28, .iconst 0, 1), (29, .ireturn, 1)] := by decide +kernel
theorem dd_X8_askedText : dd_ cX8_askedText [(0, .iload_n 1, 1), (1, .invokestatic 84, 3), (4, .ifCond .ne 7, 3), (7, .iconst (-1), 1), (8, .goto 21, 3), (11, .aload_n 0, 1), (12, .getfield 26, 3), (15, .iload_n 1, 1), (16, .iaload, 1), (17, .ifCond .ge 11, 3), (20, .aload_n 0, 1), (21, .iconst 1, 1), (22, .invokevirtual 80, 3), (25, .goto 4, 3), (28, .iconst 0, 1), (29, .ireturn, 1)] := by decide +kernel
theorem dd_X8_rowAt : dd_ cX8_rowAt [(0, .aload_n 0, 1), (1, .getfield 20, 3), (4, .bipush 40, 2), (6, .iload_n 1, 1), (7, .imul, 1), (8, .iload_n 2, 1), (9, .iadd, 1), (10, .iaload, 1), (11, .ireturn, 1)] := by decide +kernel
theorem dd_X8_setRow : dd_ cX8_setRow [(0, .aload_n 0, 1), (1, .getfield 20, 3), (4, .bipush 40, 2), (6, .iload_n 1, 1), (7, .imul, 1), (8, .iload_n 2, 1), (9, .iadd, 1), (10, .iload_n 3, 1), (11, .iastore, 1), (12, .return_, 1)] := by decide +kernel
theorem dd_X8_row : dd_ cX8_row [(0, .iload_n 1, 1), (1, .invokestatic 76, 3), (4, .ifCond .eq 9, 3), (7, .iload_n 2, 1), (8, .bipush 40, 2), (10, .if_icmp .le 5, 3), (13, .iconst (-1), 1), (14, .ireturn, 1), (15, .iload_n 2, 1), (16, .ifCond .ge 9, 3), (19, .aload_n 0, 1), (20, .iconst 5, 1), (21, .invokevirtual 80, 3), (24, .ireturn, 1), (25, .aload_n 0, 1), (26, .getfield 17, 3), (29, .iload_n 1, 1), (30, .iload_n 2, 1), (31, .iastore, 1), (32, .iconst 0, 1), (33, .istore_n 3, 1), (34, .iload_n 3, 1), (35, .bipush 40, 2), (37, .if_icmp .ge 16, 3), (40, .aload_n 0, 1), (41, .iload_n 1, 1), (42, .iload_n 3, 1), (43, .iconst 0, 1), (44, .invokevirtual 87, 3), (47, .iinc 3 1, 3), (50, .goto (-16), 3), (53, .iload_n 2, 1), (54, .ireturn, 1)] := by decide +kernel
theorem dd_X8_at : dd_ cX8_at [(0, .aload_n 0, 1), (1, .iload_n 1, 1), (2, .invokevirtual 91, 3), (5, .istore_n 3, 1), (6, .iload_n 3, 1), (7, .ifCond .ge 5, 3), (10, .iload_n 3, 1), (11, .ireturn, 1), (12, .iload_n 2, 1), (13, .iconst 0, 1), (14, .aload_n 0, 1), (15, .getfield 17, 3), (18, .iload_n 1, 1), (19, .iaload, 1), (20, .iconst 1, 1), (21, .isub, 1), (22, .invokestatic 72, 3), (25, .ifCond .eq 17, 3), (28, .aload_n 0, 1), (29, .aload_n 0, 1), (30, .iload_n 1, 1), (31, .iload_n 2, 1), (32, .invokevirtual 94, 3), (35, .iconst 1, 1), (36, .invokevirtual 98, 3), (39, .goto 8, 3), (42, .aload_n 0, 1), (43, .iconst 2, 1), (44, .invokevirtual 80, 3), (47, .ireturn, 1)] := by decide +kernel
theorem dd_X8_lay : dd_ cX8_lay [(0, .aload_n 0, 1), (1, .iload_n 1, 1), (2, .iload_n 2, 1), (3, .invokevirtual 101, 3), (6, .istore 4, 2), (8, .iload 4, 2), (10, .ifCond .ge 6, 3), (13, .iload 4, 2), (15, .ireturn, 1), (16, .aload_n 0, 1), (17, .iload_n 1, 1), (18, .iload_n 2, 1), (19, .iload_n 3, 1), (20, .invokevirtual 87, 3), (23, .iconst 1, 1), (24, .ireturn, 1)] := by decide +kernel
theorem dd_X8_tear : dd_ cX8_tear [(0, .aload_n 0, 1), (1, .iload_n 1, 1), (2, .invokevirtual 91, 3), (5, .istore_n 2, 1), (6, .iload_n 2, 1), (7, .ifCond .ge 5, 3), (10, .iload_n 2, 1), (11, .ireturn, 1), (12, .aload_n 0, 1), (13, .getfield 17, 3), (16, .iload_n 1, 1), (17, .bipush (-9), 2), (19, .iastore, 1), (20, .iconst 1, 1), (21, .ireturn, 1)] := by decide +kernel
theorem dd_X8_copy : dd_ cX8_copy [(0, .iload_n 1, 1), (1, .invokestatic 76, 3), (4, .ifCond .eq 10, 3), (7, .iload_n 3, 1), (8, .invokestatic 76, 3), (11, .ifCond .ne 5, 3), (14, .iconst (-1), 1), (15, .ireturn, 1), (16, .iload 5, 2), (18, .ifCond .ge 9, 3), (21, .aload_n 0, 1), (22, .iconst 5, 1), (23, .invokevirtual 80, 3), (26, .ireturn, 1), (27, .aload_n 0, 1), (28, .getfield 17, 3), (31, .iload_n 1, 1), (32, .iaload, 1), (33, .ifCond .lt 12, 3), (36, .aload_n 0, 1), (37, .getfield 17, 3), (40, .iload_n 3, 1), (41, .iaload, 1), (42, .ifCond .ge 9, 3), (45, .aload_n 0, 1), (46, .iconst 1, 1), (47, .invokevirtual 80, 3), (50, .ireturn, 1), (51, .iload_n 2, 1), (52, .ifCond .lt 43, 3), (55, .iload 4, 2), (57, .ifCond .lt 38, 3), (60, .iload_n 2, 1), (61, .i2l, 1), (62, .iload 5, 2), (64, .i2l, 1), (65, .ladd, 1), (66, .aload_n 0, 1), (67, .getfield 17, 3), (70, .iload_n 1, 1), (71, .iaload, 1), (72, .i2l, 1), (73, .lcmp, 1), (74, .ifCond .gt 21, 3), (77, .iload 4, 2), (79, .i2l, 1), (80, .iload 5, 2), (82, .i2l, 1), (83, .ladd, 1), (84, .aload_n 0, 1), (85, .getfield 17, 3), (88, .iload_n 3, 1), (89, .iaload, 1), (90, .i2l, 1), (91, .lcmp, 1), (92, .ifCond .le 9, 3), (95, .aload_n 0, 1), (96, .iconst 2, 1), (97, .invokevirtual 80, 3), (100, .ireturn, 1), (101, .iconst 0, 1), (102, .istore 6, 2), (104, .iload 6, 2), (106, .iload 5, 2), (108, .if_icmp .ge 25, 3), (111, .aload_n 0, 1), (112, .getfield 23, 3), (115, .iload 6, 2), (117, .aload_n 0, 1), (118, .iload_n 1, 1), (119, .iload_n 2, 1), (120, .iload 6, 2), (122, .iadd, 1), (123, .invokevirtual 94, 3), (126, .iastore, 1), (127, .iinc 6 1, 3), (130, .goto (-26), 3), (133, .iconst 0, 1), (134, .istore 6, 2), (136, .iload 6, 2), (138, .iload 5, 2), (140, .if_icmp .ge 26, 3), (143, .aload_n 0, 1), (144, .iload_n 3, 1), (145, .iload 4, 2), (147, .iload 6, 2), (149, .iadd, 1), (150, .aload_n 0, 1), (151, .getfield 23, 3), (154, .iload 6, 2), (156, .iaload, 1), (157, .invokevirtual 87, 3), (160, .iinc 6 1, 3), (163, .goto (-27), 3), (166, .iconst 1, 1), (167, .ireturn, 1)] := by decide +kernel
theorem dd_X8_mean : dd_ cX8_mean [(0, .aload_n 0, 1), (1, .iload_n 1, 1), (2, .invokevirtual 91, 3), (5, .istore_n 2, 1), (6, .iload_n 2, 1), (7, .ifCond .ge 5, 3), (10, .iload_n 2, 1), (11, .ireturn, 1), (12, .lconst 0, 1), (13, .lstore_n 3, 1), (14, .iconst 0, 1), (15, .istore 5, 2), (17, .iload 5, 2), (19, .aload_n 0, 1), (20, .getfield 17, 3), (23, .iload_n 1, 1), (24, .iaload, 1), (25, .if_icmp .ge 20, 3), (28, .lload_n 3, 1), (29, .aload_n 0, 1), (30, .iload_n 1, 1), (31, .iload 5, 2), (33, .invokevirtual 94, 3), (36, .i2l, 1), (37, .ladd, 1), (38, .lstore_n 3, 1), (39, .iinc 5 1, 3), (42, .goto (-25), 3), (45, .aload_n 0, 1), (46, .getfield 17, 3), (49, .iload_n 1, 1), (50, .iaload, 1), (51, .ifCond .ne 11, 3), (54, .aload_n 0, 1), (55, .iconst 4, 1), (56, .invokevirtual 80, 3), (59, .goto 18, 3), (62, .aload_n 0, 1), (63, .lload_n 3, 1), (64, .aload_n 0, 1), (65, .getfield 17, 3), (68, .iload_n 1, 1), (69, .iaload, 1), (70, .i2l, 1), (71, .ldiv, 1), (72, .l2i, 1), (73, .iconst 1, 1), (74, .invokevirtual 98, 3), (77, .ireturn, 1)] := by decide +kernel
theorem dd_X8_text : dd_ cX8_text [(0, .iload_n 1, 1), (1, .invokestatic 84, 3), (4, .ifCond .eq 9, 3), (7, .iload_n 2, 1), (8, .bipush 80, 2), (10, .if_icmp .le 5, 3), (13, .iconst (-1), 1), (14, .ireturn, 1), (15, .iload_n 2, 1), (16, .ifCond .ge 9, 3), (19, .aload_n 0, 1), (20, .iconst 5, 1), (21, .invokevirtual 80, 3), (24, .ireturn, 1), (25, .aload_n 0, 1), (26, .getfield 26, 3), (29, .iload_n 1, 1), (30, .iload_n 2, 1), (31, .iastore, 1), (32, .iconst 0, 1), (33, .istore_n 3, 1), (34, .iload_n 3, 1), (35, .bipush 80, 2), (37, .if_icmp .ge 22, 3), (40, .aload_n 0, 1), (41, .getfield 29, 3), (44, .bipush 80, 2), (46, .iload_n 1, 1), (47, .imul, 1), (48, .iload_n 3, 1), (49, .iadd, 1), (50, .bipush 32, 2), (52, .iastore, 1), (53, .iinc 3 1, 3), (56, .goto (-22), 3), (59, .iload_n 2, 1), (60, .ireturn, 1)] := by decide +kernel
theorem dd_X8_put : dd_ cX8_put [(0, .aload_n 0, 1), (1, .iload_n 1, 1), (2, .invokevirtual 104, 3), (5, .istore 4, 2), (7, .iload 4, 2), (9, .ifCond .ge 6, 3), (12, .iload 4, 2), (14, .ireturn, 1), (15, .iload_n 2, 1), (16, .iconst 0, 1), (17, .aload_n 0, 1), (18, .getfield 26, 3), (21, .iload_n 1, 1), (22, .iaload, 1), (23, .iconst 1, 1), (24, .isub, 1), (25, .invokestatic 72, 3), (28, .ifCond .ne 9, 3), (31, .aload_n 0, 1), (32, .iconst 2, 1), (33, .invokevirtual 80, 3), (36, .ireturn, 1), (37, .aload_n 0, 1), (38, .getfield 29, 3), (41, .bipush 80, 2), (43, .iload_n 1, 1), (44, .imul, 1), (45, .iload_n 2, 1), (46, .iadd, 1), (47, .iaload, 1), (48, .istore 5, 2), (50, .aload_n 0, 1), (51, .getfield 29, 3), (54, .bipush 80, 2), (56, .iload_n 1, 1), (57, .imul, 1), (58, .iload_n 2, 1), (59, .iadd, 1), (60, .iload_n 3, 1), (61, .i2b, 1), (62, .iastore, 1), (63, .iload 5, 2), (65, .sipush 1000, 3), (68, .iadd, 1), (69, .ireturn, 1)] := by decide +kernel
theorem dd_X8_here : dd_ cX8_here [(0, .aload_n 0, 1), (1, .getfield 107, 3), (4, .aload_n 0, 1), (5, .getfield 26, 3), (8, .iload_n 1, 1), (9, .iaload, 1), (10, .if_icmp .ge 20, 3), (13, .aload_n 0, 1), (14, .getfield 29, 3), (17, .bipush 80, 2), (19, .iload_n 1, 1), (20, .imul, 1), (21, .aload_n 0, 1), (22, .getfield 107, 3), (25, .iadd, 1), (26, .iaload, 1), (27, .goto 5, 3), (30, .bipush (-9), 2), (32, .ireturn, 1)] := by decide +kernel
theorem dd_X8_figure : dd_ cX8_figure [(0, .aload_n 0, 1), (1, .iload_n 1, 1), (2, .invokevirtual 110, 3), (5, .bipush 48, 2), (7, .isub, 1), (8, .istore 5, 2), (10, .iload 5, 2), (12, .iload_n 3, 1), (13, .iload 4, 2), (15, .invokestatic 72, 3), (18, .ifCond .ne 5, 3), (21, .iconst 0, 1), (22, .ireturn, 1), (23, .aload_n 0, 1), (24, .getfield 41, 3), (27, .iload_n 2, 1), (28, .iload 5, 2), (30, .iastore, 1), (31, .aload_n 0, 1), (32, .dup, 1), (33, .getfield 107, 3), (36, .iconst 1, 1), (37, .iadd, 1), (38, .putfield 107, 3), (41, .iconst 1, 1), (42, .ireturn, 1)] := by decide +kernel
theorem dd_X8_kindOf : dd_ cX8_kindOf [(0, .iload_n 0, 1), (1, .bipush 116, 2), (3, .if_icmp .ne 7, 3), (6, .iconst 0, 1), (7, .goto 55, 3), (10, .iload_n 0, 1), (11, .bipush 118, 2), (13, .if_icmp .ne 7, 3), (16, .iconst 1, 1), (17, .goto 45, 3), (20, .iload_n 0, 1), (21, .bipush 108, 2), (23, .if_icmp .ne 7, 3), (26, .iconst 2, 1), (27, .goto 35, 3), (30, .iload_n 0, 1), (31, .bipush 119, 2), (33, .if_icmp .ne 7, 3), (36, .iconst 3, 1), (37, .goto 25, 3), (40, .iload_n 0, 1), (41, .bipush 99, 2), (43, .if_icmp .ne 7, 3), (46, .iconst 4, 1), (47, .goto 15, 3), (50, .iload_n 0, 1), (51, .bipush 100, 2), (53, .if_icmp .ne 7, 3), (56, .iconst 5, 1), (57, .goto 5, 3), (60, .bipush (-9), 2), (62, .ireturn, 1)] := by decide +kernel
theorem dd_X8_readsHead : dd_ cX8_readsHead [(0, .aload_n 0, 1), (1, .getfield 113, 3), (4, .iconst 5, 1), (5, .if_icmp .eq 15, 3), (8, .aload_n 0, 1), (9, .getfield 116, 3), (12, .aload_n 0, 1), (13, .getfield 119, 3), (16, .iadd, 1), (17, .ifCond .le 5, 3), (20, .iconst 0, 1), (21, .ireturn, 1), (22, .aload_n 0, 1), (23, .dup, 1), (24, .getfield 107, 3), (27, .iconst 1, 1), (28, .iadd, 1), (29, .putfield 107, 3), (32, .iconst 1, 1), (33, .istore_n 2, 1), (34, .iconst 0, 1), (35, .istore_n 3, 1), (36, .iload_n 3, 1), (37, .iconst 5, 1), (38, .if_icmp .ge 38, 3), (41, .iload_n 2, 1), (42, .ifCond .eq 34, 3), (45, .aload_n 0, 1), (46, .iload_n 1, 1), (47, .iconst 5, 1), (48, .aload_n 0, 1), (49, .getfield 113, 3), (52, .imul, 1), (53, .iload_n 3, 1), (54, .iadd, 1), (55, .iconst 0, 1), (56, .iload_n 3, 1), (57, .iconst 4, 1), (58, .if_icmp .ge 7, 3), (61, .iconst 5, 1), (62, .goto 4, 3), (65, .iconst 3, 1), (66, .invokevirtual 122, 3), (69, .istore_n 2, 1), (70, .iinc 3 1, 3), (73, .goto (-37), 3), (76, .aload_n 0, 1), (77, .dup, 1), (78, .getfield 113, 3), (81, .iload_n 2, 1), (82, .ifCond .eq 7, 3), (85, .iconst 1, 1), (86, .goto 4, 3), (89, .iconst 0, 1), (90, .iadd, 1), (91, .putfield 113, 3), (94, .iload_n 2, 1), (95, .ireturn, 1)] := by decide +kernel
theorem dd_X8_readsThumb : dd_ cX8_readsThumb [(0, .aload_n 0, 1), (1, .iload_n 1, 1), (2, .invokevirtual 110, 3), (5, .invokestatic 126, 3), (8, .istore_n 2, 1), (9, .iload_n 2, 1), (10, .bipush (-9), 2), (12, .if_icmp .eq 25, 3), (15, .aload_n 0, 1), (16, .getfield 113, 3), (19, .ifCond .eq 18, 3), (22, .aload_n 0, 1), (23, .getfield 116, 3), (26, .iconst 4, 1), (27, .if_icmp .eq 10, 3), (30, .aload_n 0, 1), (31, .getfield 119, 3), (34, .ifCond .le 5, 3), (37, .iconst 0, 1), (38, .ireturn, 1), (39, .aload_n 0, 1), (40, .dup, 1), (41, .getfield 107, 3), (44, .iconst 1, 1), (45, .iadd, 1), (46, .putfield 107, 3), (49, .bipush 25, 2), (51, .iconst 3, 1), (52, .aload_n 0, 1), (53, .getfield 116, 3), (56, .imul, 1), (57, .iadd, 1), (58, .istore_n 3, 1), (59, .aload_n 0, 1), (60, .getfield 41, 3), (63, .iload_n 3, 1), (64, .iload_n 2, 1), (65, .iastore, 1), (66, .aload_n 0, 1), (67, .iload_n 1, 1), (68, .iload_n 3, 1), (69, .iconst 1, 1), (70, .iadd, 1), (71, .iconst 0, 1), (72, .iconst 2, 1), (73, .invokevirtual 122, 3), (76, .ifCond .eq 20, 3), (79, .aload_n 0, 1), (80, .iload_n 1, 1), (81, .iload_n 3, 1), (82, .iconst 2, 1), (83, .iadd, 1), (84, .iconst 0, 1), (85, .iconst 3, 1), (86, .invokevirtual 122, 3), (89, .ifCond .eq 7, 3), (92, .iconst 1, 1), (93, .goto 4, 3), (96, .iconst 0, 1), (97, .istore 4, 2), (99, .aload_n 0, 1), (100, .dup, 1), (101, .getfield 116, 3), (104, .iload 4, 2), (106, .ifCond .eq 7, 3), (109, .iconst 1, 1), (110, .goto 4, 3), (113, .iconst 0, 1), (114, .iadd, 1), (115, .putfield 116, 3), (118, .iload 4, 2), (120, .ireturn, 1)] := by decide +kernel
theorem dd_X8_readsPost : dd_ cX8_readsPost [(0, .aload_n 0, 1), (1, .getfield 113, 3), (4, .ifCond .eq 11, 3), (7, .aload_n 0, 1), (8, .getfield 119, 3), (11, .iconst 4, 1), (12, .if_icmp .ne 5, 3), (15, .iconst 0, 1), (16, .ireturn, 1), (17, .aload_n 0, 1), (18, .dup, 1), (19, .getfield 107, 3), (22, .iconst 1, 1), (23, .iadd, 1), (24, .putfield 107, 3), (27, .iconst 1, 1), (28, .istore_n 2, 1), (29, .iconst 0, 1), (30, .istore_n 3, 1), (31, .iload_n 3, 1), (32, .iconst 5, 1), (33, .if_icmp .ge 52, 3), (36, .iload_n 2, 1), (37, .ifCond .eq 48, 3), (40, .aload_n 0, 1), (41, .iload_n 1, 1), (42, .bipush 37, 2), (44, .iconst 5, 1), (45, .aload_n 0, 1), (46, .getfield 119, 3), (49, .imul, 1), (50, .iadd, 1), (51, .iload_n 3, 1), (52, .iadd, 1), (53, .iload_n 3, 1), (54, .iconst 4, 1), (55, .if_icmp .ge 7, 3), (58, .iconst 0, 1), (59, .goto 4, 3), (62, .iconst 1, 1), (63, .iload_n 3, 1), (64, .iconst 4, 1), (65, .if_icmp .ge 8, 3), (68, .bipush 6, 2), (70, .goto 5, 3), (73, .bipush 9, 2), (75, .invokevirtual 122, 3), (78, .istore_n 2, 1), (79, .iinc 3 1, 3), (82, .goto (-51), 3), (85, .aload_n 0, 1), (86, .dup, 1), (87, .getfield 119, 3), (90, .iload_n 2, 1), (91, .ifCond .eq 7, 3), (94, .iconst 1, 1), (95, .goto 4, 3), (98, .iconst 0, 1), (99, .iadd, 1), (100, .putfield 119, 3), (103, .iload_n 2, 1), (104, .ireturn, 1)] := by decide +kernel
theorem dd_X8_goesOn : dd_ cX8_goesOn [(0, .aload_n 0, 1), (1, .iconst 0, 1), (2, .putfield 107, 3), (5, .aload_n 0, 1), (6, .iconst 0, 1), (7, .putfield 113, 3), (10, .aload_n 0, 1), (11, .iconst 0, 1), (12, .putfield 116, 3), (15, .aload_n 0, 1), (16, .iconst 0, 1), (17, .putfield 119, 3), (20, .aload_n 0, 1), (21, .getfield 107, 3), (24, .aload_n 0, 1), (25, .getfield 26, 3), (28, .iload_n 1, 1), (29, .iaload, 1), (30, .if_icmp .ge 78, 3), (33, .aload_n 0, 1), (34, .iload_n 1, 1), (35, .invokevirtual 110, 3), (38, .istore_n 2, 1), (39, .iload_n 2, 1), (40, .bipush 32, 2), (42, .if_icmp .ne 16, 3), (45, .aload_n 0, 1), (46, .dup, 1), (47, .getfield 107, 3), (50, .iconst 1, 1), (51, .iadd, 1), (52, .putfield 107, 3), (55, .goto 50, 3), (58, .iload_n 2, 1), (59, .bipush 104, 2), (61, .if_icmp .ne 14, 3), (64, .aload_n 0, 1), (65, .iload_n 1, 1), (66, .invokevirtual 129, 3), (69, .ifCond .ne 36, 3), (72, .goto 28, 3), (75, .iload_n 2, 1), (76, .bipush 112, 2), (78, .if_icmp .ne 14, 3), (81, .aload_n 0, 1), (82, .iload_n 1, 1), (83, .invokevirtual 132, 3), (86, .ifCond .ne 19, 3), (89, .goto 11, 3), (92, .aload_n 0, 1), (93, .iload_n 1, 1), (94, .invokevirtual 135, 3), (97, .ifCond .ne 8, 3), (100, .aload_n 0, 1), (101, .getfield 107, 3), (104, .ireturn, 1), (105, .goto (-85), 3), (108, .aload_n 0, 1), (109, .getfield 113, 3), (112, .ifCond .ne 12, 3), (115, .aload_n 0, 1), (116, .getfield 26, 3), (119, .iload_n 1, 1), (120, .iaload, 1), (121, .goto 5, 3), (124, .bipush (-9), 2), (126, .ireturn, 1)] := by decide +kernel
theorem dd_X8_fault : dd_ cX8_fault [(0, .aload_n 0, 1), (1, .iload_n 1, 1), (2, .invokevirtual 104, 3), (5, .istore_n 2, 1), (6, .iload_n 2, 1), (7, .ifCond .ge 7, 3), (10, .iload_n 2, 1), (11, .goto 8, 3), (14, .aload_n 0, 1), (15, .iload_n 1, 1), (16, .invokevirtual 138, 3), (19, .ireturn, 1)] := by decide +kernel
theorem dd_X8_office : dd_ cX8_office [(0, .aload_n 0, 1), (1, .iload_n 1, 1), (2, .invokevirtual 104, 3), (5, .istore_n 2, 1), (6, .iload_n 2, 1), (7, .ifCond .ge 5, 3), (10, .iload_n 2, 1), (11, .ireturn, 1), (12, .aload_n 0, 1), (13, .iload_n 1, 1), (14, .invokevirtual 138, 3), (17, .bipush (-9), 2), (19, .if_icmp .eq 6, 3), (22, .bipush (-4), 2), (24, .ireturn, 1), (25, .aload_n 0, 1), (26, .aload_n 0, 1), (27, .getfield 113, 3), (30, .putfield 141, 3), (33, .aload_n 0, 1), (34, .aload_n 0, 1), (35, .getfield 116, 3), (38, .putfield 144, 3), (41, .aload_n 0, 1), (42, .aload_n 0, 1), (43, .getfield 119, 3), (46, .putfield 147, 3), (49, .iconst 0, 1), (50, .istore_n 3, 1), (51, .iload_n 3, 1), (52, .bipush 25, 2), (54, .if_icmp .ge 21, 3), (57, .aload_n 0, 1), (58, .getfield 32, 3), (61, .iload_n 3, 1), (62, .aload_n 0, 1), (63, .getfield 41, 3), (66, .iload_n 3, 1), (67, .iaload, 1), (68, .iastore, 1), (69, .iinc 3 1, 3), (72, .goto (-21), 3), (75, .iconst 0, 1), (76, .istore_n 3, 1), (77, .iload_n 3, 1), (78, .bipush 12, 2), (80, .if_icmp .ge 24, 3), (83, .aload_n 0, 1), (84, .getfield 35, 3), (87, .iload_n 3, 1), (88, .aload_n 0, 1), (89, .getfield 41, 3), (92, .bipush 25, 2), (94, .iload_n 3, 1), (95, .iadd, 1), (96, .iaload, 1), (97, .iastore, 1), (98, .iinc 3 1, 3), (101, .goto (-24), 3), (104, .iconst 0, 1), (105, .istore_n 3, 1), (106, .iload_n 3, 1), (107, .bipush 20, 2), (109, .if_icmp .ge 24, 3), (112, .aload_n 0, 1), (113, .getfield 38, 3), (116, .iload_n 3, 1), (117, .aload_n 0, 1), (118, .getfield 41, 3), (121, .bipush 37, 2), (123, .iload_n 3, 1), (124, .iadd, 1), (125, .iaload, 1), (126, .iastore, 1), (127, .iinc 3 1, 3), (130, .goto (-24), 3), (133, .aload_n 0, 1), (134, .iconst 0, 1), (135, .putfield 150, 3), (138, .iconst 0, 1), (139, .istore_n 3, 1), (140, .iload_n 3, 1), (141, .iconst 3, 1), (142, .if_icmp .ge 21, 3), (145, .aload_n 0, 1), (146, .getfield 47, 3), (149, .sipush 1030, 3), (152, .iload_n 3, 1), (153, .imul, 1), (154, .bipush (-9), 2), (156, .iastore, 1), (157, .iinc 3 1, 3), (160, .goto (-20), 3), (163, .aload_n 0, 1), (164, .getfield 141, 3), (167, .ireturn, 1)] := by decide +kernel
theorem dd_X8_isHead : dd_ cX8_isHead [(0, .iload_n 1, 1), (1, .iconst 0, 1), (2, .aload_n 0, 1), (3, .getfield 141, 3), (6, .iconst 1, 1), (7, .isub, 1), (8, .invokestatic 72, 3), (11, .ireturn, 1)] := by decide +kernel
theorem dd_X8_isThumb : dd_ cX8_isThumb [(0, .iload_n 1, 1), (1, .iconst 0, 1), (2, .aload_n 0, 1), (3, .getfield 144, 3), (6, .iconst 1, 1), (7, .isub, 1), (8, .invokestatic 72, 3), (11, .ireturn, 1)] := by decide +kernel
theorem dd_X8_isPost : dd_ cX8_isPost [(0, .iload_n 1, 1), (1, .iconst 0, 1), (2, .aload_n 0, 1), (3, .getfield 147, 3), (6, .iconst 1, 1), (7, .isub, 1), (8, .invokestatic 72, 3), (11, .ireturn, 1)] := by decide +kernel
theorem dd_X8_isPlace : dd_ cX8_isPlace [(0, .iload_n 0, 1), (1, .iconst 0, 1), (2, .iconst 3, 1), (3, .invokestatic 72, 3), (6, .ireturn, 1)] := by decide +kernel
theorem dd_X8_bump : dd_ cX8_bump [(0, .aload_n 0, 1), (1, .getfield 32, 3), (4, .iconst 5, 1), (5, .iload_n 1, 1), (6, .imul, 1), (7, .iload_n 2, 1), (8, .iadd, 1), (9, .iaload, 1), (10, .ireturn, 1)] := by decide +kernel
theorem dd_X8_bumps : dd_ cX8_bumps [(0, .aload_n 0, 1), (1, .iload_n 1, 1), (2, .iconst 0, 1), (3, .invokevirtual 153, 3), (6, .aload_n 0, 1), (7, .iload_n 1, 1), (8, .iconst 1, 1), (9, .invokevirtual 153, 3), (12, .iadd, 1), (13, .aload_n 0, 1), (14, .iload_n 1, 1), (15, .iconst 2, 1), (16, .invokevirtual 153, 3), (19, .iadd, 1), (20, .aload_n 0, 1), (21, .iload_n 1, 1), (22, .iconst 3, 1), (23, .invokevirtual 153, 3), (26, .iadd, 1), (27, .ireturn, 1)] := by decide +kernel
theorem dd_X8_headOf : dd_ cX8_headOf [(0, .iload_n 2, 1), (1, .iconst 5, 1), (2, .if_icmp .ge 16, 3), (5, .aload_n 0, 1), (6, .getfield 32, 3), (9, .iconst 5, 1), (10, .iload_n 1, 1), (11, .imul, 1), (12, .iload_n 2, 1), (13, .iadd, 1), (14, .iaload, 1), (15, .goto 8, 3), (18, .aload_n 0, 1), (19, .iload_n 1, 1), (20, .invokevirtual 156, 3), (23, .ireturn, 1)] := by decide +kernel
theorem dd_X8_head : dd_ cX8_head [(0, .aload_n 0, 1), (1, .iload_n 1, 1), (2, .invokevirtual 159, 3), (5, .ifCond .eq 26, 3), (8, .iload_n 2, 1), (9, .iconst 0, 1), (10, .iconst 5, 1), (11, .invokestatic 72, 3), (14, .ifCond .eq 17, 3), (17, .aload_n 0, 1), (18, .aload_n 0, 1), (19, .iload_n 1, 1), (20, .iload_n 2, 1), (21, .invokevirtual 162, 3), (24, .iconst 1, 1), (25, .invokevirtual 98, 3), (28, .goto 4, 3), (31, .iconst (-1), 1), (32, .ireturn, 1)] := by decide +kernel
theorem dd_X8_thumb : dd_ cX8_thumb [(0, .aload_n 0, 1), (1, .iload_n 1, 1), (2, .invokevirtual 165, 3), (5, .ifCond .eq 30, 3), (8, .iload_n 2, 1), (9, .iconst 0, 1), (10, .iconst 2, 1), (11, .invokestatic 72, 3), (14, .ifCond .eq 21, 3), (17, .aload_n 0, 1), (18, .aload_n 0, 1), (19, .getfield 35, 3), (22, .iconst 3, 1), (23, .iload_n 1, 1), (24, .imul, 1), (25, .iload_n 2, 1), (26, .iadd, 1), (27, .iaload, 1), (28, .iconst 1, 1), (29, .invokevirtual 98, 3), (32, .goto 4, 3), (35, .iconst (-1), 1), (36, .ireturn, 1)] := by decide +kernel
theorem dd_X8_post : dd_ cX8_post [(0, .aload_n 0, 1), (1, .iload_n 1, 1), (2, .invokevirtual 168, 3), (5, .ifCond .eq 30, 3), (8, .iload_n 2, 1), (9, .iconst 0, 1), (10, .iconst 4, 1), (11, .invokestatic 72, 3), (14, .ifCond .eq 21, 3), (17, .aload_n 0, 1), (18, .aload_n 0, 1), (19, .getfield 38, 3), (22, .iconst 5, 1), (23, .iload_n 1, 1), (24, .imul, 1), (25, .iload_n 2, 1), (26, .iadd, 1), (27, .iaload, 1), (28, .iconst 1, 1), (29, .invokevirtual 98, 3), (32, .goto 4, 3), (35, .iconst (-1), 1), (36, .ireturn, 1)] := by decide +kernel
theorem dd_X8_isA : dd_ cX8_isA [(0, .aload_n 0, 1), (1, .getfield 35, 3), (4, .iconst 3, 1), (5, .iload_n 1, 1), (6, .imul, 1), (7, .iaload, 1), (8, .istore_n 3, 1), (9, .iload_n 3, 1), (10, .iload_n 2, 1), (11, .if_icmp .eq 23, 3), (14, .iload_n 2, 1), (15, .iconst 1, 1), (16, .if_icmp .ne 8, 3), (19, .iload_n 3, 1), (20, .iconst 5, 1), (21, .if_icmp .eq 13, 3), (24, .iload_n 2, 1), (25, .iconst 3, 1), (26, .if_icmp .ne 12, 3), (29, .iload_n 3, 1), (30, .iconst 4, 1), (31, .if_icmp .ne 7, 3), (34, .iconst 1, 1), (35, .goto 4, 3), (38, .iconst 0, 1), (39, .ireturn, 1)] := by decide +kernel
theorem dd_X8_felt : dd_ cX8_felt [(0, .iconst 0, 1), (1, .aload_n 0, 1), (2, .iload_n 1, 1), (3, .iload_n 2, 1), (4, .invokevirtual 153, 3), (7, .aload_n 0, 1), (8, .getfield 32, 3), (11, .iconst 5, 1), (12, .iload_n 1, 1), (13, .imul, 1), (14, .iconst 4, 1), (15, .iadd, 1), (16, .iaload, 1), (17, .iconst 1, 1), (18, .if_icmp .le 7, 3), (21, .iconst 1, 1), (22, .goto 4, 3), (25, .iconst 0, 1), (26, .isub, 1), (27, .invokestatic 171, 3), (30, .ireturn, 1)] := by decide +kernel
theorem dd_X8_middleOf : dd_ cX8_middleOf [(0, .iload_n 0, 1), (1, .tableswitch 85 1 5 #[35, 55, 59, 72, 43], 35), (36, .iconst 0, 1), (37, .iload_n 2, 1), (38, .iconst 1, 1), (39, .isub, 1), (40, .invokestatic 171, 3), (43, .ireturn, 1), (44, .iconst 3, 1), (45, .iconst 0, 1), (46, .iload_n 2, 1), (47, .iconst 1, 1), (48, .isub, 1), (49, .invokestatic 171, 3), (52, .invokestatic 174, 3), (55, .ireturn, 1), (56, .iload_n 2, 1), (57, .iconst 1, 1), (58, .iadd, 1), (59, .ireturn, 1), (60, .iload_n 2, 1), (61, .iload_n 3, 1), (62, .iload_n 1, 1), (63, .if_icmp .ne 7, 3), (66, .iconst 1, 1), (67, .goto 4, 3), (70, .iconst 0, 1), (71, .iadd, 1), (72, .ireturn, 1), (73, .iload_n 2, 1), (74, .iload_n 3, 1), (75, .iload_n 1, 1), (76, .if_icmp .ne 7, 3), (79, .iconst 2, 1), (80, .goto 4, 3), (83, .iconst 1, 1), (84, .iadd, 1), (85, .ireturn, 1), (86, .iload_n 2, 1), (87, .ireturn, 1)] := by decide +kernel
theorem dd_X8_middle : dd_ cX8_middle [(0, .aload_n 0, 1), (1, .getfield 35, 3), (4, .iconst 3, 1), (5, .iload_n 1, 1), (6, .imul, 1), (7, .iaload, 1), (8, .aload_n 0, 1), (9, .getfield 35, 3), (12, .iconst 3, 1), (13, .iload_n 1, 1), (14, .imul, 1), (15, .iconst 2, 1), (16, .iadd, 1), (17, .iaload, 1), (18, .aload_n 0, 1), (19, .iload_n 2, 1), (20, .iload_n 3, 1), (21, .invokevirtual 177, 3), (24, .iload_n 3, 1), (25, .invokestatic 180, 3), (28, .ireturn, 1)] := by decide +kernel
theorem dd_X8_least : dd_ cX8_least [(0, .iconst 0, 1), (1, .aload_n 0, 1), (2, .iload_n 1, 1), (3, .iload_n 2, 1), (4, .iload_n 3, 1), (5, .invokevirtual 184, 3), (8, .aload_n 0, 1), (9, .getfield 35, 3), (12, .iconst 3, 1), (13, .iload_n 1, 1), (14, .imul, 1), (15, .iconst 1, 1), (16, .iadd, 1), (17, .iaload, 1), (18, .isub, 1), (19, .invokestatic 171, 3), (22, .ireturn, 1)] := by decide +kernel
theorem dd_X8_most : dd_ cX8_most [(0, .aload_n 0, 1), (1, .iload_n 1, 1), (2, .iload_n 2, 1), (3, .iload_n 3, 1), (4, .invokevirtual 184, 3), (7, .aload_n 0, 1), (8, .getfield 35, 3), (11, .iconst 3, 1), (12, .iload_n 1, 1), (13, .imul, 1), (14, .iconst 1, 1), (15, .iadd, 1), (16, .iaload, 1), (17, .iadd, 1), (18, .ireturn, 1)] := by decide +kernel
theorem dd_X8_marked : dd_ cX8_marked [(0, .iconst 0, 1), (1, .istore_n 3, 1), (2, .iconst 0, 1), (3, .istore 4, 2), (5, .iload 4, 2), (7, .aload_n 0, 1), (8, .getfield 141, 3), (11, .if_icmp .ge 200, 3), (14, .aload_n 0, 1), (15, .getfield 35, 3), (18, .iconst 3, 1), (19, .iload_n 1, 1), (20, .imul, 1), (21, .iconst 2, 1), (22, .iadd, 1), (23, .iaload, 1), (24, .istore 5, 2), (26, .iconst 1, 1), (27, .istore 6, 2), (29, .iconst 0, 1), (30, .istore 7, 2), (32, .iload 7, 2), (34, .iconst 4, 1), (35, .if_icmp .ge 152, 3), (38, .iload 6, 2), (40, .ifCond .eq 35, 3), (43, .iload 7, 2), (45, .iload 5, 2), (47, .if_icmp .eq 24, 3), (50, .aload_n 0, 1), (51, .iload_n 1, 1), (52, .iload 4, 2), (54, .iload 5, 2), (56, .invokevirtual 188, 3), (59, .aload_n 0, 1), (60, .iload_n 1, 1), (61, .iload 4, 2), (63, .iload 7, 2), (65, .invokevirtual 188, 3), (68, .if_icmp .le 7, 3), (71, .iconst 1, 1), (72, .goto 4, 3), (75, .iconst 0, 1), (76, .istore 6, 2), (78, .iload_n 3, 1), (79, .iload_n 2, 1), (80, .iconst 1, 1), (81, .if_icmp .ne 18, 3), (84, .aload_n 0, 1), (85, .iload 4, 2), (87, .iload 7, 2), (89, .invokevirtual 177, 3), (92, .ifCond .ne 7, 3), (95, .iconst 1, 1), (96, .goto 4, 3), (99, .iconst 0, 1), (100, .iadd, 1), (101, .istore_n 3, 1), (102, .iload_n 2, 1), (103, .iconst 2, 1), (104, .if_icmp .ne 19, 3), (107, .iload_n 3, 1), (108, .aload_n 0, 1), (109, .iload_n 1, 1), (110, .iload 4, 2), (112, .iload 7, 2), (114, .invokevirtual 191, 3), (117, .invokestatic 171, 3), (120, .goto 4, 3), (123, .iload_n 3, 1), (124, .istore_n 3, 1), (125, .iload_n 3, 1), (126, .iload_n 2, 1), (127, .iconst 4, 1), (128, .if_icmp .ne 24, 3), (131, .aload_n 0, 1), (132, .iload_n 1, 1), (133, .iload 4, 2), (135, .iload 7, 2), (137, .invokevirtual 188, 3), (140, .aload_n 0, 1), (141, .iload 4, 2), (143, .iload 7, 2), (145, .invokevirtual 177, 3), (148, .isub, 1), (149, .goto 4, 3), (152, .iconst 0, 1), (153, .iadd, 1), (154, .istore_n 3, 1), (155, .iload_n 3, 1), (156, .iload_n 2, 1), (157, .iconst 5, 1), (158, .if_icmp .ne 20, 3), (161, .aload_n 0, 1), (162, .iload_n 1, 1), (163, .iload 4, 2), (165, .iload 7, 2), (167, .invokevirtual 184, 3), (170, .iconst 3, 1), (171, .if_icmp .ne 7, 3), (174, .iconst 1, 1), (175, .goto 4, 3), (178, .iconst 0, 1), (179, .iadd, 1), (180, .istore_n 3, 1), (181, .iinc 7 1, 3), (184, .goto (-152), 3), (187, .iload_n 3, 1), (188, .iload_n 2, 1), (189, .iconst 3, 1), (190, .if_icmp .ne 12, 3), (193, .iload 6, 2), (195, .ifCond .eq 7, 3), (198, .iconst 1, 1), (199, .goto 4, 3), (202, .iconst 0, 1), (203, .iadd, 1), (204, .istore_n 3, 1), (205, .iinc 4 1, 3), (208, .goto (-203), 3), (211, .iload_n 3, 1), (212, .ireturn, 1)] := by decide +kernel
theorem dd_X8_mark : dd_ cX8_mark [(0, .aload_n 0, 1), (1, .iload_n 1, 1), (2, .invokevirtual 165, 3), (5, .ifCond .eq 12, 3), (8, .iload_n 2, 1), (9, .iconst 1, 1), (10, .iconst 5, 1), (11, .invokestatic 72, 3), (14, .ifCond .ne 5, 3), (17, .iconst (-1), 1), (18, .ireturn, 1), (19, .aload_n 0, 1), (20, .iload_n 1, 1), (21, .iload_n 2, 1), (22, .invokevirtual 194, 3), (25, .ifCond .eq 12, 3), (28, .aload_n 0, 1), (29, .iload_n 1, 1), (30, .iload_n 2, 1), (31, .invokevirtual 198, 3), (34, .goto 8, 3), (37, .aload_n 0, 1), (38, .iconst 3, 1), (39, .invokevirtual 80, 3), (42, .ireturn, 1)] := by decide +kernel
theorem dd_X8_error : dd_ cX8_error [(0, .aload_n 0, 1), (1, .iload_n 1, 1), (2, .invokevirtual 165, 3), (5, .ifCond .eq 12, 3), (8, .iload_n 2, 1), (9, .iconst 0, 1), (10, .iconst 2, 1), (11, .invokestatic 72, 3), (14, .ifCond .ne 5, 3), (17, .iconst (-1), 1), (18, .ireturn, 1), (19, .aload_n 0, 1), (20, .getfield 35, 3), (23, .iconst 3, 1), (24, .iload_n 1, 1), (25, .imul, 1), (26, .iconst 1, 1), (27, .iadd, 1), (28, .iaload, 1), (29, .istore_n 3, 1), (30, .aload_n 0, 1), (31, .getfield 35, 3), (34, .iconst 3, 1), (35, .iload_n 1, 1), (36, .imul, 1), (37, .iconst 1, 1), (38, .iadd, 1), (39, .iload_n 2, 1), (40, .iastore, 1), (41, .iload_n 3, 1), (42, .ireturn, 1)] := by decide +kernel
theorem dd_X8_write : dd_ cX8_write [(0, .iconst 0, 1), (1, .istore_n 3, 1), (2, .iload_n 3, 1), (3, .bipush 25, 2), (5, .if_icmp .ge 20, 3), (8, .aload_n 1, 1), (9, .iload_n 2, 1), (10, .iload_n 3, 1), (11, .iadd, 1), (12, .aload_n 0, 1), (13, .getfield 32, 3), (16, .iload_n 3, 1), (17, .iaload, 1), (18, .iastore, 1), (19, .iinc 3 1, 3), (22, .goto (-20), 3), (25, .return_, 1)] := by decide +kernel
theorem dd_X8_readBack : dd_ cX8_readBack [(0, .iconst 0, 1), (1, .istore_n 3, 1), (2, .iload_n 3, 1), (3, .bipush 25, 2), (5, .if_icmp .ge 20, 3), (8, .aload_n 0, 1), (9, .getfield 32, 3), (12, .iload_n 3, 1), (13, .aload_n 1, 1), (14, .iload_n 2, 1), (15, .iload_n 3, 1), (16, .iadd, 1), (17, .iaload, 1), (18, .iastore, 1), (19, .iinc 3 1, 3), (22, .goto (-20), 3), (25, .return_, 1)] := by decide +kernel
theorem dd_X8_note : dd_ cX8_note [(0, .aload_n 0, 1), (1, .aload_n 0, 1), (2, .getfield 44, 3), (5, .bipush 25, 2), (7, .aload_n 0, 1), (8, .getfield 150, 3), (11, .imul, 1), (12, .invokevirtual 201, 3), (15, .aload_n 0, 1), (16, .dup, 1), (17, .getfield 150, 3), (20, .iconst 1, 1), (21, .iadd, 1), (22, .putfield 150, 3), (25, .return_, 1)] := by decide +kernel
theorem dd_X8_pad : dd_ cX8_pad [(0, .aload_n 0, 1), (1, .iload_n 1, 1), (2, .invokevirtual 159, 3), (5, .ifCond .eq 10, 3), (8, .iload_n 2, 1), (9, .invokestatic 205, 3), (12, .ifCond .ne 5, 3), (15, .iconst (-1), 1), (16, .ireturn, 1), (17, .aload_n 0, 1), (18, .iload_n 1, 1), (19, .iload_n 2, 1), (20, .invokevirtual 153, 3), (23, .iconst 5, 1), (24, .if_icmp .ne 6, 3), (27, .bipush (-4), 2), (29, .ireturn, 1), (30, .aload_n 0, 1), (31, .getfield 150, 3), (34, .bipush 40, 2), (36, .if_icmp .ne 6, 3), (39, .bipush (-2), 2), (41, .ireturn, 1), (42, .aload_n 0, 1), (43, .invokevirtual 208, 3), (46, .aload_n 0, 1), (47, .getfield 32, 3), (50, .iconst 5, 1), (51, .iload_n 1, 1), (52, .imul, 1), (53, .iload_n 2, 1), (54, .iadd, 1), (55, .dup2, 1), (56, .iaload, 1), (57, .iconst 1, 1), (58, .iadd, 1), (59, .iastore, 1), (60, .aload_n 0, 1), (61, .iload_n 1, 1), (62, .iload_n 2, 1), (63, .invokevirtual 153, 3), (66, .ireturn, 1)] := by decide +kernel
theorem dd_X8_grow : dd_ cX8_grow [(0, .aload_n 0, 1), (1, .iload_n 1, 1), (2, .invokevirtual 159, 3), (5, .ifCond .ne 5, 3), (8, .iconst (-1), 1), (9, .ireturn, 1), (10, .aload_n 0, 1), (11, .getfield 150, 3), (14, .bipush 40, 2), (16, .if_icmp .ne 6, 3), (19, .bipush (-2), 2), (21, .ireturn, 1), (22, .aload_n 0, 1), (23, .invokevirtual 208, 3), (26, .iconst 0, 1), (27, .istore_n 2, 1), (28, .iload_n 2, 1), (29, .iconst 4, 1), (30, .if_icmp .ge 31, 3), (33, .aload_n 0, 1), (34, .getfield 32, 3), (37, .iconst 5, 1), (38, .iload_n 1, 1), (39, .imul, 1), (40, .iload_n 2, 1), (41, .iadd, 1), (42, .iconst 5, 1), (43, .aload_n 0, 1), (44, .iload_n 1, 1), (45, .iload_n 2, 1), (46, .invokevirtual 153, 3), (49, .iconst 1, 1), (50, .iadd, 1), (51, .invokestatic 174, 3), (54, .iastore, 1), (55, .iinc 2 1, 3), (58, .goto (-30), 3), (61, .aload_n 0, 1), (62, .iload_n 1, 1), (63, .invokevirtual 156, 3), (66, .ireturn, 1)] := by decide +kernel
theorem dd_X8_cut : dd_ cX8_cut [(0, .aload_n 0, 1), (1, .iload_n 1, 1), (2, .invokevirtual 159, 3), (5, .ifCond .eq 12, 3), (8, .iload_n 2, 1), (9, .iconst 0, 1), (10, .iconst 2, 1), (11, .invokestatic 72, 3), (14, .ifCond .ne 5, 3), (17, .iconst (-1), 1), (18, .ireturn, 1), (19, .aload_n 0, 1), (20, .getfield 32, 3), (23, .iconst 5, 1), (24, .iload_n 1, 1), (25, .imul, 1), (26, .iconst 4, 1), (27, .iadd, 1), (28, .iaload, 1), (29, .istore_n 3, 1), (30, .iload_n 3, 1), (31, .iload_n 2, 1), (32, .if_icmp .gt 6, 3), (35, .bipush (-4), 2), (37, .ireturn, 1), (38, .aload_n 0, 1), (39, .getfield 150, 3), (42, .bipush 40, 2), (44, .if_icmp .ne 6, 3), (47, .bipush (-2), 2), (49, .ireturn, 1), (50, .aload_n 0, 1), (51, .invokevirtual 208, 3), (54, .aload_n 0, 1), (55, .getfield 32, 3), (58, .iconst 5, 1), (59, .iload_n 1, 1), (60, .imul, 1), (61, .iconst 4, 1), (62, .iadd, 1), (63, .iload_n 2, 1), (64, .iastore, 1), (65, .iload_n 3, 1), (66, .ireturn, 1)] := by decide +kernel
theorem dd_X8_undo : dd_ cX8_undo [(0, .iload_n 1, 1), (1, .iconst 0, 1), (2, .aload_n 0, 1), (3, .getfield 150, 3), (6, .invokestatic 72, 3), (9, .ifCond .ne 5, 3), (12, .iconst (-1), 1), (13, .ireturn, 1), (14, .aload_n 0, 1), (15, .getfield 150, 3), (18, .iload_n 1, 1), (19, .isub, 1), (20, .istore_n 2, 1), (21, .iload_n 2, 1), (22, .ifCond .le 20, 3), (25, .aload_n 0, 1), (26, .aload_n 0, 1), (27, .getfield 44, 3), (30, .bipush 25, 2), (32, .iload_n 1, 1), (33, .imul, 1), (34, .invokevirtual 211, 3), (37, .aload_n 0, 1), (38, .iload_n 1, 1), (39, .putfield 150, 3), (42, .iload_n 2, 1), (43, .ireturn, 1)] := by decide +kernel
theorem dd_X8_keep : dd_ cX8_keep [(0, .iload_n 1, 1), (1, .iconst 0, 1), (2, .iconst 2, 1), (3, .invokestatic 72, 3), (6, .ifCond .ne 5, 3), (9, .iconst (-1), 1), (10, .ireturn, 1), (11, .aload_n 0, 1), (12, .getfield 141, 3), (15, .ifCond .ne 6, 3), (18, .bipush (-4), 2), (20, .ireturn, 1), (21, .sipush 1030, 3), (24, .iload_n 1, 1), (25, .imul, 1), (26, .istore_n 2, 1), (27, .aload_n 0, 1), (28, .getfield 47, 3), (31, .iload_n 2, 1), (32, .aload_n 0, 1), (33, .getfield 150, 3), (36, .iastore, 1), (37, .iconst 0, 1), (38, .istore_n 3, 1), (39, .iload_n 3, 1), (40, .iconst 4, 1), (41, .if_icmp .ge 29, 3), (44, .aload_n 0, 1), (45, .getfield 47, 3), (48, .iload_n 2, 1), (49, .iconst 1, 1), (50, .iadd, 1), (51, .iload_n 3, 1), (52, .iadd, 1), (53, .aload_n 0, 1), (54, .getfield 35, 3), (57, .iconst 3, 1), (58, .iload_n 3, 1), (59, .imul, 1), (60, .iconst 1, 1), (61, .iadd, 1), (62, .iaload, 1), (63, .iastore, 1), (64, .iinc 3 1, 3), (67, .goto (-28), 3), (70, .aload_n 0, 1), (71, .aload_n 0, 1), (72, .getfield 47, 3), (75, .iload_n 2, 1), (76, .iconst 5, 1), (77, .iadd, 1), (78, .invokevirtual 201, 3), (81, .iconst 0, 1), (82, .istore_n 3, 1), (83, .iload_n 3, 1), (84, .sipush 1000, 3), (87, .if_icmp .ge 26, 3), (90, .aload_n 0, 1), (91, .getfield 47, 3), (94, .iload_n 2, 1), (95, .bipush 30, 2), (97, .iadd, 1), (98, .iload_n 3, 1), (99, .iadd, 1), (100, .aload_n 0, 1), (101, .getfield 44, 3), (104, .iload_n 3, 1), (105, .iaload, 1), (106, .iastore, 1), (107, .iinc 3 1, 3), (110, .goto (-27), 3), (113, .aload_n 0, 1), (114, .getfield 150, 3), (117, .ireturn, 1)] := by decide +kernel
theorem dd_X8_on : dd_ cX8_on [(0, .iload_n 1, 1), (1, .iconst 0, 1), (2, .iconst 2, 1), (3, .invokestatic 72, 3), (6, .ifCond .ne 5, 3), (9, .iconst (-1), 1), (10, .ireturn, 1), (11, .sipush 1030, 3), (14, .iload_n 1, 1), (15, .imul, 1), (16, .istore_n 2, 1), (17, .aload_n 0, 1), (18, .getfield 47, 3), (21, .iload_n 2, 1), (22, .iaload, 1), (23, .bipush (-9), 2), (25, .if_icmp .ne 9, 3), (28, .aload_n 0, 1), (29, .iconst 1, 1), (30, .invokevirtual 80, 3), (33, .ireturn, 1), (34, .aload_n 0, 1), (35, .aload_n 0, 1), (36, .getfield 47, 3), (39, .iload_n 2, 1), (40, .iaload, 1), (41, .putfield 150, 3), (44, .iconst 0, 1), (45, .istore_n 3, 1), (46, .iload_n 3, 1), (47, .iconst 4, 1), (48, .if_icmp .ge 29, 3), (51, .aload_n 0, 1), (52, .getfield 35, 3), (55, .iconst 3, 1), (56, .iload_n 3, 1), (57, .imul, 1), (58, .iconst 1, 1), (59, .iadd, 1), (60, .aload_n 0, 1), (61, .getfield 47, 3), (64, .iload_n 2, 1), (65, .iconst 1, 1), (66, .iadd, 1), (67, .iload_n 3, 1), (68, .iadd, 1), (69, .iaload, 1), (70, .iastore, 1), (71, .iinc 3 1, 3), (74, .goto (-28), 3), (77, .aload_n 0, 1), (78, .aload_n 0, 1), (79, .getfield 47, 3), (82, .iload_n 2, 1), (83, .iconst 5, 1), (84, .iadd, 1), (85, .invokevirtual 211, 3), (88, .iconst 0, 1), (89, .istore_n 3, 1), (90, .iload_n 3, 1), (91, .sipush 1000, 3), (94, .if_icmp .ge 26, 3), (97, .aload_n 0, 1), (98, .getfield 44, 3), (101, .iload_n 3, 1), (102, .aload_n 0, 1), (103, .getfield 47, 3), (106, .iload_n 2, 1), (107, .bipush 30, 2), (109, .iadd, 1), (110, .iload_n 3, 1), (111, .iadd, 1), (112, .iaload, 1), (113, .iastore, 1), (114, .iinc 3 1, 3), (117, .goto (-27), 3), (120, .aload_n 0, 1), (121, .getfield 150, 3), (124, .ireturn, 1)] := by decide +kernel
theorem dd_X8_reads : dd_ cX8_reads [(0, .aload_n 0, 1), (1, .iload_n 1, 1), (2, .invokevirtual 165, 3), (5, .ifCond .eq 39, 3), (8, .aload_n 0, 1), (9, .iload_n 2, 1), (10, .invokevirtual 159, 3), (13, .ifCond .eq 31, 3), (16, .iload_n 3, 1), (17, .invokestatic 205, 3), (20, .ifCond .eq 24, 3), (23, .aload_n 0, 1), (24, .aload_n 0, 1), (25, .iload_n 1, 1), (26, .iload_n 2, 1), (27, .iload_n 3, 1), (28, .invokevirtual 191, 3), (31, .aload_n 0, 1), (32, .iload_n 1, 1), (33, .iload_n 2, 1), (34, .iload_n 3, 1), (35, .invokevirtual 188, 3), (38, .invokevirtual 98, 3), (41, .goto 4, 3), (44, .iconst (-1), 1), (45, .ireturn, 1)] := by decide +kernel
theorem dd_X8_askedReading : dd_ cX8_askedReading [(0, .aload_n 0, 1), (1, .iload_n 1, 1), (2, .invokevirtual 91, 3), (5, .istore_n 2, 1), (6, .iload_n 2, 1), (7, .ifCond .ge 5, 3), (10, .iload_n 2, 1), (11, .ireturn, 1), (12, .aload_n 0, 1), (13, .getfield 17, 3), (16, .iload_n 1, 1), (17, .iaload, 1), (18, .iconst 4, 1), (19, .if_icmp .eq 9, 3), (22, .aload_n 0, 1), (23, .iconst 5, 1), (24, .invokevirtual 80, 3), (27, .ireturn, 1), (28, .iconst 0, 1), (29, .istore_n 3, 1), (30, .iload_n 3, 1), (31, .iconst 4, 1), (32, .if_icmp .ge 30, 3), (35, .aload_n 0, 1), (36, .iload_n 1, 1), (37, .iload_n 3, 1), (38, .invokevirtual 94, 3), (41, .iconst 0, 1), (42, .bipush 9, 2), (44, .invokestatic 72, 3), (47, .ifCond .ne 9, 3), (50, .aload_n 0, 1), (51, .iconst 3, 1), (52, .invokevirtual 80, 3), (55, .ireturn, 1), (56, .iinc 3 1, 3), (59, .goto (-29), 3), (62, .iconst 0, 1), (63, .ireturn, 1)] := by decide +kernel
theorem dd_X8_doesFit : dd_ cX8_doesFit [(0, .iconst 1, 1), (1, .istore 4, 2), (3, .iconst 0, 1), (4, .istore 5, 2), (6, .iload 5, 2), (8, .iconst 4, 1), (9, .if_icmp .ge 50, 3), (12, .iload 4, 2), (14, .ifCond .eq 36, 3), (17, .aload_n 0, 1), (18, .iload_n 3, 1), (19, .iload 5, 2), (21, .invokevirtual 94, 3), (24, .aload_n 0, 1), (25, .iload_n 1, 1), (26, .iload_n 2, 1), (27, .iload 5, 2), (29, .invokevirtual 188, 3), (32, .aload_n 0, 1), (33, .iload_n 1, 1), (34, .iload_n 2, 1), (35, .iload 5, 2), (37, .invokevirtual 191, 3), (40, .invokestatic 72, 3), (43, .ifCond .eq 7, 3), (46, .iconst 1, 1), (47, .goto 4, 3), (50, .iconst 0, 1), (51, .istore 4, 2), (53, .iinc 5 1, 3), (56, .goto (-50), 3), (59, .iload 4, 2), (61, .ireturn, 1)] := by decide +kernel
theorem dd_X8_fits : dd_ cX8_fits [(0, .aload_n 0, 1), (1, .iload_n 1, 1), (2, .invokevirtual 165, 3), (5, .ifCond .eq 11, 3), (8, .aload_n 0, 1), (9, .iload_n 2, 1), (10, .invokevirtual 159, 3), (13, .ifCond .ne 5, 3), (16, .iconst (-1), 1), (17, .ireturn, 1), (18, .aload_n 0, 1), (19, .iload_n 3, 1), (20, .invokevirtual 214, 3), (23, .istore 4, 2), (25, .iload 4, 2), (27, .ifCond .ge 8, 3), (30, .iload 4, 2), (32, .goto 18, 3), (35, .aload_n 0, 1), (36, .iload_n 1, 1), (37, .iload_n 2, 1), (38, .iload_n 3, 1), (39, .invokevirtual 217, 3), (42, .ifCond .eq 7, 3), (45, .iconst 1, 1), (46, .goto 4, 3), (49, .iconst 0, 1), (50, .ireturn, 1)] := by decide +kernel
theorem dd_X8_headsBy : dd_ cX8_headsBy [(0, .iconst 0, 1), (1, .istore_n 3, 1), (2, .iconst 0, 1), (3, .istore 4, 2), (5, .iload 4, 2), (7, .aload_n 0, 1), (8, .getfield 141, 3), (11, .if_icmp .ge 31, 3), (14, .iload_n 3, 1), (15, .aload_n 0, 1), (16, .iload_n 1, 1), (17, .iload 4, 2), (19, .iload_n 2, 1), (20, .invokevirtual 217, 3), (23, .ifCond .eq 10, 3), (26, .iconst 1, 1), (27, .iload 4, 2), (29, .ishl, 1), (30, .goto 4, 3), (33, .iconst 0, 1), (34, .ior, 1), (35, .istore_n 3, 1), (36, .iinc 4 1, 3), (39, .goto (-34), 3), (42, .iload_n 3, 1), (43, .ireturn, 1)] := by decide +kernel
theorem dd_X8_whose : dd_ cX8_whose [(0, .aload_n 0, 1), (1, .iload_n 1, 1), (2, .invokevirtual 165, 3), (5, .ifCond .ne 5, 3), (8, .iconst (-1), 1), (9, .ireturn, 1), (10, .aload_n 0, 1), (11, .iload_n 2, 1), (12, .invokevirtual 214, 3), (15, .istore_n 3, 1), (16, .iload_n 3, 1), (17, .ifCond .ge 5, 3), (20, .iload_n 3, 1), (21, .ireturn, 1), (22, .iconst 0, 1), (23, .istore 4, 2), (25, .iconst 0, 1), (26, .istore 5, 2), (28, .iload 5, 2), (30, .aload_n 0, 1), (31, .getfield 144, 3), (34, .if_icmp .ge 21, 3), (37, .iload 4, 2), (39, .aload_n 0, 1), (40, .iload 5, 2), (42, .iload_n 2, 1), (43, .invokevirtual 220, 3), (46, .ior, 1), (47, .istore 4, 2), (49, .iinc 5 1, 3), (52, .goto (-24), 3), (55, .aload_n 0, 1), (56, .iload 4, 2), (58, .aload_n 0, 1), (59, .iload_n 1, 1), (60, .iload_n 2, 1), (61, .invokevirtual 220, 3), (64, .invokevirtual 98, 3), (67, .ireturn, 1)] := by decide +kernel
theorem dd_X8_who : dd_ cX8_who [(0, .aload_n 0, 1), (1, .iload_n 1, 1), (2, .invokevirtual 159, 3), (5, .ifCond .ne 5, 3), (8, .iconst (-1), 1), (9, .ireturn, 1), (10, .aload_n 0, 1), (11, .iload_n 2, 1), (12, .invokevirtual 214, 3), (15, .istore_n 3, 1), (16, .iload_n 3, 1), (17, .ifCond .ge 5, 3), (20, .iload_n 3, 1), (21, .ireturn, 1), (22, .iconst 0, 1), (23, .istore 4, 2), (25, .iconst 0, 1), (26, .istore 5, 2), (28, .iload 5, 2), (30, .aload_n 0, 1), (31, .getfield 144, 3), (34, .if_icmp .ge 33, 3), (37, .iload 4, 2), (39, .aload_n 0, 1), (40, .iload 5, 2), (42, .iload_n 1, 1), (43, .iload_n 2, 1), (44, .invokevirtual 217, 3), (47, .ifCond .eq 10, 3), (50, .iconst 1, 1), (51, .iload 5, 2), (53, .ishl, 1), (54, .goto 4, 3), (57, .iconst 0, 1), (58, .ior, 1), (59, .istore 4, 2), (61, .iinc 5 1, 3), (64, .goto (-36), 3), (67, .iload 4, 2), (69, .ireturn, 1)] := by decide +kernel
theorem dd_X8_spread : dd_ cX8_spread [(0, .aload_n 0, 1), (1, .iload_n 1, 1), (2, .iload_n 2, 1), (3, .iload_n 3, 1), (4, .invokevirtual 191, 3), (7, .aload_n 0, 1), (8, .iload_n 1, 1), (9, .iload_n 2, 1), (10, .iload_n 3, 1), (11, .invokevirtual 188, 3), (14, .isub, 1), (15, .iconst 1, 1), (16, .iadd, 1), (17, .ireturn, 1)] := by decide +kernel
theorem dd_X8_weight : dd_ cX8_weight [(0, .aload_n 0, 1), (1, .iload_n 1, 1), (2, .iload_n 2, 1), (3, .iload_n 3, 1), (4, .invokevirtual 217, 3), (7, .ifCond .eq 7, 3), (10, .lconst 1, 1), (11, .goto 4, 3), (14, .lconst 0, 1), (15, .lstore 4, 2), (17, .iconst 0, 1), (18, .istore 6, 2), (20, .iload 6, 2), (22, .iconst 4, 1), (23, .if_icmp .ge 26, 3), (26, .lload 4, 2), (28, .bipush 60, 2), (30, .aload_n 0, 1), (31, .iload_n 1, 1), (32, .iload_n 2, 1), (33, .iload 6, 2), (35, .invokevirtual 223, 3), (38, .idiv, 1), (39, .i2l, 1), (40, .lmul, 1), (41, .lstore 4, 2), (43, .iinc 6 1, 3), (46, .goto (-26), 3), (49, .lload 4, 2), (51, .lreturn, 1)] := by decide +kernel
theorem dd_X8_odds : dd_ cX8_odds [(0, .aload_n 0, 1), (1, .iload_n 1, 1), (2, .invokevirtual 165, 3), (5, .ifCond .eq 11, 3), (8, .aload_n 0, 1), (9, .iload_n 2, 1), (10, .invokevirtual 159, 3), (13, .ifCond .ne 5, 3), (16, .iconst (-1), 1), (17, .ireturn, 1), (18, .aload_n 0, 1), (19, .iload_n 3, 1), (20, .invokevirtual 214, 3), (23, .istore 4, 2), (25, .iload 4, 2), (27, .ifCond .ge 6, 3), (30, .iload 4, 2), (32, .ireturn, 1), (33, .lconst 0, 1), (34, .lstore 5, 2), (36, .iconst 0, 1), (37, .istore 7, 2), (39, .iload 7, 2), (41, .aload_n 0, 1), (42, .getfield 141, 3), (45, .if_icmp .ge 22, 3), (48, .lload 5, 2), (50, .aload_n 0, 1), (51, .iload_n 1, 1), (52, .iload 7, 2), (54, .iload_n 3, 1), (55, .invokevirtual 226, 3), (58, .ladd, 1), (59, .lstore 5, 2), (61, .iinc 7 1, 3), (64, .goto (-25), 3), (67, .lload 5, 2), (69, .lconst 0, 1), (70, .lcmp, 1), (71, .ifCond .ne 11, 3), (74, .aload_n 0, 1), (75, .iconst 4, 1), (76, .invokevirtual 80, 3), (79, .goto 16, 3), (82, .aload_n 0, 1), (83, .aload_n 0, 1), (84, .iload_n 1, 1), (85, .iload_n 2, 1), (86, .iload_n 3, 1), (87, .invokevirtual 226, 3), (90, .lload 5, 2), (92, .invokevirtual 230, 3), (95, .ireturn, 1)] := by decide +kernel
theorem dd_X8_areApart : dd_ cX8_areApart [(0, .aload_n 0, 1), (1, .iload_n 1, 1), (2, .iload_n 2, 1), (3, .iload 4, 2), (5, .invokevirtual 191, 3), (8, .aload_n 0, 1), (9, .iload_n 1, 1), (10, .iload_n 3, 1), (11, .iload 4, 2), (13, .invokevirtual 188, 3), (16, .if_icmp .lt 22, 3), (19, .aload_n 0, 1), (20, .iload_n 1, 1), (21, .iload_n 3, 1), (22, .iload 4, 2), (24, .invokevirtual 191, 3), (27, .aload_n 0, 1), (28, .iload_n 1, 1), (29, .iload_n 2, 1), (30, .iload 4, 2), (32, .invokevirtual 188, 3), (35, .if_icmp .ge 7, 3), (38, .iconst 1, 1), (39, .goto 4, 3), (42, .iconst 0, 1), (43, .ireturn, 1)] := by decide +kernel
theorem dd_X8_look : dd_ cX8_look [(0, .aload_n 0, 1), (1, .iload_n 1, 1), (2, .invokevirtual 165, 3), (5, .ifCond .ne 5, 3), (8, .iconst (-1), 1), (9, .ireturn, 1), (10, .iconst 0, 1), (11, .istore_n 2, 1), (12, .iconst 0, 1), (13, .istore_n 3, 1), (14, .iconst 0, 1), (15, .istore 4, 2), (17, .iload 4, 2), (19, .iconst 4, 1), (20, .if_icmp .ge 95, 3), (23, .iconst 0, 1), (24, .istore 5, 2), (26, .iconst 0, 1), (27, .istore 6, 2), (29, .iload 6, 2), (31, .aload_n 0, 1), (32, .getfield 141, 3), (35, .if_icmp .ge 54, 3), (38, .iload 6, 2), (40, .iconst 1, 1), (41, .iadd, 1), (42, .istore 7, 2), (44, .iload 7, 2), (46, .aload_n 0, 1), (47, .getfield 141, 3), (50, .if_icmp .ge 33, 3), (53, .iload 5, 2), (55, .aload_n 0, 1), (56, .iload_n 1, 1), (57, .iload 6, 2), (59, .iload 7, 2), (61, .iload 4, 2), (63, .invokevirtual 234, 3), (66, .ifCond .eq 7, 3), (69, .iconst 1, 1), (70, .goto 4, 3), (73, .iconst 0, 1), (74, .iadd, 1), (75, .istore 5, 2), (77, .iinc 7 1, 3), (80, .goto (-36), 3), (83, .iinc 6 1, 3), (86, .goto (-57), 3), (89, .iload 5, 2), (91, .iload_n 3, 1), (92, .if_icmp .le 8, 3), (95, .iload 4, 2), (97, .goto 4, 3), (100, .iload_n 2, 1), (101, .istore_n 2, 1), (102, .iload 5, 2), (104, .iload_n 3, 1), (105, .invokestatic 171, 3), (108, .istore_n 3, 1), (109, .iinc 4 1, 3), (112, .goto (-95), 3), (115, .aload_n 0, 1), (116, .iload_n 3, 1), (117, .iload_n 2, 1), (118, .invokevirtual 98, 3), (121, .ireturn, 1)] := by decide +kernel
theorem dd_X8_alike : dd_ cX8_alike [(0, .aload_n 0, 1), (1, .iload_n 1, 1), (2, .invokevirtual 165, 3), (5, .ifCond .eq 11, 3), (8, .aload_n 0, 1), (9, .iload_n 2, 1), (10, .invokevirtual 159, 3), (13, .ifCond .ne 5, 3), (16, .iconst (-1), 1), (17, .ireturn, 1), (18, .iconst 0, 1), (19, .istore_n 3, 1), (20, .iconst 0, 1), (21, .istore 4, 2), (23, .iload 4, 2), (25, .aload_n 0, 1), (26, .getfield 141, 3), (29, .if_icmp .ge 68, 3), (32, .iconst 0, 1), (33, .istore 5, 2), (35, .iconst 0, 1), (36, .istore 6, 2), (38, .iload 6, 2), (40, .iconst 4, 1), (41, .if_icmp .ge 34, 3), (44, .iload 5, 2), (46, .ifCond .ne 16, 3), (49, .aload_n 0, 1), (50, .iload_n 1, 1), (51, .iload 4, 2), (53, .iload_n 2, 1), (54, .iload 6, 2), (56, .invokevirtual 234, 3), (59, .ifCond .eq 7, 3), (62, .iconst 1, 1), (63, .goto 4, 3), (66, .iconst 0, 1), (67, .istore 5, 2), (69, .iinc 6 1, 3), (72, .goto (-34), 3), (75, .iload_n 3, 1), (76, .iload 5, 2), (78, .ifCond .eq 7, 3), (81, .iconst 0, 1), (82, .goto 7, 3), (85, .iconst 1, 1), (86, .iload 4, 2), (88, .ishl, 1), (89, .ior, 1), (90, .istore_n 3, 1), (91, .iinc 4 1, 3), (94, .goto (-71), 3), (97, .iload_n 3, 1), (98, .ireturn, 1)] := by decide +kernel
theorem dd_X8_need : dd_ cX8_need [(0, .aload_n 0, 1), (1, .getfield 38, 3), (4, .iconst 5, 1), (5, .iload_n 1, 1), (6, .imul, 1), (7, .iload_n 2, 1), (8, .iadd, 1), (9, .iaload, 1), (10, .ireturn, 1)] := by decide +kernel
theorem dd_X8_suitsOf : dd_ cX8_suitsOf [(0, .iconst 1, 1), (1, .istore 4, 2), (3, .iconst 1, 1), (4, .istore 5, 2), (6, .iconst 0, 1), (7, .istore 6, 2), (9, .iload 6, 2), (11, .iconst 4, 1), (12, .if_icmp .ge 69, 3), (15, .iload 4, 2), (17, .ifCond .eq 25, 3), (20, .aload_n 0, 1), (21, .iload_n 1, 1), (22, .iload_n 2, 1), (23, .iload 6, 2), (25, .invokevirtual 188, 3), (28, .aload_n 0, 1), (29, .iload_n 3, 1), (30, .iload 6, 2), (32, .invokevirtual 237, 3), (35, .if_icmp .lt 7, 3), (38, .iconst 1, 1), (39, .goto 4, 3), (42, .iconst 0, 1), (43, .istore 4, 2), (45, .iload 5, 2), (47, .ifCond .eq 25, 3), (50, .aload_n 0, 1), (51, .iload_n 1, 1), (52, .iload_n 2, 1), (53, .iload 6, 2), (55, .invokevirtual 191, 3), (58, .aload_n 0, 1), (59, .iload_n 3, 1), (60, .iload 6, 2), (62, .invokevirtual 237, 3), (65, .if_icmp .lt 7, 3), (68, .iconst 1, 1), (69, .goto 4, 3), (72, .iconst 0, 1), (73, .istore 5, 2), (75, .iinc 6 1, 3), (78, .goto (-69), 3), (81, .iload 4, 2), (83, .ifCond .eq 7, 3), (86, .iconst 2, 1), (87, .goto 13, 3), (90, .iload 5, 2), (92, .ifCond .eq 7, 3), (95, .iconst 1, 1), (96, .goto 4, 3), (99, .iconst 0, 1), (100, .ireturn, 1)] := by decide +kernel
theorem dd_X8_suits : dd_ cX8_suits [(0, .aload_n 0, 1), (1, .iload_n 1, 1), (2, .invokevirtual 165, 3), (5, .ifCond .eq 29, 3), (8, .aload_n 0, 1), (9, .iload_n 2, 1), (10, .invokevirtual 159, 3), (13, .ifCond .eq 21, 3), (16, .aload_n 0, 1), (17, .iload_n 3, 1), (18, .invokevirtual 168, 3), (21, .ifCond .eq 13, 3), (24, .aload_n 0, 1), (25, .iload_n 1, 1), (26, .iload_n 2, 1), (27, .iload_n 3, 1), (28, .invokevirtual 240, 3), (31, .goto 4, 3), (34, .iconst (-1), 1), (35, .ireturn, 1)] := by decide +kernel
theorem dd_X8_luck : dd_ cX8_luck [(0, .aload_n 0, 1), (1, .iload_n 1, 1), (2, .invokevirtual 165, 3), (5, .ifCond .eq 19, 3), (8, .aload_n 0, 1), (9, .iload_n 2, 1), (10, .invokevirtual 159, 3), (13, .ifCond .eq 11, 3), (16, .aload_n 0, 1), (17, .iload_n 3, 1), (18, .invokevirtual 168, 3), (21, .ifCond .ne 5, 3), (24, .iconst (-1), 1), (25, .ireturn, 1), (26, .lconst 1, 1), (27, .lstore 4, 2), (29, .lconst 1, 1), (30, .lstore 6, 2), (32, .iconst 0, 1), (33, .istore 8, 2), (35, .iload 8, 2), (37, .iconst 4, 1), (38, .if_icmp .ge 66, 3), (41, .aload_n 0, 1), (42, .iload_n 1, 1), (43, .iload_n 2, 1), (44, .iload 8, 2), (46, .invokevirtual 188, 3), (49, .aload_n 0, 1), (50, .iload_n 3, 1), (51, .iload 8, 2), (53, .invokevirtual 237, 3), (56, .invokestatic 171, 3), (59, .istore 9, 2), (61, .lload 4, 2), (63, .iconst 0, 1), (64, .aload_n 0, 1), (65, .iload_n 1, 1), (66, .iload_n 2, 1), (67, .iload 8, 2), (69, .invokevirtual 191, 3), (72, .iload 9, 2), (74, .isub, 1), (75, .iconst 1, 1), (76, .iadd, 1), (77, .invokestatic 171, 3), (80, .i2l, 1), (81, .lmul, 1), (82, .lstore 4, 2), (84, .lload 6, 2), (86, .aload_n 0, 1), (87, .iload_n 1, 1), (88, .iload_n 2, 1), (89, .iload 8, 2), (91, .invokevirtual 223, 3), (94, .i2l, 1), (95, .lmul, 1), (96, .lstore 6, 2), (98, .iinc 8 1, 3), (101, .goto (-66), 3), (104, .aload_n 0, 1), (105, .lload 4, 2), (107, .lload 6, 2), (109, .invokevirtual 230, 3), (112, .ireturn, 1)] := by decide +kernel
theorem dd_X8_padsAt : dd_ cX8_padsAt [(0, .aload_n 0, 1), (1, .iload_n 2, 1), (2, .iload 4, 2), (4, .invokevirtual 153, 3), (7, .istore 5, 2), (9, .bipush (-9), 2), (11, .istore 6, 2), (13, .iconst 5, 1), (14, .istore 7, 2), (16, .iload 7, 2), (18, .iload 5, 2), (20, .if_icmp .lt 52, 3), (23, .aload_n 0, 1), (24, .getfield 32, 3), (27, .iconst 5, 1), (28, .iload_n 2, 1), (29, .imul, 1), (30, .iload 4, 2), (32, .iadd, 1), (33, .iload 7, 2), (35, .iastore, 1), (36, .aload_n 0, 1), (37, .iload_n 1, 1), (38, .iload_n 2, 1), (39, .iload 4, 2), (41, .invokevirtual 188, 3), (44, .aload_n 0, 1), (45, .iload_n 3, 1), (46, .iload 4, 2), (48, .invokevirtual 237, 3), (51, .if_icmp .lt 11, 3), (54, .iload 7, 2), (56, .iload 5, 2), (58, .isub, 1), (59, .goto 5, 3), (62, .iload 6, 2), (64, .istore 6, 2), (66, .iinc 7 (-1), 3), (69, .goto (-53), 3), (72, .aload_n 0, 1), (73, .getfield 32, 3), (76, .iconst 5, 1), (77, .iload_n 2, 1), (78, .imul, 1), (79, .iload 4, 2), (81, .iadd, 1), (82, .iload 5, 2), (84, .iastore, 1), (85, .iload 6, 2), (87, .ireturn, 1)] := by decide +kernel
theorem dd_X8_pads : dd_ cX8_pads [(0, .aload_n 0, 1), (1, .iload_n 1, 1), (2, .invokevirtual 165, 3), (5, .ifCond .eq 27, 3), (8, .aload_n 0, 1), (9, .iload_n 2, 1), (10, .invokevirtual 159, 3), (13, .ifCond .eq 19, 3), (16, .aload_n 0, 1), (17, .iload_n 3, 1), (18, .invokevirtual 168, 3), (21, .ifCond .eq 11, 3), (24, .iload 4, 2), (26, .invokestatic 76, 3), (29, .ifCond .ne 5, 3), (32, .iconst (-1), 1), (33, .ireturn, 1), (34, .iconst 0, 1), (35, .istore 5, 2), (37, .iconst 0, 1), (38, .istore 6, 2), (40, .iload 6, 2), (42, .iconst 4, 1), (43, .if_icmp .ge 37, 3), (46, .aload_n 0, 1), (47, .iload_n 1, 1), (48, .iload_n 2, 1), (49, .iload_n 3, 1), (50, .iload 6, 2), (52, .invokevirtual 243, 3), (55, .istore 7, 2), (57, .iload 7, 2), (59, .bipush (-9), 2), (61, .if_icmp .ne 6, 3), (64, .bipush (-9), 2), (66, .ireturn, 1), (67, .iload 5, 2), (69, .iload 7, 2), (71, .iadd, 1), (72, .istore 5, 2), (74, .iinc 6 1, 3), (77, .goto (-37), 3), (80, .aload_n 0, 1), (81, .iload 4, 2), (83, .iconst 4, 1), (84, .invokevirtual 246, 3), (87, .pop, 1), (88, .iconst 0, 1), (89, .istore 6, 2), (91, .iload 6, 2), (93, .iconst 4, 1), (94, .if_icmp .ge 26, 3), (97, .aload_n 0, 1), (98, .iload 4, 2), (100, .iload 6, 2), (102, .aload_n 0, 1), (103, .iload_n 1, 1), (104, .iload_n 2, 1), (105, .iload_n 3, 1), (106, .iload 6, 2), (108, .invokevirtual 243, 3), (111, .invokevirtual 87, 3), (114, .iinc 6 1, 3), (117, .goto (-26), 3), (120, .iload 5, 2), (122, .ireturn, 1)] := by decide +kernel
theorem dd_X8_all : dd_ cX8_all [(0, .aload_n 0, 1), (1, .iload_n 1, 1), (2, .invokevirtual 159, 3), (5, .ifCond .eq 11, 3), (8, .aload_n 0, 1), (9, .iload_n 2, 1), (10, .invokevirtual 168, 3), (13, .ifCond .ne 5, 3), (16, .iconst (-1), 1), (17, .ireturn, 1), (18, .aload_n 0, 1), (19, .getfield 144, 3), (22, .ifCond .ne 6, 3), (25, .bipush (-4), 2), (27, .ireturn, 1), (28, .iconst 0, 1), (29, .istore_n 3, 1), (30, .iconst 0, 1), (31, .istore 4, 2), (33, .iload 4, 2), (35, .iconst 4, 1), (36, .if_icmp .ge 66, 3), (39, .iconst 0, 1), (40, .istore 5, 2), (42, .iconst 0, 1), (43, .istore 6, 2), (45, .iload 6, 2), (47, .aload_n 0, 1), (48, .getfield 144, 3), (51, .if_icmp .ge 40, 3), (54, .aload_n 0, 1), (55, .iload 6, 2), (57, .iload_n 1, 1), (58, .iload_n 2, 1), (59, .iload 4, 2), (61, .invokevirtual 243, 3), (64, .istore 7, 2), (66, .iload 7, 2), (68, .bipush (-9), 2), (70, .if_icmp .ne 6, 3), (73, .bipush (-9), 2), (75, .ireturn, 1), (76, .iload 5, 2), (78, .iload 7, 2), (80, .invokestatic 171, 3), (83, .istore 5, 2), (85, .iinc 6 1, 3), (88, .goto (-43), 3), (91, .iload_n 3, 1), (92, .iload 5, 2), (94, .iadd, 1), (95, .istore_n 3, 1), (96, .iinc 4 1, 3), (99, .goto (-66), 3), (102, .iload_n 3, 1), (103, .ireturn, 1)] := by decide +kernel
theorem dd_X8_finds : dd_ cX8_finds [(0, .aload_n 0, 1), (1, .iload_n 1, 1), (2, .invokevirtual 165, 3), (5, .ifCond .eq 18, 3), (8, .aload_n 0, 1), (9, .iload_n 2, 1), (10, .invokevirtual 159, 3), (13, .ifCond .eq 10, 3), (16, .iload_n 3, 1), (17, .invokestatic 205, 3), (20, .ifCond .ne 5, 3), (23, .iconst (-1), 1), (24, .ireturn, 1), (25, .aload_n 0, 1), (26, .iload_n 2, 1), (27, .iload_n 3, 1), (28, .invokevirtual 153, 3), (31, .iconst 5, 1), (32, .if_icmp .ne 6, 3), (35, .bipush (-4), 2), (37, .ireturn, 1), (38, .bipush (-9), 2), (40, .istore 4, 2), (42, .aload_n 0, 1), (43, .getfield 144, 3), (46, .iconst 1, 1), (47, .isub, 1), (48, .istore 5, 2), (50, .iload 5, 2), (52, .ifCond .lt 110, 3), (55, .aload_n 0, 1), (56, .iload 5, 2), (58, .iload_n 2, 1), (59, .iload_n 3, 1), (60, .invokevirtual 191, 3), (63, .istore 6, 2), (65, .aload_n 0, 1), (66, .iload 5, 2), (68, .iload_n 2, 1), (69, .iload_n 3, 1), (70, .invokevirtual 188, 3), (73, .istore 7, 2), (75, .aload_n 0, 1), (76, .getfield 32, 3), (79, .iconst 5, 1), (80, .iload_n 2, 1), (81, .imul, 1), (82, .iload_n 3, 1), (83, .iadd, 1), (84, .dup2, 1), (85, .iaload, 1), (86, .iconst 1, 1), (87, .iadd, 1), (88, .iastore, 1), (89, .aload_n 0, 1), (90, .iload 5, 2), (92, .iload_n 2, 1), (93, .iload_n 3, 1), (94, .invokevirtual 188, 3), (97, .iload 6, 2), (99, .if_icmp .gt 16, 3), (102, .aload_n 0, 1), (103, .iload 5, 2), (105, .iload_n 2, 1), (106, .iload_n 3, 1), (107, .invokevirtual 191, 3), (110, .iload 7, 2), (112, .if_icmp .ge 7, 3), (115, .iconst 1, 1), (116, .goto 4, 3), (119, .iconst 0, 1), (120, .istore 8, 2), (122, .aload_n 0, 1), (123, .getfield 32, 3), (126, .iconst 5, 1), (127, .iload_n 2, 1), (128, .imul, 1), (129, .iload_n 3, 1), (130, .iadd, 1), (131, .dup2, 1), (132, .iaload, 1), (133, .iconst 1, 1), (134, .isub, 1), (135, .iastore, 1), (136, .iload 5, 2), (138, .iload_n 1, 1), (139, .if_icmp .eq 13, 3), (142, .iload 8, 2), (144, .ifCond .eq 8, 3), (147, .iload 5, 2), (149, .goto 5, 3), (152, .iload 4, 2), (154, .istore 4, 2), (156, .iinc 5 (-1), 3), (159, .goto (-109), 3), (162, .iload 4, 2), (164, .ireturn, 1)] := by decide +kernel
theorem dd_X8_posts : dd_ cX8_posts [(0, .aload_n 0, 1), (1, .iload_n 1, 1), (2, .invokevirtual 165, 3), (5, .ifCond .eq 11, 3), (8, .aload_n 0, 1), (9, .iload_n 2, 1), (10, .invokevirtual 159, 3), (13, .ifCond .ne 5, 3), (16, .iconst (-1), 1), (17, .ireturn, 1), (18, .iconst 0, 1), (19, .istore_n 3, 1), (20, .iconst 0, 1), (21, .istore 4, 2), (23, .iconst 0, 1), (24, .istore 5, 2), (26, .iload 5, 2), (28, .aload_n 0, 1), (29, .getfield 147, 3), (32, .if_icmp .ge 56, 3), (35, .iload_n 3, 1), (36, .aload_n 0, 1), (37, .iload_n 1, 1), (38, .iload_n 2, 1), (39, .iload 5, 2), (41, .invokevirtual 240, 3), (44, .iconst 2, 1), (45, .if_icmp .ne 10, 3), (48, .iconst 1, 1), (49, .iload 5, 2), (51, .ishl, 1), (52, .goto 4, 3), (55, .iconst 0, 1), (56, .ior, 1), (57, .istore_n 3, 1), (58, .iload 4, 2), (60, .aload_n 0, 1), (61, .iload_n 1, 1), (62, .iload_n 2, 1), (63, .iload 5, 2), (65, .invokevirtual 240, 3), (68, .ifCond .le 10, 3), (71, .iconst 1, 1), (72, .iload 5, 2), (74, .ishl, 1), (75, .goto 4, 3), (78, .iconst 0, 1), (79, .ior, 1), (80, .istore 4, 2), (82, .iinc 5 1, 3), (85, .goto (-59), 3), (88, .aload_n 0, 1), (89, .iload 4, 2), (91, .iload_n 3, 1), (92, .invokevirtual 98, 3), (95, .ireturn, 1)] := by decide +kernel
theorem dd_X8_layMay : dd_ cX8_layMay [(0, .iconst 0, 1), (1, .istore_n 2, 1), (2, .iload_n 2, 1), (3, .aload_n 0, 1), (4, .getfield 141, 3), (7, .if_icmp .ge 110, 3), (10, .aload_n 0, 1), (11, .getfield 50, 3), (14, .iload_n 2, 1), (15, .iconst 0, 1), (16, .iastore, 1), (17, .iconst 0, 1), (18, .istore_n 3, 1), (19, .iload_n 3, 1), (20, .aload_n 0, 1), (21, .getfield 147, 3), (24, .if_icmp .ge 87, 3), (27, .iconst 1, 1), (28, .istore 4, 2), (30, .iconst 0, 1), (31, .istore 5, 2), (33, .iload 5, 2), (35, .aload_n 0, 1), (36, .getfield 144, 3), (39, .if_icmp .ge 45, 3), (42, .iload 4, 2), (44, .ifCond .eq 31, 3), (47, .iload_n 1, 1), (48, .bipush (-9), 2), (50, .if_icmp .eq 9, 3), (53, .iload 5, 2), (55, .iload_n 1, 1), (56, .if_icmp .ne 15, 3), (59, .aload_n 0, 1), (60, .iload 5, 2), (62, .iload_n 2, 1), (63, .iload_n 3, 1), (64, .invokevirtual 240, 3), (67, .iconst 2, 1), (68, .if_icmp .ne 7, 3), (71, .iconst 1, 1), (72, .goto 4, 3), (75, .iconst 0, 1), (76, .istore 4, 2), (78, .iinc 5 1, 3), (81, .goto (-48), 3), (84, .aload_n 0, 1), (85, .getfield 50, 3), (88, .iload_n 2, 1), (89, .dup2, 1), (90, .iaload, 1), (91, .iload 4, 2), (93, .ifCond .eq 9, 3), (96, .iconst 1, 1), (97, .iload_n 3, 1), (98, .ishl, 1), (99, .goto 4, 3), (102, .iconst 0, 1), (103, .ior, 1), (104, .iastore, 1), (105, .iinc 3 1, 3), (108, .goto (-89), 3), (111, .iinc 2 1, 3), (114, .goto (-112), 3), (117, .return_, 1)] := by decide +kernel
theorem dd_X8_planOn : dd_ cX8_planOn [(0, .iload_n 1, 1), (1, .aload_n 0, 1), (2, .getfield 141, 3), (5, .if_icmp .ne 59, 3), (8, .aload_n 0, 1), (9, .dup, 1), (10, .getfield 249, 3), (13, .lconst 1, 1), (14, .ladd, 1), (15, .putfield 249, 3), (18, .iload_n 3, 1), (19, .aload_n 0, 1), (20, .getfield 252, 3), (23, .if_icmp .le 40, 3), (26, .aload_n 0, 1), (27, .iload_n 3, 1), (28, .putfield 252, 3), (31, .iconst 0, 1), (32, .istore 4, 2), (34, .iload 4, 2), (36, .aload_n 0, 1), (37, .getfield 141, 3), (40, .if_icmp .ge 23, 3), (43, .aload_n 0, 1), (44, .getfield 56, 3), (47, .iload 4, 2), (49, .aload_n 0, 1), (50, .getfield 53, 3), (53, .iload 4, 2), (55, .iaload, 1), (56, .iastore, 1), (57, .iinc 4 1, 3), (60, .goto (-26), 3), (63, .return_, 1), (64, .iconst 0, 1), (65, .istore 4, 2), (67, .iload 4, 2), (69, .aload_n 0, 1), (70, .getfield 147, 3), (73, .if_icmp .ge 61, 3), (76, .aload_n 0, 1), (77, .getfield 50, 3), (80, .iload_n 1, 1), (81, .iaload, 1), (82, .iload_n 2, 1), (83, .iand, 1), (84, .iload 4, 2), (86, .invokestatic 255, 3), (89, .ifCond .eq 39, 3), (92, .aload_n 0, 1), (93, .getfield 53, 3), (96, .iload_n 1, 1), (97, .iload 4, 2), (99, .iastore, 1), (100, .aload_n 0, 1), (101, .iload_n 1, 1), (102, .iconst 1, 1), (103, .iadd, 1), (104, .iload_n 2, 1), (105, .iconst 1, 1), (106, .iload 4, 2), (108, .ishl, 1), (109, .iconst (-1), 1), (110, .ixor, 1), (111, .iand, 1), (112, .iload_n 3, 1), (113, .aload_n 0, 1), (114, .getfield 38, 3), (117, .iconst 5, 1), (118, .iload 4, 2), (120, .imul, 1), (121, .iconst 4, 1), (122, .iadd, 1), (123, .iaload, 1), (124, .iadd, 1), (125, .invokevirtual 258, 3), (128, .iinc 4 1, 3), (131, .goto (-64), 3), (134, .aload_n 0, 1), (135, .getfield 53, 3), (138, .iload_n 1, 1), (139, .bipush (-9), 2), (141, .iastore, 1), (142, .aload_n 0, 1), (143, .iload_n 1, 1), (144, .iconst 1, 1), (145, .iadd, 1), (146, .iload_n 2, 1), (147, .iload_n 3, 1), (148, .invokevirtual 258, 3), (151, .return_, 1)] := by decide +kernel
theorem dd_X8_goPlans : dd_ cX8_goPlans [(0, .aload_n 0, 1), (1, .iload_n 1, 1), (2, .invokevirtual 261, 3), (5, .aload_n 0, 1), (6, .iconst (-1), 1), (7, .putfield 252, 3), (10, .aload_n 0, 1), (11, .lconst 0, 1), (12, .putfield 249, 3), (15, .aload_n 0, 1), (16, .iconst 0, 1), (17, .iconst 1, 1), (18, .aload_n 0, 1), (19, .getfield 147, 3), (22, .ishl, 1), (23, .iconst 1, 1), (24, .isub, 1), (25, .iconst 0, 1), (26, .invokevirtual 258, 3), (29, .return_, 1)] := by decide +kernel
theorem dd_X8_layPlan : dd_ cX8_layPlan [(0, .aload_n 0, 1), (1, .iload_n 1, 1), (2, .aload_n 0, 1), (3, .getfield 141, 3), (6, .invokevirtual 246, 3), (9, .pop, 1), (10, .iconst 0, 1), (11, .istore_n 2, 1), (12, .iload_n 2, 1), (13, .aload_n 0, 1), (14, .getfield 141, 3), (17, .if_icmp .ge 21, 3), (20, .aload_n 0, 1), (21, .iload_n 1, 1), (22, .iload_n 2, 1), (23, .aload_n 0, 1), (24, .getfield 56, 3), (27, .iload_n 2, 1), (28, .iaload, 1), (29, .invokevirtual 87, 3), (32, .iinc 2 1, 3), (35, .goto (-23), 3), (38, .aload_n 0, 1), (39, .getfield 252, 3), (42, .ireturn, 1)] := by decide +kernel
theorem dd_X8_plan : dd_ cX8_plan [(0, .aload_n 0, 1), (1, .iload_n 1, 1), (2, .invokevirtual 165, 3), (5, .ifCond .eq 10, 3), (8, .iload_n 2, 1), (9, .invokestatic 76, 3), (12, .ifCond .ne 5, 3), (15, .iconst (-1), 1), (16, .ireturn, 1), (17, .aload_n 0, 1), (18, .iload_n 1, 1), (19, .invokevirtual 265, 3), (22, .aload_n 0, 1), (23, .iload_n 2, 1), (24, .invokevirtual 268, 3), (27, .ireturn, 1)] := by decide +kernel
theorem dd_X8_plans : dd_ cX8_plans [(0, .aload_n 0, 1), (1, .iload_n 1, 1), (2, .invokevirtual 165, 3), (5, .ifCond .ne 5, 3), (8, .iconst (-1), 1), (9, .ireturn, 1), (10, .aload_n 0, 1), (11, .iload_n 1, 1), (12, .invokevirtual 265, 3), (15, .aload_n 0, 1), (16, .aload_n 0, 1), (17, .getfield 249, 3), (20, .lconst 1, 1), (21, .invokevirtual 230, 3), (24, .ireturn, 1)] := by decide +kernel
theorem dd_X8_safest : dd_ cX8_safest [(0, .iload_n 1, 1), (1, .invokestatic 76, 3), (4, .ifCond .ne 5, 3), (7, .iconst (-1), 1), (8, .ireturn, 1), (9, .aload_n 0, 1), (10, .getfield 141, 3), (13, .ifCond .ne 6, 3), (16, .bipush (-4), 2), (18, .ireturn, 1), (19, .aload_n 0, 1), (20, .bipush (-9), 2), (22, .invokevirtual 265, 3), (25, .aload_n 0, 1), (26, .iload_n 1, 1), (27, .invokevirtual 268, 3), (30, .ireturn, 1)] := by decide +kernel
theorem dd_X8_gain : dd_ cX8_gain [(0, .aload_n 0, 1), (1, .iload_n 1, 1), (2, .invokevirtual 165, 3), (5, .ifCond .eq 11, 3), (8, .aload_n 0, 1), (9, .iload_n 2, 1), (10, .invokevirtual 159, 3), (13, .ifCond .ne 5, 3), (16, .iconst (-1), 1), (17, .ireturn, 1), (18, .aload_n 0, 1), (19, .iload_n 1, 1), (20, .invokevirtual 265, 3), (23, .aload_n 0, 1), (24, .getfield 252, 3), (27, .istore_n 3, 1), (28, .bipush (-9), 2), (30, .istore 4, 2), (32, .iconst 0, 1), (33, .istore 5, 2), (35, .iconst 0, 1), (36, .istore 6, 2), (38, .iload 6, 2), (40, .iconst 4, 1), (41, .if_icmp .ge 88, 3), (44, .aload_n 0, 1), (45, .iload_n 2, 1), (46, .iload 6, 2), (48, .invokevirtual 153, 3), (51, .iconst 5, 1), (52, .if_icmp .ge 71, 3), (55, .aload_n 0, 1), (56, .getfield 32, 3), (59, .iconst 5, 1), (60, .iload_n 2, 1), (61, .imul, 1), (62, .iload 6, 2), (64, .iadd, 1), (65, .dup2, 1), (66, .iaload, 1), (67, .iconst 1, 1), (68, .iadd, 1), (69, .iastore, 1), (70, .aload_n 0, 1), (71, .iload_n 1, 1), (72, .invokevirtual 265, 3), (75, .aload_n 0, 1), (76, .getfield 32, 3), (79, .iconst 5, 1), (80, .iload_n 2, 1), (81, .imul, 1), (82, .iload 6, 2), (84, .iadd, 1), (85, .dup2, 1), (86, .iaload, 1), (87, .iconst 1, 1), (88, .isub, 1), (89, .iastore, 1), (90, .aload_n 0, 1), (91, .getfield 252, 3), (94, .iload_n 3, 1), (95, .isub, 1), (96, .iload 5, 2), (98, .if_icmp .le 8, 3), (101, .iload 6, 2), (103, .goto 5, 3), (106, .iload 4, 2), (108, .istore 4, 2), (110, .iload 5, 2), (112, .aload_n 0, 1), (113, .getfield 252, 3), (116, .iload_n 3, 1), (117, .isub, 1), (118, .invokestatic 171, 3), (121, .istore 5, 2), (123, .iinc 6 1, 3), (126, .goto (-88), 3), (129, .iload 4, 2), (131, .bipush (-9), 2), (133, .if_icmp .ne 8, 3), (136, .bipush (-9), 2), (138, .goto 11, 3), (141, .aload_n 0, 1), (142, .iload 4, 2), (144, .iload 5, 2), (146, .invokevirtual 98, 3), (149, .ireturn, 1)] := by decide +kernel
theorem dd_X8_doesLearn : dd_ cX8_doesLearn [(0, .iconst 1, 1), (1, .istore 5, 2), (3, .iconst 0, 1), (4, .istore 6, 2), (6, .iload 6, 2), (8, .aload_n 0, 1), (9, .getfield 17, 3), (12, .iload_n 1, 1), (13, .iaload, 1), (14, .if_icmp .ge 83, 3), (17, .aload_n 0, 1), (18, .iload_n 1, 1), (19, .iload 6, 2), (21, .iconst 1, 1), (22, .iadd, 1), (23, .invokevirtual 94, 3), (26, .istore 7, 2), (28, .iload_n 2, 1), (29, .iload_n 3, 1), (30, .aload_n 0, 1), (31, .aload_n 0, 1), (32, .iload_n 1, 1), (33, .iload 6, 2), (35, .invokevirtual 94, 3), (38, .iload 7, 2), (40, .invokevirtual 177, 3), (43, .iload 7, 2), (45, .invokestatic 180, 3), (48, .istore 8, 2), (50, .iload 5, 2), (52, .ifCond .eq 36, 3), (55, .aload_n 0, 1), (56, .iload_n 1, 1), (57, .iload 6, 2), (59, .iconst 2, 1), (60, .iadd, 1), (61, .invokevirtual 94, 3), (64, .iconst 0, 1), (65, .iload 8, 2), (67, .iload 4, 2), (69, .isub, 1), (70, .invokestatic 171, 3), (73, .iload 8, 2), (75, .iload 4, 2), (77, .iadd, 1), (78, .invokestatic 72, 3), (81, .ifCond .eq 7, 3), (84, .iconst 1, 1), (85, .goto 4, 3), (88, .iconst 0, 1), (89, .istore 5, 2), (91, .iinc 6 3, 3), (94, .goto (-88), 3), (97, .iload 5, 2), (99, .ireturn, 1)] := by decide +kernel
theorem dd_X8_learn : dd_ cX8_learn [(0, .iload_n 1, 1), (1, .invokestatic 76, 3), (4, .ifCond .eq 12, 3), (7, .iload_n 2, 1), (8, .iconst 0, 1), (9, .iconst 2, 1), (10, .invokestatic 72, 3), (13, .ifCond .ne 5, 3), (16, .iconst (-1), 1), (17, .ireturn, 1), (18, .aload_n 0, 1), (19, .iload_n 1, 1), (20, .invokevirtual 91, 3), (23, .istore_n 3, 1), (24, .iload_n 3, 1), (25, .ifCond .ge 5, 3), (28, .iload_n 3, 1), (29, .ireturn, 1), (30, .aload_n 0, 1), (31, .getfield 17, 3), (34, .iload_n 1, 1), (35, .iaload, 1), (36, .iconst 3, 1), (37, .irem, 1), (38, .ifCond .eq 9, 3), (41, .aload_n 0, 1), (42, .iconst 5, 1), (43, .invokevirtual 80, 3), (46, .ireturn, 1), (47, .iconst 0, 1), (48, .istore 4, 2), (50, .iload 4, 2), (52, .aload_n 0, 1), (53, .getfield 17, 3), (56, .iload_n 1, 1), (57, .iaload, 1), (58, .if_icmp .ge 62, 3), (61, .aload_n 0, 1), (62, .aload_n 0, 1), (63, .iload_n 1, 1), (64, .iload 4, 2), (66, .invokevirtual 94, 3), (69, .invokevirtual 159, 3), (72, .ifCond .eq 36, 3), (75, .aload_n 0, 1), (76, .iload_n 1, 1), (77, .iload 4, 2), (79, .iconst 1, 1), (80, .iadd, 1), (81, .invokevirtual 94, 3), (84, .invokestatic 205, 3), (87, .ifCond .eq 21, 3), (90, .aload_n 0, 1), (91, .iload_n 1, 1), (92, .iload 4, 2), (94, .iconst 2, 1), (95, .iadd, 1), (96, .invokevirtual 94, 3), (99, .iconst 0, 1), (100, .bipush 9, 2), (102, .invokestatic 72, 3), (105, .ifCond .ne 9, 3), (108, .aload_n 0, 1), (109, .iconst 3, 1), (110, .invokevirtual 80, 3), (113, .ireturn, 1), (114, .iinc 4 3, 3), (117, .goto (-67), 3), (120, .iconst 0, 1), (121, .istore 4, 2), (123, .iconst 0, 1), (124, .istore 5, 2), (126, .iconst 0, 1), (127, .istore 6, 2), (129, .iload 6, 2), (131, .bipush 24, 2), (133, .if_icmp .ge 65, 3), (136, .aload_n 0, 1), (137, .iload_n 1, 1), (138, .iload 6, 2), (140, .iconst 4, 1), (141, .idiv, 1), (142, .iload 6, 2), (144, .iconst 4, 1), (145, .irem, 1), (146, .iload_n 2, 1), (147, .invokevirtual 271, 3), (150, .istore 7, 2), (152, .iload 4, 2), (154, .iload 7, 2), (156, .ifCond .eq 12, 3), (159, .iconst 1, 1), (160, .iload 6, 2), (162, .iconst 4, 1), (163, .idiv, 1), (164, .ishl, 1), (165, .goto 4, 3), (168, .iconst 0, 1), (169, .ior, 1), (170, .istore 4, 2), (172, .iload 5, 2), (174, .iload 7, 2), (176, .ifCond .eq 12, 3), (179, .iconst 1, 1), (180, .iload 6, 2), (182, .iconst 4, 1), (183, .irem, 1), (184, .ishl, 1), (185, .goto 4, 3), (188, .iconst 0, 1), (189, .ior, 1), (190, .istore 5, 2), (192, .iinc 6 1, 3), (195, .goto (-66), 3), (198, .aload_n 0, 1), (199, .iload 5, 2), (201, .iload 4, 2), (203, .invokevirtual 98, 3), (206, .ireturn, 1)] := by decide +kernel
theorem dd_X8_tells : dd_ cX8_tells [(0, .aload_n 0, 1), (1, .iload_n 1, 1), (2, .invokevirtual 91, 3), (5, .istore_n 2, 1), (6, .iload_n 2, 1), (7, .ifCond .ge 5, 3), (10, .iload_n 2, 1), (11, .ireturn, 1), (12, .aload_n 0, 1), (13, .getfield 17, 3), (16, .iload_n 1, 1), (17, .iaload, 1), (18, .aload_n 0, 1), (19, .getfield 141, 3), (22, .if_icmp .eq 9, 3), (25, .aload_n 0, 1), (26, .iconst 5, 1), (27, .invokevirtual 80, 3), (30, .ireturn, 1), (31, .iconst 0, 1), (32, .istore_n 3, 1), (33, .iload_n 3, 1), (34, .aload_n 0, 1), (35, .getfield 141, 3), (38, .if_icmp .ge 29, 3), (41, .aload_n 0, 1), (42, .iload_n 1, 1), (43, .iload_n 3, 1), (44, .invokevirtual 94, 3), (47, .iconst 0, 1), (48, .iconst 1, 1), (49, .invokestatic 72, 3), (52, .ifCond .ne 9, 3), (55, .aload_n 0, 1), (56, .iconst 3, 1), (57, .invokevirtual 80, 3), (60, .ireturn, 1), (61, .iinc 3 1, 3), (64, .goto (-31), 3), (67, .bipush 15, 2), (69, .istore_n 3, 1), (70, .iconst 0, 1), (71, .istore 4, 2), (73, .iconst 0, 1), (74, .istore 5, 2), (76, .iload 5, 2), (78, .aload_n 0, 1), (79, .getfield 141, 3), (82, .if_icmp .ge 137, 3), (85, .iconst 0, 1), (86, .istore 6, 2), (88, .iload 6, 2), (90, .aload_n 0, 1), (91, .getfield 141, 3), (94, .if_icmp .ge 119, 3), (97, .aload_n 0, 1), (98, .iload_n 1, 1), (99, .iload 5, 2), (101, .invokevirtual 94, 3), (104, .iconst 1, 1), (105, .if_icmp .ne 17, 3), (108, .aload_n 0, 1), (109, .iload_n 1, 1), (110, .iload 6, 2), (112, .invokevirtual 94, 3), (115, .ifCond .ne 7, 3), (118, .iconst 1, 1), (119, .goto 4, 3), (122, .iconst 0, 1), (123, .istore 7, 2), (125, .iload 4, 2), (127, .iload 7, 2), (129, .ifCond .eq 22, 3), (132, .aload_n 0, 1), (133, .iload 5, 2), (135, .invokevirtual 156, 3), (138, .aload_n 0, 1), (139, .iload 6, 2), (141, .invokevirtual 156, 3), (144, .if_icmp .le 7, 3), (147, .iconst 1, 1), (148, .goto 4, 3), (151, .iconst 0, 1), (152, .iadd, 1), (153, .istore 4, 2), (155, .iconst 0, 1), (156, .istore 8, 2), (158, .iload 8, 2), (160, .iconst 4, 1), (161, .if_icmp .ge 46, 3), (164, .iload_n 3, 1), (165, .iload 7, 2), (167, .ifCond .eq 31, 3), (170, .aload_n 0, 1), (171, .iload 5, 2), (173, .iload 8, 2), (175, .invokevirtual 153, 3), (178, .aload_n 0, 1), (179, .iload 6, 2), (181, .iload 8, 2), (183, .invokevirtual 153, 3), (186, .if_icmp .gt 12, 3), (189, .iconst 1, 1), (190, .iload 8, 2), (192, .ishl, 1), (193, .iconst (-1), 1), (194, .ixor, 1), (195, .goto 4, 3), (198, .iconst (-1), 1), (199, .iand, 1), (200, .istore_n 3, 1), (201, .iinc 8 1, 3), (204, .goto (-46), 3), (207, .iinc 6 1, 3), (210, .goto (-122), 3), (213, .iinc 5 1, 3), (216, .goto (-140), 3), (219, .aload_n 0, 1), (220, .iload 4, 2), (222, .iload_n 3, 1), (223, .invokevirtual 98, 3), (226, .ireturn, 1)] := by decide +kernel
theorem dd_X8_isAlone : dd_ cX8_isAlone [(0, .iconst 1, 1), (1, .istore_n 3, 1), (2, .iconst 0, 1), (3, .istore 4, 2), (5, .iload 4, 2), (7, .aload_n 0, 1), (8, .getfield 141, 3), (11, .if_icmp .ge 96, 3), (14, .iconst 1, 1), (15, .istore 5, 2), (17, .iconst 0, 1), (18, .istore 6, 2), (20, .iload 6, 2), (22, .iconst 4, 1), (23, .if_icmp .ge 52, 3), (26, .iload 5, 2), (28, .ifCond .eq 38, 3), (31, .aload_n 0, 1), (32, .getfield 59, 3), (35, .iload 6, 2), (37, .iaload, 1), (38, .aload_n 0, 1), (39, .iload_n 1, 1), (40, .iload 4, 2), (42, .iload 6, 2), (44, .invokevirtual 188, 3), (47, .aload_n 0, 1), (48, .iload_n 1, 1), (49, .iload 4, 2), (51, .iload 6, 2), (53, .invokevirtual 191, 3), (56, .invokestatic 72, 3), (59, .ifCond .eq 7, 3), (62, .iconst 1, 1), (63, .goto 4, 3), (66, .iconst 0, 1), (67, .istore 5, 2), (69, .iinc 6 1, 3), (72, .goto (-52), 3), (75, .iload_n 3, 1), (76, .ifCond .eq 23, 3), (79, .iload 5, 2), (81, .iload 4, 2), (83, .iload_n 2, 1), (84, .if_icmp .ne 7, 3), (87, .iconst 1, 1), (88, .goto 4, 3), (91, .iconst 0, 1), (92, .if_icmp .ne 7, 3), (95, .iconst 1, 1), (96, .goto 4, 3), (99, .iconst 0, 1), (100, .istore_n 3, 1), (101, .iinc 4 1, 3), (104, .goto (-99), 3), (107, .iload_n 3, 1), (108, .ireturn, 1)] := by decide +kernel
theorem dd_X8_lots : dd_ cX8_lots [(0, .aload_n 0, 1), (1, .iload_n 1, 1), (2, .invokevirtual 165, 3), (5, .ifCond .eq 23, 3), (8, .iload_n 2, 1), (9, .iconst 1, 1), (10, .iconst 5, 1), (11, .invokestatic 72, 3), (14, .ifCond .eq 14, 3), (17, .iload_n 3, 1), (18, .iconst 1, 1), (19, .ldc_w 274, 3), (22, .invokestatic 72, 3), (25, .ifCond .ne 5, 3), (28, .iconst (-1), 1), (29, .ireturn, 1), (30, .iload_n 3, 1), (31, .i2l, 1), (32, .lstore 4, 2), (34, .iconst 0, 1), (35, .istore 6, 2), (37, .iconst 0, 1), (38, .istore 7, 2), (40, .iload 7, 2), (42, .iload_n 2, 1), (43, .if_icmp .ge 110, 3), (46, .ldc2_w 275, 3), (49, .lload 4, 2), (51, .lmul, 1), (52, .ldc2_w 277, 3), (55, .lrem, 1), (56, .lstore 4, 2), (58, .lload 4, 2), (60, .aload_n 0, 1), (61, .getfield 141, 3), (64, .i2l, 1), (65, .lrem, 1), (66, .l2i, 1), (67, .istore 8, 2), (69, .iconst 0, 1), (70, .istore 9, 2), (72, .iload 9, 2), (74, .iconst 4, 1), (75, .if_icmp .ge 52, 3), (78, .ldc2_w 275, 3), (81, .lload 4, 2), (83, .lmul, 1), (84, .ldc2_w 277, 3), (87, .lrem, 1), (88, .lstore 4, 2), (90, .aload_n 0, 1), (91, .getfield 59, 3), (94, .iload 9, 2), (96, .aload_n 0, 1), (97, .iload_n 1, 1), (98, .iload 8, 2), (100, .iload 9, 2), (102, .invokevirtual 188, 3), (105, .lload 4, 2), (107, .aload_n 0, 1), (108, .iload_n 1, 1), (109, .iload 8, 2), (111, .iload 9, 2), (113, .invokevirtual 223, 3), (116, .i2l, 1), (117, .lrem, 1), (118, .l2i, 1), (119, .iadd, 1), (120, .iastore, 1), (121, .iinc 9 1, 3), (124, .goto (-52), 3), (127, .iload 6, 2), (129, .aload_n 0, 1), (130, .iload_n 1, 1), (131, .iload 8, 2), (133, .invokevirtual 279, 3), (136, .ifCond .eq 7, 3), (139, .iconst 1, 1), (140, .goto 4, 3), (143, .iconst 0, 1), (144, .iadd, 1), (145, .istore 6, 2), (147, .iinc 7 1, 3), (150, .goto (-110), 3), (153, .iload 6, 2), (155, .ireturn, 1)] := by decide +kernel
theorem dd_X8_asked : dd_ cX8_asked [(0, .aload_n 0, 1), (1, .getfield 66, 3), (4, .ireturn, 1)] := by decide +kernel
theorem dd_X8_upper : dd_ cX8_upper [(0, .aload_n 0, 1), (1, .getfield 69, 3), (4, .lreturn, 1)] := by decide +kernel
theorem dd_X8_lower : dd_ cX8_lower [(0, .aload_n 0, 1), (1, .getfield 13, 3), (4, .lreturn, 1)] := by decide +kernel
theorem dd_X8_tellsOf : dd_ cX8_tellsOf [(0, .iconst 0, 1), (1, .istore_n 2, 1), (2, .iconst 0, 1), (3, .istore_n 3, 1), (4, .iconst 0, 1), (5, .istore 4, 2), (7, .iload 4, 2), (9, .bipush 6, 2), (11, .if_icmp .ge 129, 3), (14, .iload_n 3, 1), (15, .iload 4, 2), (17, .aload_n 0, 1), (18, .getfield 141, 3), (21, .if_icmp .ge 12, 3), (24, .aload_n 0, 1), (25, .iload 4, 2), (27, .invokevirtual 156, 3), (30, .goto 4, 3), (33, .iconst 0, 1), (34, .iadd, 1), (35, .istore_n 3, 1), (36, .iload_n 2, 1), (37, .iload_n 1, 1), (38, .iconst 5, 1), (39, .if_icmp .ne 22, 3), (42, .iload 4, 2), (44, .aload_n 0, 1), (45, .getfield 144, 3), (48, .if_icmp .ge 13, 3), (51, .aload_n 0, 1), (52, .iload 4, 2), (54, .iconst 3, 1), (55, .invokevirtual 194, 3), (58, .ifCond .ne 69, 3), (61, .iload_n 1, 1), (62, .bipush 6, 2), (64, .if_icmp .ne 13, 3), (67, .aload_n 0, 1), (68, .getfield 17, 3), (71, .iload 4, 2), (73, .iaload, 1), (74, .ifCond .ge 53, 3), (77, .iload_n 1, 1), (78, .bipush 7, 2), (80, .if_icmp .ne 19, 3), (83, .iload 4, 2), (85, .iconst 4, 1), (86, .if_icmp .ge 13, 3), (89, .aload_n 0, 1), (90, .getfield 26, 3), (93, .iload 4, 2), (95, .iaload, 1), (96, .ifCond .ge 31, 3), (99, .iload_n 1, 1), (100, .bipush 8, 2), (102, .if_icmp .ne 29, 3), (105, .iload 4, 2), (107, .iconst 3, 1), (108, .if_icmp .ge 23, 3), (111, .aload_n 0, 1), (112, .getfield 47, 3), (115, .sipush 1030, 3), (118, .iload 4, 2), (120, .imul, 1), (121, .iaload, 1), (122, .bipush (-9), 2), (124, .if_icmp .eq 7, 3), (127, .iconst 1, 1), (128, .goto 4, 3), (131, .iconst 0, 1), (132, .iadd, 1), (133, .istore_n 2, 1), (134, .iinc 4 1, 3), (137, .goto (-130), 3), (140, .iload_n 1, 1), (141, .tableswitch 57 0 4 #[35, 40, 45, 50, 55], 35), (176, .aload_n 0, 1), (177, .getfield 141, 3), (180, .ireturn, 1), (181, .aload_n 0, 1), (182, .getfield 144, 3), (185, .ireturn, 1), (186, .aload_n 0, 1), (187, .getfield 147, 3), (190, .ireturn, 1), (191, .aload_n 0, 1), (192, .getfield 150, 3), (195, .ireturn, 1), (196, .iload_n 3, 1), (197, .ireturn, 1), (198, .iload_n 2, 1), (199, .ireturn, 1)] := by decide +kernel
theorem dd_X8_count : dd_ cX8_count [(0, .iload_n 1, 1), (1, .iconst 0, 1), (2, .bipush 8, 2), (4, .invokestatic 72, 3), (7, .ifCond .eq 11, 3), (10, .aload_n 0, 1), (11, .iload_n 1, 1), (12, .invokevirtual 282, 3), (15, .goto 4, 3), (18, .iconst (-1), 1), (19, .ireturn, 1)] := by decide +kernel
theorem dd_X8_finding : dd_ cX8_finding [(0, .aload_n 0, 1), (1, .getfield 62, 3), (4, .ireturn, 1)] := by decide +kernel
theorem dd_X8_findings : dd_ cX8_findings [(0, .iload_n 1, 1), (1, .iconst 1, 1), (2, .iconst 5, 1), (3, .invokestatic 72, 3), (6, .ifCond .eq 12, 3), (9, .aload_n 0, 1), (10, .getfield 7, 3), (13, .iload_n 1, 1), (14, .iaload, 1), (15, .goto 4, 3), (18, .iconst (-1), 1), (19, .ireturn, 1)] := by decide +kernel
theorem dd_X8_mix : dd_ cX8_mix [(0, .aload_n 0, 1), (1, .ldc2_w 285, 3), (4, .aload_n 0, 1), (5, .getfield 287, 3), (8, .lmul, 1), (9, .iload_n 1, 1), (10, .i2l, 1), (11, .ladd, 1), (12, .putfield 287, 3), (15, .return_, 1)] := by decide +kernel
theorem dd_X8_mixOffice : dd_ cX8_mixOffice [(0, .iconst 0, 1), (1, .istore_n 1, 1), (2, .iload_n 1, 1), (3, .aload_n 0, 1), (4, .getfield 141, 3), (7, .if_icmp .ge 32, 3), (10, .iconst 0, 1), (11, .istore_n 2, 1), (12, .iload_n 2, 1), (13, .iconst 5, 1), (14, .if_icmp .gt 19, 3), (17, .aload_n 0, 1), (18, .aload_n 0, 1), (19, .iload_n 1, 1), (20, .iload_n 2, 1), (21, .invokevirtual 162, 3), (24, .invokevirtual 290, 3), (27, .iinc 2 1, 3), (30, .goto (-18), 3), (33, .iinc 1 1, 3), (36, .goto (-34), 3), (39, .iconst 0, 1), (40, .istore_n 1, 1), (41, .iload_n 1, 1), (42, .iconst 3, 1), (43, .aload_n 0, 1), (44, .getfield 144, 3), (47, .imul, 1), (48, .if_icmp .ge 19, 3), (51, .aload_n 0, 1), (52, .aload_n 0, 1), (53, .getfield 35, 3), (56, .iload_n 1, 1), (57, .iaload, 1), (58, .invokevirtual 290, 3), (61, .iinc 1 1, 3), (64, .goto (-23), 3), (67, .iconst 0, 1), (68, .istore_n 1, 1), (69, .iload_n 1, 1), (70, .iconst 5, 1), (71, .aload_n 0, 1), (72, .getfield 147, 3), (75, .imul, 1), (76, .if_icmp .ge 19, 3), (79, .aload_n 0, 1), (80, .aload_n 0, 1), (81, .getfield 38, 3), (84, .iload_n 1, 1), (85, .iaload, 1), (86, .invokevirtual 290, 3), (89, .iinc 1 1, 3), (92, .goto (-23), 3), (95, .iconst 0, 1), (96, .istore_n 1, 1), (97, .iload_n 1, 1), (98, .iconst 3, 1), (99, .if_icmp .ge 42, 3), (102, .aload_n 0, 1), (103, .aload_n 0, 1), (104, .getfield 47, 3), (107, .sipush 1030, 3), (110, .iload_n 1, 1), (111, .imul, 1), (112, .iaload, 1), (113, .bipush (-9), 2), (115, .if_icmp .ne 7, 3), (118, .iconst (-1), 1), (119, .goto 13, 3), (122, .aload_n 0, 1), (123, .getfield 47, 3), (126, .sipush 1030, 3), (129, .iload_n 1, 1), (130, .imul, 1), (131, .iaload, 1), (132, .invokevirtual 290, 3), (135, .iinc 1 1, 3), (138, .goto (-41), 3), (141, .return_, 1)] := by decide +kernel
theorem dd_X8_digest : dd_ cX8_digest [(0, .aload_n 0, 1), (1, .ldc2_w 293, 3), (4, .putfield 287, 3), (7, .iconst 0, 1), (8, .istore_n 1, 1), (9, .iload_n 1, 1), (10, .bipush 8, 2), (12, .if_icmp .gt 18, 3), (15, .aload_n 0, 1), (16, .aload_n 0, 1), (17, .iload_n 1, 1), (18, .invokevirtual 282, 3), (21, .invokevirtual 290, 3), (24, .iinc 1 1, 3), (27, .goto (-18), 3), (30, .aload_n 0, 1), (31, .invokevirtual 295, 3), (34, .iconst 0, 1), (35, .istore_n 1, 1), (36, .iload_n 1, 1), (37, .bipush 6, 2), (39, .if_icmp .ge 60, 3), (42, .aload_n 0, 1), (43, .aload_n 0, 1), (44, .getfield 17, 3), (47, .iload_n 1, 1), (48, .iaload, 1), (49, .ifCond .ge 7, 3), (52, .iconst (-1), 1), (53, .goto 9, 3), (56, .aload_n 0, 1), (57, .getfield 17, 3), (60, .iload_n 1, 1), (61, .iaload, 1), (62, .invokevirtual 290, 3), (65, .iconst 0, 1), (66, .istore_n 2, 1), (67, .iload_n 2, 1), (68, .aload_n 0, 1), (69, .getfield 17, 3), (72, .iload_n 1, 1), (73, .iaload, 1), (74, .if_icmp .ge 19, 3), (77, .aload_n 0, 1), (78, .aload_n 0, 1), (79, .iload_n 1, 1), (80, .iload_n 2, 1), (81, .invokevirtual 94, 3), (84, .invokevirtual 290, 3), (87, .iinc 2 1, 3), (90, .goto (-23), 3), (93, .iinc 1 1, 3), (96, .goto (-60), 3), (99, .iconst 0, 1), (100, .istore_n 1, 1), (101, .iload_n 1, 1), (102, .iconst 4, 1), (103, .if_icmp .ge 65, 3), (106, .aload_n 0, 1), (107, .aload_n 0, 1), (108, .getfield 26, 3), (111, .iload_n 1, 1), (112, .iaload, 1), (113, .ifCond .ge 7, 3), (116, .iconst (-1), 1), (117, .goto 9, 3), (120, .aload_n 0, 1), (121, .getfield 26, 3), (124, .iload_n 1, 1), (125, .iaload, 1), (126, .invokevirtual 290, 3), (129, .iconst 0, 1), (130, .istore_n 2, 1), (131, .iload_n 2, 1), (132, .aload_n 0, 1), (133, .getfield 26, 3), (136, .iload_n 1, 1), (137, .iaload, 1), (138, .if_icmp .ge 24, 3), (141, .aload_n 0, 1), (142, .aload_n 0, 1), (143, .getfield 29, 3), (146, .bipush 80, 2), (148, .iload_n 1, 1), (149, .imul, 1), (150, .iload_n 2, 1), (151, .iadd, 1), (152, .iaload, 1), (153, .invokevirtual 290, 3), (156, .iinc 2 1, 3), (159, .goto (-28), 3), (162, .iinc 1 1, 3), (165, .goto (-64), 3), (168, .aload_n 0, 1), (169, .getfield 287, 3), (172, .lreturn, 1)] := by decide +kernel
end
section
def ff_X5r_allows (a1 : Int32) (h : hh_) : Int32 :=
  if a1 < 0 then
    (0 : Int32)
  else
    if (6 : Int32) ≤ a1 then
      (0 : Int32)
    else
      (1 : Int32)
def ff_X5r_renew_10 (x1 : Int32) (x2 : Int32) (x3 : Int32) : Nat → Int32 → hh_ → Option (hh_)
  | 0, _, _ => none
  | n9 + 1, x4, h =>
    if x2 ≤ x4 then
      some (h)
    else
      gd_ (bi_ x1 6) <|
      gd_ (bi_ x4 40) <|
      ff_X5r_renew_10 x1 x2 x3 n9 (x4 + (1 : Int32)) (hh_sI h (4 + Int32.toNatClampNeg x1) (Int32.toNatClampNeg x4) x3)
def ff_X5r_renew (a1 : Int32) (a2 : Int32) (a3 : Int32) (h : hh_) : Option (hh_) :=
  gd_ (bi_ a1 6) <|
  ff_X5r_renew_10 a1 a2 a3 FU_ (0 : Int32) (hh_sI h 10 (Int32.toNatClampNeg a1) a2)
def ff_X6_refuse (a1 : Int32) (h : hh_) : Option (Int32 × hh_) :=
  gd_ (bi_ a1 6) <|
  some ((-3 : Int32), (hh_sI (hh_sI h 36 1 a1) 37 (Int32.toNatClampNeg a1) (((hh_sI h 36 1 a1).1 37 (Int32.toNatClampNeg a1)) + (1 : Int32))))
def ff_X7_row (a1 : Int32) (a2 : Int32) (h : hh_) : Option (Int32 × hh_) :=
  if (ff_X5r_allows a1 h) = 0 then
    some ((-1 : Int32), h)
  else
    if a2 ≤ (40 : Int32) then
      if 0 ≤ a2 then
        (ff_X5r_renew a1 a2 (0 : Int32) h).bind fun v1 =>
        some (a2, v1)
      else
        (ff_X6_refuse (5 : Int32) h).bind fun v3 =>
        some (v3.1, v3.2)
    else
      some ((-1 : Int32), h)
def ff_X5r_lacks (a1 : Int32) (h : hh_) : Option (Int32) :=
  gd_ (bi_ a1 6) <|
  if (h.1 10 (Int32.toNatClampNeg a1)) = (-1 : Int32) then
    some (1 : Int32)
  else
    some (0 : Int32)
def ff_X5r_findingAt (a1 : Int32) (a2 : Int32) (h : hh_) : Option (Int32) :=
  (ff_X5r_lacks a1 h).bind fun v1 =>
  if v1 = 0 then
    if a2 < 0 then
      some (2 : Int32)
    else
      gd_ (bi_ a1 6) <|
      if a2 < (h.1 10 (Int32.toNatClampNeg a1)) then
        some (0 : Int32)
      else
        some (2 : Int32)
  else
    some (1 : Int32)
def ff_X6_tell (a1 : Int32) (h : hh_) : Int32 × hh_ :=
  ((1 : Int32), (hh_sI h 36 2 a1))
def ff_X7_lay (a1 : Int32) (a2 : Int32) (a3 : Int32) (h : hh_) : Option (Int32 × hh_) :=
  if (ff_X5r_allows a1 h) = 0 then
    some ((-1 : Int32), h)
  else
    (ff_X5r_findingAt a1 a2 h).bind fun v1 =>
    if v1 = 0 then
      gd_ (bi_ a1 6) <|
      gd_ (bi_ a2 40) <|
      some ((ff_X6_tell (h.1 (4 + Int32.toNatClampNeg a1) (Int32.toNatClampNeg a2)) (hh_sI h (4 + Int32.toNatClampNeg a1) (Int32.toNatClampNeg a2) a3)).1, (ff_X6_tell (h.1 (4 + Int32.toNatClampNeg a1) (Int32.toNatClampNeg a2)) (hh_sI h (4 + Int32.toNatClampNeg a1) (Int32.toNatClampNeg a2) a3)).2)
    else
      (ff_X6_refuse v1 h).bind fun v5 =>
      some (v5.1, v5.2)
def ff_X7_at (a1 : Int32) (a2 : Int32) (h : hh_) : Option (Int32 × hh_) :=
  if (ff_X5r_allows a1 h) = 0 then
    some ((-1 : Int32), h)
  else
    (ff_X5r_findingAt a1 a2 h).bind fun v1 =>
    if v1 = 0 then
      gd_ (bi_ a1 6) <|
      gd_ (bi_ a2 40) <|
      some ((ff_X6_tell (h.1 (4 + Int32.toNatClampNeg a1) (Int32.toNatClampNeg a2)) h).1, (ff_X6_tell (h.1 (4 + Int32.toNatClampNeg a1) (Int32.toNatClampNeg a2)) h).2)
    else
      (ff_X6_refuse v1 h).bind fun v5 =>
      some (v5.1, v5.2)
def ff_X7_tear (a1 : Int32) (h : hh_) : Option (Int32 × hh_) :=
  if (ff_X5r_allows a1 h) = 0 then
    some ((-1 : Int32), h)
  else
    (ff_X5r_lacks a1 h).bind fun v1 =>
    if v1 = 0 then
      gd_ (bi_ a1 6) <|
      some ((1 : Int32), (hh_sI h 10 (Int32.toNatClampNeg a1) (-1 : Int32)))
    else
      (ff_X6_refuse (1 : Int32) h).bind fun v4 =>
      some (v4.1, v4.2)
def ff_X5r_spans (a1 : Int32) (a2 : Int32) (a3 : Int32) (h : hh_) : Option (Int32) :=
  if a2 < 0 then
    some (0 : Int32)
  else
    gd_ (bi_ a1 6) <|
    if (h.1 10 (Int32.toNatClampNeg a1)) < a3 then
      some (0 : Int32)
    else
      if ((h.1 10 (Int32.toNatClampNeg a1)) - a3) < a2 then
        some (0 : Int32)
      else
        some (1 : Int32)
def ff_X7_copy (a1 : Int32) (a2 : Int32) (a3 : Int32) (a4 : Int32) (a5 : Int32) (h : hh_) : Option (Int32 × hh_) :=
  if (ff_X5r_allows a1 h) = 0 then
    some ((-1 : Int32), h)
  else
    if (ff_X5r_allows a3 h) = 0 then
      some ((-1 : Int32), h)
    else
      if 0 ≤ a5 then
        (ff_X5r_lacks a1 h).bind fun v1 =>
        if v1 = 0 then
          (ff_X5r_lacks a3 h).bind fun v5 =>
          if v5 = 0 then
            (ff_X5r_spans a1 a2 a5 h).bind fun v7 =>
            if v7 = 0 then
              (ff_X6_refuse (2 : Int32) h).bind fun v9 =>
              some (v9.1, v9.2)
            else
              (ff_X5r_spans a3 a4 a5 h).bind fun v11 =>
              if v11 = 0 then
                (ff_X6_refuse (2 : Int32) h).bind fun v16 =>
                some (v16.1, v16.2)
              else
                gd_ (bi_ a1 6) <|
                gd_ (bi_ a3 6) <|
                gd_ (bc_ a2 a4 a5 40 40) <|
                some ((1 : Int32), (hh_cp h (4 + Int32.toNatClampNeg a1) (4 + Int32.toNatClampNeg a3) (Int32.toNatClampNeg a2) (Int32.toNatClampNeg a4) (Int32.toNatClampNeg a5)))
          else
            (ff_X6_refuse (1 : Int32) h).bind fun v18 =>
            some (v18.1, v18.2)
        else
          (ff_X6_refuse (1 : Int32) h).bind fun v3 =>
          some (v3.1, v3.2)
      else
        (ff_X6_refuse (5 : Int32) h).bind fun v20 =>
        some (v20.1, v20.2)
def ff_X5r_sum_5 (x1 : Int32) (h : hh_) : Nat → Int64 → Int32 → Option (Int64)
  | 0, _, _ => none
  | n9 + 1, x2, x4 =>
    gd_ (bi_ x1 6) <|
    if (h.1 10 (Int32.toNatClampNeg x1)) ≤ x4 then
      some (x2)
    else
      gd_ (bi_ x4 40) <|
      ff_X5r_sum_5 x1 h n9 (x2 + (Int32.toInt64 (h.1 (4 + Int32.toNatClampNeg x1) (Int32.toNatClampNeg x4)))) (x4 + (1 : Int32))
def ff_X5r_sum (a1 : Int32) (h : hh_) : Option (Int64) :=
  ff_X5r_sum_5 a1 h FU_ (0 : Int64) (0 : Int32)
def ff_X7_mean (a1 : Int32) (h : hh_) : Option (Int32 × hh_) :=
  if (ff_X5r_allows a1 h) = 0 then
    some ((-1 : Int32), h)
  else
    (ff_X5r_lacks a1 h).bind fun v1 =>
    if v1 = 0 then
      gd_ (bi_ a1 6) <|
      if (h.1 10 (Int32.toNatClampNeg a1)) = 0 then
        (ff_X6_refuse (4 : Int32) h).bind fun v7 =>
        some (v7.1, v7.2)
      else
        (ff_X5r_sum a1 h).bind fun v4 =>
        gd_ (bm_ (Int32.toInt64 (h.1 10 (Int32.toNatClampNeg a1)))) <|
        some ((ff_X6_tell (Int64.toInt32 (v4 / (Int32.toInt64 (h.1 10 (Int32.toNatClampNeg a1))))) h).1, (ff_X6_tell (Int64.toInt32 (v4 / (Int32.toInt64 (h.1 10 (Int32.toNatClampNeg a1))))) h).2)
    else
      (ff_X6_refuse (1 : Int32) h).bind fun v9 =>
      some (v9.1, v9.2)
def ff_X5t_allows (a1 : Int32) (h : hh_) : Int32 :=
  if a1 < 0 then
    (0 : Int32)
  else
    if (4 : Int32) ≤ a1 then
      (0 : Int32)
    else
      (1 : Int32)
def ff_X5t_renew_10 (x1 : Int32) (x2 : Int32) (x3 : Int32) : Nat → Int32 → hh_ → Option (hh_)
  | 0, _, _ => none
  | n9 + 1, x4, h =>
    if x2 ≤ x4 then
      some (h)
    else
      gd_ (bi_ x1 4) <|
      gd_ (bi_ x4 80) <|
      ff_X5t_renew_10 x1 x2 x3 n9 (x4 + (1 : Int32)) (hh_sI h (13 + Int32.toNatClampNeg x1) (Int32.toNatClampNeg x4) x3)
def ff_X5t_renew (a1 : Int32) (a2 : Int32) (a3 : Int32) (h : hh_) : Option (hh_) :=
  gd_ (bi_ a1 4) <|
  ff_X5t_renew_10 a1 a2 a3 FU_ (0 : Int32) (hh_sI h 17 (Int32.toNatClampNeg a1) a2)
def ff_X7_text (a1 : Int32) (a2 : Int32) (h : hh_) : Option (Int32 × hh_) :=
  if (ff_X5t_allows a1 h) = 0 then
    some ((-1 : Int32), h)
  else
    if a2 ≤ (80 : Int32) then
      if 0 ≤ a2 then
        (ff_X5t_renew a1 a2 (32 : Int32) h).bind fun v1 =>
        some (a2, v1)
      else
        (ff_X6_refuse (5 : Int32) h).bind fun v3 =>
        some (v3.1, v3.2)
    else
      some ((-1 : Int32), h)
def ff_X5t_lacks (a1 : Int32) (h : hh_) : Option (Int32) :=
  gd_ (bi_ a1 4) <|
  if (h.1 17 (Int32.toNatClampNeg a1)) = (-1 : Int32) then
    some (1 : Int32)
  else
    some (0 : Int32)
def ff_X5t_findingAt (a1 : Int32) (a2 : Int32) (h : hh_) : Option (Int32) :=
  (ff_X5t_lacks a1 h).bind fun v1 =>
  if v1 = 0 then
    if a2 < 0 then
      some (2 : Int32)
    else
      gd_ (bi_ a1 4) <|
      if a2 < (h.1 17 (Int32.toNatClampNeg a1)) then
        some (0 : Int32)
      else
        some (2 : Int32)
  else
    some (1 : Int32)
def ff_X7_put (a1 : Int32) (a2 : Int32) (a3 : Int32) (h : hh_) : Option (Int32 × hh_) :=
  if (ff_X5t_allows a1 h) = 0 then
    some ((-1 : Int32), h)
  else
    (ff_X5t_findingAt a1 a2 h).bind fun v1 =>
    if v1 = 0 then
      gd_ (bi_ a1 4) <|
      gd_ (bi_ a2 80) <|
      some (((h.1 (13 + Int32.toNatClampNeg a1) (Int32.toNatClampNeg a2)) + (1000 : Int32)), (hh_sI h (13 + Int32.toNatClampNeg a1) (Int32.toNatClampNeg a2) (Int8.toInt32 (Int32.toInt8 a3))))
    else
      (ff_X6_refuse v1 h).bind fun v5 =>
      some (v5.1, v5.2)
def ff_X4_kindBy_2 (x0 : Int32) (h : hh_) : Nat → Int32 → Option (Int32)
  | 0, _ => none
  | n9 + 1, x1 =>
    if (6 : Int32) ≤ x1 then
      some (-9 : Int32)
    else
      gd_ (bi_ x1 6) <|
      if ((sn_ 3).2.getD (Int32.toNatClampNeg x1) 0) = x0 then
        some (x1)
      else
        ff_X4_kindBy_2 x0 h n9 (x1 + (1 : Int32))
def ff_X4_kindBy (a0 : Int32) (h : hh_) : Option (Int32) :=
  ff_X4_kindBy_2 a0 h FU_ (0 : Int32)
def ff_X4_opensItem_106 (x3 : Int32) (h : hh_) : Option (Int32 × hh_) :=
  gd_ (bi_ x3 3) <|
  gd_ (bo_ h.2.2.2.2) <|
  some ((1 : Int32), (hh_sI (hh_sI (hh_sI h 19 1 x3) 19 2 ((sn_ 0).2.getD (Int32.toNatClampNeg x3) 0)) (h.2.2.2.2 + 23) (Int32.toNatClampNeg x3) (((hh_sI (hh_sI h 19 1 x3) 19 2 ((sn_ 0).2.getD (Int32.toNatClampNeg x3) 0)).1 (h.2.2.2.2 + 23) (Int32.toNatClampNeg x3)) + (1 : Int32))))
def ff_X4_opensItem_62 (x2 : Int32) (x3 : Int32) (h : hh_) : Option (Int32 × hh_) :=
  gd_ (bo_ h.2.2.2.2) <|
  gd_ (bi_ x3 3) <|
  if (h.1 (h.2.2.2.2 + 23) (Int32.toNatClampNeg x3)) < ((sn_ 4).2.getD (Int32.toNatClampNeg x3) 0) then
    if x3 = (1 : Int32) then
      gd_ (bi_ (h.1 (h.2.2.2.2 + 23) (Int32.toNatClampNeg (1 : Int32))) 4) <|
      ff_X4_opensItem_106 x3 (hh_sI h (h.2.2.2.2 + 14 + Int32.toNatClampNeg (h.1 (h.2.2.2.2 + 23) (Int32.toNatClampNeg (1 : Int32)))) (Int32.toNatClampNeg (0 : Int32)) x2)
    else
      ff_X4_opensItem_106 x3 h
  else
    some ((0 : Int32), h)
def ff_X4_opensItem_37 (x2 : Int32) (y0 : Int32) (h : hh_) : Option (Int32 × hh_) :=
  if y0 < (h.1 19 1) then
    some ((0 : Int32), h)
  else
    if y0 = 0 then
      ff_X4_opensItem_62 x2 y0 h
    else
      gd_ (bo_ h.2.2.2.2) <|
      if (h.1 (h.2.2.2.2 + 23) (Int32.toNatClampNeg (0 : Int32))) = 0 then
        some ((0 : Int32), h)
      else
        ff_X4_opensItem_62 x2 y0 h
def ff_X4_opensItem (a1 : Int32) (h : hh_) : Option (Int32 × hh_) :=
  (ff_X4_kindBy a1 h).bind fun v1 =>
  if v1 = (-9 : Int32) then
    if a1 = (104 : Int32) then
      ff_X4_opensItem_37 v1 (0 : Int32) h
    else
      if a1 = (112 : Int32) then
        ff_X4_opensItem_37 v1 (2 : Int32) h
      else
        ff_X4_opensItem_37 v1 (-9 : Int32) h
  else
    ff_X4_opensItem_37 v1 (1 : Int32) h
def ff_X4_takesFigure (a1 : Int32) (h : hh_) : Option (Int32 × hh_) :=
  gd_ (bi_ (h.1 19 1) 3) <|
  gd_ (bi_ (((h.1 19 1) * (5 : Int32)) + (((sn_ 0).2.getD (Int32.toNatClampNeg (h.1 19 1)) 0) - (h.1 19 2))) 15) <|
  if (a1 - (48 : Int32)) < ((sn_ 1).2.getD (Int32.toNatClampNeg (((h.1 19 1) * (5 : Int32)) + (((sn_ 0).2.getD (Int32.toNatClampNeg (h.1 19 1)) 0) - (h.1 19 2)))) 0) then
    some ((0 : Int32), h)
  else
    if (a1 - (48 : Int32)) ≤ ((sn_ 2).2.getD (Int32.toNatClampNeg (((h.1 19 1) * (5 : Int32)) + (((sn_ 0).2.getD (Int32.toNatClampNeg (h.1 19 1)) 0) - (h.1 19 2)))) 0) then
      gd_ (bo_ h.2.2.2.2) <|
      if (h.1 19 1) = 0 then
        gd_ (bi_ ((h.1 (h.2.2.2.2 + 23) (Int32.toNatClampNeg (h.1 19 1))) - (1 : Int32)) 5) <|
        gd_ (bi_ (((sn_ 0).2.getD (Int32.toNatClampNeg (h.1 19 1)) 0) - (h.1 19 2)) 5) <|
        some ((1 : Int32), (hh_sI (hh_sI h (h.2.2.2.2 + 2 + Int32.toNatClampNeg ((h.1 (h.2.2.2.2 + 23) (Int32.toNatClampNeg (h.1 19 1))) - (1 : Int32))) (Int32.toNatClampNeg (((sn_ 0).2.getD (Int32.toNatClampNeg (h.1 19 1)) 0) - (h.1 19 2))) (a1 - (48 : Int32))) 19 2 (((hh_sI h (h.2.2.2.2 + 2 + Int32.toNatClampNeg ((h.1 (h.2.2.2.2 + 23) (Int32.toNatClampNeg (h.1 19 1))) - (1 : Int32))) (Int32.toNatClampNeg (((sn_ 0).2.getD (Int32.toNatClampNeg (h.1 19 1)) 0) - (h.1 19 2))) (a1 - (48 : Int32))).1 19 2) - (1 : Int32))))
      else
        if (h.1 19 1) = (1 : Int32) then
          gd_ (bi_ ((h.1 (h.2.2.2.2 + 23) (Int32.toNatClampNeg (h.1 19 1))) - (1 : Int32)) 4) <|
          gd_ (bi_ ((1 : Int32) + (((sn_ 0).2.getD (Int32.toNatClampNeg (h.1 19 1)) 0) - (h.1 19 2))) 3) <|
          some ((1 : Int32), (hh_sI (hh_sI h (h.2.2.2.2 + 14 + Int32.toNatClampNeg ((h.1 (h.2.2.2.2 + 23) (Int32.toNatClampNeg (h.1 19 1))) - (1 : Int32))) (Int32.toNatClampNeg ((1 : Int32) + (((sn_ 0).2.getD (Int32.toNatClampNeg (h.1 19 1)) 0) - (h.1 19 2)))) (a1 - (48 : Int32))) 19 2 (((hh_sI h (h.2.2.2.2 + 14 + Int32.toNatClampNeg ((h.1 (h.2.2.2.2 + 23) (Int32.toNatClampNeg (h.1 19 1))) - (1 : Int32))) (Int32.toNatClampNeg ((1 : Int32) + (((sn_ 0).2.getD (Int32.toNatClampNeg (h.1 19 1)) 0) - (h.1 19 2)))) (a1 - (48 : Int32))).1 19 2) - (1 : Int32))))
        else
          gd_ (bi_ ((h.1 (h.2.2.2.2 + 23) (Int32.toNatClampNeg (h.1 19 1))) - (1 : Int32)) 4) <|
          gd_ (bi_ (((sn_ 0).2.getD (Int32.toNatClampNeg (h.1 19 1)) 0) - (h.1 19 2)) 5) <|
          some ((1 : Int32), (hh_sI (hh_sI h (h.2.2.2.2 + 19 + Int32.toNatClampNeg ((h.1 (h.2.2.2.2 + 23) (Int32.toNatClampNeg (h.1 19 1))) - (1 : Int32))) (Int32.toNatClampNeg (((sn_ 0).2.getD (Int32.toNatClampNeg (h.1 19 1)) 0) - (h.1 19 2))) (a1 - (48 : Int32))) 19 2 (((hh_sI h (h.2.2.2.2 + 19 + Int32.toNatClampNeg ((h.1 (h.2.2.2.2 + 23) (Int32.toNatClampNeg (h.1 19 1))) - (1 : Int32))) (Int32.toNatClampNeg (((sn_ 0).2.getD (Int32.toNatClampNeg (h.1 19 1)) 0) - (h.1 19 2))) (a1 - (48 : Int32))).1 19 2) - (1 : Int32))))
    else
      some ((0 : Int32), h)
def ff_X4_goesOn (a1 : Int32) (h : hh_) : Option (Int32 × hh_) :=
  if (h.1 19 2) ≤ 0 then
    if a1 = (32 : Int32) then
      some ((1 : Int32), h)
    else
      (ff_X4_opensItem a1 h).bind fun v1 =>
      if v1.1 = 0 then
        some ((0 : Int32), v1.2)
      else
        some ((1 : Int32), v1.2)
  else
    (ff_X4_takesFigure a1 h).bind fun v3 =>
    gd_ (bz_ v3.1) <|
    some (v3.1, v3.2)
def ff_X4_into_18 (x2 : Nat) (x3 : Int32) (K18_48 : hh_ → Option (Int32 × hh_)) : Nat → Int32 → hh_ → Option (Int32 × hh_)
  | 0, _, _ => none
  | n9 + 1, x4, h =>
    gd_ (bo_ h.2.2.2.2) <|
    if (3 : Int32) ≤ x4 then
      K18_48 h
    else
      gd_ (bi_ x4 3) <|
      ff_X4_into_18 x2 x3 K18_48 n9 (x4 + (1 : Int32)) (hh_sI h (h.2.2.2.2 + 23) (Int32.toNatClampNeg x4) (0 : Int32))
def ff_X4_into_51 (x2 : Nat) (x3 : Int32) (K51_77 : hh_ → Option (Int32 × hh_)) : Nat → Int32 → hh_ → Option (Int32 × hh_)
  | 0, _, _ => none
  | n9 + 1, x4, h =>
    if x3 ≤ x4 then
      K51_77 h
    else
      gd_ (bp_ x2 x4) <|
      (ff_X4_goesOn (h.1 x2 (Int32.toNatClampNeg x4)) h).bind fun v5 =>
      if v5.1 = 0 then
        some (x4, v5.2)
      else
        ff_X4_into_51 x2 x3 K51_77 n9 (x4 + (1 : Int32)) v5.2
def ff_X4_into (a1 : Nat) (a2 : Nat) (a3 : Int32) (h : hh_) : Option (Int32 × hh_) :=
  ff_X4_into_18 a2 a3 (fun k3 =>
    ff_X4_into_51 a2 a3 (fun k7 =>
      if 0 < (k7.1 19 2) then
        some (a3, k7)
      else
        gd_ (bo_ k7.2.2.2.2) <|
        if (k7.1 (k7.2.2.2.2 + 23) (Int32.toNatClampNeg (0 : Int32))) = 0 then
          some (a3, k7)
        else
          some ((-9 : Int32), k7)) FU_ (0 : Int32) k3) FU_ (0 : Int32) (hh_sI (hh_sI (hh_sO h a1) 19 1 (0 : Int32)) 19 2 (0 : Int32))
def ff_X7_fault (a1 : Int32) (h : hh_) : Option (Int32 × hh_) :=
  if (ff_X5t_allows a1 h) = 0 then
    some ((-1 : Int32), h)
  else
    (ff_X5t_lacks a1 h).bind fun v1 =>
    if v1 = 0 then
      gd_ (bo_ h.2.2.2.1) <|
      gd_ (bi_ a1 4) <|
      (ff_X4_into h.2.2.2.1 (13 + Int32.toNatClampNeg a1) (h.1 17 (Int32.toNatClampNeg a1)) h).bind fun v5 =>
      some (v5.1, v5.2)
    else
      (ff_X6_refuse (1 : Int32) h).bind fun v7 =>
      some (v7.1, v7.2)
def ff_X2_repeat_47 (x2 : Nat) (x3 : Int32) (x4 : Int32) (h : hh_) (K47_61 : hh_ → Option (hh_)) : Option (hh_) :=
  gd_ (bi_ x4 5) <|
  K47_61 (hh_sI h x2 (Int32.toNatClampNeg x4) (if ((h.1 x2 (Int32.toNatClampNeg x4)) + (1 : Int32)) < (5 : Int32) then ((h.1 x2 (Int32.toNatClampNeg x4)) + (1 : Int32)) else (5 : Int32)))
def ff_X2_repeat_30 (x2 : Nat) (x3 : Int32) : Nat → Int32 → hh_ → Option (hh_)
  | 0, _, _ => none
  | n9 + 1, x4, h =>
    if (4 : Int32) ≤ x4 then
      some (h)
    else
      if x3 = (4 : Int32) then
        ff_X2_repeat_47 x2 x3 x4 h (fun k3 =>
          ff_X2_repeat_30 x2 x3 n9 (x4 + (1 : Int32)) k3)
      else
        if x3 = x4 then
          ff_X2_repeat_47 x2 x3 x4 h (fun k4 =>
            ff_X2_repeat_30 x2 x3 n9 (x4 + (1 : Int32)) k4)
        else
          ff_X2_repeat_30 x2 x3 n9 (x4 + (1 : Int32)) h
def ff_X2_repeat (o : Nat) (a1 : Int32) (h : hh_) : Option (hh_) :=
  gd_ (bi_ (a1 / (8 : Int32)) 5) <|
  if (a1 - a1 / (8 : Int32) * (8 : Int32)) < (5 : Int32) then
    ff_X2_repeat_30 (o + 8 + Int32.toNatClampNeg (a1 / (8 : Int32))) (a1 - a1 / (8 : Int32) * (8 : Int32)) FU_ (0 : Int32) h
  else
    some (hh_sI h (o + 8 + Int32.toNatClampNeg (a1 / (8 : Int32))) (Int32.toNatClampNeg (4 : Int32)) ((a1 - a1 / (8 : Int32) * (8 : Int32)) - (5 : Int32)))
def ff_X2_goBack_2 (x0 : Nat) (x1 : Int32) (K2_36 : hh_ → Option (hh_)) : Nat → Int32 → hh_ → Option (hh_)
  | 0, _, _ => none
  | n9 + 1, x2, h =>
    if (h.1 (x0 + 23) (Int32.toNatClampNeg (0 : Int32))) ≤ x2 then
      K2_36 h
    else
      gd_ (bi_ x2 5) <|
      gd_ (bc_ (0 : Int32) (0 : Int32) (5 : Int32) 5 5) <|
      ff_X2_goBack_2 x0 x1 K2_36 n9 (x2 + (1 : Int32)) (hh_cp h (x0 + 2 + Int32.toNatClampNeg x2) (x0 + 8 + Int32.toNatClampNeg x2) (Int32.toNatClampNeg (0 : Int32)) (Int32.toNatClampNeg (0 : Int32)) (Int32.toNatClampNeg (5 : Int32)))
def ff_X2_goBack_38 (x0 : Nat) (x1 : Int32) : Nat → Int32 → hh_ → Option (hh_)
  | 0, _, _ => none
  | n9 + 1, x2, h =>
    if x1 ≤ x2 then
      some (hh_sI h x0 6 x1)
    else
      gd_ (bi_ x2 40) <|
      (ff_X2_repeat x0 (h.1 (x0 + 24) (Int32.toNatClampNeg x2)) h).bind fun v5 =>
      ff_X2_goBack_38 x0 x1 n9 (x2 + (1 : Int32)) v5
def ff_X2_goBack (o : Nat) (a1 : Int32) (h : hh_) : Option (hh_) :=
  ff_X2_goBack_2 o a1 (fun k3 =>
    ff_X2_goBack_38 o a1 FU_ (0 : Int32) k3) FU_ (0 : Int32) h
def ff_X7_office_98 : Nat → Int32 → hh_ → Option (Int32 × hh_)
  | 0, _, _ => none
  | n9 + 1, x3, h =>
    if (3 : Int32) ≤ x3 then
      gd_ (bo_ h.2.2.1) <|
      some ((h.1 (h.2.2.1 + 23) (Int32.toNatClampNeg (0 : Int32))), h)
    else
      gd_ (bi_ x3 3) <|
      ff_X7_office_98 n9 (x3 + (1 : Int32)) (hh_sI h (89 + 3 * Int32.toNatClampNeg x3) 2 (-1 : Int32))
def ff_X7_office (a1 : Int32) (h : hh_) : Option (Int32 × hh_) :=
  if (ff_X5t_allows a1 h) = 0 then
    some ((-1 : Int32), h)
  else
    (ff_X5t_lacks a1 h).bind fun v1 =>
    if v1 = 0 then
      gd_ (bo_ h.2.2.2.1) <|
      gd_ (bi_ a1 4) <|
      (ff_X4_into h.2.2.2.1 (13 + Int32.toNatClampNeg a1) (h.1 17 (Int32.toNatClampNeg a1)) h).bind fun v5 =>
      if v5.1 = (-9 : Int32) then
        gd_ (bo_ v5.2.2.2.1) <|
        gd_ (bo_ v5.2.2.2.2.1) <|
        (ff_X2_goBack v5.2.2.2.2.1 (0 : Int32) (hh_sD (hh_sN v5.2 v5.2.2.2.2.1) v5.2.2.2.1)).bind fun v9 =>
        ff_X7_office_98 FU_ (0 : Int32) v9
      else
        some ((-4 : Int32), v5.2)
    else
      (ff_X6_refuse (1 : Int32) h).bind fun v13 =>
      some (v13.1, v13.2)
def ff_X2_has (o : Nat) (a1 : Int32) (a2 : Int32) (h : hh_) : Option (Int32) :=
  if a2 < 0 then
    some (0 : Int32)
  else
    gd_ (bi_ a1 3) <|
    if (h.1 (o + 23) (Int32.toNatClampNeg a1)) ≤ a2 then
      some (0 : Int32)
    else
      some (1 : Int32)
def ff_X2_together_4 (x0 : Nat) (x1 : Int32) (h : hh_) : Nat → Int32 → Int32 → Option (Int32)
  | 0, _, _ => none
  | n9 + 1, x2, x3 =>
    if (4 : Int32) ≤ x3 then
      some (x2)
    else
      gd_ (bi_ x1 5) <|
      gd_ (bi_ x3 5) <|
      ff_X2_together_4 x0 x1 h n9 (x2 + (h.1 (x0 + 8 + Int32.toNatClampNeg x1) (Int32.toNatClampNeg x3))) (x3 + (1 : Int32))
def ff_X2_together (o : Nat) (a1 : Int32) (h : hh_) : Option (Int32) :=
  ff_X2_together_4 o a1 h FU_ (0 : Int32) (0 : Int32)
def ff_X2_ofHead (o : Nat) (a1 : Int32) (a2 : Int32) (h : hh_) : Option (Int32) :=
  if a2 = (5 : Int32) then
    (ff_X2_together o a1 h).bind fun v3 =>
    some (v3)
  else
    gd_ (bi_ a1 5) <|
    gd_ (bi_ a2 5) <|
    some (h.1 (o + 8 + Int32.toNatClampNeg a1) (Int32.toNatClampNeg a2))
def ff_X7_head (a1 : Int32) (a2 : Int32) (h : hh_) : Option (Int32 × hh_) :=
  gd_ (bo_ h.2.2.1) <|
  (ff_X2_has h.2.2.1 (0 : Int32) a1 h).bind fun v2 =>
  if v2 = 0 then
    some ((-1 : Int32), h)
  else
    if a2 < 0 then
      some ((-1 : Int32), h)
    else
      if a2 ≤ (5 : Int32) then
        (ff_X2_ofHead h.2.2.1 a1 a2 h).bind fun v4 =>
        some ((ff_X6_tell v4 h).1, (ff_X6_tell v4 h).2)
      else
        some ((-1 : Int32), h)
def ff_X7_thumb (a1 : Int32) (a2 : Int32) (h : hh_) : Option (Int32 × hh_) :=
  gd_ (bo_ h.2.2.1) <|
  (ff_X2_has h.2.2.1 (1 : Int32) a1 h).bind fun v2 =>
  if v2 = 0 then
    some ((-1 : Int32), h)
  else
    if a2 < 0 then
      some ((-1 : Int32), h)
    else
      if a2 ≤ (2 : Int32) then
        gd_ (bi_ a1 4) <|
        gd_ (bi_ a2 3) <|
        some ((ff_X6_tell (h.1 (h.2.2.1 + 14 + Int32.toNatClampNeg a1) (Int32.toNatClampNeg a2)) h).1, (ff_X6_tell (h.1 (h.2.2.1 + 14 + Int32.toNatClampNeg a1) (Int32.toNatClampNeg a2)) h).2)
      else
        some ((-1 : Int32), h)
def ff_X7_post (a1 : Int32) (a2 : Int32) (h : hh_) : Option (Int32 × hh_) :=
  gd_ (bo_ h.2.2.1) <|
  (ff_X2_has h.2.2.1 (2 : Int32) a1 h).bind fun v2 =>
  if v2 = 0 then
    some ((-1 : Int32), h)
  else
    if a2 < 0 then
      some ((-1 : Int32), h)
    else
      if a2 ≤ (4 : Int32) then
        gd_ (bi_ a1 4) <|
        gd_ (bi_ a2 5) <|
        some ((ff_X6_tell (h.1 (h.2.2.1 + 19 + Int32.toNatClampNeg a1) (Int32.toNatClampNeg a2)) h).1, (ff_X6_tell (h.1 (h.2.2.1 + 19 + Int32.toNatClampNeg a1) (Int32.toNatClampNeg a2)) h).2)
      else
        some ((-1 : Int32), h)
def ff_X2_isOf (o : Nat) (a1 : Int32) (a2 : Int32) (h : hh_) : Option (Int32) :=
  gd_ (bi_ a1 4) <|
  if (h.1 (o + 14 + Int32.toNatClampNeg a1) (Int32.toNatClampNeg (0 : Int32))) = a2 then
    some (1 : Int32)
  else
    gd_ (bi_ (h.1 (o + 14 + Int32.toNatClampNeg a1) (Int32.toNatClampNeg (0 : Int32))) 6) <|
    if ((sn_ 5).2.getD (Int32.toNatClampNeg (h.1 (o + 14 + Int32.toNatClampNeg a1) (Int32.toNatClampNeg (0 : Int32)))) 0) = a2 then
      some (1 : Int32)
    else
      some (0 : Int32)
def ff_X2_felt (o : Nat) (a1 : Int32) (a2 : Int32) (a3 : Int32) (h : hh_) : Option (Int32) :=
  gd_ (bi_ a1 5) <|
  gd_ (bi_ a2 5) <|
  if (h.1 (o + 8 + Int32.toNatClampNeg a1) (Int32.toNatClampNeg (4 : Int32))) ≤ (1 : Int32) then
    some ((h.1 (o + 8 + Int32.toNatClampNeg a1) (Int32.toNatClampNeg a2)) + a3)
  else
    if ((h.1 (o + 8 + Int32.toNatClampNeg a1) (Int32.toNatClampNeg a2)) + a3) ≤ 0 then
      some ((h.1 (o + 8 + Int32.toNatClampNeg a1) (Int32.toNatClampNeg a2)) + a3)
    else
      some (((h.1 (o + 8 + Int32.toNatClampNeg a1) (Int32.toNatClampNeg a2)) + a3) - (1 : Int32))
def ff_X2_middle_20 (x0 : Int32) (y0 : Int32) (y1 : Int32) (h : hh_) : Option (Int32) :=
  if 0 ≤ (y0 + y1) then
    gd_ (bi_ x0 6) <|
    if (y0 + y1) ≤ ((sn_ 8).2.getD (Int32.toNatClampNeg x0) 0) then
      some (y0 + y1)
    else
      some ((sn_ 8).2.getD (Int32.toNatClampNeg x0) 0)
  else
    some (0 : Int32)
def ff_X2_middle (a0 : Int32) (a1 : Int32) (a2 : Int32) (h : hh_) : Option (Int32) :=
  gd_ (bi_ a0 6) <|
  if a1 = 0 then
    ff_X2_middle_20 a0 (a2 + ((sn_ 6).2.getD (Int32.toNatClampNeg a0) 0)) (0 : Int32) h
  else
    ff_X2_middle_20 a0 (a2 + ((sn_ 6).2.getD (Int32.toNatClampNeg a0) 0)) ((sn_ 7).2.getD (Int32.toNatClampNeg a0) 0) h
def ff_X2_middleBy_25 (x0 : Nat) (x2 : Int32) (x3 : Int32) (x4 : Int32) (y0 : Int32) (y1 : Int32) (h : hh_) : Option (Int32) :=
  (ff_X2_felt x0 x2 x3 x4 h).bind fun v2 =>
  (ff_X2_middle y0 y1 v2 h).bind fun v4 =>
  some (v4)
def ff_X2_middleBy (o : Nat) (a1 : Int32) (a2 : Int32) (a3 : Int32) (a4 : Int32) (h : hh_) : Option (Int32) :=
  gd_ (bi_ a1 4) <|
  if (h.1 (o + 14 + Int32.toNatClampNeg a1) (Int32.toNatClampNeg (2 : Int32))) = a3 then
    ff_X2_middleBy_25 o a2 a3 a4 (h.1 (o + 14 + Int32.toNatClampNeg a1) (Int32.toNatClampNeg (0 : Int32))) (1 : Int32) h
  else
    ff_X2_middleBy_25 o a2 a3 a4 (h.1 (o + 14 + Int32.toNatClampNeg a1) (Int32.toNatClampNeg (0 : Int32))) (0 : Int32) h
def ff_X1_dull_17 (x0 : Nat) (x1 : Int32) (x3 : Int32) (h : hh_) (K17_50 : Int32 → Option (Int32)) : Nat → Int32 → Int32 → Option (Int32)
  | 0, _, _ => none
  | n9 + 1, x2, x4 =>
    if (4 : Int32) ≤ x4 then
      K17_50 x2
    else
      (ff_X2_middleBy x0 x1 x3 x4 (0 : Int32) h).bind fun v1 =>
      if v1 = (3 : Int32) then
        ff_X1_dull_17 x0 x1 x3 h K17_50 n9 (x2 + (1 : Int32)) (x4 + (1 : Int32))
      else
        ff_X1_dull_17 x0 x1 x3 h K17_50 n9 (x2 + (0 : Int32)) (x4 + (1 : Int32))
def ff_X1_dull_4 (x0 : Nat) (x1 : Int32) (h : hh_) : Nat → Int32 → Int32 → Option (Int32)
  | 0, _, _ => none
  | n9 + 1, x2, x3 =>
    if (h.1 (x0 + 23) (Int32.toNatClampNeg (0 : Int32))) ≤ x3 then
      some (x2)
    else
      ff_X1_dull_17 x0 x1 x3 h (fun u3 =>
        ff_X1_dull_4 x0 x1 h n9 u3 (x3 + (1 : Int32))) FU_ x2 (0 : Int32)
def ff_X1_dull (a0 : Nat) (a1 : Int32) (h : hh_) : Option (Int32) :=
  ff_X1_dull_4 a0 a1 h FU_ (0 : Int32) (0 : Int32)
def ff_X2_least (o : Nat) (a1 : Int32) (a2 : Int32) (a3 : Int32) (a4 : Int32) (h : hh_) : Option (Int32) :=
  (ff_X2_middleBy o a1 a2 a3 a4 h).bind fun v1 =>
  gd_ (bi_ a1 4) <|
  some (if (0 : Int32) < (v1 - (h.1 (o + 14 + Int32.toNatClampNeg a1) (Int32.toNatClampNeg (1 : Int32)))) then (v1 - (h.1 (o + 14 + Int32.toNatClampNeg a1) (Int32.toNatClampNeg (1 : Int32)))) else (0 : Int32))
def ff_X1_clerk_17 (x0 : Nat) (x1 : Int32) (x3 : Int32) (h : hh_) (K17_50 : Int32 → Option (Int32)) : Nat → Int32 → Int32 → Option (Int32)
  | 0, _, _ => none
  | n9 + 1, x2, x4 =>
    if (4 : Int32) ≤ x4 then
      K17_50 x2
    else
      (ff_X2_least x0 x1 x3 x4 (0 : Int32) h).bind fun v1 =>
      (ff_X2_felt x0 x3 x4 (0 : Int32) h).bind fun v3 =>
      ff_X1_clerk_17 x0 x1 x3 h K17_50 n9 (x2 + (v1 - v3)) (x4 + (1 : Int32))
def ff_X1_clerk_4 (x0 : Nat) (x1 : Int32) (h : hh_) : Nat → Int32 → Int32 → Option (Int32)
  | 0, _, _ => none
  | n9 + 1, x2, x3 =>
    if (h.1 (x0 + 23) (Int32.toNatClampNeg (0 : Int32))) ≤ x3 then
      some (x2)
    else
      ff_X1_clerk_17 x0 x1 x3 h (fun u5 =>
        ff_X1_clerk_4 x0 x1 h n9 u5 (x3 + (1 : Int32))) FU_ x2 (0 : Int32)
def ff_X1_clerk (a0 : Nat) (a1 : Int32) (h : hh_) : Option (Int32) :=
  ff_X1_clerk_4 a0 a1 h FU_ (0 : Int32) (0 : Int32)
def ff_X1_hasItsWish_12 (x0 : Nat) (x1 : Int32) (x2 : Int32) (x3 : Int32) (h : hh_) : Nat → Int32 → Option (Int32)
  | 0, _ => none
  | n9 + 1, x4 =>
    if (4 : Int32) ≤ x4 then
      some (1 : Int32)
    else
      if x4 = x3 then
        ff_X1_hasItsWish_12 x0 x1 x2 x3 h n9 (x4 + (1 : Int32))
      else
        (ff_X2_least x0 x1 x2 x4 (0 : Int32) h).bind fun v2 =>
        (ff_X2_least x0 x1 x2 x3 (0 : Int32) h).bind fun v4 =>
        if v2 < v4 then
          ff_X1_hasItsWish_12 x0 x1 x2 x3 h n9 (x4 + (1 : Int32))
        else
          some (0 : Int32)
def ff_X1_hasItsWish (a0 : Nat) (a1 : Int32) (a2 : Int32) (h : hh_) : Option (Int32) :=
  gd_ (bi_ a1 4) <|
  ff_X1_hasItsWish_12 a0 a1 a2 (h.1 (a0 + 14 + Int32.toNatClampNeg a1) (Int32.toNatClampNeg (2 : Int32))) h FU_ (0 : Int32)
def ff_X1_wishing_4 (x0 : Nat) (x1 : Int32) (h : hh_) : Nat → Int32 → Int32 → Option (Int32)
  | 0, _, _ => none
  | n9 + 1, x2, x3 =>
    if (h.1 (x0 + 23) (Int32.toNatClampNeg (0 : Int32))) ≤ x3 then
      some (x2)
    else
      (ff_X1_hasItsWish x0 x1 x3 h).bind fun v1 =>
      if v1 = 0 then
        ff_X1_wishing_4 x0 x1 h n9 (x2 + (0 : Int32)) (x3 + (1 : Int32))
      else
        ff_X1_wishing_4 x0 x1 h n9 (x2 + (1 : Int32)) (x3 + (1 : Int32))
def ff_X1_wishing (a0 : Nat) (a1 : Int32) (h : hh_) : Option (Int32) :=
  ff_X1_wishing_4 a0 a1 h FU_ (0 : Int32) (0 : Int32)
def ff_X2_most (o : Nat) (a1 : Int32) (a2 : Int32) (a3 : Int32) (a4 : Int32) (h : hh_) : Option (Int32) :=
  (ff_X2_middleBy o a1 a2 a3 a4 h).bind fun v1 =>
  gd_ (bi_ a1 4) <|
  some (v1 + (h.1 (o + 14 + Int32.toNatClampNeg a1) (Int32.toNatClampNeg (1 : Int32))))
def ff_X1_light_17 (x0 : Nat) (x1 : Int32) (x3 : Int32) (h : hh_) (K17_43 : Int32 → Option (Int32)) : Nat → Int32 → Int32 → Option (Int32)
  | 0, _, _ => none
  | n9 + 1, x2, x4 =>
    if (4 : Int32) ≤ x4 then
      K17_43 x2
    else
      (ff_X2_most x0 x1 x3 x4 (0 : Int32) h).bind fun v1 =>
      ff_X1_light_17 x0 x1 x3 h K17_43 n9 (if x2 < v1 then v1 else x2) (x4 + (1 : Int32))
def ff_X1_light_4 (x0 : Nat) (x1 : Int32) (h : hh_) : Nat → Int32 → Int32 → Option (Int32)
  | 0, _, _ => none
  | n9 + 1, x2, x3 =>
    if (h.1 (x0 + 23) (Int32.toNatClampNeg (0 : Int32))) ≤ x3 then
      some (x2)
    else
      ff_X1_light_17 x0 x1 x3 h (fun u3 =>
        ff_X1_light_4 x0 x1 h n9 u3 (x3 + (1 : Int32))) FU_ x2 (0 : Int32)
def ff_X1_light (a0 : Nat) (a1 : Int32) (h : hh_) : Option (Int32) :=
  ff_X1_light_4 a0 a1 h FU_ (0 : Int32) (0 : Int32)
def ff_X1_heavy_16 (x0 : Nat) (x2 : Int32) (h : hh_) (K16_45 : Int32 → Option (Int32)) : Nat → Int32 → Int32 → Option (Int32)
  | 0, _, _ => none
  | n9 + 1, x1, x3 =>
    if (4 : Int32) ≤ x3 then
      K16_45 x1
    else
      (ff_X2_felt x0 x2 x3 (0 : Int32) h).bind fun v1 =>
      if v1 = 0 then
        ff_X1_heavy_16 x0 x2 h K16_45 n9 (x1 + (1 : Int32)) (x3 + (1 : Int32))
      else
        ff_X1_heavy_16 x0 x2 h K16_45 n9 (x1 + (0 : Int32)) (x3 + (1 : Int32))
def ff_X1_heavy_4 (x0 : Nat) (h : hh_) : Nat → Int32 → Int32 → Option (Int32)
  | 0, _, _ => none
  | n9 + 1, x1, x2 =>
    if (h.1 (x0 + 23) (Int32.toNatClampNeg (0 : Int32))) ≤ x2 then
      some (x1)
    else
      ff_X1_heavy_16 x0 x2 h (fun u3 =>
        ff_X1_heavy_4 x0 h n9 u3 (x2 + (1 : Int32))) FU_ x1 (0 : Int32)
def ff_X1_heavy (a0 : Nat) (h : hh_) : Option (Int32) :=
  ff_X1_heavy_4 a0 h FU_ (0 : Int32) (0 : Int32)
def ff_X7_mark (a1 : Int32) (a2 : Int32) (h : hh_) : Option (Int32 × hh_) :=
  gd_ (bo_ h.2.2.1) <|
  (ff_X2_has h.2.2.1 (1 : Int32) a1 h).bind fun v2 =>
  if v2 = 0 then
    some ((-1 : Int32), h)
  else
    if a2 < (1 : Int32) then
      some ((-1 : Int32), h)
    else
      if a2 < (6 : Int32) then
        (ff_X2_isOf h.2.2.1 a1 a2 h).bind fun v4 =>
        if v4 = 0 then
          (ff_X6_refuse (3 : Int32) h).bind fun v16 =>
          some (v16.1, v16.2)
        else
          if a2 = (1 : Int32) then
            (ff_X1_heavy h.2.2.1 h).bind fun v14 =>
            some (v14, h)
          else
            if a2 = (2 : Int32) then
              (ff_X1_light h.2.2.1 a1 h).bind fun v12 =>
              some (v12, h)
            else
              if a2 = (3 : Int32) then
                (ff_X1_wishing h.2.2.1 a1 h).bind fun v10 =>
                some (v10, h)
              else
                if a2 = (4 : Int32) then
                  (ff_X1_clerk h.2.2.1 a1 h).bind fun v8 =>
                  some (v8, h)
                else
                  (ff_X1_dull h.2.2.1 a1 h).bind fun v6 =>
                  some (v6, h)
      else
        some ((-1 : Int32), h)
def ff_X7_error (a1 : Int32) (a2 : Int32) (h : hh_) : Option (Int32 × hh_) :=
  gd_ (bo_ h.2.2.1) <|
  (ff_X2_has h.2.2.1 (1 : Int32) a1 h).bind fun v2 =>
  if v2 = 0 then
    some ((-1 : Int32), h)
  else
    if a2 < 0 then
      some ((-1 : Int32), h)
    else
      if a2 ≤ (2 : Int32) then
        gd_ (bi_ a1 4) <|
        some ((h.1 (h.2.2.1 + 14 + Int32.toNatClampNeg a1) (Int32.toNatClampNeg (1 : Int32))), (hh_sI h (h.2.2.1 + 14 + Int32.toNatClampNeg a1) (Int32.toNatClampNeg (1 : Int32)) a2))
      else
        some ((-1 : Int32), h)
def ff_X7_isPlace (a0 : Int32) : Int32 :=
  if a0 < 0 then
    (0 : Int32)
  else
    if (4 : Int32) ≤ a0 then
      (0 : Int32)
    else
      (1 : Int32)
def ff_X2_act (o : Nat) (a1 : Int32) (a2 : Int32) (h : hh_) : Option (hh_) :=
  gd_ (bi_ (h.1 o 6) 40) <|
  gd_ (bi_ ((hh_sI h (o + 24) (Int32.toNatClampNeg (h.1 o 6)) ((a1 * (8 : Int32)) + a2)).1 o 6) 40) <|
  (ff_X2_repeat o ((hh_sI h (o + 24) (Int32.toNatClampNeg (h.1 o 6)) ((a1 * (8 : Int32)) + a2)).1 (o + 24) (Int32.toNatClampNeg ((hh_sI h (o + 24) (Int32.toNatClampNeg (h.1 o 6)) ((a1 * (8 : Int32)) + a2)).1 o 6))) (hh_sI h (o + 24) (Int32.toNatClampNeg (h.1 o 6)) ((a1 * (8 : Int32)) + a2))).bind fun v3 =>
  some (hh_sI v3 o 6 ((v3.1 o 6) + (1 : Int32)))
def ff_X7_pad (a1 : Int32) (a2 : Int32) (h : hh_) : Option (Int32 × hh_) :=
  gd_ (bo_ h.2.2.1) <|
  (ff_X2_has h.2.2.1 (0 : Int32) a1 h).bind fun v2 =>
  if v2 = 0 then
    some ((-1 : Int32), h)
  else
    if (ff_X7_isPlace a2) = 0 then
      some ((-1 : Int32), h)
    else
      gd_ (bi_ a1 5) <|
      gd_ (bi_ a2 5) <|
      if (h.1 (h.2.2.1 + 8 + Int32.toNatClampNeg a1) (Int32.toNatClampNeg a2)) < (5 : Int32) then
        if (h.1 h.2.2.1 6) < (40 : Int32) then
          (ff_X2_act h.2.2.1 a1 a2 h).bind fun v6 =>
          gd_ (bo_ v6.2.2.1) <|
          some ((v6.1 (v6.2.2.1 + 8 + Int32.toNatClampNeg a1) (Int32.toNatClampNeg a2)), v6)
        else
          some ((-2 : Int32), h)
      else
        some ((-4 : Int32), h)
def ff_X7_grow (a1 : Int32) (h : hh_) : Option (Int32 × hh_) :=
  gd_ (bo_ h.2.2.1) <|
  (ff_X2_has h.2.2.1 (0 : Int32) a1 h).bind fun v2 =>
  if v2 = 0 then
    some ((-1 : Int32), h)
  else
    if (h.1 h.2.2.1 6) < (40 : Int32) then
      (ff_X2_act h.2.2.1 a1 (4 : Int32) h).bind fun v4 =>
      gd_ (bo_ v4.2.2.1) <|
      (ff_X2_together v4.2.2.1 a1 v4).bind fun v7 =>
      some (v7, v4)
    else
      some ((-2 : Int32), h)
def ff_X7_cut (a1 : Int32) (a2 : Int32) (h : hh_) : Option (Int32 × hh_) :=
  gd_ (bo_ h.2.2.1) <|
  (ff_X2_has h.2.2.1 (0 : Int32) a1 h).bind fun v2 =>
  if v2 = 0 then
    some ((-1 : Int32), h)
  else
    if a2 < 0 then
      some ((-1 : Int32), h)
    else
      if a2 ≤ (2 : Int32) then
        gd_ (bi_ a1 5) <|
        if a2 < (h.1 (h.2.2.1 + 8 + Int32.toNatClampNeg a1) (Int32.toNatClampNeg (4 : Int32))) then
          if (h.1 h.2.2.1 6) < (40 : Int32) then
            (ff_X2_act h.2.2.1 a1 ((5 : Int32) + a2) h).bind fun v5 =>
            some ((h.1 (h.2.2.1 + 8 + Int32.toNatClampNeg a1) (Int32.toNatClampNeg (4 : Int32))), v5)
          else
            some ((-2 : Int32), h)
        else
          some ((-4 : Int32), h)
      else
        some ((-1 : Int32), h)
def ff_X7_undo (a1 : Int32) (h : hh_) : Option (Int32 × hh_) :=
  if a1 < 0 then
    some ((-1 : Int32), h)
  else
    gd_ (bo_ h.2.2.1) <|
    if a1 ≤ (h.1 h.2.2.1 6) then
      (ff_X2_goBack h.2.2.1 a1 h).bind fun v2 =>
      some (((h.1 h.2.2.1 6) - a1), v2)
    else
      some ((-1 : Int32), h)
def ff_X7_isKeptPlace (a0 : Int32) : Int32 :=
  if a0 < 0 then
    (0 : Int32)
  else
    if (3 : Int32) ≤ a0 then
      (0 : Int32)
    else
      (1 : Int32)
def ff_X0_take_25 (x0 : Nat) (x1 : Nat) : Nat → Int32 → hh_ → Option (hh_)
  | 0, _, _ => none
  | n9 + 1, x2, h =>
    if (4 : Int32) ≤ x2 then
      some (h)
    else
      gd_ (bi_ x2 4) <|
      ff_X0_take_25 x0 x1 n9 (x2 + (1 : Int32)) (hh_sI h (x0 + 2) (Int32.toNatClampNeg x2) (h.1 (x1 + 14 + Int32.toNatClampNeg x2) (Int32.toNatClampNeg (1 : Int32))))
def ff_X0_take (o : Nat) (a1 : Nat) (h : hh_) : Option (hh_) :=
  gd_ (bc_ (0 : Int32) (0 : Int32) (40 : Int32) 40 40) <|
  ff_X0_take_25 o a1 FU_ (0 : Int32) (hh_cp (hh_sI h o 2 (h.1 a1 6)) (a1 + 24) (o + 1) (Int32.toNatClampNeg (0 : Int32)) (Int32.toNatClampNeg (0 : Int32)) (Int32.toNatClampNeg (40 : Int32)))
def ff_X7_keep (a1 : Int32) (h : hh_) : Option (Int32 × hh_) :=
  if (ff_X7_isKeptPlace a1) = 0 then
    some ((-1 : Int32), h)
  else
    gd_ (bo_ h.2.2.1) <|
    if (h.1 (h.2.2.1 + 23) (Int32.toNatClampNeg (0 : Int32))) = 0 then
      some ((-4 : Int32), h)
    else
      gd_ (bi_ a1 3) <|
      (ff_X0_take (89 + 3 * Int32.toNatClampNeg a1) h.2.2.1 h).bind fun v3 =>
      gd_ (bo_ v3.2.2.1) <|
      some ((v3.1 v3.2.2.1 6), v3)
def ff_X0_giveTo_17 (x0 : Nat) (x1 : Nat) : Nat → Int32 → hh_ → Option (hh_)
  | 0, _, _ => none
  | n9 + 1, x2, h =>
    if (4 : Int32) ≤ x2 then
      (ff_X2_goBack x1 (h.1 x0 2) h).bind fun v2 =>
      some (v2)
    else
      gd_ (bi_ x2 4) <|
      ff_X0_giveTo_17 x0 x1 n9 (x2 + (1 : Int32)) (hh_sI h (x1 + 14 + Int32.toNatClampNeg x2) (Int32.toNatClampNeg (1 : Int32)) (h.1 (x0 + 2) (Int32.toNatClampNeg x2)))
def ff_X0_giveTo (o : Nat) (a1 : Nat) (h : hh_) : Option (hh_) :=
  gd_ (bc_ (0 : Int32) (0 : Int32) (40 : Int32) 40 40) <|
  ff_X0_giveTo_17 o a1 FU_ (0 : Int32) (hh_cp h (o + 1) (a1 + 24) (Int32.toNatClampNeg (0 : Int32)) (Int32.toNatClampNeg (0 : Int32)) (Int32.toNatClampNeg (40 : Int32)))
def ff_X7_on (a1 : Int32) (h : hh_) : Option (Int32 × hh_) :=
  if (ff_X7_isKeptPlace a1) = 0 then
    some ((-1 : Int32), h)
  else
    gd_ (bi_ a1 3) <|
    if (h.1 (89 + 3 * Int32.toNatClampNeg a1) 2) = (-1 : Int32) then
      (ff_X6_refuse (1 : Int32) h).bind fun v6 =>
      some (v6.1, v6.2)
    else
      gd_ (bo_ h.2.2.1) <|
      (ff_X0_giveTo (89 + 3 * Int32.toNatClampNeg a1) h.2.2.1 h).bind fun v3 =>
      gd_ (bo_ v3.2.2.1) <|
      some ((v3.1 v3.2.2.1 6), v3)
def ff_X7_reads (a1 : Int32) (a2 : Int32) (a3 : Int32) (h : hh_) : Option (Int32 × hh_) :=
  gd_ (bo_ h.2.2.1) <|
  (ff_X2_has h.2.2.1 (1 : Int32) a1 h).bind fun v2 =>
  if v2 = 0 then
    some ((-1 : Int32), h)
  else
    (ff_X2_has h.2.2.1 (0 : Int32) a2 h).bind fun v4 =>
    if v4 = 0 then
      some ((-1 : Int32), h)
    else
      if (ff_X7_isPlace a3) = 0 then
        some ((-1 : Int32), h)
      else
        (ff_X2_most h.2.2.1 a1 a2 a3 (0 : Int32) h).bind fun v6 =>
        gd_ (bo_ (ff_X6_tell v6 h).2.2.2.1) <|
        (ff_X2_least ((ff_X6_tell v6 h).2.2.2.1) a1 a2 a3 (0 : Int32) (ff_X6_tell v6 h).2).bind fun v9 =>
        some (v9, (ff_X6_tell v6 h).2)
def ff_X7_findingOfReading_30 (x1 : Int32) (h : hh_) : Nat → Int32 → Option (Int32)
  | 0, _ => none
  | n9 + 1, x2 =>
    if (4 : Int32) ≤ x2 then
      some (0 : Int32)
    else
      gd_ (bi_ x1 6) <|
      gd_ (bi_ x2 40) <|
      if (h.1 (4 + Int32.toNatClampNeg x1) (Int32.toNatClampNeg x2)) < 0 then
        some (3 : Int32)
      else
        if (h.1 (4 + Int32.toNatClampNeg x1) (Int32.toNatClampNeg x2)) ≤ (9 : Int32) then
          ff_X7_findingOfReading_30 x1 h n9 (x2 + (1 : Int32))
        else
          some (3 : Int32)
def ff_X7_findingOfReading (a1 : Int32) (h : hh_) : Option (Int32) :=
  (ff_X5r_lacks a1 h).bind fun v1 =>
  if v1 = 0 then
    gd_ (bi_ a1 6) <|
    if (h.1 10 (Int32.toNatClampNeg a1)) = (4 : Int32) then
      ff_X7_findingOfReading_30 a1 h FU_ (0 : Int32)
    else
      some (5 : Int32)
  else
    some (1 : Int32)
def ff_X2_canRead_3 (x0 : Nat) (x1 : Int32) (x2 : Int32) (x3 : Nat) (h : hh_) : Nat → Int32 → Option (Int32)
  | 0, _ => none
  | n9 + 1, x4 =>
    if (4 : Int32) ≤ x4 then
      some (1 : Int32)
    else
      gd_ (bp_ x3 x4) <|
      (ff_X2_least x0 x1 x2 x4 (0 : Int32) h).bind fun v2 =>
      if (h.1 x3 (Int32.toNatClampNeg x4)) < v2 then
        some (0 : Int32)
      else
        (ff_X2_most x0 x1 x2 x4 (0 : Int32) h).bind fun v4 =>
        if (h.1 x3 (Int32.toNatClampNeg x4)) ≤ v4 then
          ff_X2_canRead_3 x0 x1 x2 x3 h n9 (x4 + (1 : Int32))
        else
          some (0 : Int32)
def ff_X2_canRead (o : Nat) (a1 : Int32) (a2 : Int32) (a3 : Nat) (h : hh_) : Option (Int32) :=
  ff_X2_canRead_3 o a1 a2 a3 h FU_ (0 : Int32)
def ff_X7_fits (a1 : Int32) (a2 : Int32) (a3 : Int32) (h : hh_) : Option (Int32 × hh_) :=
  gd_ (bo_ h.2.2.1) <|
  (ff_X2_has h.2.2.1 (1 : Int32) a1 h).bind fun v2 =>
  if v2 = 0 then
    some ((-1 : Int32), h)
  else
    (ff_X2_has h.2.2.1 (0 : Int32) a2 h).bind fun v4 =>
    if v4 = 0 then
      some ((-1 : Int32), h)
    else
      if (ff_X5r_allows a3 h) = 0 then
        some ((-1 : Int32), h)
      else
        (ff_X7_findingOfReading a3 h).bind fun v6 =>
        if v6 = 0 then
          gd_ (bi_ a3 6) <|
          (ff_X2_canRead h.2.2.1 a1 a2 (4 + Int32.toNatClampNeg a3) h).bind fun v9 =>
          if v9 = 0 then
            some ((0 : Int32), h)
          else
            some ((1 : Int32), h)
        else
          (ff_X6_refuse v6 h).bind fun v11 =>
          some (v11.1, v11.2)
def ff_X2_headsThatFit_5 (x0 : Nat) (x1 : Int32) (x2 : Nat) (h : hh_) : Nat → Int32 → Int32 → Option (Int32)
  | 0, _, _ => none
  | n9 + 1, x3, x4 =>
    if (h.1 (x0 + 23) (Int32.toNatClampNeg (0 : Int32))) ≤ x4 then
      some (x3)
    else
      (ff_X2_canRead x0 x1 x4 x2 h).bind fun v1 =>
      if v1 = 0 then
        ff_X2_headsThatFit_5 x0 x1 x2 h n9 x3 (x4 + (1 : Int32))
      else
        ff_X2_headsThatFit_5 x0 x1 x2 h n9 (x3 ||| ((1 : Int32) <<< (x4 &&& 31))) (x4 + (1 : Int32))
def ff_X2_headsThatFit (o : Nat) (a1 : Int32) (a2 : Nat) (h : hh_) : Option (Int32) :=
  ff_X2_headsThatFit_5 o a1 a2 h FU_ (0 : Int32) (0 : Int32)
def ff_X7_whose_50 (x1 : Int32) (x2 : Int32) (h : hh_) (K50_93 : Int32 → Option (Int32 × hh_)) : Nat → Int32 → Int32 → Option (Int32 × hh_)
  | 0, _, _ => none
  | n9 + 1, x4, x5 =>
    gd_ (bo_ h.2.2.1) <|
    if (h.1 (h.2.2.1 + 23) (Int32.toNatClampNeg (1 : Int32))) ≤ x5 then
      K50_93 x4
    else
      gd_ (bi_ x2 6) <|
      (ff_X2_headsThatFit h.2.2.1 x5 (4 + Int32.toNatClampNeg x2) h).bind fun v8 =>
      ff_X7_whose_50 x1 x2 h K50_93 n9 (x4 ||| v8) (x5 + (1 : Int32))
def ff_X7_whose (a1 : Int32) (a2 : Int32) (h : hh_) : Option (Int32 × hh_) :=
  gd_ (bo_ h.2.2.1) <|
  (ff_X2_has h.2.2.1 (1 : Int32) a1 h).bind fun v2 =>
  if v2 = 0 then
    some ((-1 : Int32), h)
  else
    if (ff_X5r_allows a2 h) = 0 then
      some ((-1 : Int32), h)
    else
      (ff_X7_findingOfReading a2 h).bind fun v4 =>
      if v4 = 0 then
        ff_X7_whose_50 a1 a2 h (fun u10 =>
          gd_ (bo_ (ff_X6_tell u10 h).2.2.2.1) <|
          gd_ (bi_ a2 6) <|
          (ff_X2_headsThatFit ((ff_X6_tell u10 h).2.2.2.1) a1 (4 + Int32.toNatClampNeg a2) (ff_X6_tell u10 h).2).bind fun v13 =>
          some (v13, (ff_X6_tell u10 h).2)) FU_ (0 : Int32) (0 : Int32)
      else
        (ff_X6_refuse v4 h).bind fun v15 =>
        some (v15.1, v15.2)
def ff_X7_who_50 (x1 : Int32) (x2 : Int32) (h : hh_) : Nat → Int32 → Int32 → Option (Int32 × hh_)
  | 0, _, _ => none
  | n9 + 1, x4, x5 =>
    gd_ (bo_ h.2.2.1) <|
    if (h.1 (h.2.2.1 + 23) (Int32.toNatClampNeg (1 : Int32))) ≤ x5 then
      some (x4, h)
    else
      gd_ (bi_ x2 6) <|
      (ff_X2_canRead h.2.2.1 x5 x1 (4 + Int32.toNatClampNeg x2) h).bind fun v8 =>
      if v8 = 0 then
        ff_X7_who_50 x1 x2 h n9 x4 (x5 + (1 : Int32))
      else
        ff_X7_who_50 x1 x2 h n9 (x4 ||| ((1 : Int32) <<< (x5 &&& 31))) (x5 + (1 : Int32))
def ff_X7_who (a1 : Int32) (a2 : Int32) (h : hh_) : Option (Int32 × hh_) :=
  gd_ (bo_ h.2.2.1) <|
  (ff_X2_has h.2.2.1 (0 : Int32) a1 h).bind fun v2 =>
  if v2 = 0 then
    some ((-1 : Int32), h)
  else
    if (ff_X5r_allows a2 h) = 0 then
      some ((-1 : Int32), h)
    else
      (ff_X7_findingOfReading a2 h).bind fun v4 =>
      if v4 = 0 then
        ff_X7_who_50 a1 a2 h FU_ (0 : Int32) (0 : Int32)
      else
        (ff_X6_refuse v4 h).bind fun v10 =>
        some (v10.1, v10.2)
def ff_X2_ways (o : Nat) (a1 : Int32) (a2 : Int32) (a3 : Int32) (h : hh_) : Option (Int32) :=
  (ff_X2_most o a1 a2 a3 (0 : Int32) h).bind fun v1 =>
  (ff_X2_least o a1 a2 a3 (0 : Int32) h).bind fun v3 =>
  some (if (1 : Int32) < ((v1 - v3) + (1 : Int32)) then ((v1 - v3) + (1 : Int32)) else (1 : Int32))
def ff_X2_weight_46 (x0 : Nat) (x1 : Int32) (x2 : Int32) (x3 : Int32) (x6 : Int32) (h : hh_) (K46_73 : Int64 → Option (Int64)) : Nat → Int64 → Int32 → Option (Int64)
  | 0, _, _ => none
  | n9 + 1, x4, x7 =>
    if (4 : Int32) ≤ x7 then
      K46_73 x4
    else
      (ff_X2_ways x0 x1 x6 x7 h).bind fun v1 =>
      ff_X2_weight_46 x0 x1 x2 x3 x6 h K46_73 n9 (x4 * (Int32.toInt64 v1)) (x7 + (1 : Int32))
def ff_X2_weight_16 (x0 : Nat) (x1 : Int32) (x2 : Int32) (x3 : Int32) (h : hh_) : Nat → Int64 → Int32 → Option (Int64)
  | 0, _, _ => none
  | n9 + 1, x4, x6 =>
    if (h.1 (x0 + 23) (Int32.toNatClampNeg (0 : Int32))) ≤ x6 then
      some (x4)
    else
      if x6 = x2 then
        ff_X2_weight_16 x0 x1 x2 x3 h n9 x4 (x6 + (1 : Int32))
      else
        if ((x3 >>> (x6 &&& 31)) &&& (1 : Int32)) = (1 : Int32) then
          ff_X2_weight_46 x0 x1 x2 x3 x6 h (fun u3 =>
            ff_X2_weight_16 x0 x1 x2 x3 h n9 u3 (x6 + (1 : Int32))) FU_ x4 (0 : Int32)
        else
          ff_X2_weight_16 x0 x1 x2 x3 h n9 x4 (x6 + (1 : Int32))
def ff_X2_weight (o : Nat) (a1 : Int32) (a2 : Int32) (a3 : Int32) (h : hh_) : Option (Int64) :=
  if ((a3 >>> (a2 &&& 31)) &&& (1 : Int32)) = 0 then
    some (0 : Int64)
  else
    ff_X2_weight_16 o a1 a2 a3 h FU_ (1 : Int64) (0 : Int32)
def ff_X6_commonDivisor_3 : Nat → Int64 → Int64 → Int32 → Option (Int64)
  | 0, _, _, _ => none
  | n9 + 1, x0, x2, x4 =>
    if (100 : Int32) ≤ x4 then
      some (x0)
    else
      if (lg_cmp x2 (0 : Int64)) = 0 then
        some (x0)
      else
        gd_ (bm_ x2) <|
        ff_X6_commonDivisor_3 n9 x2 (x0 - x0 / x2 * x2) (x4 + (1 : Int32))
def ff_X6_commonDivisor (a0 : Int64) (a2 : Int64) : Option (Int64) :=
  ff_X6_commonDivisor_3 FU_ a0 a2 (0 : Int32)
def ff_X6_tellFraction (a1 : Int64) (a3 : Int64) (h : hh_) : Option (Int32 × hh_) :=
  (ff_X6_commonDivisor a1 a3).bind fun v1 =>
  if (lg_cmp v1 (0 : Int64)) = 0 then
    some ((1 : Int32), h)
  else
    gd_ (bm_ v1) <|
    some ((1 : Int32), (hh_sL (hh_sL h 36 3 (a1 / v1)) 36 4 (a3 / v1)))
def ff_X7_odds_98 (x1 : Int32) (x2 : Int32) (x5 : Int32) (h : hh_) : Nat → Int64 → Int32 → Option (Int32 × hh_)
  | 0, _, _ => none
  | n9 + 1, x6, x8 =>
    gd_ (bo_ h.2.2.1) <|
    if (h.1 (h.2.2.1 + 23) (Int32.toNatClampNeg (0 : Int32))) ≤ x8 then
      (ff_X2_weight h.2.2.1 x1 x2 x5 h).bind fun v12 =>
      (ff_X6_tellFraction v12 x6 h).bind fun v14 =>
      some (v14.1, v14.2)
    else
      (ff_X2_weight h.2.2.1 x1 x8 x5 h).bind fun v16 =>
      ff_X7_odds_98 x1 x2 x5 h n9 (x6 + v16) (x8 + (1 : Int32))
def ff_X7_odds (a1 : Int32) (a2 : Int32) (a3 : Int32) (h : hh_) : Option (Int32 × hh_) :=
  gd_ (bo_ h.2.2.1) <|
  (ff_X2_has h.2.2.1 (1 : Int32) a1 h).bind fun v2 =>
  if v2 = 0 then
    some ((-1 : Int32), h)
  else
    (ff_X2_has h.2.2.1 (0 : Int32) a2 h).bind fun v4 =>
    if v4 = 0 then
      some ((-1 : Int32), h)
    else
      if (ff_X5r_allows a3 h) = 0 then
        some ((-1 : Int32), h)
      else
        (ff_X7_findingOfReading a3 h).bind fun v6 =>
        if v6 = 0 then
          gd_ (bi_ a3 6) <|
          (ff_X2_headsThatFit h.2.2.1 a1 (4 + Int32.toNatClampNeg a3) h).bind fun v9 =>
          if v9 = 0 then
            (ff_X6_refuse (4 : Int32) h).bind fun v18 =>
            some (v18.1, v18.2)
          else
            ff_X7_odds_98 a1 a2 v9 h FU_ (0 : Int64) (0 : Int32)
        else
          (ff_X6_refuse v6 h).bind fun v20 =>
          some (v20.1, v20.2)
def ff_X2_isApart (o : Nat) (a1 : Int32) (a2 : Int32) (a3 : Int32) (a4 : Int32) (h : hh_) : Option (Int32) :=
  (ff_X2_least o a1 a2 a4 (0 : Int32) h).bind fun v1 =>
  (ff_X2_most o a1 a3 a4 (0 : Int32) h).bind fun v3 =>
  if v3 < v1 then
    some (1 : Int32)
  else
    (ff_X2_least o a1 a3 a4 (0 : Int32) h).bind fun v5 =>
    (ff_X2_most o a1 a2 a4 (0 : Int32) h).bind fun v7 =>
    if v5 ≤ v7 then
      some (0 : Int32)
    else
      some (1 : Int32)
def ff_X2_pairsApart_19 (x0 : Nat) (x1 : Int32) (x2 : Int32) (x4 : Int32) (h : hh_) (K19_53 : Int32 → Option (Int32)) : Nat → Int32 → Int32 → Option (Int32)
  | 0, _, _ => none
  | n9 + 1, x3, x5 =>
    if x4 ≤ x5 then
      K19_53 x3
    else
      (ff_X2_isApart x0 x1 x4 x5 x2 h).bind fun v1 =>
      if v1 = 0 then
        ff_X2_pairsApart_19 x0 x1 x2 x4 h K19_53 n9 (x3 + (0 : Int32)) (x5 + (1 : Int32))
      else
        ff_X2_pairsApart_19 x0 x1 x2 x4 h K19_53 n9 (x3 + (1 : Int32)) (x5 + (1 : Int32))
def ff_X2_pairsApart_5 (x0 : Nat) (x1 : Int32) (x2 : Int32) (h : hh_) : Nat → Int32 → Int32 → Option (Int32)
  | 0, _, _ => none
  | n9 + 1, x3, x4 =>
    if (h.1 (x0 + 23) (Int32.toNatClampNeg (0 : Int32))) ≤ x4 then
      some (x3)
    else
      ff_X2_pairsApart_19 x0 x1 x2 x4 h (fun u3 =>
        ff_X2_pairsApart_5 x0 x1 x2 h n9 u3 (x4 + (1 : Int32))) FU_ x3 (0 : Int32)
def ff_X2_pairsApart (o : Nat) (a1 : Int32) (a2 : Int32) (h : hh_) : Option (Int32) :=
  ff_X2_pairsApart_5 o a1 a2 h FU_ (0 : Int32) (0 : Int32)
def ff_X7_look_21 (x1 : Int32) (h : hh_) : Nat → Int32 → Int32 → Int32 → Option (Int32 × hh_)
  | 0, _, _, _ => none
  | n9 + 1, x2, x3, x4 =>
    if (4 : Int32) ≤ x4 then
      some (x2, (ff_X6_tell x3 h).2)
    else
      gd_ (bo_ h.2.2.1) <|
      (ff_X2_pairsApart h.2.2.1 x1 x4 h).bind fun v5 =>
      if v5 ≤ x3 then
        ff_X7_look_21 x1 h n9 x2 x3 (x4 + (1 : Int32))
      else
        ff_X7_look_21 x1 h n9 x4 v5 (x4 + (1 : Int32))
def ff_X7_look (a1 : Int32) (h : hh_) : Option (Int32 × hh_) :=
  gd_ (bo_ h.2.2.1) <|
  (ff_X2_has h.2.2.1 (1 : Int32) a1 h).bind fun v2 =>
  if v2 = 0 then
    some ((-1 : Int32), h)
  else
    ff_X7_look_21 a1 h FU_ (0 : Int32) (-1 : Int32) (0 : Int32)
def ff_X2_maySeem_3 (x0 : Nat) (x1 : Int32) (x2 : Int32) (x3 : Int32) (h : hh_) : Nat → Int32 → Option (Int32)
  | 0, _ => none
  | n9 + 1, x4 =>
    if (4 : Int32) ≤ x4 then
      some (1 : Int32)
    else
      (ff_X2_isApart x0 x1 x2 x3 x4 h).bind fun v1 =>
      if v1 = 0 then
        ff_X2_maySeem_3 x0 x1 x2 x3 h n9 (x4 + (1 : Int32))
      else
        some (0 : Int32)
def ff_X2_maySeem (o : Nat) (a1 : Int32) (a2 : Int32) (a3 : Int32) (h : hh_) : Option (Int32) :=
  ff_X2_maySeem_3 o a1 a2 a3 h FU_ (0 : Int32)
def ff_X7_alike_31 (x1 : Int32) (x2 : Int32) (h : hh_) : Nat → Int32 → Int32 → Option (Int32)
  | 0, _, _ => none
  | n9 + 1, x3, x4 =>
    gd_ (bo_ h.2.2.1) <|
    if (h.1 (h.2.2.1 + 23) (Int32.toNatClampNeg (0 : Int32))) ≤ x4 then
      some (x3)
    else
      (ff_X2_maySeem h.2.2.1 x1 x2 x4 h).bind fun v7 =>
      if v7 = 0 then
        ff_X7_alike_31 x1 x2 h n9 x3 (x4 + (1 : Int32))
      else
        ff_X7_alike_31 x1 x2 h n9 (x3 ||| ((1 : Int32) <<< (x4 &&& 31))) (x4 + (1 : Int32))
def ff_X7_alike (a1 : Int32) (a2 : Int32) (h : hh_) : Option (Int32) :=
  gd_ (bo_ h.2.2.1) <|
  (ff_X2_has h.2.2.1 (1 : Int32) a1 h).bind fun v2 =>
  if v2 = 0 then
    some (-1 : Int32)
  else
    (ff_X2_has h.2.2.1 (0 : Int32) a2 h).bind fun v4 =>
    if v4 = 0 then
      some (-1 : Int32)
    else
      ff_X7_alike_31 a1 a2 h FU_ (0 : Int32) (0 : Int32)
def ff_X2_isSure_26 (x0 : Nat) (x1 : Int32) (x2 : Int32) (x3 : Int32) (x4 : Int32) (x5 : Int32) (y1 : Int32) (y2 : Int32) (y3 : Int32) (y4 : Int32) (h : hh_) (K26_3 : Int32 → Option (Int32)) : Option (Int32) :=
  (ff_X2_least x0 y1 y2 y3 y4 h).bind fun v1 =>
  gd_ (bi_ x3 4) <|
  gd_ (bi_ x5 5) <|
  if (h.1 (x0 + 19 + Int32.toNatClampNeg x3) (Int32.toNatClampNeg x5)) ≤ v1 then
    K26_3 (x5 + (1 : Int32))
  else
    some (0 : Int32)
def ff_X2_isSure_3 (x0 : Nat) (x1 : Int32) (x2 : Int32) (x3 : Int32) (x4 : Int32) (h : hh_) : Nat → Int32 → Option (Int32)
  | 0, _ => none
  | n9 + 1, x5 =>
    if (4 : Int32) ≤ x5 then
      some (1 : Int32)
    else
      if x5 = x4 then
        ff_X2_isSure_26 x0 x1 x2 x3 x4 x5 x1 x2 x5 (1 : Int32) h (fun z5 => ff_X2_isSure_3 x0 x1 x2 x3 x4 h n9 z5)
      else
        ff_X2_isSure_26 x0 x1 x2 x3 x4 x5 x1 x2 x5 (0 : Int32) h (fun z5 => ff_X2_isSure_3 x0 x1 x2 x3 x4 h n9 z5)
def ff_X2_isSure (o : Nat) (a1 : Int32) (a2 : Int32) (a3 : Int32) (a4 : Int32) (h : hh_) : Option (Int32) :=
  ff_X2_isSure_3 o a1 a2 a3 a4 h FU_ (0 : Int32)
def ff_X2_isLucky_3 (x0 : Nat) (x1 : Int32) (x2 : Int32) (x3 : Int32) (h : hh_) : Nat → Int32 → Option (Int32)
  | 0, _ => none
  | n9 + 1, x4 =>
    if (4 : Int32) ≤ x4 then
      some (1 : Int32)
    else
      (ff_X2_most x0 x1 x2 x4 (0 : Int32) h).bind fun v1 =>
      gd_ (bi_ x3 4) <|
      gd_ (bi_ x4 5) <|
      if (h.1 (x0 + 19 + Int32.toNatClampNeg x3) (Int32.toNatClampNeg x4)) ≤ v1 then
        ff_X2_isLucky_3 x0 x1 x2 x3 h n9 (x4 + (1 : Int32))
      else
        some (0 : Int32)
def ff_X2_isLucky (o : Nat) (a1 : Int32) (a2 : Int32) (a3 : Int32) (h : hh_) : Option (Int32) :=
  ff_X2_isLucky_3 o a1 a2 a3 h FU_ (0 : Int32)
def ff_X7_suits (a1 : Int32) (a2 : Int32) (a3 : Int32) (h : hh_) : Option (Int32) :=
  gd_ (bo_ h.2.2.1) <|
  (ff_X2_has h.2.2.1 (1 : Int32) a1 h).bind fun v2 =>
  if v2 = 0 then
    some (-1 : Int32)
  else
    (ff_X2_has h.2.2.1 (0 : Int32) a2 h).bind fun v4 =>
    if v4 = 0 then
      some (-1 : Int32)
    else
      (ff_X2_has h.2.2.1 (2 : Int32) a3 h).bind fun v6 =>
      if v6 = 0 then
        some (-1 : Int32)
      else
        (ff_X2_isSure h.2.2.1 a1 a2 a3 (-9 : Int32) h).bind fun v8 =>
        if v8 = 0 then
          (ff_X2_isLucky h.2.2.1 a1 a2 a3 h).bind fun v10 =>
          if v10 = 0 then
            some (0 : Int32)
          else
            some (1 : Int32)
        else
          some (2 : Int32)
def ff_X7_luck_47 (x1 : Int32) (x2 : Int32) (x3 : Int32) (h : hh_) : Nat → Int64 → Int64 → Int32 → Option (Int32 × hh_)
  | 0, _, _, _ => none
  | n9 + 1, x4, x6, x8 =>
    if (4 : Int32) ≤ x8 then
      (ff_X6_tellFraction x4 x6 h).bind fun v8 =>
      some (v8.1, v8.2)
    else
      gd_ (bo_ h.2.2.1) <|
      (ff_X2_least h.2.2.1 x1 x2 x8 (0 : Int32) h).bind fun v11 =>
      (ff_X2_most h.2.2.1 x1 x2 x8 (0 : Int32) h).bind fun v13 =>
      gd_ (bi_ x3 4) <|
      gd_ (bi_ x8 5) <|
      (ff_X2_ways h.2.2.1 x1 x2 x8 h).bind fun v17 =>
      ff_X7_luck_47 x1 x2 x3 h n9 (x4 * (Int32.toInt64 (if (0 : Int32) < ((v13 - (if v11 < (h.1 (h.2.2.1 + 19 + Int32.toNatClampNeg x3) (Int32.toNatClampNeg x8)) then (h.1 (h.2.2.1 + 19 + Int32.toNatClampNeg x3) (Int32.toNatClampNeg x8)) else v11)) + (1 : Int32)) then ((v13 - (if v11 < (h.1 (h.2.2.1 + 19 + Int32.toNatClampNeg x3) (Int32.toNatClampNeg x8)) then (h.1 (h.2.2.1 + 19 + Int32.toNatClampNeg x3) (Int32.toNatClampNeg x8)) else v11)) + (1 : Int32)) else (0 : Int32)))) (x6 * (Int32.toInt64 v17)) (x8 + (1 : Int32))
def ff_X7_luck (a1 : Int32) (a2 : Int32) (a3 : Int32) (h : hh_) : Option (Int32 × hh_) :=
  gd_ (bo_ h.2.2.1) <|
  (ff_X2_has h.2.2.1 (1 : Int32) a1 h).bind fun v2 =>
  if v2 = 0 then
    some ((-1 : Int32), h)
  else
    (ff_X2_has h.2.2.1 (0 : Int32) a2 h).bind fun v4 =>
    if v4 = 0 then
      some ((-1 : Int32), h)
    else
      (ff_X2_has h.2.2.1 (2 : Int32) a3 h).bind fun v6 =>
      if v6 = 0 then
        some ((-1 : Int32), h)
      else
        ff_X7_luck_47 a1 a2 a3 h FU_ (1 : Int64) (1 : Int64) (0 : Int32)
def ff_X2_fewestPads_3 (x0 : Nat) (x1 : Int32) (x2 : Int32) (x3 : Int32) (x4 : Int32) (h : hh_) : Nat → Int32 → Option (Int32)
  | 0, _ => none
  | n9 + 1, x5 =>
    gd_ (bi_ x2 5) <|
    gd_ (bi_ x4 5) <|
    if (5 : Int32) < ((h.1 (x0 + 8 + Int32.toNatClampNeg x2) (Int32.toNatClampNeg x4)) + x5) then
      some (-9 : Int32)
    else
      (ff_X2_least x0 x1 x2 x4 x5 h).bind fun v3 =>
      gd_ (bi_ x3 4) <|
      if v3 < (h.1 (x0 + 19 + Int32.toNatClampNeg x3) (Int32.toNatClampNeg x4)) then
        ff_X2_fewestPads_3 x0 x1 x2 x3 x4 h n9 (x5 + (1 : Int32))
      else
        some (x5)
def ff_X2_fewestPads (o : Nat) (a1 : Int32) (a2 : Int32) (a3 : Int32) (a4 : Int32) (h : hh_) : Option (Int32) :=
  ff_X2_fewestPads_3 o a1 a2 a3 a4 h FU_ (0 : Int32)
def ff_X7_pads_56 (x1 : Int32) (x2 : Int32) (x3 : Int32) (x4 : Int32) (h : hh_) (K56_99 : Int32 → Option (Int32 × hh_)) : Nat → Int32 → Int32 → Option (Int32 × hh_)
  | 0, _, _ => none
  | n9 + 1, x5, x6 =>
    if (4 : Int32) ≤ x6 then
      K56_99 x5
    else
      gd_ (bo_ h.2.2.1) <|
      (ff_X2_fewestPads h.2.2.1 x1 x2 x3 x6 h).bind fun v9 =>
      if v9 = (-9 : Int32) then
        some ((-9 : Int32), h)
      else
        ff_X7_pads_56 x1 x2 x3 x4 h K56_99 n9 (x5 + v9) (x6 + (1 : Int32))
def ff_X7_pads_113 (x1 : Int32) (x2 : Int32) (x3 : Int32) (x4 : Int32) (x5 : Int32) : Nat → Int32 → hh_ → Option (Int32 × hh_)
  | 0, _, _ => none
  | n9 + 1, x6, h =>
    if (4 : Int32) ≤ x6 then
      some (x5, h)
    else
      gd_ (bi_ x4 6) <|
      gd_ (bo_ h.2.2.1) <|
      (ff_X2_fewestPads h.2.2.1 x1 x2 x3 x6 h).bind fun v16 =>
      gd_ (bi_ x6 40) <|
      ff_X7_pads_113 x1 x2 x3 x4 x5 n9 (x6 + (1 : Int32)) (hh_sI h (4 + Int32.toNatClampNeg x4) (Int32.toNatClampNeg x6) v16)
def ff_X7_pads (a1 : Int32) (a2 : Int32) (a3 : Int32) (a4 : Int32) (h : hh_) : Option (Int32 × hh_) :=
  gd_ (bo_ h.2.2.1) <|
  (ff_X2_has h.2.2.1 (1 : Int32) a1 h).bind fun v2 =>
  if v2 = 0 then
    some ((-1 : Int32), h)
  else
    (ff_X2_has h.2.2.1 (0 : Int32) a2 h).bind fun v4 =>
    if v4 = 0 then
      some ((-1 : Int32), h)
    else
      (ff_X2_has h.2.2.1 (2 : Int32) a3 h).bind fun v6 =>
      if v6 = 0 then
        some ((-1 : Int32), h)
      else
        if (ff_X5r_allows a4 h) = 0 then
          some ((-1 : Int32), h)
        else
          ff_X7_pads_56 a1 a2 a3 a4 h (fun u11 =>
            (ff_X5r_renew a4 (4 : Int32) (0 : Int32) h).bind fun v12 =>
            ff_X7_pads_113 a1 a2 a3 a4 u11 FU_ (0 : Int32) v12) FU_ (0 : Int32) (0 : Int32)
def ff_X7_all_58 (x1 : Int32) (x2 : Int32) (x3 : Int32) (x4 : Int32) (h : hh_) (K58_112 : Int32 → Option (Int32)) : Nat → Int32 → Int32 → Option (Int32)
  | 0, _, _ => none
  | n9 + 1, x5, x6 =>
    gd_ (bo_ h.2.2.1) <|
    if (h.1 (h.2.2.1 + 23) (Int32.toNatClampNeg (1 : Int32))) ≤ x6 then
      K58_112 x5
    else
      (ff_X2_fewestPads h.2.2.1 x6 x1 x2 x4 h).bind fun v7 =>
      if v7 = (-9 : Int32) then
        some (-9 : Int32)
      else
        ff_X7_all_58 x1 x2 x3 x4 h K58_112 n9 (if x5 < v7 then v7 else x5) (x6 + (1 : Int32))
def ff_X7_all_46 (x1 : Int32) (x2 : Int32) (h : hh_) : Nat → Int32 → Int32 → Option (Int32)
  | 0, _, _ => none
  | n9 + 1, x3, x4 =>
    if (4 : Int32) ≤ x4 then
      some (x3)
    else
      ff_X7_all_58 x1 x2 x3 x4 h (fun u9 =>
        ff_X7_all_46 x1 x2 h n9 (x3 + u9) (x4 + (1 : Int32))) FU_ (0 : Int32) (0 : Int32)
def ff_X7_all (a1 : Int32) (a2 : Int32) (h : hh_) : Option (Int32) :=
  gd_ (bo_ h.2.2.1) <|
  (ff_X2_has h.2.2.1 (0 : Int32) a1 h).bind fun v2 =>
  if v2 = 0 then
    some (-1 : Int32)
  else
    (ff_X2_has h.2.2.1 (2 : Int32) a2 h).bind fun v4 =>
    if v4 = 0 then
      some (-1 : Int32)
    else
      if (h.1 (h.2.2.1 + 23) (Int32.toNatClampNeg (1 : Int32))) = 0 then
        some (-4 : Int32)
      else
        ff_X7_all_46 a1 a2 h FU_ (0 : Int32) (0 : Int32)
def ff_X7_finds_54 (x1 : Int32) (x2 : Int32) (x3 : Int32) (h : hh_) : Nat → Int32 → Option (Int32)
  | 0, _ => none
  | n9 + 1, x4 =>
    gd_ (bo_ h.2.2.1) <|
    if (h.1 (h.2.2.1 + 23) (Int32.toNatClampNeg (1 : Int32))) ≤ x4 then
      some (-9 : Int32)
    else
      if x4 = x1 then
        ff_X7_finds_54 x1 x2 x3 h n9 (x4 + (1 : Int32))
      else
        (ff_X2_least h.2.2.1 x4 x2 x3 (1 : Int32) h).bind fun v9 =>
        (ff_X2_most h.2.2.1 x4 x2 x3 (0 : Int32) h).bind fun v11 =>
        if v9 ≤ v11 then
          ff_X7_finds_54 x1 x2 x3 h n9 (x4 + (1 : Int32))
        else
          some (x4)
def ff_X7_finds (a1 : Int32) (a2 : Int32) (a3 : Int32) (h : hh_) : Option (Int32) :=
  gd_ (bo_ h.2.2.1) <|
  (ff_X2_has h.2.2.1 (1 : Int32) a1 h).bind fun v2 =>
  if v2 = 0 then
    some (-1 : Int32)
  else
    (ff_X2_has h.2.2.1 (0 : Int32) a2 h).bind fun v4 =>
    if v4 = 0 then
      some (-1 : Int32)
    else
      if (ff_X7_isPlace a3) = 0 then
        some (-1 : Int32)
      else
        gd_ (bi_ a2 5) <|
        gd_ (bi_ a3 5) <|
        if (h.1 (h.2.2.1 + 8 + Int32.toNatClampNeg a2) (Int32.toNatClampNeg a3)) < (5 : Int32) then
          ff_X7_finds_54 a1 a2 a3 h FU_ (0 : Int32)
        else
          some (-4 : Int32)
def ff_X2_surePosts_6 (x0 : Nat) (x1 : Int32) (x2 : Int32) (x3 : Int32) (h : hh_) : Nat → Int32 → Int32 → Option (Int32)
  | 0, _, _ => none
  | n9 + 1, x4, x5 =>
    if (h.1 (x0 + 23) (Int32.toNatClampNeg (2 : Int32))) ≤ x5 then
      some (x4)
    else
      (ff_X2_isSure x0 x1 x2 x5 x3 h).bind fun v1 =>
      if v1 = 0 then
        ff_X2_surePosts_6 x0 x1 x2 x3 h n9 x4 (x5 + (1 : Int32))
      else
        ff_X2_surePosts_6 x0 x1 x2 x3 h n9 (x4 ||| ((1 : Int32) <<< (x5 &&& 31))) (x5 + (1 : Int32))
def ff_X2_surePosts (o : Nat) (a1 : Int32) (a2 : Int32) (a3 : Int32) (h : hh_) : Option (Int32) :=
  ff_X2_surePosts_6 o a1 a2 a3 h FU_ (0 : Int32) (0 : Int32)
def ff_X7_posts_31 (x1 : Int32) (x2 : Int32) (h : hh_) : Nat → Int32 → Int32 → Option (Int32 × hh_)
  | 0, _, _ => none
  | n9 + 1, x3, x4 =>
    gd_ (bo_ h.2.2.1) <|
    if (h.1 (h.2.2.1 + 23) (Int32.toNatClampNeg (2 : Int32))) ≤ x4 then
      gd_ (bo_ (ff_X6_tell x3 h).2.2.2.1) <|
      (ff_X2_surePosts ((ff_X6_tell x3 h).2.2.2.1) x1 x2 (-9 : Int32) (ff_X6_tell x3 h).2).bind fun v8 =>
      some (v8, (ff_X6_tell x3 h).2)
    else
      (ff_X2_isLucky h.2.2.1 x1 x2 x4 h).bind fun v10 =>
      if v10 = 0 then
        ff_X7_posts_31 x1 x2 h n9 x3 (x4 + (1 : Int32))
      else
        ff_X7_posts_31 x1 x2 h n9 (x3 ||| ((1 : Int32) <<< (x4 &&& 31))) (x4 + (1 : Int32))
def ff_X7_posts (a1 : Int32) (a2 : Int32) (h : hh_) : Option (Int32 × hh_) :=
  gd_ (bo_ h.2.2.1) <|
  (ff_X2_has h.2.2.1 (1 : Int32) a1 h).bind fun v2 =>
  if v2 = 0 then
    some ((-1 : Int32), h)
  else
    (ff_X2_has h.2.2.1 (0 : Int32) a2 h).bind fun v4 =>
    if v4 = 0 then
      some ((-1 : Int32), h)
    else
      ff_X7_posts_31 a1 a2 h FU_ (0 : Int32) (0 : Int32)
def ff_X3_openByOne_2 (x1 : Nat) (x2 : Int32) : Nat → Int32 → hh_ → Option (hh_)
  | 0, _, _ => none
  | n9 + 1, x3, h =>
    if (h.1 (x1 + 23) (Int32.toNatClampNeg (0 : Int32))) ≤ x3 then
      some (h)
    else
      (ff_X2_surePosts x1 x2 x3 (-9 : Int32) h).bind fun v1 =>
      gd_ (bi_ x3 5) <|
      ff_X3_openByOne_2 x1 x2 n9 (x3 + (1 : Int32)) (hh_sI h 21 (Int32.toNatClampNeg x3) v1)
def ff_X3_openByOne (a1 : Nat) (a2 : Int32) (h : hh_) : Option (hh_) :=
  ff_X3_openByOne_2 a1 a2 FU_ (0 : Int32) h
def ff_X3_isFree (a1 : Int32) (a2 : Int32) (a3 : Int32) (h : hh_) : Option (Int32) :=
  gd_ (bi_ a1 5) <|
  if (((h.1 21 (Int32.toNatClampNeg a1)) &&& (a3 ^^^ (-1 : Int32))) &&& ((1 : Int32) <<< (a2 &&& 31))) = 0 then
    some (0 : Int32)
  else
    some (1 : Int32)
def ff_X3_payBy (a1 : Nat) (a2 : Int32) (a3 : Int32) (a4 : Int32) (h : hh_) : Option (Int32) :=
  gd_ (bi_ a3 4) <|
  gd_ (bi_ (a2 + (1 : Int32)) 6) <|
  gd_ (bi_ (a4 ||| ((1 : Int32) <<< (a3 &&& 31))) 16) <|
  some ((h.1 (a1 + 19 + Int32.toNatClampNeg a3) (Int32.toNatClampNeg (4 : Int32))) + (h.1 (23 + Int32.toNatClampNeg (a2 + (1 : Int32))) (Int32.toNatClampNeg (a4 ||| ((1 : Int32) <<< (a3 &&& 31))))))
def ff_X3_reckonFrom_39 (x1 : Nat) (x2 : Int32) (x3 : Int32) : Nat → Int32 → hh_ → Option (hh_)
  | 0, _, _ => none
  | n9 + 1, x4, h =>
    if (h.1 (x1 + 23) (Int32.toNatClampNeg (2 : Int32))) ≤ x4 then
      some (h)
    else
      (ff_X3_isFree x2 x4 x3 h).bind fun v4 =>
      if v4 = 0 then
        ff_X3_reckonFrom_39 x1 x2 x3 n9 (x4 + (1 : Int32)) h
      else
        gd_ (bi_ x2 6) <|
        gd_ (bi_ x3 16) <|
        (ff_X3_payBy x1 x2 x4 x3 h).bind fun v8 =>
        gd_ (bi_ (x2 + (1 : Int32)) 6) <|
        gd_ (bi_ (x3 ||| ((1 : Int32) <<< (x4 &&& 31))) 16) <|
        ff_X3_reckonFrom_39 x1 x2 x3 n9 (x4 + (1 : Int32)) (hh_sI (hh_sI h (23 + Int32.toNatClampNeg x2) (Int32.toNatClampNeg x3) (if (h.1 (23 + Int32.toNatClampNeg x2) (Int32.toNatClampNeg x3)) < v8 then v8 else (h.1 (23 + Int32.toNatClampNeg x2) (Int32.toNatClampNeg x3)))) (30 + Int32.toNatClampNeg x2) (Int32.toNatClampNeg x3) (((hh_sI h (23 + Int32.toNatClampNeg x2) (Int32.toNatClampNeg x3) (if (h.1 (23 + Int32.toNatClampNeg x2) (Int32.toNatClampNeg x3)) < v8 then v8 else (h.1 (23 + Int32.toNatClampNeg x2) (Int32.toNatClampNeg x3)))).1 (30 + Int32.toNatClampNeg x2) (Int32.toNatClampNeg x3)) + ((hh_sI h (23 + Int32.toNatClampNeg x2) (Int32.toNatClampNeg x3) (if (h.1 (23 + Int32.toNatClampNeg x2) (Int32.toNatClampNeg x3)) < v8 then v8 else (h.1 (23 + Int32.toNatClampNeg x2) (Int32.toNatClampNeg x3)))).1 (30 + Int32.toNatClampNeg (x2 + (1 : Int32))) (Int32.toNatClampNeg (x3 ||| ((1 : Int32) <<< (x4 &&& 31)))))))
def ff_X3_reckonFrom (a1 : Nat) (a2 : Int32) (a3 : Int32) (h : hh_) : Option (hh_) :=
  gd_ (bi_ a2 6) <|
  gd_ (bi_ (a2 + (1 : Int32)) 6) <|
  gd_ (bi_ a3 16) <|
  ff_X3_reckonFrom_39 a1 a2 a3 FU_ (0 : Int32) (hh_sI (hh_sI h (23 + Int32.toNatClampNeg a2) (Int32.toNatClampNeg a3) (h.1 (23 + Int32.toNatClampNeg (a2 + (1 : Int32))) (Int32.toNatClampNeg a3))) (30 + Int32.toNatClampNeg a2) (Int32.toNatClampNeg a3) ((hh_sI h (23 + Int32.toNatClampNeg a2) (Int32.toNatClampNeg a3) (h.1 (23 + Int32.toNatClampNeg (a2 + (1 : Int32))) (Int32.toNatClampNeg a3))).1 (30 + Int32.toNatClampNeg (a2 + (1 : Int32))) (Int32.toNatClampNeg a3)))
def ff_X3_reckon_19 (x1 : Nat) (x2 : Int32) (x3 : Int32) (K19_51 : hh_ → Option (hh_)) : Nat → Int32 → hh_ → Option (hh_)
  | 0, _, _ => none
  | n9 + 1, x4, h =>
    if x3 ≤ x4 then
      K19_51 h
    else
      gd_ (bi_ x2 6) <|
      gd_ (bi_ x4 16) <|
      ff_X3_reckon_19 x1 x2 x3 K19_51 n9 (x4 + (1 : Int32)) (hh_sI (hh_sI h (23 + Int32.toNatClampNeg x2) (Int32.toNatClampNeg x4) (0 : Int32)) (30 + Int32.toNatClampNeg x2) (Int32.toNatClampNeg x4) (1 : Int32))
def ff_X3_reckon_64 (x1 : Nat) (x3 : Int32) (x4 : Int32) (K64_85 : hh_ → Option (hh_)) : Nat → Int32 → hh_ → Option (hh_)
  | 0, _, _ => none
  | n9 + 1, x5, h =>
    if x3 ≤ x5 then
      K64_85 h
    else
      (ff_X3_reckonFrom x1 x4 x5 h).bind fun v4 =>
      ff_X3_reckon_64 x1 x3 x4 K64_85 n9 (x5 + (1 : Int32)) v4
def ff_X3_reckon_56 (x1 : Nat) (x3 : Int32) : Nat → Int32 → hh_ → Option (hh_)
  | 0, _, _ => none
  | n9 + 1, x4, h =>
    if x4 < 0 then
      some (h)
    else
      ff_X3_reckon_64 x1 x3 x4 (fun k6 =>
        ff_X3_reckon_56 x1 x3 n9 (x4 + (-1 : Int32)) k6) FU_ (0 : Int32) h
def ff_X3_reckon (a1 : Nat) (h : hh_) : Option (hh_) :=
  ff_X3_reckon_19 a1 (h.1 (a1 + 23) (Int32.toNatClampNeg (0 : Int32))) ((1 : Int32) <<< ((h.1 (a1 + 23) (Int32.toNatClampNeg (2 : Int32))) &&& 31)) (fun k3 =>
    ff_X3_reckon_56 a1 ((1 : Int32) <<< ((h.1 (a1 + 23) (Int32.toNatClampNeg (2 : Int32))) &&& 31)) FU_ ((h.1 (a1 + 23) (Int32.toNatClampNeg (0 : Int32))) - (1 : Int32)) k3) FU_ (0 : Int32) h
def ff_X3_bestPay (h : hh_) : Option (Int32) :=
  some (h.1 (23 + Int32.toNatClampNeg (0 : Int32)) (Int32.toNatClampNeg (0 : Int32)))
def ff_X3_bestPost_3 (x1 : Nat) (x2 : Int32) (x3 : Int32) (h : hh_) : Nat → Int32 → Option (Int32)
  | 0, _ => none
  | n9 + 1, x4 =>
    if (h.1 (x1 + 23) (Int32.toNatClampNeg (2 : Int32))) ≤ x4 then
      some (-9 : Int32)
    else
      (ff_X3_isFree x2 x4 x3 h).bind fun v1 =>
      if v1 = 0 then
        ff_X3_bestPost_3 x1 x2 x3 h n9 (x4 + (1 : Int32))
      else
        (ff_X3_payBy x1 x2 x4 x3 h).bind fun v3 =>
        gd_ (bi_ x2 6) <|
        gd_ (bi_ x3 16) <|
        if v3 = (h.1 (23 + Int32.toNatClampNeg x2) (Int32.toNatClampNeg x3)) then
          some (x4)
        else
          ff_X3_bestPost_3 x1 x2 x3 h n9 (x4 + (1 : Int32))
def ff_X3_bestPost (a1 : Nat) (a2 : Int32) (a3 : Int32) (h : hh_) : Option (Int32) :=
  ff_X3_bestPost_3 a1 a2 a3 h FU_ (0 : Int32)
def ff_X7_layBestPlan_26 (x1 : Int32) (x2 : Int32) : Nat → Int32 → Int32 → hh_ → Option (Int32 × hh_)
  | 0, _, _, _ => none
  | n9 + 1, x3, x4, h =>
    if x2 ≤ x4 then
      (ff_X3_bestPay h).bind fun v4 =>
      some (v4, h)
    else
      gd_ (bo_ h.2.2.1) <|
      (ff_X3_bestPost h.2.2.1 x4 x3 h).bind fun v7 =>
      if v7 = (-9 : Int32) then
        ff_X7_layBestPlan_26 x1 x2 n9 x3 (x4 + (1 : Int32)) h
      else
        gd_ (bi_ x1 6) <|
        gd_ (bi_ x4 40) <|
        ff_X7_layBestPlan_26 x1 x2 n9 (x3 ||| ((1 : Int32) <<< (v7 &&& 31))) (x4 + (1 : Int32)) (hh_sI h (4 + Int32.toNatClampNeg x1) (Int32.toNatClampNeg x4) v7)
def ff_X7_layBestPlan (a1 : Int32) (h : hh_) : Option (Int32 × hh_) :=
  gd_ (bo_ h.2.2.1) <|
  (ff_X5r_renew a1 (h.1 (h.2.2.1 + 23) (Int32.toNatClampNeg (0 : Int32))) (-9 : Int32) h).bind fun v2 =>
  ff_X7_layBestPlan_26 a1 (h.1 (h.2.2.1 + 23) (Int32.toNatClampNeg (0 : Int32))) FU_ (0 : Int32) (0 : Int32) v2
def ff_X7_plan (a1 : Int32) (a2 : Int32) (h : hh_) : Option (Int32 × hh_) :=
  gd_ (bo_ h.2.2.1) <|
  (ff_X2_has h.2.2.1 (1 : Int32) a1 h).bind fun v2 =>
  if v2 = 0 then
    some ((-1 : Int32), h)
  else
    if (ff_X5r_allows a2 h) = 0 then
      some ((-1 : Int32), h)
    else
      if (h.1 (h.2.2.1 + 23) (Int32.toNatClampNeg (0 : Int32))) = 0 then
        some ((-4 : Int32), h)
      else
        (ff_X3_openByOne h.2.2.1 a1 h).bind fun v4 =>
        gd_ (bo_ v4.2.2.1) <|
        (ff_X3_reckon v4.2.2.1 v4).bind fun v7 =>
        (ff_X7_layBestPlan a2 v7).bind fun v9 =>
        some (v9.1, v9.2)
def ff_X7_plans (a1 : Int32) (h : hh_) : Option (Int32 × hh_) :=
  gd_ (bo_ h.2.2.1) <|
  (ff_X2_has h.2.2.1 (1 : Int32) a1 h).bind fun v2 =>
  if v2 = 0 then
    some ((-1 : Int32), h)
  else
    (ff_X3_openByOne h.2.2.1 a1 h).bind fun v4 =>
    gd_ (bo_ v4.2.2.1) <|
    (ff_X3_reckon v4.2.2.1 v4).bind fun v7 =>
    (ff_X6_tellFraction (Int32.toInt64 (v7.1 (30 + Int32.toNatClampNeg (0 : Int32)) (Int32.toNatClampNeg (0 : Int32)))) (1 : Int64) v7).bind fun v9 =>
    some (v9.1, v9.2)
def ff_X3_openByAll_30 (x1 : Nat) (x2 : Int32) (K30_63 : hh_ → Option (hh_)) : Nat → Int32 → hh_ → Option (hh_)
  | 0, _, _ => none
  | n9 + 1, x3, h =>
    if (h.1 (x1 + 23) (Int32.toNatClampNeg (1 : Int32))) ≤ x3 then
      K30_63 h
    else
      gd_ (bi_ x2 5) <|
      (ff_X2_surePosts x1 x3 x2 (-9 : Int32) h).bind fun v3 =>
      ff_X3_openByAll_30 x1 x2 K30_63 n9 (x3 + (1 : Int32)) (hh_sI h 21 (Int32.toNatClampNeg x2) ((h.1 21 (Int32.toNatClampNeg x2)) &&& v3))
def ff_X3_openByAll_2 (x1 : Nat) : Nat → Int32 → hh_ → Option (hh_)
  | 0, _, _ => none
  | n9 + 1, x2, h =>
    if (h.1 (x1 + 23) (Int32.toNatClampNeg (0 : Int32))) ≤ x2 then
      some (h)
    else
      gd_ (bi_ x2 5) <|
      ff_X3_openByAll_30 x1 x2 (fun k5 =>
        ff_X3_openByAll_2 x1 n9 (x2 + (1 : Int32)) k5) FU_ (0 : Int32) (hh_sI h 21 (Int32.toNatClampNeg x2) (((1 : Int32) <<< ((h.1 (x1 + 23) (Int32.toNatClampNeg (2 : Int32))) &&& 31)) - (1 : Int32)))
def ff_X3_openByAll (a1 : Nat) (h : hh_) : Option (hh_) :=
  ff_X3_openByAll_2 a1 FU_ (0 : Int32) h
def ff_X7_safest (a1 : Int32) (h : hh_) : Option (Int32 × hh_) :=
  if (ff_X5r_allows a1 h) = 0 then
    some ((-1 : Int32), h)
  else
    gd_ (bo_ h.2.2.1) <|
    if (h.1 (h.2.2.1 + 23) (Int32.toNatClampNeg (0 : Int32))) = 0 then
      some ((-4 : Int32), h)
    else
      (ff_X3_openByAll h.2.2.1 h).bind fun v2 =>
      gd_ (bo_ v2.2.2.1) <|
      (ff_X3_reckon v2.2.2.1 v2).bind fun v5 =>
      (ff_X7_layBestPlan a1 v5).bind fun v7 =>
      some (v7.1, v7.2)
def ff_X7_gain_67 (x1 : Int32) (x2 : Int32) (x3 : Int32) (K67_155 : Int32 → Int32 → hh_ → Option (Int32 × hh_)) : Nat → Int32 → Int32 → Int32 → hh_ → Option (Int32 × hh_)
  | 0, _, _, _, _ => none
  | n9 + 1, x4, x5, x6, h =>
    if (4 : Int32) ≤ x6 then
      K67_155 x4 x5 h
    else
      gd_ (bo_ h.2.2.1) <|
      gd_ (bi_ x2 5) <|
      gd_ (bi_ x6 5) <|
      if (5 : Int32) ≤ (h.1 (h.2.2.1 + 8 + Int32.toNatClampNeg x2) (Int32.toNatClampNeg x6)) then
        ff_X7_gain_67 x1 x2 x3 K67_155 n9 x4 x5 (x6 + (1 : Int32)) h
      else
        (ff_X2_surePosts h.2.2.1 x1 x2 x6 h).bind fun v16 =>
        (ff_X3_reckon h.2.2.1 (hh_sI h 21 (Int32.toNatClampNeg x2) v16)).bind fun v18 =>
        (ff_X3_bestPay v18).bind fun v20 =>
        if (v20 - x3) ≤ x5 then
          ff_X7_gain_67 x1 x2 x3 K67_155 n9 x4 x5 (x6 + (1 : Int32)) v18
        else
          (ff_X3_bestPay v18).bind fun v22 =>
          ff_X7_gain_67 x1 x2 x3 K67_155 n9 x6 (v22 - x3) (x6 + (1 : Int32)) v18
def ff_X7_gain (a1 : Int32) (a2 : Int32) (h : hh_) : Option (Int32 × hh_) :=
  gd_ (bo_ h.2.2.1) <|
  (ff_X2_has h.2.2.1 (1 : Int32) a1 h).bind fun v2 =>
  if v2 = 0 then
    some ((-1 : Int32), h)
  else
    (ff_X2_has h.2.2.1 (0 : Int32) a2 h).bind fun v4 =>
    if v4 = 0 then
      some ((-1 : Int32), h)
    else
      (ff_X3_openByOne h.2.2.1 a1 h).bind fun v6 =>
      gd_ (bo_ v6.2.2.1) <|
      (ff_X3_reckon v6.2.2.1 v6).bind fun v9 =>
      (ff_X3_bestPay v9).bind fun v11 =>
      ff_X7_gain_67 a1 a2 v11 (fun u24 u25 k26 =>
        if u24 = (-9 : Int32) then
          some ((-9 : Int32), k26)
        else
          some (u25, (ff_X6_tell u24 k26).2)) FU_ (-9 : Int32) (0 : Int32) (0 : Int32) v9
def ff_X7_findingOfThrees_78 (x1 : Int32) (x2 : Nat) (x3 : Int32) (h : hh_) (K78_79 : Int32 → Option (Int32)) : Option (Int32) :=
  K78_79 (0 : Int32)
def ff_X7_findingOfThrees_79 (x1 : Int32) (x2 : Nat) (x3 : Int32) (y0 : Int32) (h : hh_) (K79_41 : Int32 → Option (Int32)) : Option (Int32) :=
  gd_ (bo_ h.2.2.1) <|
  gd_ (bi_ x3 40) <|
  (ff_X2_has h.2.2.1 (0 : Int32) (h.1 x2 (Int32.toNatClampNeg x3)) h).bind fun v9 =>
  if v9 = 0 then
    some (3 : Int32)
  else
    gd_ (bi_ (x3 + (1 : Int32)) 40) <|
    if (ff_X7_isPlace (h.1 x2 (Int32.toNatClampNeg (x3 + (1 : Int32))))) = 0 then
      some (3 : Int32)
    else
      if y0 = 0 then
        some (3 : Int32)
      else
        K79_41 (x3 + (3 : Int32))
def ff_X7_findingOfThrees_41 (x1 : Int32) (x2 : Nat) (h : hh_) : Nat → Int32 → Option (Int32)
  | 0, _ => none
  | n9 + 1, x3 =>
    gd_ (bi_ x1 6) <|
    if (h.1 10 (Int32.toNatClampNeg x1)) ≤ (x3 + (2 : Int32)) then
      some (0 : Int32)
    else
      gd_ (bi_ (x3 + (2 : Int32)) 40) <|
      if (h.1 x2 (Int32.toNatClampNeg (x3 + (2 : Int32)))) < 0 then
        ff_X7_findingOfThrees_78 x1 x2 x3 h (fun q6 =>
          ff_X7_findingOfThrees_79 x1 x2 x3 q6 h (fun z3 => ff_X7_findingOfThrees_41 x1 x2 h n9 z3))
      else
        if (9 : Int32) < (h.1 x2 (Int32.toNatClampNeg (x3 + (2 : Int32)))) then
          ff_X7_findingOfThrees_78 x1 x2 x3 h (fun q12 =>
            ff_X7_findingOfThrees_79 x1 x2 x3 q12 h (fun z3 => ff_X7_findingOfThrees_41 x1 x2 h n9 z3))
        else
          ff_X7_findingOfThrees_79 x1 x2 x3 (1 : Int32) h (fun z3 => ff_X7_findingOfThrees_41 x1 x2 h n9 z3)
def ff_X7_findingOfThrees (a1 : Int32) (h : hh_) : Option (Int32) :=
  (ff_X5r_lacks a1 h).bind fun v1 =>
  if v1 = 0 then
    gd_ (bi_ a1 6) <|
    if ((h.1 10 (Int32.toNatClampNeg a1)) - (h.1 10 (Int32.toNatClampNeg a1)) / (3 : Int32) * (3 : Int32)) = 0 then
      ff_X7_findingOfThrees_41 a1 (4 + Int32.toNatClampNeg a1) h FU_ (0 : Int32)
    else
      some (5 : Int32)
  else
    some (1 : Int32)
def ff_X7_threesFit_52 (x1 : Int32) (x2 : Int32) (x3 : Int32) (x4 : Int32) (x5 : Nat) (x6 : Int32) (x7 : Int32) (y0 : Int32) (y1 : Int32) (h : hh_) (K52_14 : Int32 → Option (Int32)) : Option (Int32) :=
  gd_ (bo_ h.2.2.1) <|
  gd_ (bi_ x6 40) <|
  (ff_X2_felt h.2.2.1 (h.1 x5 (Int32.toNatClampNeg x6)) x7 (0 : Int32) h).bind fun v6 =>
  (ff_X2_middle y0 y1 v6 h).bind fun v8 =>
  gd_ (bi_ (x6 + (2 : Int32)) 40) <|
  if (if 0 ≤ ((h.1 x5 (Int32.toNatClampNeg (x6 + (2 : Int32)))) - v8) then ((h.1 x5 (Int32.toNatClampNeg (x6 + (2 : Int32)))) - v8) else 0 - ((h.1 x5 (Int32.toNatClampNeg (x6 + (2 : Int32)))) - v8)) ≤ x3 then
    K52_14 (x6 + (3 : Int32))
  else
    some (0 : Int32)
def ff_X7_threesFit_14 (x1 : Int32) (x2 : Int32) (x3 : Int32) (x4 : Int32) (x5 : Nat) (h : hh_) : Nat → Int32 → Option (Int32)
  | 0, _ => none
  | n9 + 1, x6 =>
    gd_ (bi_ x1 6) <|
    if (h.1 10 (Int32.toNatClampNeg x1)) ≤ (x6 + (2 : Int32)) then
      some (1 : Int32)
    else
      gd_ (bi_ (x6 + (1 : Int32)) 40) <|
      if (h.1 x5 (Int32.toNatClampNeg (x6 + (1 : Int32)))) = x4 then
        ff_X7_threesFit_52 x1 x2 x3 x4 x5 x6 (h.1 x5 (Int32.toNatClampNeg (x6 + (1 : Int32)))) x2 (1 : Int32) h (fun z6 => ff_X7_threesFit_14 x1 x2 x3 x4 x5 h n9 z6)
      else
        ff_X7_threesFit_52 x1 x2 x3 x4 x5 x6 (h.1 x5 (Int32.toNatClampNeg (x6 + (1 : Int32)))) x2 (0 : Int32) h (fun z6 => ff_X7_threesFit_14 x1 x2 x3 x4 x5 h n9 z6)
def ff_X7_threesFit (a1 : Int32) (a2 : Int32) (a3 : Int32) (a4 : Int32) (h : hh_) : Option (Int32) :=
  gd_ (bi_ a1 6) <|
  ff_X7_threesFit_14 a1 a2 a3 a4 (4 + Int32.toNatClampNeg a1) h FU_ (0 : Int32)
def ff_X7_learn_60 (x1 : Int32) (x2 : Int32) (x6 : Int32) (h : hh_) (K60_103 : Int32 → Int32 → Option (Int32 × hh_)) : Nat → Int32 → Int32 → Int32 → Option (Int32 × hh_)
  | 0, _, _, _ => none
  | n9 + 1, x4, x5, x7 =>
    if (4 : Int32) ≤ x7 then
      K60_103 x4 x5
    else
      (ff_X7_threesFit x1 x6 x2 x7 h).bind fun v3 =>
      if v3 = 0 then
        ff_X7_learn_60 x1 x2 x6 h K60_103 n9 x4 x5 (x7 + (1 : Int32))
      else
        ff_X7_learn_60 x1 x2 x6 h K60_103 n9 (x4 ||| ((1 : Int32) <<< (x6 &&& 31))) (x5 ||| ((1 : Int32) <<< (x7 &&& 31))) (x7 + (1 : Int32))
def ff_X7_learn_50 (x1 : Int32) (x2 : Int32) (h : hh_) : Nat → Int32 → Int32 → Int32 → Option (Int32 × hh_)
  | 0, _, _, _ => none
  | n9 + 1, x4, x5, x6 =>
    if (6 : Int32) ≤ x6 then
      some (x4, (ff_X6_tell x5 h).2)
    else
      ff_X7_learn_60 x1 x2 x6 h (fun u5 u6 =>
        ff_X7_learn_50 x1 x2 h n9 u5 u6 (x6 + (1 : Int32))) FU_ x4 x5 (0 : Int32)
def ff_X7_learn (a1 : Int32) (a2 : Int32) (h : hh_) : Option (Int32 × hh_) :=
  if (ff_X5r_allows a1 h) = 0 then
    some ((-1 : Int32), h)
  else
    if a2 < 0 then
      some ((-1 : Int32), h)
    else
      if a2 ≤ (2 : Int32) then
        (ff_X7_findingOfThrees a1 h).bind fun v1 =>
        if v1 = 0 then
          ff_X7_learn_50 a1 a2 h FU_ (0 : Int32) (0 : Int32) (0 : Int32)
        else
          (ff_X6_refuse v1 h).bind fun v7 =>
          some (v7.1, v7.2)
      else
        some ((-1 : Int32), h)
def ff_X7_findingOfFates_38 (x1 : Int32) (h : hh_) : Nat → Int32 → Option (Int32)
  | 0, _ => none
  | n9 + 1, x2 =>
    gd_ (bi_ x1 6) <|
    if (h.1 10 (Int32.toNatClampNeg x1)) ≤ x2 then
      some (0 : Int32)
    else
      gd_ (bi_ x2 40) <|
      if (h.1 (4 + Int32.toNatClampNeg x1) (Int32.toNatClampNeg x2)) = 0 then
        ff_X7_findingOfFates_38 x1 h n9 (x2 + (1 : Int32))
      else
        if (h.1 (4 + Int32.toNatClampNeg x1) (Int32.toNatClampNeg x2)) = (1 : Int32) then
          ff_X7_findingOfFates_38 x1 h n9 (x2 + (1 : Int32))
        else
          some (3 : Int32)
def ff_X7_findingOfFates (a1 : Int32) (h : hh_) : Option (Int32) :=
  (ff_X5r_lacks a1 h).bind fun v1 =>
  if v1 = 0 then
    gd_ (bi_ a1 6) <|
    gd_ (bo_ h.2.2.1) <|
    if (h.1 10 (Int32.toNatClampNeg a1)) = (h.1 (h.2.2.1 + 23) (Int32.toNatClampNeg (0 : Int32))) then
      ff_X7_findingOfFates_38 a1 h FU_ (0 : Int32)
    else
      some (5 : Int32)
  else
    some (1 : Int32)
def ff_X2_placesAbove_5 (x0 : Nat) (x1 : Int32) (x2 : Int32) (h : hh_) : Nat → Int32 → Int32 → Option (Int32)
  | 0, _, _ => none
  | n9 + 1, x3, x4 =>
    if (4 : Int32) ≤ x4 then
      some (x3)
    else
      gd_ (bi_ x1 5) <|
      gd_ (bi_ x4 5) <|
      gd_ (bi_ x2 5) <|
      if (h.1 (x0 + 8 + Int32.toNatClampNeg x1) (Int32.toNatClampNeg x4)) ≤ (h.1 (x0 + 8 + Int32.toNatClampNeg x2) (Int32.toNatClampNeg x4)) then
        ff_X2_placesAbove_5 x0 x1 x2 h n9 x3 (x4 + (1 : Int32))
      else
        ff_X2_placesAbove_5 x0 x1 x2 h n9 (x3 ||| ((1 : Int32) <<< (x4 &&& 31))) (x4 + (1 : Int32))
def ff_X2_placesAbove (o : Nat) (a1 : Int32) (a2 : Int32) (h : hh_) : Option (Int32) :=
  ff_X2_placesAbove_5 o a1 a2 h FU_ (0 : Int32) (0 : Int32)
def ff_X7_tells_58 (x1 : Int32) (x5 : Int32) (h : hh_) (K58_154 : Int32 → Int32 → Option (Int32 × hh_)) : Nat → Int32 → Int32 → Int32 → Option (Int32 × hh_)
  | 0, _, _, _ => none
  | n9 + 1, x3, x4, x6 =>
    gd_ (bo_ h.2.2.1) <|
    if (h.1 (h.2.2.1 + 23) (Int32.toNatClampNeg (0 : Int32))) ≤ x6 then
      K58_154 x3 x4
    else
      gd_ (bi_ x1 6) <|
      gd_ (bi_ x5 40) <|
      if (h.1 (4 + Int32.toNatClampNeg x1) (Int32.toNatClampNeg x5)) = (1 : Int32) then
        gd_ (bi_ x6 40) <|
        if (h.1 (4 + Int32.toNatClampNeg x1) (Int32.toNatClampNeg x6)) = 0 then
          (ff_X2_placesAbove h.2.2.1 x5 x6 h).bind fun v8 =>
          (ff_X2_together h.2.2.1 x5 h).bind fun v10 =>
          (ff_X2_together h.2.2.1 x6 h).bind fun v12 =>
          if v10 ≤ v12 then
            ff_X7_tells_58 x1 x5 h K58_154 n9 (x3 &&& v8) (x4 + (0 : Int32)) (x6 + (1 : Int32))
          else
            ff_X7_tells_58 x1 x5 h K58_154 n9 (x3 &&& v8) (x4 + (1 : Int32)) (x6 + (1 : Int32))
        else
          ff_X7_tells_58 x1 x5 h K58_154 n9 x3 x4 (x6 + (1 : Int32))
      else
        ff_X7_tells_58 x1 x5 h K58_154 n9 x3 x4 (x6 + (1 : Int32))
def ff_X7_tells_41 (x1 : Int32) (h : hh_) : Nat → Int32 → Int32 → Int32 → Option (Int32 × hh_)
  | 0, _, _, _ => none
  | n9 + 1, x3, x4, x5 =>
    gd_ (bo_ h.2.2.1) <|
    if (h.1 (h.2.2.1 + 23) (Int32.toNatClampNeg (0 : Int32))) ≤ x5 then
      some (x3, (ff_X6_tell x4 h).2)
    else
      ff_X7_tells_58 x1 x5 h (fun u14 u15 =>
        ff_X7_tells_41 x1 h n9 u14 u15 (x5 + (1 : Int32))) FU_ x3 x4 (0 : Int32)
def ff_X7_tells (a1 : Int32) (h : hh_) : Option (Int32 × hh_) :=
  if (ff_X5r_allows a1 h) = 0 then
    some ((-1 : Int32), h)
  else
    (ff_X7_findingOfFates a1 h).bind fun v1 =>
    if v1 = 0 then
      ff_X7_tells_41 a1 h FU_ (15 : Int32) (0 : Int32) (0 : Int32)
    else
      (ff_X6_refuse v1 h).bind fun v16 =>
      some (v16.1, v16.2)
def ff_X7_nextLot (a0 : Int64) : Option (Int64) :=
  some (((48271 : Int64) * a0) - ((48271 : Int64) * a0) / (2147483647 : Int64) * (2147483647 : Int64))
def ff_X7_lots_92 (x1 : Int32) (x2 : Int32) (x4 : Int32) (x5 : Int32) (x8 : Int32) (x9 : Int32) (K92_149 : Int64 → hh_ → Option (Int32 × hh_)) : Nat → Int64 → Int32 → hh_ → Option (Int32 × hh_)
  | 0, _, _, _ => none
  | n9 + 1, x6, x10, h =>
    if (4 : Int32) ≤ x10 then
      K92_149 x6 h
    else
      (ff_X7_nextLot x6).bind fun v7 =>
      gd_ (bo_ h.2.2.1) <|
      (ff_X2_least h.2.2.1 x1 x9 x10 (0 : Int32) h).bind fun v10 =>
      (ff_X2_ways h.2.2.1 x1 x9 x10 h).bind fun v12 =>
      gd_ (bm_ (Int32.toInt64 v12)) <|
      gd_ (bi_ x10 4) <|
      ff_X7_lots_92 x1 x2 x4 x5 x8 x9 K92_149 n9 v7 (x10 + (1 : Int32)) (hh_sI h 38 (Int32.toNatClampNeg x10) (v10 + (Int64.toInt32 (v7 - v7 / (Int32.toInt64 v12) * (Int32.toInt64 v12)))))
def ff_X7_lots_67 (x1 : Int32) (x2 : Int32) (x4 : Int32) : Nat → Int32 → Int64 → Int32 → hh_ → Option (Int32 × hh_)
  | 0, _, _, _, _ => none
  | n9 + 1, x5, x6, x8, h =>
    if x2 ≤ x8 then
      some (x5, h)
    else
      (ff_X7_nextLot x6).bind fun v4 =>
      gd_ (bm_ (Int32.toInt64 x4)) <|
      ff_X7_lots_92 x1 x2 x4 x5 x8 (Int64.toInt32 (v4 - v4 / (Int32.toInt64 x4) * (Int32.toInt64 x4))) (fun u16 k17 =>
        gd_ (bo_ k17.2.2.1) <|
        (ff_X2_headsThatFit k17.2.2.1 x1 38 k17).bind fun v19 =>
        if v19 = ((1 : Int32) <<< ((Int64.toInt32 (v4 - v4 / (Int32.toInt64 x4) * (Int32.toInt64 x4))) &&& 31)) then
          ff_X7_lots_67 x1 x2 x4 n9 (x5 + (1 : Int32)) u16 (x8 + (1 : Int32)) k17
        else
          ff_X7_lots_67 x1 x2 x4 n9 (x5 + (0 : Int32)) u16 (x8 + (1 : Int32)) k17) FU_ v4 (0 : Int32) h
def ff_X7_lots (a1 : Int32) (a2 : Int32) (a3 : Int32) (h : hh_) : Option (Int32 × hh_) :=
  gd_ (bo_ h.2.2.1) <|
  (ff_X2_has h.2.2.1 (1 : Int32) a1 h).bind fun v2 =>
  if v2 = 0 then
    some ((-1 : Int32), h)
  else
    if a2 < (1 : Int32) then
      some ((-1 : Int32), h)
    else
      if (5 : Int32) < a2 then
        some ((-1 : Int32), h)
      else
        if a3 < (1 : Int32) then
          some ((-1 : Int32), h)
        else
          if (lg_cmp (Int32.toInt64 a3) (2147483647 : Int64)) < 0 then
            if (h.1 (h.2.2.1 + 23) (Int32.toNatClampNeg (0 : Int32))) = 0 then
              some ((-4 : Int32), h)
            else
              ff_X7_lots_67 a1 a2 (h.1 (h.2.2.1 + 23) (Int32.toNatClampNeg (0 : Int32))) FU_ (0 : Int32) (Int32.toInt64 a3) (0 : Int32) h
          else
            some ((-1 : Int32), h)
def ff_X7_asked (h : hh_) : Int32 :=
  (h.1 36 2)
def ff_X7_upper (h : hh_) : Int64 :=
  (h.2.1 36 3)
def ff_X7_lower (h : hh_) : Int64 :=
  (h.2.1 36 4)
def ff_X7_presentOffices_4 (h : hh_) : Nat → Int32 → Int32 → Option (Int32)
  | 0, _, _ => none
  | n9 + 1, x1, x2 =>
    if (3 : Int32) ≤ x2 then
      some (x1)
    else
      gd_ (bi_ x2 3) <|
      if (h.1 (89 + 3 * Int32.toNatClampNeg x2) 2) = (-1 : Int32) then
        ff_X7_presentOffices_4 h n9 (x1 + (0 : Int32)) (x2 + (1 : Int32))
      else
        ff_X7_presentOffices_4 h n9 (x1 + (1 : Int32)) (x2 + (1 : Int32))
def ff_X7_presentOffices (h : hh_) : Option (Int32) :=
  ff_X7_presentOffices_4 h FU_ (0 : Int32) (0 : Int32)
def ff_X5t_present_4 (h : hh_) : Nat → Int32 → Int32 → Option (Int32)
  | 0, _, _ => none
  | n9 + 1, x1, x2 =>
    if (4 : Int32) ≤ x2 then
      some (x1)
    else
      (ff_X5t_lacks x2 h).bind fun v1 =>
      if v1 = 0 then
        ff_X5t_present_4 h n9 (x1 + (1 : Int32)) (x2 + (1 : Int32))
      else
        ff_X5t_present_4 h n9 (x1 + (0 : Int32)) (x2 + (1 : Int32))
def ff_X5t_present (h : hh_) : Option (Int32) :=
  ff_X5t_present_4 h FU_ (0 : Int32) (0 : Int32)
def ff_X5r_present_4 (h : hh_) : Nat → Int32 → Int32 → Option (Int32)
  | 0, _, _ => none
  | n9 + 1, x1, x2 =>
    if (6 : Int32) ≤ x2 then
      some (x1)
    else
      (ff_X5r_lacks x2 h).bind fun v1 =>
      if v1 = 0 then
        ff_X5r_present_4 h n9 (x1 + (1 : Int32)) (x2 + (1 : Int32))
      else
        ff_X5r_present_4 h n9 (x1 + (0 : Int32)) (x2 + (1 : Int32))
def ff_X5r_present (h : hh_) : Option (Int32) :=
  ff_X5r_present_4 h FU_ (0 : Int32) (0 : Int32)
def ff_X2_wishingOnes_4 (x0 : Nat) (h : hh_) : Nat → Int32 → Int32 → Option (Int32)
  | 0, _, _ => none
  | n9 + 1, x1, x2 =>
    if (h.1 (x0 + 23) (Int32.toNatClampNeg (1 : Int32))) ≤ x2 then
      some (x1)
    else
      (ff_X2_isOf x0 x2 (3 : Int32) h).bind fun v1 =>
      if v1 = 0 then
        ff_X2_wishingOnes_4 x0 h n9 (x1 + (0 : Int32)) (x2 + (1 : Int32))
      else
        ff_X2_wishingOnes_4 x0 h n9 (x1 + (1 : Int32)) (x2 + (1 : Int32))
def ff_X2_wishingOnes (o : Nat) (h : hh_) : Option (Int32) :=
  ff_X2_wishingOnes_4 o h FU_ (0 : Int32) (0 : Int32)
def ff_X2_allTogether_4 (x0 : Nat) (h : hh_) : Nat → Int32 → Int32 → Option (Int32)
  | 0, _, _ => none
  | n9 + 1, x1, x2 =>
    if (h.1 (x0 + 23) (Int32.toNatClampNeg (0 : Int32))) ≤ x2 then
      some (x1)
    else
      (ff_X2_together x0 x2 h).bind fun v1 =>
      ff_X2_allTogether_4 x0 h n9 (x1 + v1) (x2 + (1 : Int32))
def ff_X2_allTogether (o : Nat) (h : hh_) : Option (Int32) :=
  ff_X2_allTogether_4 o h FU_ (0 : Int32) (0 : Int32)
def ff_X7_count (a1 : Int32) (h : hh_) : Option (Int32) :=
  if a1 = (0 : Int32) then
    gd_ (bo_ h.2.2.1) <|
    some (h.1 (h.2.2.1 + 23) (Int32.toNatClampNeg (0 : Int32)))
  else
    if a1 = (1 : Int32) then
      gd_ (bo_ h.2.2.1) <|
      some (h.1 (h.2.2.1 + 23) (Int32.toNatClampNeg (1 : Int32)))
    else
      if a1 = (2 : Int32) then
        gd_ (bo_ h.2.2.1) <|
        some (h.1 (h.2.2.1 + 23) (Int32.toNatClampNeg (2 : Int32)))
      else
        if a1 = (3 : Int32) then
          gd_ (bo_ h.2.2.1) <|
          some (h.1 h.2.2.1 6)
        else
          if a1 = (4 : Int32) then
            gd_ (bo_ h.2.2.1) <|
            (ff_X2_allTogether h.2.2.1 h).bind fun v11 =>
            some (v11)
          else
            if a1 = (5 : Int32) then
              gd_ (bo_ h.2.2.1) <|
              (ff_X2_wishingOnes h.2.2.1 h).bind fun v8 =>
              some (v8)
            else
              if a1 = (6 : Int32) then
                (ff_X5r_present h).bind fun v5 =>
                some (v5)
              else
                if a1 = (7 : Int32) then
                  (ff_X5t_present h).bind fun v3 =>
                  some (v3)
                else
                  if a1 = (8 : Int32) then
                    (ff_X7_presentOffices h).bind fun v1 =>
                    some (v1)
                  else
                    some (-1 : Int32)
def ff_X7_finding (h : hh_) : Int32 :=
  (h.1 36 1)
def ff_X7_findings (a1 : Int32) (h : hh_) : Option (Int32) :=
  if a1 < (1 : Int32) then
    some (-1 : Int32)
  else
    if a1 ≤ (5 : Int32) then
      gd_ (bi_ a1 6) <|
      some (h.1 37 (Int32.toNatClampNeg a1))
    else
      some (-1 : Int32)
def ff_X2_mix_15 (x0 : Nat) (x3 : Int32) (h : hh_) (K15_42 : Int64 → Option (Int64)) : Nat → Int64 → Int32 → Option (Int64)
  | 0, _, _ => none
  | n9 + 1, x1, x4 =>
    if (5 : Int32) < x4 then
      K15_42 x1
    else
      (ff_X2_ofHead x0 x3 x4 h).bind fun v1 =>
      ff_X2_mix_15 x0 x3 h K15_42 n9 (((31 : Int64) * x1) + (Int32.toInt64 v1)) (x4 + (1 : Int32))
def ff_X2_mix_2 (x0 : Nat) (h : hh_) (K2_48 : Int64 → Option (Int64)) : Nat → Int64 → Int32 → Option (Int64)
  | 0, _, _ => none
  | n9 + 1, x1, x3 =>
    if (h.1 (x0 + 23) (Int32.toNatClampNeg (0 : Int32))) ≤ x3 then
      K2_48 x1
    else
      ff_X2_mix_15 x0 x3 h (fun u3 =>
        ff_X2_mix_2 x0 h K2_48 n9 u3 (x3 + (1 : Int32))) FU_ x1 (0 : Int32)
def ff_X2_mix_63 (x0 : Nat) (x3 : Int32) (h : hh_) (K63_92 : Int64 → Option (Int64)) : Nat → Int64 → Int32 → Option (Int64)
  | 0, _, _ => none
  | n9 + 1, x1, x4 =>
    if (2 : Int32) < x4 then
      K63_92 x1
    else
      gd_ (bi_ x3 4) <|
      gd_ (bi_ x4 3) <|
      ff_X2_mix_63 x0 x3 h K63_92 n9 (((31 : Int64) * x1) + (Int32.toInt64 (h.1 (x0 + 14 + Int32.toNatClampNeg x3) (Int32.toNatClampNeg x4)))) (x4 + (1 : Int32))
def ff_X2_mix_50 (x0 : Nat) (h : hh_) (K50_98 : Int64 → Option (Int64)) : Nat → Int64 → Int32 → Option (Int64)
  | 0, _, _ => none
  | n9 + 1, x1, x3 =>
    if (h.1 (x0 + 23) (Int32.toNatClampNeg (1 : Int32))) ≤ x3 then
      K50_98 x1
    else
      ff_X2_mix_63 x0 x3 h (fun u7 =>
        ff_X2_mix_50 x0 h K50_98 n9 u7 (x3 + (1 : Int32))) FU_ x1 (0 : Int32)
def ff_X2_mix_113 (x0 : Nat) (x3 : Int32) (h : hh_) (K113_142 : Int64 → Option (Int64)) : Nat → Int64 → Int32 → Option (Int64)
  | 0, _, _ => none
  | n9 + 1, x1, x4 =>
    if (4 : Int32) < x4 then
      K113_142 x1
    else
      gd_ (bi_ x3 4) <|
      gd_ (bi_ x4 5) <|
      ff_X2_mix_113 x0 x3 h K113_142 n9 (((31 : Int64) * x1) + (Int32.toInt64 (h.1 (x0 + 19 + Int32.toNatClampNeg x3) (Int32.toNatClampNeg x4)))) (x4 + (1 : Int32))
def ff_X2_mix_100 (x0 : Nat) (h : hh_) : Nat → Int64 → Int32 → Option (Int64)
  | 0, _, _ => none
  | n9 + 1, x1, x3 =>
    if (h.1 (x0 + 23) (Int32.toNatClampNeg (2 : Int32))) ≤ x3 then
      some (x1)
    else
      ff_X2_mix_113 x0 x3 h (fun u11 =>
        ff_X2_mix_100 x0 h n9 u11 (x3 + (1 : Int32))) FU_ x1 (0 : Int32)
def ff_X2_mix (o : Nat) (a1 : Int64) (h : hh_) : Option (Int64) :=
  ff_X2_mix_2 o h (fun u4 =>
    ff_X2_mix_50 o h (fun u8 =>
      ff_X2_mix_100 o h FU_ u8 (0 : Int32)) FU_ u4 (0 : Int32)) FU_ a1 (0 : Int32)
def ff_X5r_mix_28 (x3 : Int32) (h : hh_) (K28_62 : Int64 → Option (Int64)) : Nat → Int64 → Int32 → Option (Int64)
  | 0, _, _ => none
  | n9 + 1, x1, x4 =>
    gd_ (bi_ x3 6) <|
    if (h.1 10 (Int32.toNatClampNeg x3)) ≤ x4 then
      K28_62 x1
    else
      gd_ (bi_ x4 40) <|
      ff_X5r_mix_28 x3 h K28_62 n9 (((31 : Int64) * x1) + (Int32.toInt64 (h.1 (4 + Int32.toNatClampNeg x3) (Int32.toNatClampNeg x4)))) (x4 + (1 : Int32))
def ff_X5r_mix_2 (h : hh_) : Nat → Int64 → Int32 → Option (Int64)
  | 0, _, _ => none
  | n9 + 1, x1, x3 =>
    if (6 : Int32) ≤ x3 then
      some (x1)
    else
      gd_ (bi_ x3 6) <|
      ff_X5r_mix_28 x3 h (fun u4 =>
        ff_X5r_mix_2 h n9 u4 (x3 + (1 : Int32))) FU_ (((31 : Int64) * x1) + (Int32.toInt64 (h.1 10 (Int32.toNatClampNeg x3)))) (0 : Int32)
def ff_X5r_mix (a1 : Int64) (h : hh_) : Option (Int64) :=
  ff_X5r_mix_2 h FU_ a1 (0 : Int32)
def ff_X5t_mix_28 (x3 : Int32) (h : hh_) (K28_62 : Int64 → Option (Int64)) : Nat → Int64 → Int32 → Option (Int64)
  | 0, _, _ => none
  | n9 + 1, x1, x4 =>
    gd_ (bi_ x3 4) <|
    if (h.1 17 (Int32.toNatClampNeg x3)) ≤ x4 then
      K28_62 x1
    else
      gd_ (bi_ x4 80) <|
      ff_X5t_mix_28 x3 h K28_62 n9 (((31 : Int64) * x1) + (Int32.toInt64 (h.1 (13 + Int32.toNatClampNeg x3) (Int32.toNatClampNeg x4)))) (x4 + (1 : Int32))
def ff_X5t_mix_2 (h : hh_) : Nat → Int64 → Int32 → Option (Int64)
  | 0, _, _ => none
  | n9 + 1, x1, x3 =>
    if (4 : Int32) ≤ x3 then
      some (x1)
    else
      gd_ (bi_ x3 4) <|
      ff_X5t_mix_28 x3 h (fun u4 =>
        ff_X5t_mix_2 h n9 u4 (x3 + (1 : Int32))) FU_ (((31 : Int64) * x1) + (Int32.toInt64 (h.1 17 (Int32.toNatClampNeg x3)))) (0 : Int32)
def ff_X5t_mix (a1 : Int64) (h : hh_) : Option (Int64) :=
  ff_X5t_mix_2 h FU_ a1 (0 : Int32)
def ff_X7_digest_6 (h : hh_) (K6_31 : Int64 → Option (Int64)) : Nat → Int64 → Int32 → Option (Int64)
  | 0, _, _ => none
  | n9 + 1, x1, x3 =>
    if (8 : Int32) < x3 then
      K6_31 x1
    else
      (ff_X7_count x3 h).bind fun v1 =>
      ff_X7_digest_6 h K6_31 n9 (((31 : Int64) * x1) + (Int32.toInt64 v1)) (x3 + (1 : Int32))
def ff_X7_digest_42 (h : hh_) : Nat → Int64 → Int32 → Option (Int64)
  | 0, _, _ => none
  | n9 + 1, x1, x3 =>
    if (3 : Int32) ≤ x3 then
      (ff_X5r_mix x1 h).bind fun v7 =>
      (ff_X5t_mix v7 h).bind fun v9 =>
      some (v9)
    else
      gd_ (bi_ x3 3) <|
      ff_X7_digest_42 h n9 (((31 : Int64) * x1) + (Int32.toInt64 (h.1 (89 + 3 * Int32.toNatClampNeg x3) 2))) (x3 + (1 : Int32))
def ff_X7_digest (h : hh_) : Option (Int64) :=
  ff_X7_digest_6 h (fun u3 =>
    gd_ (bo_ h.2.2.1) <|
    (ff_X2_mix h.2.2.1 u3 h).bind fun v5 =>
    ff_X7_digest_42 h FU_ v5 (0 : Int32)) FU_ (17 : Int64) (0 : Int32)
def ff_X8_in (a0 : Int32) (a1 : Int32) (a2 : Int32) : Int32 :=
  if a0 < a1 then
    (0 : Int32)
  else
    if a2 < a0 then
      (0 : Int32)
    else
      (1 : Int32)
def ff_X8_meet (a1 : Int32) (h : hh_) : Option (Int32 × hh_) :=
  gd_ (bi_ a1 6) <|
  some ((-3 : Int32), (hh_sI (hh_sI h 98 0 a1) 99 (Int32.toNatClampNeg a1) (((hh_sI h 98 0 a1).1 99 (Int32.toNatClampNeg a1)) + (1 : Int32))))
def ff_X8_ask (a1 : Int32) (a2 : Int32) (h : hh_) : Int32 × hh_ :=
  (a2, (hh_sI h 98 2 a1))
def ff_X8_has (a0 : Int32) (a1 : Int32) : Int32 :=
  if ((a0 >>> (a1 &&& 31)) &&& (1 : Int32)) = (1 : Int32) then
    (1 : Int32)
  else
    (0 : Int32)
def ff_X8_lesser (a0 : Int32) (a1 : Int32) : Int32 :=
  if a1 ≤ a0 then
    a1
  else
    a0
def ff_X8_greater (a0 : Int32) (a1 : Int32) : Int32 :=
  if a0 ≤ a1 then
    a1
  else
    a0
def ff_X8_part_6 (x1 : Int64) (x3 : Int64) (h : hh_) : Nat → Int64 → Int64 → Option (Int32 × hh_)
  | 0, _, _ => none
  | n9 + 1, x5, x7 =>
    if (lg_cmp x7 (0 : Int64)) = 0 then
      gd_ (bm_ x5) <|
      some ((1 : Int32), (hh_sL (hh_sL h 98 3 (x1 / x5)) 98 4 (x3 / x5)))
    else
      gd_ (bm_ x7) <|
      ff_X8_part_6 x1 x3 h n9 x7 (x5 - x5 / x7 * x7)
def ff_X8_part (a1 : Int64) (a3 : Int64) (h : hh_) : Option (Int32 × hh_) :=
  ff_X8_part_6 a1 a3 h FU_ a1 a3
def ff_X8_isRow (a0 : Int32) : Int32 :=
  (ff_X8_in a0 (0 : Int32) (5 : Int32))
def ff_X8_isText (a0 : Int32) : Int32 :=
  (ff_X8_in a0 (0 : Int32) (3 : Int32))
def ff_X8_askedRow (a1 : Int32) (h : hh_) : Option (Int32 × hh_) :=
  if (ff_X8_isRow a1) = 0 then
    some ((-1 : Int32), h)
  else
    gd_ (bi_ a1 6) <|
    if 0 ≤ (h.1 100 (Int32.toNatClampNeg a1)) then
      some ((0 : Int32), h)
    else
      (ff_X8_meet (1 : Int32) h).bind fun v2 =>
      some (v2.1, v2.2)
def ff_X8_askedText (a1 : Int32) (h : hh_) : Option (Int32 × hh_) :=
  if (ff_X8_isText a1) = 0 then
    some ((-1 : Int32), h)
  else
    gd_ (bi_ a1 4) <|
    if 0 ≤ (h.1 103 (Int32.toNatClampNeg a1)) then
      some ((0 : Int32), h)
    else
      (ff_X8_meet (1 : Int32) h).bind fun v2 =>
      some (v2.1, v2.2)
def ff_X8_rowAt (a1 : Int32) (a2 : Int32) (h : hh_) : Option (Int32) :=
  gd_ (bi_ (((40 : Int32) * a1) + a2) 240) <|
  some (h.1 101 (Int32.toNatClampNeg (((40 : Int32) * a1) + a2)))
def ff_X8_setRow (a1 : Int32) (a2 : Int32) (a3 : Int32) (h : hh_) : Option (hh_) :=
  gd_ (bi_ (((40 : Int32) * a1) + a2) 240) <|
  some (hh_sI h 101 (Int32.toNatClampNeg (((40 : Int32) * a1) + a2)) a3)
def ff_X8_row_34 (x1 : Int32) (x2 : Int32) : Nat → Int32 → hh_ → Option (Int32 × hh_)
  | 0, _, _ => none
  | n9 + 1, x3, h =>
    if (40 : Int32) ≤ x3 then
      some (x2, h)
    else
      (ff_X8_setRow x1 x3 (0 : Int32) h).bind fun v2 =>
      ff_X8_row_34 x1 x2 n9 (x3 + (1 : Int32)) v2
def ff_X8_row (a1 : Int32) (a2 : Int32) (h : hh_) : Option (Int32 × hh_) :=
  if (ff_X8_isRow a1) = 0 then
    some ((-1 : Int32), h)
  else
    if a2 ≤ (40 : Int32) then
      if 0 ≤ a2 then
        gd_ (bi_ a1 6) <|
        ff_X8_row_34 a1 a2 FU_ (0 : Int32) (hh_sI h 100 (Int32.toNatClampNeg a1) a2)
      else
        (ff_X8_meet (5 : Int32) h).bind fun v4 =>
        some (v4.1, v4.2)
    else
      some ((-1 : Int32), h)
def ff_X8_at (a1 : Int32) (a2 : Int32) (h : hh_) : Option (Int32 × hh_) :=
  (ff_X8_askedRow a1 h).bind fun v1 =>
  if 0 ≤ v1.1 then
    gd_ (bi_ a1 6) <|
    if (ff_X8_in a2 (0 : Int32) ((v1.2.1 100 (Int32.toNatClampNeg a1)) - (1 : Int32))) = 0 then
      (ff_X8_meet (2 : Int32) v1.2).bind fun v4 =>
      some (v4.1, v4.2)
    else
      (ff_X8_rowAt a1 a2 v1.2).bind fun v6 =>
      some ((ff_X8_ask v6 (1 : Int32) v1.2).1, (ff_X8_ask v6 (1 : Int32) v1.2).2)
  else
    some (v1.1, v1.2)
def ff_X8_lay (a1 : Int32) (a2 : Int32) (a3 : Int32) (h : hh_) : Option (Int32 × hh_) :=
  (ff_X8_at a1 a2 h).bind fun v1 =>
  if 0 ≤ v1.1 then
    (ff_X8_setRow a1 a2 a3 v1.2).bind fun v3 =>
    some ((1 : Int32), v3)
  else
    some (v1.1, v1.2)
def ff_X8_tear (a1 : Int32) (h : hh_) : Option (Int32 × hh_) :=
  (ff_X8_askedRow a1 h).bind fun v1 =>
  if 0 ≤ v1.1 then
    gd_ (bi_ a1 6) <|
    some ((1 : Int32), (hh_sI v1.2 100 (Int32.toNatClampNeg a1) (-9 : Int32)))
  else
    some (v1.1, v1.2)
def ff_X8_copy_104 (x1 : Int32) (x2 : Int32) (x3 : Int32) (x4 : Int32) (x5 : Int32) (K104_133 : hh_ → Option (Int32 × hh_)) : Nat → Int32 → hh_ → Option (Int32 × hh_)
  | 0, _, _ => none
  | n9 + 1, x6, h =>
    if x5 ≤ x6 then
      K104_133 h
    else
      (ff_X8_rowAt x1 (x2 + x6) h).bind fun v11 =>
      gd_ (bi_ x6 40) <|
      ff_X8_copy_104 x1 x2 x3 x4 x5 K104_133 n9 (x6 + (1 : Int32)) (hh_sI h 102 (Int32.toNatClampNeg x6) v11)
def ff_X8_copy_136 (x3 : Int32) (x4 : Int32) (x5 : Int32) : Nat → Int32 → hh_ → Option (Int32 × hh_)
  | 0, _, _ => none
  | n9 + 1, x6, h =>
    if x5 ≤ x6 then
      some ((1 : Int32), h)
    else
      gd_ (bi_ x6 40) <|
      (ff_X8_setRow x3 (x4 + x6) (h.1 102 (Int32.toNatClampNeg x6)) h).bind fun v16 =>
      ff_X8_copy_136 x3 x4 x5 n9 (x6 + (1 : Int32)) v16
def ff_X8_copy (a1 : Int32) (a2 : Int32) (a3 : Int32) (a4 : Int32) (a5 : Int32) (h : hh_) : Option (Int32 × hh_) :=
  if (ff_X8_isRow a1) = 0 then
    some ((-1 : Int32), h)
  else
    if (ff_X8_isRow a3) = 0 then
      some ((-1 : Int32), h)
    else
      if 0 ≤ a5 then
        gd_ (bi_ a1 6) <|
        if (h.1 100 (Int32.toNatClampNeg a1)) < 0 then
          (ff_X8_meet (1 : Int32) h).bind fun v2 =>
          some (v2.1, v2.2)
        else
          gd_ (bi_ a3 6) <|
          if 0 ≤ (h.1 100 (Int32.toNatClampNeg a3)) then
            if a2 < 0 then
              (ff_X8_meet (2 : Int32) h).bind fun v5 =>
              some (v5.1, v5.2)
            else
              if a4 < 0 then
                (ff_X8_meet (2 : Int32) h).bind fun v7 =>
                some (v7.1, v7.2)
              else
                if 0 < (lg_cmp ((Int32.toInt64 a2) + (Int32.toInt64 a5)) (Int32.toInt64 (h.1 100 (Int32.toNatClampNeg a1)))) then
                  (ff_X8_meet (2 : Int32) h).bind fun v9 =>
                  some (v9.1, v9.2)
                else
                  if (lg_cmp ((Int32.toInt64 a4) + (Int32.toInt64 a5)) (Int32.toInt64 (h.1 100 (Int32.toNatClampNeg a3)))) ≤ 0 then
                    ff_X8_copy_104 a1 a2 a3 a4 a5 (fun k14 =>
                      ff_X8_copy_136 a3 a4 a5 FU_ (0 : Int32) k14) FU_ (0 : Int32) h
                  else
                    (ff_X8_meet (2 : Int32) h).bind fun v18 =>
                    some (v18.1, v18.2)
          else
            (ff_X8_meet (1 : Int32) h).bind fun v20 =>
            some (v20.1, v20.2)
      else
        (ff_X8_meet (5 : Int32) h).bind fun v22 =>
        some (v22.1, v22.2)
def ff_X8_mean_17 (x1 : Int32) (h : hh_) (K17_45 : Int64 → Option (Int32 × hh_)) : Nat → Int64 → Int32 → Option (Int32 × hh_)
  | 0, _, _ => none
  | n9 + 1, x3, x5 =>
    gd_ (bi_ x1 6) <|
    if (h.1 100 (Int32.toNatClampNeg x1)) ≤ x5 then
      K17_45 x3
    else
      (ff_X8_rowAt x1 x5 h).bind fun v4 =>
      ff_X8_mean_17 x1 h K17_45 n9 (x3 + (Int32.toInt64 v4)) (x5 + (1 : Int32))
def ff_X8_mean (a1 : Int32) (h : hh_) : Option (Int32 × hh_) :=
  (ff_X8_askedRow a1 h).bind fun v1 =>
  if 0 ≤ v1.1 then
    ff_X8_mean_17 a1 v1.2 (fun u6 =>
      gd_ (bi_ a1 6) <|
      if (v1.2.1 100 (Int32.toNatClampNeg a1)) = 0 then
        (ff_X8_meet (4 : Int32) v1.2).bind fun v9 =>
        some (v9.1, v9.2)
      else
        gd_ (bm_ (Int32.toInt64 (v1.2.1 100 (Int32.toNatClampNeg a1)))) <|
        some ((ff_X8_ask (Int64.toInt32 (u6 / (Int32.toInt64 (v1.2.1 100 (Int32.toNatClampNeg a1))))) (1 : Int32) v1.2).1, (ff_X8_ask (Int64.toInt32 (u6 / (Int32.toInt64 (v1.2.1 100 (Int32.toNatClampNeg a1))))) (1 : Int32) v1.2).2)) FU_ (0 : Int64) (0 : Int32)
  else
    some (v1.1, v1.2)
def ff_X8_text_34 (x1 : Int32) (x2 : Int32) : Nat → Int32 → hh_ → Option (Int32 × hh_)
  | 0, _, _ => none
  | n9 + 1, x3, h =>
    if (80 : Int32) ≤ x3 then
      some (x2, h)
    else
      gd_ (bi_ (((80 : Int32) * x1) + x3) 320) <|
      ff_X8_text_34 x1 x2 n9 (x3 + (1 : Int32)) (hh_sI h 104 (Int32.toNatClampNeg (((80 : Int32) * x1) + x3)) (32 : Int32))
def ff_X8_text (a1 : Int32) (a2 : Int32) (h : hh_) : Option (Int32 × hh_) :=
  if (ff_X8_isText a1) = 0 then
    some ((-1 : Int32), h)
  else
    if a2 ≤ (80 : Int32) then
      if 0 ≤ a2 then
        gd_ (bi_ a1 4) <|
        ff_X8_text_34 a1 a2 FU_ (0 : Int32) (hh_sI h 103 (Int32.toNatClampNeg a1) a2)
      else
        (ff_X8_meet (5 : Int32) h).bind fun v3 =>
        some (v3.1, v3.2)
    else
      some ((-1 : Int32), h)
def ff_X8_put (a1 : Int32) (a2 : Int32) (a3 : Int32) (h : hh_) : Option (Int32 × hh_) :=
  (ff_X8_askedText a1 h).bind fun v1 =>
  if 0 ≤ v1.1 then
    gd_ (bi_ a1 4) <|
    if (ff_X8_in a2 (0 : Int32) ((v1.2.1 103 (Int32.toNatClampNeg a1)) - (1 : Int32))) = 0 then
      (ff_X8_meet (2 : Int32) v1.2).bind fun v5 =>
      some (v5.1, v5.2)
    else
      gd_ (bi_ (((80 : Int32) * a1) + a2) 320) <|
      some (((v1.2.1 104 (Int32.toNatClampNeg (((80 : Int32) * a1) + a2))) + (1000 : Int32)), (hh_sI v1.2 104 (Int32.toNatClampNeg (((80 : Int32) * a1) + a2)) (Int8.toInt32 (Int32.toInt8 a3))))
  else
    some (v1.1, v1.2)
def ff_X8_here (a1 : Int32) (h : hh_) : Option (Int32) :=
  gd_ (bi_ a1 4) <|
  if (h.1 103 (Int32.toNatClampNeg a1)) ≤ (h.1 98 16) then
    some (-9 : Int32)
  else
    gd_ (bi_ (((80 : Int32) * a1) + (h.1 98 16)) 320) <|
    some (h.1 104 (Int32.toNatClampNeg (((80 : Int32) * a1) + (h.1 98 16))))
def ff_X8_figure (a1 : Int32) (a2 : Int32) (a3 : Int32) (a4 : Int32) (h : hh_) : Option (Int32 × hh_) :=
  (ff_X8_here a1 h).bind fun v1 =>
  if (ff_X8_in (v1 - (48 : Int32)) a3 a4) = 0 then
    some ((0 : Int32), h)
  else
    gd_ (bi_ a2 60) <|
    some ((1 : Int32), (hh_sI (hh_sI h 108 (Int32.toNatClampNeg a2) (v1 - (48 : Int32))) 98 16 (((hh_sI h 108 (Int32.toNatClampNeg a2) (v1 - (48 : Int32))).1 98 16) + (1 : Int32))))
def ff_X8_kindOf (a0 : Int32) : Int32 :=
  if a0 = (116 : Int32) then
    (0 : Int32)
  else
    if a0 = (118 : Int32) then
      (1 : Int32)
    else
      if a0 = (108 : Int32) then
        (2 : Int32)
      else
        if a0 = (119 : Int32) then
          (3 : Int32)
        else
          if a0 = (99 : Int32) then
            (4 : Int32)
          else
            if a0 = (100 : Int32) then
              (5 : Int32)
            else
              (-9 : Int32)
def ff_X8_readsHead_36 (x1 : Int32) (K36_76 : Int32 → hh_ → Option (Int32 × hh_)) : Nat → Int32 → Int32 → hh_ → Option (Int32 × hh_)
  | 0, _, _, _ => none
  | n9 + 1, x2, x3, h =>
    if (5 : Int32) ≤ x3 then
      K36_76 x2 h
    else
      if x2 = 0 then
        K36_76 x2 h
      else
        if (4 : Int32) ≤ x3 then
          (ff_X8_figure x1 (((5 : Int32) * (h.1 98 17)) + x3) (0 : Int32) (3 : Int32) h).bind fun v1 =>
          ff_X8_readsHead_36 x1 K36_76 n9 v1.1 (x3 + (1 : Int32)) v1.2
        else
          (ff_X8_figure x1 (((5 : Int32) * (h.1 98 17)) + x3) (0 : Int32) (5 : Int32) h).bind fun v3 =>
          ff_X8_readsHead_36 x1 K36_76 n9 v3.1 (x3 + (1 : Int32)) v3.2
def ff_X8_readsHead_76 (x2 : Int32) (h : hh_) : Option (Int32 × hh_) :=
  if x2 = 0 then
    gd_ (bz_ x2) <|
    some (x2, (hh_sI h 98 17 ((h.1 98 17) + (0 : Int32))))
  else
    gd_ (bz_ x2) <|
    some (x2, (hh_sI h 98 17 ((h.1 98 17) + (1 : Int32))))
def ff_X8_readsHead (a1 : Int32) (h : hh_) : Option (Int32 × hh_) :=
  if (h.1 98 17) = (5 : Int32) then
    some ((0 : Int32), h)
  else
    if ((h.1 98 18) + (h.1 98 19)) ≤ 0 then
      ff_X8_readsHead_36 a1 (fun u5 k6 =>
        ff_X8_readsHead_76 u5 k6) FU_ (1 : Int32) (0 : Int32) (hh_sI h 98 16 ((h.1 98 16) + (1 : Int32)))
    else
      some ((0 : Int32), h)
def ff_X8_readsThumb_96 (h : hh_) (K96_97 : Int32 → Option (Int32 × hh_)) : Option (Int32 × hh_) :=
  K96_97 (0 : Int32)
def ff_X8_readsThumb_97 (y0 : Int32) (h : hh_) : Option (Int32 × hh_) :=
  if y0 = 0 then
    gd_ (bz_ y0) <|
    some (y0, (hh_sI h 98 18 ((h.1 98 18) + (0 : Int32))))
  else
    gd_ (bz_ y0) <|
    some (y0, (hh_sI h 98 18 ((h.1 98 18) + (1 : Int32))))
def ff_X8_readsThumb (a1 : Int32) (h : hh_) : Option (Int32 × hh_) :=
  (ff_X8_here a1 h).bind fun v1 =>
  if (ff_X8_kindOf v1) = (-9 : Int32) then
    some ((0 : Int32), h)
  else
    if (h.1 98 17) = 0 then
      some ((0 : Int32), h)
    else
      if (h.1 98 18) = (4 : Int32) then
        some ((0 : Int32), h)
      else
        if (h.1 98 19) ≤ 0 then
          gd_ (bi_ ((25 : Int32) + ((3 : Int32) * ((hh_sI h 98 16 ((h.1 98 16) + (1 : Int32))).1 98 18))) 60) <|
          (ff_X8_figure a1 (((25 : Int32) + ((3 : Int32) * ((hh_sI h 98 16 ((h.1 98 16) + (1 : Int32))).1 98 18))) + (1 : Int32)) (0 : Int32) (2 : Int32) (hh_sI (hh_sI h 98 16 ((h.1 98 16) + (1 : Int32))) 108 (Int32.toNatClampNeg ((25 : Int32) + ((3 : Int32) * ((hh_sI h 98 16 ((h.1 98 16) + (1 : Int32))).1 98 18)))) (ff_X8_kindOf v1))).bind fun v4 =>
          if v4.1 = 0 then
            ff_X8_readsThumb_96 v4.2 (fun q6 =>
              ff_X8_readsThumb_97 q6 v4.2)
          else
            (ff_X8_figure a1 (((25 : Int32) + ((3 : Int32) * ((hh_sI h 98 16 ((h.1 98 16) + (1 : Int32))).1 98 18))) + (2 : Int32)) (0 : Int32) (3 : Int32) v4.2).bind fun v9 =>
            if v9.1 = 0 then
              ff_X8_readsThumb_96 v9.2 (fun q11 =>
                ff_X8_readsThumb_97 q11 v9.2)
            else
              ff_X8_readsThumb_97 (1 : Int32) v9.2
        else
          some ((0 : Int32), h)
def ff_X8_readsPost_63 (x1 : Int32) (x3 : Int32) (y1 : Int32) (y2 : Int32) (y3 : Int32) (h : hh_) (K63_31 : Int32 → Int32 → hh_ → Option (Int32 × hh_)) : Option (Int32 × hh_) :=
  if (4 : Int32) ≤ x3 then
    (ff_X8_figure y1 y2 y3 (9 : Int32) h).bind fun v1 =>
    K63_31 v1.1 (x3 + (1 : Int32)) v1.2
  else
    (ff_X8_figure y1 y2 y3 (6 : Int32) h).bind fun v3 =>
    K63_31 v3.1 (x3 + (1 : Int32)) v3.2
def ff_X8_readsPost_31 (x1 : Int32) (K31_85 : Int32 → hh_ → Option (Int32 × hh_)) : Nat → Int32 → Int32 → hh_ → Option (Int32 × hh_)
  | 0, _, _, _ => none
  | n9 + 1, x2, x3, h =>
    if (5 : Int32) ≤ x3 then
      K31_85 x2 h
    else
      if x2 = 0 then
        K31_85 x2 h
      else
        if (4 : Int32) ≤ x3 then
          ff_X8_readsPost_63 x1 x3 x1 (((37 : Int32) + ((5 : Int32) * (h.1 98 19))) + x3) (1 : Int32) h (fun z2 z3 h8 => ff_X8_readsPost_31 x1 K31_85 n9 z2 z3 h8)
        else
          ff_X8_readsPost_63 x1 x3 x1 (((37 : Int32) + ((5 : Int32) * (h.1 98 19))) + x3) (0 : Int32) h (fun z2 z3 h8 => ff_X8_readsPost_31 x1 K31_85 n9 z2 z3 h8)
def ff_X8_readsPost_85 (x2 : Int32) (h : hh_) : Option (Int32 × hh_) :=
  if x2 = 0 then
    gd_ (bz_ x2) <|
    some (x2, (hh_sI h 98 19 ((h.1 98 19) + (0 : Int32))))
  else
    gd_ (bz_ x2) <|
    some (x2, (hh_sI h 98 19 ((h.1 98 19) + (1 : Int32))))
def ff_X8_readsPost (a1 : Int32) (h : hh_) : Option (Int32 × hh_) :=
  if (h.1 98 17) = 0 then
    some ((0 : Int32), h)
  else
    if (h.1 98 19) = (4 : Int32) then
      some ((0 : Int32), h)
    else
      ff_X8_readsPost_31 a1 (fun u5 k6 =>
        ff_X8_readsPost_85 u5 k6) FU_ (1 : Int32) (0 : Int32) (hh_sI h 98 16 ((h.1 98 16) + (1 : Int32)))
def ff_X8_goesOn_20 (x1 : Int32) (K20_108 : hh_ → Option (Int32 × hh_)) : Nat → hh_ → Option (Int32 × hh_)
  | 0, _ => none
  | n9 + 1, h =>
    gd_ (bi_ x1 4) <|
    if (h.1 103 (Int32.toNatClampNeg x1)) ≤ (h.1 98 16) then
      K20_108 h
    else
      (ff_X8_here x1 h).bind fun v2 =>
      if v2 = (32 : Int32) then
        ff_X8_goesOn_20 x1 K20_108 n9 (hh_sI h 98 16 ((h.1 98 16) + (1 : Int32)))
      else
        if v2 = (104 : Int32) then
          (ff_X8_readsHead x1 h).bind fun v8 =>
          if v8.1 = 0 then
            some ((v8.2.1 98 16), v8.2)
          else
            ff_X8_goesOn_20 x1 K20_108 n9 v8.2
        else
          if v2 = (112 : Int32) then
            (ff_X8_readsPost x1 h).bind fun v6 =>
            if v6.1 = 0 then
              some ((v6.2.1 98 16), v6.2)
            else
              ff_X8_goesOn_20 x1 K20_108 n9 v6.2
          else
            (ff_X8_readsThumb x1 h).bind fun v4 =>
            if v4.1 = 0 then
              some ((v4.2.1 98 16), v4.2)
            else
              ff_X8_goesOn_20 x1 K20_108 n9 v4.2
def ff_X8_goesOn (a1 : Int32) (h : hh_) : Option (Int32 × hh_) :=
  ff_X8_goesOn_20 a1 (fun k10 =>
    if (k10.1 98 17) = 0 then
      gd_ (bi_ a1 4) <|
      some ((k10.1 103 (Int32.toNatClampNeg a1)), k10)
    else
      some ((-9 : Int32), k10)) FU_ (hh_sI (hh_sI (hh_sI (hh_sI h 98 16 (0 : Int32)) 98 17 (0 : Int32)) 98 18 (0 : Int32)) 98 19 (0 : Int32))
def ff_X8_fault (a1 : Int32) (h : hh_) : Option (Int32 × hh_) :=
  (ff_X8_askedText a1 h).bind fun v1 =>
  if 0 ≤ v1.1 then
    (ff_X8_goesOn a1 v1.2).bind fun v3 =>
    some (v3.1, v3.2)
  else
    some (v1.1, v1.2)
def ff_X8_office_51 (K51_75 : hh_ → Option (Int32 × hh_)) : Nat → Int32 → hh_ → Option (Int32 × hh_)
  | 0, _, _ => none
  | n9 + 1, x3, h =>
    if (25 : Int32) ≤ x3 then
      K51_75 h
    else
      gd_ (bi_ x3 60) <|
      gd_ (bi_ x3 25) <|
      ff_X8_office_51 K51_75 n9 (x3 + (1 : Int32)) (hh_sI h 105 (Int32.toNatClampNeg x3) (h.1 108 (Int32.toNatClampNeg x3)))
def ff_X8_office_77 (K77_104 : hh_ → Option (Int32 × hh_)) : Nat → Int32 → hh_ → Option (Int32 × hh_)
  | 0, _, _ => none
  | n9 + 1, x3, h =>
    if (12 : Int32) ≤ x3 then
      K77_104 h
    else
      gd_ (bi_ ((25 : Int32) + x3) 60) <|
      gd_ (bi_ x3 12) <|
      ff_X8_office_77 K77_104 n9 (x3 + (1 : Int32)) (hh_sI h 106 (Int32.toNatClampNeg x3) (h.1 108 (Int32.toNatClampNeg ((25 : Int32) + x3))))
def ff_X8_office_106 (K106_133 : hh_ → Option (Int32 × hh_)) : Nat → Int32 → hh_ → Option (Int32 × hh_)
  | 0, _, _ => none
  | n9 + 1, x3, h =>
    if (20 : Int32) ≤ x3 then
      K106_133 h
    else
      gd_ (bi_ ((37 : Int32) + x3) 60) <|
      gd_ (bi_ x3 20) <|
      ff_X8_office_106 K106_133 n9 (x3 + (1 : Int32)) (hh_sI h 107 (Int32.toNatClampNeg x3) (h.1 108 (Int32.toNatClampNeg ((37 : Int32) + x3))))
def ff_X8_office_140 : Nat → Int32 → hh_ → Option (Int32 × hh_)
  | 0, _, _ => none
  | n9 + 1, x3, h =>
    if (3 : Int32) ≤ x3 then
      some ((h.1 98 10), h)
    else
      gd_ (bi_ ((1030 : Int32) * x3) 3090) <|
      ff_X8_office_140 n9 (x3 + (1 : Int32)) (hh_sI h 110 (Int32.toNatClampNeg ((1030 : Int32) * x3)) (-9 : Int32))
def ff_X8_office (a1 : Int32) (h : hh_) : Option (Int32 × hh_) :=
  (ff_X8_askedText a1 h).bind fun v1 =>
  if 0 ≤ v1.1 then
    (ff_X8_goesOn a1 v1.2).bind fun v3 =>
    if v3.1 = (-9 : Int32) then
      ff_X8_office_51 (fun k7 =>
        ff_X8_office_77 (fun k10 =>
          ff_X8_office_106 (fun k13 =>
            ff_X8_office_140 FU_ (0 : Int32) (hh_sI k13 98 21 (0 : Int32))) FU_ (0 : Int32) k10) FU_ (0 : Int32) k7) FU_ (0 : Int32) (hh_sI (hh_sI (hh_sI v3.2 98 10 (v3.2.1 98 17)) 98 11 ((hh_sI v3.2 98 10 (v3.2.1 98 17)).1 98 18)) 98 12 ((hh_sI (hh_sI v3.2 98 10 (v3.2.1 98 17)) 98 11 ((hh_sI v3.2 98 10 (v3.2.1 98 17)).1 98 18)).1 98 19))
    else
      some ((-4 : Int32), v3.2)
  else
    some (v1.1, v1.2)
def ff_X8_isHead (a1 : Int32) (h : hh_) : Int32 :=
  (ff_X8_in a1 (0 : Int32) ((h.1 98 10) - (1 : Int32)))
def ff_X8_isThumb (a1 : Int32) (h : hh_) : Int32 :=
  (ff_X8_in a1 (0 : Int32) ((h.1 98 11) - (1 : Int32)))
def ff_X8_isPost (a1 : Int32) (h : hh_) : Int32 :=
  (ff_X8_in a1 (0 : Int32) ((h.1 98 12) - (1 : Int32)))
def ff_X8_isPlace (a0 : Int32) : Int32 :=
  (ff_X8_in a0 (0 : Int32) (3 : Int32))
def ff_X8_bump (a1 : Int32) (a2 : Int32) (h : hh_) : Option (Int32) :=
  gd_ (bi_ (((5 : Int32) * a1) + a2) 25) <|
  some (h.1 105 (Int32.toNatClampNeg (((5 : Int32) * a1) + a2)))
def ff_X8_bumps (a1 : Int32) (h : hh_) : Option (Int32) :=
  (ff_X8_bump a1 (0 : Int32) h).bind fun v1 =>
  (ff_X8_bump a1 (1 : Int32) h).bind fun v3 =>
  (ff_X8_bump a1 (2 : Int32) h).bind fun v5 =>
  (ff_X8_bump a1 (3 : Int32) h).bind fun v7 =>
  some (((v1 + v3) + v5) + v7)
def ff_X8_headOf (a1 : Int32) (a2 : Int32) (h : hh_) : Option (Int32) :=
  if (5 : Int32) ≤ a2 then
    (ff_X8_bumps a1 h).bind fun v1 =>
    some (v1)
  else
    gd_ (bi_ (((5 : Int32) * a1) + a2) 25) <|
    some (h.1 105 (Int32.toNatClampNeg (((5 : Int32) * a1) + a2)))
def ff_X8_head (a1 : Int32) (a2 : Int32) (h : hh_) : Option (Int32 × hh_) :=
  if (ff_X8_isHead a1 h) = 0 then
    some ((-1 : Int32), h)
  else
    if (ff_X8_in a2 (0 : Int32) (5 : Int32)) = 0 then
      some ((-1 : Int32), h)
    else
      (ff_X8_headOf a1 a2 h).bind fun v1 =>
      some ((ff_X8_ask v1 (1 : Int32) h).1, (ff_X8_ask v1 (1 : Int32) h).2)
def ff_X8_thumb (a1 : Int32) (a2 : Int32) (h : hh_) : Option (Int32 × hh_) :=
  if (ff_X8_isThumb a1 h) = 0 then
    some ((-1 : Int32), h)
  else
    if (ff_X8_in a2 (0 : Int32) (2 : Int32)) = 0 then
      some ((-1 : Int32), h)
    else
      gd_ (bi_ (((3 : Int32) * a1) + a2) 12) <|
      some ((ff_X8_ask (h.1 106 (Int32.toNatClampNeg (((3 : Int32) * a1) + a2))) (1 : Int32) h).1, (ff_X8_ask (h.1 106 (Int32.toNatClampNeg (((3 : Int32) * a1) + a2))) (1 : Int32) h).2)
def ff_X8_post (a1 : Int32) (a2 : Int32) (h : hh_) : Option (Int32 × hh_) :=
  if (ff_X8_isPost a1 h) = 0 then
    some ((-1 : Int32), h)
  else
    if (ff_X8_in a2 (0 : Int32) (4 : Int32)) = 0 then
      some ((-1 : Int32), h)
    else
      gd_ (bi_ (((5 : Int32) * a1) + a2) 20) <|
      some ((ff_X8_ask (h.1 107 (Int32.toNatClampNeg (((5 : Int32) * a1) + a2))) (1 : Int32) h).1, (ff_X8_ask (h.1 107 (Int32.toNatClampNeg (((5 : Int32) * a1) + a2))) (1 : Int32) h).2)
def ff_X8_isA_24 (x2 : Int32) (x3 : Int32) (h : hh_) : Option (Int32) :=
  if x2 = (3 : Int32) then
    if x3 = (4 : Int32) then
      some (1 : Int32)
    else
      some (0 : Int32)
  else
    some (0 : Int32)
def ff_X8_isA (a1 : Int32) (a2 : Int32) (h : hh_) : Option (Int32) :=
  gd_ (bi_ ((3 : Int32) * a1) 12) <|
  if (h.1 106 (Int32.toNatClampNeg ((3 : Int32) * a1))) = a2 then
    some (1 : Int32)
  else
    if a2 = (1 : Int32) then
      if (h.1 106 (Int32.toNatClampNeg ((3 : Int32) * a1))) = (5 : Int32) then
        some (1 : Int32)
      else
        ff_X8_isA_24 a2 (h.1 106 (Int32.toNatClampNeg ((3 : Int32) * a1))) h
    else
      ff_X8_isA_24 a2 (h.1 106 (Int32.toNatClampNeg ((3 : Int32) * a1))) h
def ff_X8_felt (a1 : Int32) (a2 : Int32) (h : hh_) : Option (Int32) :=
  (ff_X8_bump a1 a2 h).bind fun v1 =>
  gd_ (bi_ (((5 : Int32) * a1) + (4 : Int32)) 25) <|
  if (h.1 105 (Int32.toNatClampNeg (((5 : Int32) * a1) + (4 : Int32)))) ≤ (1 : Int32) then
    some (ff_X8_greater (0 : Int32) (v1 - (0 : Int32)))
  else
    some (ff_X8_greater (0 : Int32) (v1 - (1 : Int32)))
def ff_X8_middleOf (a0 : Int32) (a1 : Int32) (a2 : Int32) (a3 : Int32) : Int32 :=
  if a0 = (1 : Int32) then
    (ff_X8_greater (0 : Int32) (a2 - (1 : Int32)))
  else
    if a0 = (2 : Int32) then
      (a2 + (1 : Int32))
    else
      if a0 = (3 : Int32) then
        if a3 = a1 then
          (a2 + (1 : Int32))
        else
          (a2 + (0 : Int32))
      else
        if a0 = (4 : Int32) then
          if a3 = a1 then
            (a2 + (2 : Int32))
          else
            (a2 + (1 : Int32))
        else
          if a0 = (5 : Int32) then
            (ff_X8_lesser (3 : Int32) (ff_X8_greater (0 : Int32) (a2 - (1 : Int32))))
          else
            a2
def ff_X8_middle (a1 : Int32) (a2 : Int32) (a3 : Int32) (h : hh_) : Option (Int32) :=
  gd_ (bi_ ((3 : Int32) * a1) 12) <|
  gd_ (bi_ (((3 : Int32) * a1) + (2 : Int32)) 12) <|
  (ff_X8_felt a2 a3 h).bind fun v3 =>
  some (ff_X8_middleOf (h.1 106 (Int32.toNatClampNeg ((3 : Int32) * a1))) (h.1 106 (Int32.toNatClampNeg (((3 : Int32) * a1) + (2 : Int32)))) v3 a3)
def ff_X8_least (a1 : Int32) (a2 : Int32) (a3 : Int32) (h : hh_) : Option (Int32) :=
  (ff_X8_middle a1 a2 a3 h).bind fun v1 =>
  gd_ (bi_ (((3 : Int32) * a1) + (1 : Int32)) 12) <|
  some (ff_X8_greater (0 : Int32) (v1 - (h.1 106 (Int32.toNatClampNeg (((3 : Int32) * a1) + (1 : Int32))))))
def ff_X8_most (a1 : Int32) (a2 : Int32) (a3 : Int32) (h : hh_) : Option (Int32) :=
  (ff_X8_middle a1 a2 a3 h).bind fun v1 =>
  gd_ (bi_ (((3 : Int32) * a1) + (1 : Int32)) 12) <|
  some (v1 + (h.1 106 (Int32.toNatClampNeg (((3 : Int32) * a1) + (1 : Int32)))))
def ff_X8_marked_75 (x1 : Int32) (x2 : Int32) (x3 : Int32) (x4 : Int32) (x5 : Int32) (x7 : Int32) (h : hh_) (K75_76 : Int32 → Option (Int32)) : Option (Int32) :=
  K75_76 (0 : Int32)
def ff_X8_marked_99 (x1 : Int32) (x2 : Int32) (x4 : Int32) (x5 : Int32) (x6 : Int32) (x7 : Int32) (y0 : Int32) (h : hh_) (K99_100 : Int32 → Int32 → Option (Int32)) : Option (Int32) :=
  K99_100 y0 (0 : Int32)
def ff_X8_marked_153 (x1 : Int32) (x2 : Int32) (x4 : Int32) (x5 : Int32) (x6 : Int32) (x7 : Int32) (y0 : Int32) (y1 : Int32) (h : hh_) (K153_32 : Int32 → Int32 → Option (Int32)) : Option (Int32) :=
  if x2 = (5 : Int32) then
    (ff_X8_middle x1 x4 x7 h).bind fun v5 =>
    if v5 = (3 : Int32) then
      K153_32 ((y0 + y1) + (1 : Int32)) (x7 + (1 : Int32))
    else
      K153_32 ((y0 + y1) + (0 : Int32)) (x7 + (1 : Int32))
  else
    K153_32 ((y0 + y1) + (0 : Int32)) (x7 + (1 : Int32))
def ff_X8_marked_124 (x1 : Int32) (x2 : Int32) (x4 : Int32) (x5 : Int32) (x6 : Int32) (x7 : Int32) (y0 : Int32) (h : hh_) (K124_32 : Int32 → Int32 → Option (Int32)) : Option (Int32) :=
  if x2 = (4 : Int32) then
    (ff_X8_least x1 x4 x7 h).bind fun v7 =>
    (ff_X8_felt x4 x7 h).bind fun v9 =>
    ff_X8_marked_153 x1 x2 x4 x5 x6 x7 y0 (v7 - v9) h K124_32
  else
    ff_X8_marked_153 x1 x2 x4 x5 x6 x7 y0 (0 : Int32) h K124_32
def ff_X8_marked_100 (x1 : Int32) (x2 : Int32) (x4 : Int32) (x5 : Int32) (x6 : Int32) (x7 : Int32) (y0 : Int32) (y1 : Int32) (h : hh_) (K100_32 : Int32 → Int32 → Option (Int32)) : Option (Int32) :=
  if x2 = (2 : Int32) then
    (ff_X8_most x1 x4 x7 h).bind fun v11 =>
    ff_X8_marked_124 x1 x2 x4 x5 x6 x7 (ff_X8_greater (y0 + y1) v11) h K100_32
  else
    ff_X8_marked_124 x1 x2 x4 x5 x6 x7 (y0 + y1) h K100_32
def ff_X8_marked_76 (x1 : Int32) (x2 : Int32) (x3 : Int32) (x4 : Int32) (x5 : Int32) (x7 : Int32) (y0 : Int32) (h : hh_) (K76_32 : Int32 → Int32 → Int32 → Option (Int32)) : Option (Int32) :=
  if x2 = (1 : Int32) then
    (ff_X8_felt x4 x7 h).bind fun v15 =>
    if v15 = 0 then
      ff_X8_marked_100 x1 x2 x4 x5 y0 x7 x3 (1 : Int32) h (fun u21 u22 =>
        K76_32 u21 y0 u22)
    else
      ff_X8_marked_99 x1 x2 x4 x5 y0 x7 x3 h (fun q17 q18 =>
        ff_X8_marked_100 x1 x2 x4 x5 y0 x7 q17 q18 h (fun u19 u20 =>
          K76_32 u19 y0 u20))
  else
    ff_X8_marked_99 x1 x2 x4 x5 y0 x7 x3 h (fun q3 q4 =>
      ff_X8_marked_100 x1 x2 x4 x5 y0 x7 q3 q4 h (fun u13 u14 =>
        K76_32 u13 y0 u14))
def ff_X8_marked_71 (x1 : Int32) (x2 : Int32) (x3 : Int32) (x4 : Int32) (x5 : Int32) (x7 : Int32) (h : hh_) (K71_76 : Int32 → Option (Int32)) : Option (Int32) :=
  K71_76 (1 : Int32)
def ff_X8_marked_32 (x1 : Int32) (x2 : Int32) (x4 : Int32) (x5 : Int32) (h : hh_) (K32_187 : Int32 → Int32 → Option (Int32)) : Nat → Int32 → Int32 → Int32 → Option (Int32)
  | 0, _, _, _ => none
  | n9 + 1, x3, x6, x7 =>
    if (4 : Int32) ≤ x7 then
      K32_187 x3 x6
    else
      if x6 = 0 then
        ff_X8_marked_75 x1 x2 x3 x4 x5 x7 h (fun q2 =>
          ff_X8_marked_76 x1 x2 x3 x4 x5 x7 q2 h (fun z3 z6 z7 => ff_X8_marked_32 x1 x2 x4 x5 h K32_187 n9 z3 z6 z7))
      else
        if x7 = x5 then
          ff_X8_marked_71 x1 x2 x3 x4 x5 x7 h (fun q23 =>
            ff_X8_marked_76 x1 x2 x3 x4 x5 x7 q23 h (fun z3 z6 z7 => ff_X8_marked_32 x1 x2 x4 x5 h K32_187 n9 z3 z6 z7))
        else
          (ff_X8_least x1 x4 x5 h).bind fun v24 =>
          (ff_X8_least x1 x4 x7 h).bind fun v26 =>
          if v24 ≤ v26 then
            ff_X8_marked_75 x1 x2 x3 x4 x5 x7 h (fun q28 =>
              ff_X8_marked_76 x1 x2 x3 x4 x5 x7 q28 h (fun z3 z6 z7 => ff_X8_marked_32 x1 x2 x4 x5 h K32_187 n9 z3 z6 z7))
          else
            ff_X8_marked_71 x1 x2 x3 x4 x5 x7 h (fun q29 =>
              ff_X8_marked_76 x1 x2 x3 x4 x5 x7 q29 h (fun z3 z6 z7 => ff_X8_marked_32 x1 x2 x4 x5 h K32_187 n9 z3 z6 z7))
def ff_X8_marked_5 (x1 : Int32) (x2 : Int32) (h : hh_) : Nat → Int32 → Int32 → Option (Int32)
  | 0, _, _ => none
  | n9 + 1, x3, x4 =>
    if (h.1 98 10) ≤ x4 then
      some (x3)
    else
      gd_ (bi_ (((3 : Int32) * x1) + (2 : Int32)) 12) <|
      ff_X8_marked_32 x1 x2 x4 (h.1 106 (Int32.toNatClampNeg (((3 : Int32) * x1) + (2 : Int32)))) h (fun u30 u31 =>
        if x2 = (3 : Int32) then
          if u31 = 0 then
            ff_X8_marked_5 x1 x2 h n9 (u30 + (0 : Int32)) (x4 + (1 : Int32))
          else
            ff_X8_marked_5 x1 x2 h n9 (u30 + (1 : Int32)) (x4 + (1 : Int32))
        else
          ff_X8_marked_5 x1 x2 h n9 (u30 + (0 : Int32)) (x4 + (1 : Int32))) FU_ x3 (1 : Int32) (0 : Int32)
def ff_X8_marked (a1 : Int32) (a2 : Int32) (h : hh_) : Option (Int32) :=
  ff_X8_marked_5 a1 a2 h FU_ (0 : Int32) (0 : Int32)
def ff_X8_mark (a1 : Int32) (a2 : Int32) (h : hh_) : Option (Int32 × hh_) :=
  if (ff_X8_isThumb a1 h) = 0 then
    some ((-1 : Int32), h)
  else
    if (ff_X8_in a2 (1 : Int32) (5 : Int32)) = 0 then
      some ((-1 : Int32), h)
    else
      (ff_X8_isA a1 a2 h).bind fun v1 =>
      if v1 = 0 then
        (ff_X8_meet (3 : Int32) h).bind fun v3 =>
        some (v3.1, v3.2)
      else
        (ff_X8_marked a1 a2 h).bind fun v5 =>
        some (v5, h)
def ff_X8_error (a1 : Int32) (a2 : Int32) (h : hh_) : Option (Int32 × hh_) :=
  if (ff_X8_isThumb a1 h) = 0 then
    some ((-1 : Int32), h)
  else
    if (ff_X8_in a2 (0 : Int32) (2 : Int32)) = 0 then
      some ((-1 : Int32), h)
    else
      gd_ (bi_ (((3 : Int32) * a1) + (1 : Int32)) 12) <|
      some ((h.1 106 (Int32.toNatClampNeg (((3 : Int32) * a1) + (1 : Int32)))), (hh_sI h 106 (Int32.toNatClampNeg (((3 : Int32) * a1) + (1 : Int32))) a2))
def ff_X8_write_2 (x1 : Nat) (x2 : Int32) : Nat → Int32 → hh_ → Option (hh_)
  | 0, _, _ => none
  | n9 + 1, x3, h =>
    if (25 : Int32) ≤ x3 then
      some (h)
    else
      gd_ (bi_ x3 25) <|
      gd_ (bp_ x1 (x2 + x3)) <|
      ff_X8_write_2 x1 x2 n9 (x3 + (1 : Int32)) (hh_sI h x1 (Int32.toNatClampNeg (x2 + x3)) (h.1 105 (Int32.toNatClampNeg x3)))
def ff_X8_write (a1 : Nat) (a2 : Int32) (h : hh_) : Option (hh_) :=
  ff_X8_write_2 a1 a2 FU_ (0 : Int32) h
def ff_X8_readBack_2 (x1 : Nat) (x2 : Int32) : Nat → Int32 → hh_ → Option (hh_)
  | 0, _, _ => none
  | n9 + 1, x3, h =>
    if (25 : Int32) ≤ x3 then
      some (h)
    else
      gd_ (bp_ x1 (x2 + x3)) <|
      gd_ (bi_ x3 25) <|
      ff_X8_readBack_2 x1 x2 n9 (x3 + (1 : Int32)) (hh_sI h 105 (Int32.toNatClampNeg x3) (h.1 x1 (Int32.toNatClampNeg (x2 + x3))))
def ff_X8_readBack (a1 : Nat) (a2 : Int32) (h : hh_) : Option (hh_) :=
  ff_X8_readBack_2 a1 a2 FU_ (0 : Int32) h
def ff_X8_note (h : hh_) : Option (hh_) :=
  (ff_X8_write 109 ((25 : Int32) * (h.1 98 21)) h).bind fun v1 =>
  some (hh_sI v1 98 21 ((v1.1 98 21) + (1 : Int32)))
def ff_X8_pad (a1 : Int32) (a2 : Int32) (h : hh_) : Option (Int32 × hh_) :=
  if (ff_X8_isHead a1 h) = 0 then
    some ((-1 : Int32), h)
  else
    if (ff_X8_isPlace a2) = 0 then
      some ((-1 : Int32), h)
    else
      (ff_X8_bump a1 a2 h).bind fun v1 =>
      if v1 = (5 : Int32) then
        some ((-4 : Int32), h)
      else
        if (h.1 98 21) = (40 : Int32) then
          some ((-2 : Int32), h)
        else
          (ff_X8_note h).bind fun v3 =>
          gd_ (bi_ (((5 : Int32) * a1) + a2) 25) <|
          (ff_X8_bump a1 a2 (hh_sI v3 105 (Int32.toNatClampNeg (((5 : Int32) * a1) + a2)) ((v3.1 105 (Int32.toNatClampNeg (((5 : Int32) * a1) + a2))) + (1 : Int32)))).bind fun v6 =>
          some (v6, (hh_sI v3 105 (Int32.toNatClampNeg (((5 : Int32) * a1) + a2)) ((v3.1 105 (Int32.toNatClampNeg (((5 : Int32) * a1) + a2))) + (1 : Int32))))
def ff_X8_grow_28 (x1 : Int32) : Nat → Int32 → hh_ → Option (Int32 × hh_)
  | 0, _, _ => none
  | n9 + 1, x2, h =>
    if (4 : Int32) ≤ x2 then
      (ff_X8_bumps x1 h).bind fun v3 =>
      some (v3, h)
    else
      (ff_X8_bump x1 x2 h).bind fun v5 =>
      gd_ (bi_ (((5 : Int32) * x1) + x2) 25) <|
      ff_X8_grow_28 x1 n9 (x2 + (1 : Int32)) (hh_sI h 105 (Int32.toNatClampNeg (((5 : Int32) * x1) + x2)) (ff_X8_lesser (5 : Int32) (v5 + (1 : Int32))))
def ff_X8_grow (a1 : Int32) (h : hh_) : Option (Int32 × hh_) :=
  if (ff_X8_isHead a1 h) = 0 then
    some ((-1 : Int32), h)
  else
    if (h.1 98 21) = (40 : Int32) then
      some ((-2 : Int32), h)
    else
      (ff_X8_note h).bind fun v1 =>
      ff_X8_grow_28 a1 FU_ (0 : Int32) v1
def ff_X8_cut (a1 : Int32) (a2 : Int32) (h : hh_) : Option (Int32 × hh_) :=
  if (ff_X8_isHead a1 h) = 0 then
    some ((-1 : Int32), h)
  else
    if (ff_X8_in a2 (0 : Int32) (2 : Int32)) = 0 then
      some ((-1 : Int32), h)
    else
      gd_ (bi_ (((5 : Int32) * a1) + (4 : Int32)) 25) <|
      if a2 < (h.1 105 (Int32.toNatClampNeg (((5 : Int32) * a1) + (4 : Int32)))) then
        if (h.1 98 21) = (40 : Int32) then
          some ((-2 : Int32), h)
        else
          (ff_X8_note h).bind fun v2 =>
          some ((h.1 105 (Int32.toNatClampNeg (((5 : Int32) * a1) + (4 : Int32)))), (hh_sI v2 105 (Int32.toNatClampNeg (((5 : Int32) * a1) + (4 : Int32))) a2))
      else
        some ((-4 : Int32), h)
def ff_X8_undo (a1 : Int32) (h : hh_) : Option (Int32 × hh_) :=
  if (ff_X8_in a1 (0 : Int32) (h.1 98 21)) = 0 then
    some ((-1 : Int32), h)
  else
    if ((h.1 98 21) - a1) ≤ 0 then
      some (((h.1 98 21) - a1), h)
    else
      (ff_X8_readBack 109 ((25 : Int32) * a1) h).bind fun v1 =>
      some (((h.1 98 21) - a1), (hh_sI v1 98 21 a1))
def ff_X8_keep_39 (x2 : Int32) (K39_70 : hh_ → Option (Int32 × hh_)) : Nat → Int32 → hh_ → Option (Int32 × hh_)
  | 0, _, _ => none
  | n9 + 1, x3, h =>
    if (4 : Int32) ≤ x3 then
      K39_70 h
    else
      gd_ (bi_ (((3 : Int32) * x3) + (1 : Int32)) 12) <|
      gd_ (bi_ ((x2 + (1 : Int32)) + x3) 3090) <|
      ff_X8_keep_39 x2 K39_70 n9 (x3 + (1 : Int32)) (hh_sI h 110 (Int32.toNatClampNeg ((x2 + (1 : Int32)) + x3)) (h.1 106 (Int32.toNatClampNeg (((3 : Int32) * x3) + (1 : Int32)))))
def ff_X8_keep_83 (x2 : Int32) : Nat → Int32 → hh_ → Option (Int32 × hh_)
  | 0, _, _ => none
  | n9 + 1, x3, h =>
    if (1000 : Int32) ≤ x3 then
      some ((h.1 98 21), h)
    else
      gd_ (bi_ x3 1000) <|
      gd_ (bi_ ((x2 + (30 : Int32)) + x3) 3090) <|
      ff_X8_keep_83 x2 n9 (x3 + (1 : Int32)) (hh_sI h 110 (Int32.toNatClampNeg ((x2 + (30 : Int32)) + x3)) (h.1 109 (Int32.toNatClampNeg x3)))
def ff_X8_keep (a1 : Int32) (h : hh_) : Option (Int32 × hh_) :=
  if (ff_X8_in a1 (0 : Int32) (2 : Int32)) = 0 then
    some ((-1 : Int32), h)
  else
    if (h.1 98 10) = 0 then
      some ((-4 : Int32), h)
    else
      gd_ (bi_ ((1030 : Int32) * a1) 3090) <|
      ff_X8_keep_39 ((1030 : Int32) * a1) (fun k4 =>
        (ff_X8_write 110 (((1030 : Int32) * a1) + (5 : Int32)) k4).bind fun v5 =>
        ff_X8_keep_83 ((1030 : Int32) * a1) FU_ (0 : Int32) v5) FU_ (0 : Int32) (hh_sI h 110 (Int32.toNatClampNeg ((1030 : Int32) * a1)) (h.1 98 21))
def ff_X8_on_46 (x2 : Int32) (K46_77 : hh_ → Option (Int32 × hh_)) : Nat → Int32 → hh_ → Option (Int32 × hh_)
  | 0, _, _ => none
  | n9 + 1, x3, h =>
    if (4 : Int32) ≤ x3 then
      K46_77 h
    else
      gd_ (bi_ ((x2 + (1 : Int32)) + x3) 3090) <|
      gd_ (bi_ (((3 : Int32) * x3) + (1 : Int32)) 12) <|
      ff_X8_on_46 x2 K46_77 n9 (x3 + (1 : Int32)) (hh_sI h 106 (Int32.toNatClampNeg (((3 : Int32) * x3) + (1 : Int32))) (h.1 110 (Int32.toNatClampNeg ((x2 + (1 : Int32)) + x3))))
def ff_X8_on_90 (x2 : Int32) : Nat → Int32 → hh_ → Option (Int32 × hh_)
  | 0, _, _ => none
  | n9 + 1, x3, h =>
    if (1000 : Int32) ≤ x3 then
      some ((h.1 98 21), h)
    else
      gd_ (bi_ ((x2 + (30 : Int32)) + x3) 3090) <|
      gd_ (bi_ x3 1000) <|
      ff_X8_on_90 x2 n9 (x3 + (1 : Int32)) (hh_sI h 109 (Int32.toNatClampNeg x3) (h.1 110 (Int32.toNatClampNeg ((x2 + (30 : Int32)) + x3))))
def ff_X8_on (a1 : Int32) (h : hh_) : Option (Int32 × hh_) :=
  if (ff_X8_in a1 (0 : Int32) (2 : Int32)) = 0 then
    some ((-1 : Int32), h)
  else
    gd_ (bi_ ((1030 : Int32) * a1) 3090) <|
    if (h.1 110 (Int32.toNatClampNeg ((1030 : Int32) * a1))) = (-9 : Int32) then
      (ff_X8_meet (1 : Int32) h).bind fun v9 =>
      some (v9.1, v9.2)
    else
      ff_X8_on_46 ((1030 : Int32) * a1) (fun k4 =>
        (ff_X8_readBack 110 (((1030 : Int32) * a1) + (5 : Int32)) k4).bind fun v5 =>
        ff_X8_on_90 ((1030 : Int32) * a1) FU_ (0 : Int32) v5) FU_ (0 : Int32) (hh_sI h 98 21 (h.1 110 (Int32.toNatClampNeg ((1030 : Int32) * a1))))
def ff_X8_reads (a1 : Int32) (a2 : Int32) (a3 : Int32) (h : hh_) : Option (Int32 × hh_) :=
  if (ff_X8_isThumb a1 h) = 0 then
    some ((-1 : Int32), h)
  else
    if (ff_X8_isHead a2 h) = 0 then
      some ((-1 : Int32), h)
    else
      if (ff_X8_isPlace a3) = 0 then
        some ((-1 : Int32), h)
      else
        (ff_X8_most a1 a2 a3 h).bind fun v1 =>
        (ff_X8_least a1 a2 a3 h).bind fun v3 =>
        some ((ff_X8_ask v1 v3 h).1, (ff_X8_ask v1 v3 h).2)
def ff_X8_askedReading_30 (x1 : Int32) (h : hh_) : Nat → Int32 → Option (Int32 × hh_)
  | 0, _ => none
  | n9 + 1, x3 =>
    if (4 : Int32) ≤ x3 then
      some ((0 : Int32), h)
    else
      (ff_X8_rowAt x1 x3 h).bind fun v4 =>
      if (ff_X8_in v4 (0 : Int32) (9 : Int32)) = 0 then
        (ff_X8_meet (3 : Int32) h).bind fun v6 =>
        some (v6.1, v6.2)
      else
        ff_X8_askedReading_30 x1 h n9 (x3 + (1 : Int32))
def ff_X8_askedReading (a1 : Int32) (h : hh_) : Option (Int32 × hh_) :=
  (ff_X8_askedRow a1 h).bind fun v1 =>
  if 0 ≤ v1.1 then
    gd_ (bi_ a1 6) <|
    if (v1.2.1 100 (Int32.toNatClampNeg a1)) = (4 : Int32) then
      ff_X8_askedReading_30 a1 v1.2 FU_ (0 : Int32)
    else
      (ff_X8_meet (5 : Int32) v1.2).bind fun v8 =>
      some (v8.1, v8.2)
  else
    some (v1.1, v1.2)
def ff_X8_doesFit_6 (x1 : Int32) (x2 : Int32) (x3 : Int32) (h : hh_) : Nat → Int32 → Int32 → Option (Int32)
  | 0, _, _ => none
  | n9 + 1, x4, x5 =>
    if (4 : Int32) ≤ x5 then
      gd_ (bz_ x4) <|
      some (x4)
    else
      if x4 = 0 then
        ff_X8_doesFit_6 x1 x2 x3 h n9 (0 : Int32) (x5 + (1 : Int32))
      else
        (ff_X8_rowAt x3 x5 h).bind fun v2 =>
        (ff_X8_least x1 x2 x5 h).bind fun v4 =>
        (ff_X8_most x1 x2 x5 h).bind fun v6 =>
        if (ff_X8_in v2 v4 v6) = 0 then
          ff_X8_doesFit_6 x1 x2 x3 h n9 (0 : Int32) (x5 + (1 : Int32))
        else
          ff_X8_doesFit_6 x1 x2 x3 h n9 (1 : Int32) (x5 + (1 : Int32))
def ff_X8_doesFit (a1 : Int32) (a2 : Int32) (a3 : Int32) (h : hh_) : Option (Int32) :=
  ff_X8_doesFit_6 a1 a2 a3 h FU_ (1 : Int32) (0 : Int32)
def ff_X8_fits (a1 : Int32) (a2 : Int32) (a3 : Int32) (h : hh_) : Option (Int32 × hh_) :=
  if (ff_X8_isThumb a1 h) = 0 then
    some ((-1 : Int32), h)
  else
    if (ff_X8_isHead a2 h) = 0 then
      some ((-1 : Int32), h)
    else
      (ff_X8_askedReading a3 h).bind fun v1 =>
      if 0 ≤ v1.1 then
        (ff_X8_doesFit a1 a2 a3 v1.2).bind fun v3 =>
        if v3 = 0 then
          some ((0 : Int32), v1.2)
        else
          some ((1 : Int32), v1.2)
      else
        some (v1.1, v1.2)
def ff_X8_headsBy_5 (x1 : Int32) (x2 : Int32) (h : hh_) : Nat → Int32 → Int32 → Option (Int32)
  | 0, _, _ => none
  | n9 + 1, x3, x4 =>
    if (h.1 98 10) ≤ x4 then
      some (x3)
    else
      (ff_X8_doesFit x1 x4 x2 h).bind fun v1 =>
      if v1 = 0 then
        ff_X8_headsBy_5 x1 x2 h n9 (x3 ||| (0 : Int32)) (x4 + (1 : Int32))
      else
        ff_X8_headsBy_5 x1 x2 h n9 (x3 ||| ((1 : Int32) <<< (x4 &&& 31))) (x4 + (1 : Int32))
def ff_X8_headsBy (a1 : Int32) (a2 : Int32) (h : hh_) : Option (Int32) :=
  ff_X8_headsBy_5 a1 a2 h FU_ (0 : Int32) (0 : Int32)
def ff_X8_whose_28 (x1 : Int32) (x2 : Int32) (h : hh_) : Nat → Int32 → Int32 → Option (Int32 × hh_)
  | 0, _, _ => none
  | n9 + 1, x4, x5 =>
    if (h.1 98 11) ≤ x5 then
      (ff_X8_headsBy x1 x2 h).bind fun v3 =>
      some ((ff_X8_ask x4 v3 h).1, (ff_X8_ask x4 v3 h).2)
    else
      (ff_X8_headsBy x5 x2 h).bind fun v5 =>
      ff_X8_whose_28 x1 x2 h n9 (x4 ||| v5) (x5 + (1 : Int32))
def ff_X8_whose (a1 : Int32) (a2 : Int32) (h : hh_) : Option (Int32 × hh_) :=
  if (ff_X8_isThumb a1 h) = 0 then
    some ((-1 : Int32), h)
  else
    (ff_X8_askedReading a2 h).bind fun v1 =>
    if 0 ≤ v1.1 then
      ff_X8_whose_28 a1 a2 v1.2 FU_ (0 : Int32) (0 : Int32)
    else
      some (v1.1, v1.2)
def ff_X8_who_28 (x1 : Int32) (x2 : Int32) (h : hh_) : Nat → Int32 → Int32 → Option (Int32 × hh_)
  | 0, _, _ => none
  | n9 + 1, x4, x5 =>
    if (h.1 98 11) ≤ x5 then
      some (x4, h)
    else
      (ff_X8_doesFit x5 x1 x2 h).bind fun v3 =>
      if v3 = 0 then
        ff_X8_who_28 x1 x2 h n9 (x4 ||| (0 : Int32)) (x5 + (1 : Int32))
      else
        ff_X8_who_28 x1 x2 h n9 (x4 ||| ((1 : Int32) <<< (x5 &&& 31))) (x5 + (1 : Int32))
def ff_X8_who (a1 : Int32) (a2 : Int32) (h : hh_) : Option (Int32 × hh_) :=
  if (ff_X8_isHead a1 h) = 0 then
    some ((-1 : Int32), h)
  else
    (ff_X8_askedReading a2 h).bind fun v1 =>
    if 0 ≤ v1.1 then
      ff_X8_who_28 a1 a2 v1.2 FU_ (0 : Int32) (0 : Int32)
    else
      some (v1.1, v1.2)
def ff_X8_spread (a1 : Int32) (a2 : Int32) (a3 : Int32) (h : hh_) : Option (Int32) :=
  (ff_X8_most a1 a2 a3 h).bind fun v1 =>
  (ff_X8_least a1 a2 a3 h).bind fun v3 =>
  some ((v1 - v3) + (1 : Int32))
def ff_X8_weight_20 (x1 : Int32) (x2 : Int32) (h : hh_) : Nat → Int64 → Int32 → Option (Int64)
  | 0, _, _ => none
  | n9 + 1, x4, x6 =>
    if (4 : Int32) ≤ x6 then
      some (x4)
    else
      (ff_X8_spread x1 x2 x6 h).bind fun v3 =>
      gd_ (bn_ v3) <|
      ff_X8_weight_20 x1 x2 h n9 (x4 * (Int32.toInt64 ((60 : Int32) / v3))) (x6 + (1 : Int32))
def ff_X8_weight_15 (x1 : Int32) (x2 : Int32) (y0 : Int64) (h : hh_) : Option (Int64) :=
  ff_X8_weight_20 x1 x2 h FU_ y0 (0 : Int32)
def ff_X8_weight (a1 : Int32) (a2 : Int32) (a3 : Int32) (h : hh_) : Option (Int64) :=
  (ff_X8_doesFit a1 a2 a3 h).bind fun v1 =>
  if v1 = 0 then
    ff_X8_weight_15 a1 a2 (0 : Int64) h
  else
    ff_X8_weight_15 a1 a2 (1 : Int64) h
def ff_X8_odds_39 (x1 : Int32) (x2 : Int32) (x3 : Int32) (h : hh_) (K39_67 : Int64 → Option (Int32 × hh_)) : Nat → Int64 → Int32 → Option (Int32 × hh_)
  | 0, _, _ => none
  | n9 + 1, x5, x7 =>
    if (h.1 98 10) ≤ x7 then
      K39_67 x5
    else
      (ff_X8_weight x1 x7 x3 h).bind fun v3 =>
      ff_X8_odds_39 x1 x2 x3 h K39_67 n9 (x5 + v3) (x7 + (1 : Int32))
def ff_X8_odds (a1 : Int32) (a2 : Int32) (a3 : Int32) (h : hh_) : Option (Int32 × hh_) :=
  if (ff_X8_isThumb a1 h) = 0 then
    some ((-1 : Int32), h)
  else
    if (ff_X8_isHead a2 h) = 0 then
      some ((-1 : Int32), h)
    else
      (ff_X8_askedReading a3 h).bind fun v1 =>
      if 0 ≤ v1.1 then
        ff_X8_odds_39 a1 a2 a3 v1.2 (fun u5 =>
          if (lg_cmp u5 (0 : Int64)) = 0 then
            (ff_X8_meet (4 : Int32) v1.2).bind fun v10 =>
            some (v10.1, v10.2)
          else
            (ff_X8_weight a1 a2 a3 v1.2).bind fun v6 =>
            (ff_X8_part v6 u5 v1.2).bind fun v8 =>
            some (v8.1, v8.2)) FU_ (0 : Int64) (0 : Int32)
      else
        some (v1.1, v1.2)
def ff_X8_areApart (a1 : Int32) (a2 : Int32) (a3 : Int32) (a4 : Int32) (h : hh_) : Option (Int32) :=
  (ff_X8_most a1 a2 a4 h).bind fun v1 =>
  (ff_X8_least a1 a3 a4 h).bind fun v3 =>
  if v1 < v3 then
    some (1 : Int32)
  else
    (ff_X8_most a1 a3 a4 h).bind fun v5 =>
    (ff_X8_least a1 a2 a4 h).bind fun v7 =>
    if v7 ≤ v5 then
      some (0 : Int32)
    else
      some (1 : Int32)
def ff_X8_look_44 (x1 : Int32) (x2 : Int32) (x3 : Int32) (x4 : Int32) (x6 : Int32) (h : hh_) (K44_83 : Int32 → Option (Int32 × hh_)) : Nat → Int32 → Int32 → Option (Int32 × hh_)
  | 0, _, _ => none
  | n9 + 1, x5, x7 =>
    if (h.1 98 10) ≤ x7 then
      K44_83 x5
    else
      (ff_X8_areApart x1 x6 x7 x4 h).bind fun v1 =>
      if v1 = 0 then
        ff_X8_look_44 x1 x2 x3 x4 x6 h K44_83 n9 (x5 + (0 : Int32)) (x7 + (1 : Int32))
      else
        ff_X8_look_44 x1 x2 x3 x4 x6 h K44_83 n9 (x5 + (1 : Int32)) (x7 + (1 : Int32))
def ff_X8_look_29 (x1 : Int32) (x2 : Int32) (x3 : Int32) (x4 : Int32) (h : hh_) (K29_89 : Int32 → Option (Int32 × hh_)) : Nat → Int32 → Int32 → Option (Int32 × hh_)
  | 0, _, _ => none
  | n9 + 1, x5, x6 =>
    if (h.1 98 10) ≤ x6 then
      K29_89 x5
    else
      ff_X8_look_44 x1 x2 x3 x4 x6 h (fun u3 =>
        ff_X8_look_29 x1 x2 x3 x4 h K29_89 n9 u3 (x6 + (1 : Int32))) FU_ x5 (x6 + (1 : Int32))
def ff_X8_look_17 (x1 : Int32) (h : hh_) : Nat → Int32 → Int32 → Int32 → Option (Int32 × hh_)
  | 0, _, _, _ => none
  | n9 + 1, x2, x3, x4 =>
    if (4 : Int32) ≤ x4 then
      some ((ff_X8_ask x3 x2 h).1, (ff_X8_ask x3 x2 h).2)
    else
      ff_X8_look_29 x1 x2 x3 x4 h (fun u4 =>
        if u4 ≤ x3 then
          ff_X8_look_17 x1 h n9 x2 (ff_X8_greater u4 x3) (x4 + (1 : Int32))
        else
          ff_X8_look_17 x1 h n9 x4 (ff_X8_greater u4 x3) (x4 + (1 : Int32))) FU_ (0 : Int32) (0 : Int32)
def ff_X8_look (a1 : Int32) (h : hh_) : Option (Int32 × hh_) :=
  if (ff_X8_isThumb a1 h) = 0 then
    some ((-1 : Int32), h)
  else
    ff_X8_look_17 a1 h FU_ (0 : Int32) (0 : Int32) (0 : Int32)
def ff_X8_alike_38 (x1 : Int32) (x2 : Int32) (x3 : Int32) (x4 : Int32) (h : hh_) (K38_75 : Int32 → Option (Int32)) : Nat → Int32 → Int32 → Option (Int32)
  | 0, _, _ => none
  | n9 + 1, x5, x6 =>
    if (4 : Int32) ≤ x6 then
      K38_75 x5
    else
      if x5 = 0 then
        (ff_X8_areApart x1 x4 x2 x6 h).bind fun v1 =>
        if v1 = 0 then
          ff_X8_alike_38 x1 x2 x3 x4 h K38_75 n9 (0 : Int32) (x6 + (1 : Int32))
        else
          ff_X8_alike_38 x1 x2 x3 x4 h K38_75 n9 (1 : Int32) (x6 + (1 : Int32))
      else
        ff_X8_alike_38 x1 x2 x3 x4 h K38_75 n9 (1 : Int32) (x6 + (1 : Int32))
def ff_X8_alike_23 (x1 : Int32) (x2 : Int32) (h : hh_) : Nat → Int32 → Int32 → Option (Int32)
  | 0, _, _ => none
  | n9 + 1, x3, x4 =>
    if (h.1 98 10) ≤ x4 then
      some (x3)
    else
      ff_X8_alike_38 x1 x2 x3 x4 h (fun u3 =>
        if u3 = 0 then
          ff_X8_alike_23 x1 x2 h n9 (x3 ||| ((1 : Int32) <<< (x4 &&& 31))) (x4 + (1 : Int32))
        else
          ff_X8_alike_23 x1 x2 h n9 (x3 ||| (0 : Int32)) (x4 + (1 : Int32))) FU_ (0 : Int32) (0 : Int32)
def ff_X8_alike (a1 : Int32) (a2 : Int32) (h : hh_) : Option (Int32) :=
  if (ff_X8_isThumb a1 h) = 0 then
    some (-1 : Int32)
  else
    if (ff_X8_isHead a2 h) = 0 then
      some (-1 : Int32)
    else
      ff_X8_alike_23 a1 a2 h FU_ (0 : Int32) (0 : Int32)
def ff_X8_need (a1 : Int32) (a2 : Int32) (h : hh_) : Option (Int32) :=
  gd_ (bi_ (((5 : Int32) * a1) + a2) 20) <|
  some (h.1 107 (Int32.toNatClampNeg (((5 : Int32) * a1) + a2)))
def ff_X8_suitsOf_42 (x1 : Int32) (x2 : Int32) (x3 : Int32) (x5 : Int32) (x6 : Int32) (h : hh_) (K42_43 : Int32 → Option (Int32)) : Option (Int32) :=
  K42_43 (0 : Int32)
def ff_X8_suitsOf_43 (x1 : Int32) (x2 : Int32) (x3 : Int32) (x5 : Int32) (x6 : Int32) (y0 : Int32) (h : hh_) (K43_9 : Int32 → Int32 → Int32 → Option (Int32)) : Option (Int32) :=
  if x5 = 0 then
    K43_9 y0 (0 : Int32) (x6 + (1 : Int32))
  else
    (ff_X8_most x1 x2 x6 h).bind fun v2 =>
    (ff_X8_need x3 x6 h).bind fun v4 =>
    if v2 < v4 then
      K43_9 y0 (0 : Int32) (x6 + (1 : Int32))
    else
      K43_9 y0 (1 : Int32) (x6 + (1 : Int32))
def ff_X8_suitsOf_9 (x1 : Int32) (x2 : Int32) (x3 : Int32) (h : hh_) (K9_81 : Int32 → Int32 → Option (Int32)) : Nat → Int32 → Int32 → Int32 → Option (Int32)
  | 0, _, _, _ => none
  | n9 + 1, x4, x5, x6 =>
    if (4 : Int32) ≤ x6 then
      K9_81 x4 x5
    else
      if x4 = 0 then
        ff_X8_suitsOf_42 x1 x2 x3 x5 x6 h (fun q1 =>
          ff_X8_suitsOf_43 x1 x2 x3 x5 x6 q1 h (fun z4 z5 z6 => ff_X8_suitsOf_9 x1 x2 x3 h K9_81 n9 z4 z5 z6))
      else
        (ff_X8_least x1 x2 x6 h).bind fun v6 =>
        (ff_X8_need x3 x6 h).bind fun v8 =>
        if v6 < v8 then
          ff_X8_suitsOf_42 x1 x2 x3 x5 x6 h (fun q10 =>
            ff_X8_suitsOf_43 x1 x2 x3 x5 x6 q10 h (fun z4 z5 z6 => ff_X8_suitsOf_9 x1 x2 x3 h K9_81 n9 z4 z5 z6))
        else
          ff_X8_suitsOf_43 x1 x2 x3 x5 x6 (1 : Int32) h (fun z4 z5 z6 => ff_X8_suitsOf_9 x1 x2 x3 h K9_81 n9 z4 z5 z6)
def ff_X8_suitsOf (a1 : Int32) (a2 : Int32) (a3 : Int32) (h : hh_) : Option (Int32) :=
  ff_X8_suitsOf_9 a1 a2 a3 h (fun u11 u12 =>
    if u11 = 0 then
      if u12 = 0 then
        some (0 : Int32)
      else
        some (1 : Int32)
    else
      some (2 : Int32)) FU_ (1 : Int32) (1 : Int32) (0 : Int32)
def ff_X8_suits (a1 : Int32) (a2 : Int32) (a3 : Int32) (h : hh_) : Option (Int32) :=
  if (ff_X8_isThumb a1 h) = 0 then
    some (-1 : Int32)
  else
    if (ff_X8_isHead a2 h) = 0 then
      some (-1 : Int32)
    else
      if (ff_X8_isPost a3 h) = 0 then
        some (-1 : Int32)
      else
        (ff_X8_suitsOf a1 a2 a3 h).bind fun v1 =>
        some (v1)
def ff_X8_luck_35 (x1 : Int32) (x2 : Int32) (x3 : Int32) (h : hh_) : Nat → Int64 → Int64 → Int32 → Option (Int32 × hh_)
  | 0, _, _, _ => none
  | n9 + 1, x4, x6, x8 =>
    if (4 : Int32) ≤ x8 then
      (ff_X8_part x4 x6 h).bind fun v1 =>
      some (v1.1, v1.2)
    else
      (ff_X8_least x1 x2 x8 h).bind fun v3 =>
      (ff_X8_need x3 x8 h).bind fun v5 =>
      (ff_X8_most x1 x2 x8 h).bind fun v7 =>
      (ff_X8_spread x1 x2 x8 h).bind fun v9 =>
      ff_X8_luck_35 x1 x2 x3 h n9 (x4 * (Int32.toInt64 (ff_X8_greater (0 : Int32) ((v7 - (ff_X8_greater v3 v5)) + (1 : Int32))))) (x6 * (Int32.toInt64 v9)) (x8 + (1 : Int32))
def ff_X8_luck (a1 : Int32) (a2 : Int32) (a3 : Int32) (h : hh_) : Option (Int32 × hh_) :=
  if (ff_X8_isThumb a1 h) = 0 then
    some ((-1 : Int32), h)
  else
    if (ff_X8_isHead a2 h) = 0 then
      some ((-1 : Int32), h)
    else
      if (ff_X8_isPost a3 h) = 0 then
        some ((-1 : Int32), h)
      else
        ff_X8_luck_35 a1 a2 a3 h FU_ (1 : Int64) (1 : Int64) (0 : Int32)
def ff_X8_padsAt_16 (x1 : Int32) (x2 : Int32) (x3 : Int32) (x4 : Int32) (x5 : Int32) : Nat → Int32 → Int32 → hh_ → Option (Int32 × hh_)
  | 0, _, _, _ => none
  | n9 + 1, x6, x7, h =>
    if x7 < x5 then
      gd_ (bi_ (((5 : Int32) * x2) + x4) 25) <|
      some (x6, (hh_sI h 105 (Int32.toNatClampNeg (((5 : Int32) * x2) + x4)) x5))
    else
      gd_ (bi_ (((5 : Int32) * x2) + x4) 25) <|
      (ff_X8_least x1 x2 x4 (hh_sI h 105 (Int32.toNatClampNeg (((5 : Int32) * x2) + x4)) x7)).bind fun v5 =>
      (ff_X8_need x3 x4 (hh_sI h 105 (Int32.toNatClampNeg (((5 : Int32) * x2) + x4)) x7)).bind fun v7 =>
      if v5 < v7 then
        ff_X8_padsAt_16 x1 x2 x3 x4 x5 n9 x6 (x7 + (-1 : Int32)) (hh_sI h 105 (Int32.toNatClampNeg (((5 : Int32) * x2) + x4)) x7)
      else
        ff_X8_padsAt_16 x1 x2 x3 x4 x5 n9 (x7 - x5) (x7 + (-1 : Int32)) (hh_sI h 105 (Int32.toNatClampNeg (((5 : Int32) * x2) + x4)) x7)
def ff_X8_padsAt (a1 : Int32) (a2 : Int32) (a3 : Int32) (a4 : Int32) (h : hh_) : Option (Int32 × hh_) :=
  (ff_X8_bump a2 a4 h).bind fun v1 =>
  ff_X8_padsAt_16 a1 a2 a3 a4 v1 FU_ (-9 : Int32) (5 : Int32) h
def ff_X8_pads_40 (x1 : Int32) (x2 : Int32) (x3 : Int32) (x4 : Int32) (K40_80 : Int32 → hh_ → Option (Int32 × hh_)) : Nat → Int32 → Int32 → hh_ → Option (Int32 × hh_)
  | 0, _, _, _ => none
  | n9 + 1, x5, x6, h =>
    if (4 : Int32) ≤ x6 then
      K40_80 x5 h
    else
      (ff_X8_padsAt x1 x2 x3 x6 h).bind fun v1 =>
      if v1.1 = (-9 : Int32) then
        some ((-9 : Int32), v1.2)
      else
        ff_X8_pads_40 x1 x2 x3 x4 K40_80 n9 (x5 + v1.1) (x6 + (1 : Int32)) v1.2
def ff_X8_pads_91 (x1 : Int32) (x2 : Int32) (x3 : Int32) (x4 : Int32) (x5 : Int32) : Nat → Int32 → hh_ → Option (Int32 × hh_)
  | 0, _, _ => none
  | n9 + 1, x6, h =>
    if (4 : Int32) ≤ x6 then
      some (x5, h)
    else
      (ff_X8_padsAt x1 x2 x3 x6 h).bind fun v7 =>
      (ff_X8_setRow x4 x6 v7.1 v7.2).bind fun v9 =>
      ff_X8_pads_91 x1 x2 x3 x4 x5 n9 (x6 + (1 : Int32)) v9
def ff_X8_pads (a1 : Int32) (a2 : Int32) (a3 : Int32) (a4 : Int32) (h : hh_) : Option (Int32 × hh_) :=
  if (ff_X8_isThumb a1 h) = 0 then
    some ((-1 : Int32), h)
  else
    if (ff_X8_isHead a2 h) = 0 then
      some ((-1 : Int32), h)
    else
      if (ff_X8_isPost a3 h) = 0 then
        some ((-1 : Int32), h)
      else
        if (ff_X8_isRow a4) = 0 then
          some ((-1 : Int32), h)
        else
          ff_X8_pads_40 a1 a2 a3 a4 (fun u3 k4 =>
            (ff_X8_row a4 (4 : Int32) k4).bind fun v5 =>
            ff_X8_pads_91 a1 a2 a3 a4 u3 FU_ (0 : Int32) v5.2) FU_ (0 : Int32) (0 : Int32) h
def ff_X8_all_45 (x1 : Int32) (x2 : Int32) (x3 : Int32) (x4 : Int32) (K45_91 : Int32 → hh_ → Option (Int32 × hh_)) : Nat → Int32 → Int32 → hh_ → Option (Int32 × hh_)
  | 0, _, _, _ => none
  | n9 + 1, x5, x6, h =>
    if (h.1 98 11) ≤ x6 then
      K45_91 x5 h
    else
      (ff_X8_padsAt x6 x1 x2 x4 h).bind fun v1 =>
      if v1.1 = (-9 : Int32) then
        some ((-9 : Int32), v1.2)
      else
        ff_X8_all_45 x1 x2 x3 x4 K45_91 n9 (ff_X8_greater x5 v1.1) (x6 + (1 : Int32)) v1.2
def ff_X8_all_33 (x1 : Int32) (x2 : Int32) : Nat → Int32 → Int32 → hh_ → Option (Int32 × hh_)
  | 0, _, _, _ => none
  | n9 + 1, x3, x4, h =>
    if (4 : Int32) ≤ x4 then
      some (x3, h)
    else
      ff_X8_all_45 x1 x2 x3 x4 (fun u3 k4 =>
        ff_X8_all_33 x1 x2 n9 (x3 + u3) (x4 + (1 : Int32)) k4) FU_ (0 : Int32) (0 : Int32) h
def ff_X8_all (a1 : Int32) (a2 : Int32) (h : hh_) : Option (Int32 × hh_) :=
  if (ff_X8_isHead a1 h) = 0 then
    some ((-1 : Int32), h)
  else
    if (ff_X8_isPost a2 h) = 0 then
      some ((-1 : Int32), h)
    else
      if (h.1 98 11) = 0 then
        some ((-4 : Int32), h)
      else
        ff_X8_all_33 a1 a2 FU_ (0 : Int32) (0 : Int32) h
def ff_X8_finds_115 (x1 : Int32) (x2 : Int32) (x3 : Int32) (x4 : Int32) (x5 : Int32) (h : hh_) (K115_120 : Int32 → Option (Int32 × hh_)) : Option (Int32 × hh_) :=
  K115_120 (1 : Int32)
def ff_X8_finds_120 (x1 : Int32) (x2 : Int32) (x3 : Int32) (x4 : Int32) (x5 : Int32) (y0 : Int32) (h : hh_) (K120_50 : Int32 → Int32 → hh_ → Option (Int32 × hh_)) : Option (Int32 × hh_) :=
  gd_ (bi_ (((5 : Int32) * x2) + x3) 25) <|
  if x5 = x1 then
    K120_50 x4 (x5 + (-1 : Int32)) (hh_sI h 105 (Int32.toNatClampNeg (((5 : Int32) * x2) + x3)) ((h.1 105 (Int32.toNatClampNeg (((5 : Int32) * x2) + x3))) - (1 : Int32)))
  else
    if y0 = 0 then
      K120_50 x4 (x5 + (-1 : Int32)) (hh_sI h 105 (Int32.toNatClampNeg (((5 : Int32) * x2) + x3)) ((h.1 105 (Int32.toNatClampNeg (((5 : Int32) * x2) + x3))) - (1 : Int32)))
    else
      K120_50 x5 (x5 + (-1 : Int32)) (hh_sI h 105 (Int32.toNatClampNeg (((5 : Int32) * x2) + x3)) ((h.1 105 (Int32.toNatClampNeg (((5 : Int32) * x2) + x3))) - (1 : Int32)))
def ff_X8_finds_50 (x1 : Int32) (x2 : Int32) (x3 : Int32) : Nat → Int32 → Int32 → hh_ → Option (Int32 × hh_)
  | 0, _, _, _ => none
  | n9 + 1, x4, x5, h =>
    if x5 < 0 then
      some (x4, h)
    else
      (ff_X8_most x5 x2 x3 h).bind fun v3 =>
      (ff_X8_least x5 x2 x3 h).bind fun v5 =>
      gd_ (bi_ (((5 : Int32) * x2) + x3) 25) <|
      (ff_X8_least x5 x2 x3 (hh_sI h 105 (Int32.toNatClampNeg (((5 : Int32) * x2) + x3)) ((h.1 105 (Int32.toNatClampNeg (((5 : Int32) * x2) + x3))) + (1 : Int32)))).bind fun v8 =>
      if v3 < v8 then
        ff_X8_finds_115 x1 x2 x3 x4 x5 (hh_sI h 105 (Int32.toNatClampNeg (((5 : Int32) * x2) + x3)) ((h.1 105 (Int32.toNatClampNeg (((5 : Int32) * x2) + x3))) + (1 : Int32))) (fun q10 =>
          ff_X8_finds_120 x1 x2 x3 x4 x5 q10 (hh_sI h 105 (Int32.toNatClampNeg (((5 : Int32) * x2) + x3)) ((h.1 105 (Int32.toNatClampNeg (((5 : Int32) * x2) + x3))) + (1 : Int32))) (fun z4 z5 h8 => ff_X8_finds_50 x1 x2 x3 n9 z4 z5 h8))
      else
        (ff_X8_most x5 x2 x3 (hh_sI h 105 (Int32.toNatClampNeg (((5 : Int32) * x2) + x3)) ((h.1 105 (Int32.toNatClampNeg (((5 : Int32) * x2) + x3))) + (1 : Int32)))).bind fun v12 =>
        if v5 ≤ v12 then
          ff_X8_finds_120 x1 x2 x3 x4 x5 (0 : Int32) (hh_sI h 105 (Int32.toNatClampNeg (((5 : Int32) * x2) + x3)) ((h.1 105 (Int32.toNatClampNeg (((5 : Int32) * x2) + x3))) + (1 : Int32))) (fun z4 z5 h8 => ff_X8_finds_50 x1 x2 x3 n9 z4 z5 h8)
        else
          ff_X8_finds_115 x1 x2 x3 x4 x5 (hh_sI h 105 (Int32.toNatClampNeg (((5 : Int32) * x2) + x3)) ((h.1 105 (Int32.toNatClampNeg (((5 : Int32) * x2) + x3))) + (1 : Int32))) (fun q14 =>
            ff_X8_finds_120 x1 x2 x3 x4 x5 q14 (hh_sI h 105 (Int32.toNatClampNeg (((5 : Int32) * x2) + x3)) ((h.1 105 (Int32.toNatClampNeg (((5 : Int32) * x2) + x3))) + (1 : Int32))) (fun z4 z5 h8 => ff_X8_finds_50 x1 x2 x3 n9 z4 z5 h8))
def ff_X8_finds (a1 : Int32) (a2 : Int32) (a3 : Int32) (h : hh_) : Option (Int32 × hh_) :=
  if (ff_X8_isThumb a1 h) = 0 then
    some ((-1 : Int32), h)
  else
    if (ff_X8_isHead a2 h) = 0 then
      some ((-1 : Int32), h)
    else
      if (ff_X8_isPlace a3) = 0 then
        some ((-1 : Int32), h)
      else
        (ff_X8_bump a2 a3 h).bind fun v1 =>
        if v1 = (5 : Int32) then
          some ((-4 : Int32), h)
        else
          ff_X8_finds_50 a1 a2 a3 FU_ (-9 : Int32) ((h.1 98 11) - (1 : Int32)) h
def ff_X8_posts_56 (x1 : Int32) (x2 : Int32) (x4 : Int32) (x5 : Int32) (y0 : Int32) (y1 : Int32) (h : hh_) (K56_26 : Int32 → Int32 → Int32 → Option (Int32 × hh_)) : Option (Int32 × hh_) :=
  (ff_X8_suitsOf x1 x2 x5 h).bind fun v3 =>
  if v3 ≤ 0 then
    K56_26 (y0 ||| y1) (x4 ||| (0 : Int32)) (x5 + (1 : Int32))
  else
    K56_26 (y0 ||| y1) (x4 ||| ((1 : Int32) <<< (x5 &&& 31))) (x5 + (1 : Int32))
def ff_X8_posts_26 (x1 : Int32) (x2 : Int32) (h : hh_) : Nat → Int32 → Int32 → Int32 → Option (Int32 × hh_)
  | 0, _, _, _ => none
  | n9 + 1, x3, x4, x5 =>
    if (h.1 98 12) ≤ x5 then
      some ((ff_X8_ask x4 x3 h).1, (ff_X8_ask x4 x3 h).2)
    else
      (ff_X8_suitsOf x1 x2 x5 h).bind fun v1 =>
      if v1 = (2 : Int32) then
        ff_X8_posts_56 x1 x2 x4 x5 x3 ((1 : Int32) <<< (x5 &&& 31)) h (fun z3 z4 z5 => ff_X8_posts_26 x1 x2 h n9 z3 z4 z5)
      else
        ff_X8_posts_56 x1 x2 x4 x5 x3 (0 : Int32) h (fun z3 z4 z5 => ff_X8_posts_26 x1 x2 h n9 z3 z4 z5)
def ff_X8_posts (a1 : Int32) (a2 : Int32) (h : hh_) : Option (Int32 × hh_) :=
  if (ff_X8_isThumb a1 h) = 0 then
    some ((-1 : Int32), h)
  else
    if (ff_X8_isHead a2 h) = 0 then
      some ((-1 : Int32), h)
    else
      ff_X8_posts_26 a1 a2 h FU_ (0 : Int32) (0 : Int32) (0 : Int32)
def ff_X8_layMay_59 (x1 : Int32) (x2 : Int32) (x3 : Int32) (x5 : Int32) (h : hh_) (K59_75 : Option (hh_)) (K59_71 : Option (hh_)) : Option (hh_) :=
  (ff_X8_suitsOf x5 x2 x3 h).bind fun v2 =>
  if v2 = (2 : Int32) then
    K59_71
  else
    K59_75
def ff_X8_layMay_33 (x1 : Int32) (x2 : Int32) (x3 : Int32) (h : hh_) (K33_84 : Int32 → Option (hh_)) : Nat → Int32 → Int32 → Option (hh_)
  | 0, _, _ => none
  | n9 + 1, x4, x5 =>
    if (h.1 98 11) ≤ x5 then
      K33_84 x4
    else
      if x4 = 0 then
        ff_X8_layMay_33 x1 x2 x3 h K33_84 n9 (0 : Int32) (x5 + (1 : Int32))
      else
        if x1 = (-9 : Int32) then
          ff_X8_layMay_59 x1 x2 x3 x5 h (
            ff_X8_layMay_33 x1 x2 x3 h K33_84 n9 (0 : Int32) (x5 + (1 : Int32))) (
            ff_X8_layMay_33 x1 x2 x3 h K33_84 n9 (1 : Int32) (x5 + (1 : Int32)))
        else
          if x5 = x1 then
            ff_X8_layMay_59 x1 x2 x3 x5 h (
              ff_X8_layMay_33 x1 x2 x3 h K33_84 n9 (0 : Int32) (x5 + (1 : Int32))) (
              ff_X8_layMay_33 x1 x2 x3 h K33_84 n9 (1 : Int32) (x5 + (1 : Int32)))
          else
            ff_X8_layMay_33 x1 x2 x3 h K33_84 n9 (1 : Int32) (x5 + (1 : Int32))
def ff_X8_layMay_19 (x1 : Int32) (x2 : Int32) (K19_111 : hh_ → Option (hh_)) : Nat → Int32 → hh_ → Option (hh_)
  | 0, _, _ => none
  | n9 + 1, x3, h =>
    if (h.1 98 12) ≤ x3 then
      K19_111 h
    else
      ff_X8_layMay_33 x1 x2 x3 h (fun u4 =>
        gd_ (bi_ x2 5) <|
        if u4 = 0 then
          ff_X8_layMay_19 x1 x2 K19_111 n9 (x3 + (1 : Int32)) (hh_sI h 111 (Int32.toNatClampNeg x2) ((h.1 111 (Int32.toNatClampNeg x2)) ||| (0 : Int32)))
        else
          ff_X8_layMay_19 x1 x2 K19_111 n9 (x3 + (1 : Int32)) (hh_sI h 111 (Int32.toNatClampNeg x2) ((h.1 111 (Int32.toNatClampNeg x2)) ||| ((1 : Int32) <<< (x3 &&& 31))))) FU_ (1 : Int32) (0 : Int32)
def ff_X8_layMay_2 (x1 : Int32) : Nat → Int32 → hh_ → Option (hh_)
  | 0, _, _ => none
  | n9 + 1, x2, h =>
    if (h.1 98 10) ≤ x2 then
      some (h)
    else
      gd_ (bi_ x2 5) <|
      ff_X8_layMay_19 x1 x2 (fun k6 =>
        ff_X8_layMay_2 x1 n9 (x2 + (1 : Int32)) k6) FU_ (0 : Int32) (hh_sI h 111 (Int32.toNatClampNeg x2) (0 : Int32))
def ff_X8_layMay (a1 : Int32) (h : hh_) : Option (hh_) :=
  ff_X8_layMay_2 a1 FU_ (0 : Int32) h
def ff_X8_planOn_67 (x1 : Int32) (x2 : Int32) (x3 : Int32) (rc9 : Int32 → Int32 → Int32 → hh_ → Option (hh_)) : Nat → Int32 → hh_ → Option (hh_)
  | 0, _, _ => none
  | n9 + 1, x4, h =>
    if (h.1 98 12) ≤ x4 then
      gd_ (bi_ x1 5) <|
      (rc9 (x1 + (1 : Int32)) x2 x3 (hh_sI h 112 (Int32.toNatClampNeg x1) (-9 : Int32))).bind fun v2 =>
      some (v2)
    else
      gd_ (bi_ x1 5) <|
      if (ff_X8_has ((h.1 111 (Int32.toNatClampNeg x1)) &&& x2) x4) = 0 then
        ff_X8_planOn_67 x1 x2 x3 rc9 n9 (x4 + (1 : Int32)) h
      else
        gd_ (bi_ (((5 : Int32) * x4) + (4 : Int32)) 20) <|
        (rc9 (x1 + (1 : Int32)) (x2 &&& (((1 : Int32) <<< (x4 &&& 31)) ^^^ (-1 : Int32))) (x3 + ((hh_sI h 112 (Int32.toNatClampNeg x1) x4).1 107 (Int32.toNatClampNeg (((5 : Int32) * x4) + (4 : Int32))))) (hh_sI h 112 (Int32.toNatClampNeg x1) x4)).bind fun v6 =>
        ff_X8_planOn_67 x1 x2 x3 rc9 n9 (x4 + (1 : Int32)) v6
def ff_X8_planOn_34 (rc9 : Int32 → Int32 → Int32 → hh_ → Option (hh_)) : Nat → Int32 → hh_ → Option (hh_)
  | 0, _, _ => none
  | n9 + 1, x4, h =>
    if (h.1 98 10) ≤ x4 then
      some (h)
    else
      gd_ (bi_ x4 5) <|
      ff_X8_planOn_34 rc9 n9 (x4 + (1 : Int32)) (hh_sI h 113 (Int32.toNatClampNeg x4) (h.1 112 (Int32.toNatClampNeg x4)))
def ff_X8_planOn : Nat → Int32 → Int32 → Int32 → hh_ → Option (hh_)
  | 0, _, _, _, _ => none
  | n8 + 1, a1, a2, a3, h =>
    if a1 = (h.1 98 10) then
      if a3 ≤ ((hh_sL h 98 28 ((h.2.1 98 28) + (1 : Int64))).1 98 27) then
        some (hh_sL h 98 28 ((h.2.1 98 28) + (1 : Int64)))
      else
        ff_X8_planOn_34 (ff_X8_planOn n8) FU_ (0 : Int32) (hh_sI (hh_sL h 98 28 ((h.2.1 98 28) + (1 : Int64))) 98 27 a3)
    else
      ff_X8_planOn_67 a1 a2 a3 (ff_X8_planOn n8) FU_ (0 : Int32) h
def ff_X8_goPlans (a1 : Int32) (h : hh_) : Option (hh_) :=
  (ff_X8_layMay a1 h).bind fun v1 =>
  (ff_X8_planOn 10 (0 : Int32) (((1 : Int32) <<< (((hh_sL (hh_sI v1 98 27 (-1 : Int32)) 98 28 (0 : Int64)).1 98 12) &&& 31)) - (1 : Int32)) (0 : Int32) (hh_sL (hh_sI v1 98 27 (-1 : Int32)) 98 28 (0 : Int64))).bind fun v3 =>
  some (v3)
def ff_X8_layPlan_12 (x1 : Int32) : Nat → Int32 → hh_ → Option (Int32 × hh_)
  | 0, _, _ => none
  | n9 + 1, x2, h =>
    if (h.1 98 10) ≤ x2 then
      some ((h.1 98 27), h)
    else
      gd_ (bi_ x2 5) <|
      (ff_X8_setRow x1 x2 (h.1 113 (Int32.toNatClampNeg x2)) h).bind fun v4 =>
      ff_X8_layPlan_12 x1 n9 (x2 + (1 : Int32)) v4
def ff_X8_layPlan (a1 : Int32) (h : hh_) : Option (Int32 × hh_) :=
  (ff_X8_row a1 (h.1 98 10) h).bind fun v1 =>
  ff_X8_layPlan_12 a1 FU_ (0 : Int32) v1.2
def ff_X8_plan (a1 : Int32) (a2 : Int32) (h : hh_) : Option (Int32 × hh_) :=
  if (ff_X8_isThumb a1 h) = 0 then
    some ((-1 : Int32), h)
  else
    if (ff_X8_isRow a2) = 0 then
      some ((-1 : Int32), h)
    else
      (ff_X8_goPlans a1 h).bind fun v1 =>
      (ff_X8_layPlan a2 v1).bind fun v3 =>
      some (v3.1, v3.2)
def ff_X8_plans (a1 : Int32) (h : hh_) : Option (Int32 × hh_) :=
  if (ff_X8_isThumb a1 h) = 0 then
    some ((-1 : Int32), h)
  else
    (ff_X8_goPlans a1 h).bind fun v1 =>
    (ff_X8_part (v1.2.1 98 28) (1 : Int64) v1).bind fun v3 =>
    some (v3.1, v3.2)
def ff_X8_safest (a1 : Int32) (h : hh_) : Option (Int32 × hh_) :=
  if (ff_X8_isRow a1) = 0 then
    some ((-1 : Int32), h)
  else
    if (h.1 98 10) = 0 then
      some ((-4 : Int32), h)
    else
      (ff_X8_goPlans (-9 : Int32) h).bind fun v1 =>
      (ff_X8_layPlan a1 v1).bind fun v3 =>
      some (v3.1, v3.2)
def ff_X8_gain_108 (x1 : Int32) (x2 : Int32) (x3 : Int32) (x5 : Int32) (x6 : Int32) (y0 : Int32) (h : hh_) (K108_123 : Int32 → Int32 → Option (Int32 × hh_)) : Option (Int32 × hh_) :=
  K108_123 y0 (ff_X8_greater x5 ((h.1 98 27) - x3))
def ff_X8_gain_38 (x1 : Int32) (x2 : Int32) (x3 : Int32) (K38_129 : Int32 → Int32 → hh_ → Option (Int32 × hh_)) : Nat → Int32 → Int32 → Int32 → hh_ → Option (Int32 × hh_)
  | 0, _, _, _, _ => none
  | n9 + 1, x4, x5, x6, h =>
    if (4 : Int32) ≤ x6 then
      K38_129 x4 x5 h
    else
      (ff_X8_bump x2 x6 h).bind fun v3 =>
      if (5 : Int32) ≤ v3 then
        ff_X8_gain_38 x1 x2 x3 K38_129 n9 x4 x5 (x6 + (1 : Int32)) h
      else
        gd_ (bi_ (((5 : Int32) * x2) + x6) 25) <|
        (ff_X8_goPlans x1 (hh_sI h 105 (Int32.toNatClampNeg (((5 : Int32) * x2) + x6)) ((h.1 105 (Int32.toNatClampNeg (((5 : Int32) * x2) + x6))) + (1 : Int32)))).bind fun v6 =>
        if (((hh_sI v6 105 (Int32.toNatClampNeg (((5 : Int32) * x2) + x6)) ((v6.1 105 (Int32.toNatClampNeg (((5 : Int32) * x2) + x6))) - (1 : Int32))).1 98 27) - x3) ≤ x5 then
          ff_X8_gain_108 x1 x2 x3 x5 x6 x4 (hh_sI v6 105 (Int32.toNatClampNeg (((5 : Int32) * x2) + x6)) ((v6.1 105 (Int32.toNatClampNeg (((5 : Int32) * x2) + x6))) - (1 : Int32))) (fun u8 u9 =>
            ff_X8_gain_38 x1 x2 x3 K38_129 n9 u8 u9 (x6 + (1 : Int32)) (hh_sI v6 105 (Int32.toNatClampNeg (((5 : Int32) * x2) + x6)) ((v6.1 105 (Int32.toNatClampNeg (((5 : Int32) * x2) + x6))) - (1 : Int32))))
        else
          ff_X8_gain_108 x1 x2 x3 x5 x6 x6 (hh_sI v6 105 (Int32.toNatClampNeg (((5 : Int32) * x2) + x6)) ((v6.1 105 (Int32.toNatClampNeg (((5 : Int32) * x2) + x6))) - (1 : Int32))) (fun u10 u11 =>
            ff_X8_gain_38 x1 x2 x3 K38_129 n9 u10 u11 (x6 + (1 : Int32)) (hh_sI v6 105 (Int32.toNatClampNeg (((5 : Int32) * x2) + x6)) ((v6.1 105 (Int32.toNatClampNeg (((5 : Int32) * x2) + x6))) - (1 : Int32))))
def ff_X8_gain (a1 : Int32) (a2 : Int32) (h : hh_) : Option (Int32 × hh_) :=
  if (ff_X8_isThumb a1 h) = 0 then
    some ((-1 : Int32), h)
  else
    if (ff_X8_isHead a2 h) = 0 then
      some ((-1 : Int32), h)
    else
      (ff_X8_goPlans a1 h).bind fun v1 =>
      ff_X8_gain_38 a1 a2 (v1.1 98 27) (fun u12 u13 k14 =>
        if u12 = (-9 : Int32) then
          some ((-9 : Int32), k14)
        else
          some ((ff_X8_ask u12 u13 k14).1, (ff_X8_ask u12 u13 k14).2)) FU_ (-9 : Int32) (0 : Int32) (0 : Int32) v1
def ff_X8_doesLearn_6 (x1 : Int32) (x2 : Int32) (x3 : Int32) (x4 : Int32) (h : hh_) : Nat → Int32 → Int32 → Option (Int32)
  | 0, _, _ => none
  | n9 + 1, x5, x6 =>
    gd_ (bi_ x1 6) <|
    if (h.1 100 (Int32.toNatClampNeg x1)) ≤ x6 then
      gd_ (bz_ x5) <|
      some (x5)
    else
      (ff_X8_rowAt x1 (x6 + (1 : Int32)) h).bind fun v3 =>
      (ff_X8_rowAt x1 x6 h).bind fun v5 =>
      (ff_X8_felt v5 v3 h).bind fun v7 =>
      if x5 = 0 then
        ff_X8_doesLearn_6 x1 x2 x3 x4 h n9 (0 : Int32) (x6 + (3 : Int32))
      else
        (ff_X8_rowAt x1 (x6 + (2 : Int32)) h).bind fun v9 =>
        if (ff_X8_in v9 (ff_X8_greater (0 : Int32) ((ff_X8_middleOf x2 x3 v7 v3) - x4)) ((ff_X8_middleOf x2 x3 v7 v3) + x4)) = 0 then
          ff_X8_doesLearn_6 x1 x2 x3 x4 h n9 (0 : Int32) (x6 + (3 : Int32))
        else
          ff_X8_doesLearn_6 x1 x2 x3 x4 h n9 (1 : Int32) (x6 + (3 : Int32))
def ff_X8_doesLearn (a1 : Int32) (a2 : Int32) (a3 : Int32) (a4 : Int32) (h : hh_) : Option (Int32) :=
  ff_X8_doesLearn_6 a1 a2 a3 a4 h FU_ (1 : Int32) (0 : Int32)
def ff_X8_learn_50 (x1 : Int32) (x2 : Int32) (h : hh_) (K50_120 : Option (Int32 × hh_)) : Nat → Int32 → Option (Int32 × hh_)
  | 0, _ => none
  | n9 + 1, x4 =>
    gd_ (bi_ x1 6) <|
    if (h.1 100 (Int32.toNatClampNeg x1)) ≤ x4 then
      K50_120
    else
      (ff_X8_rowAt x1 x4 h).bind fun v5 =>
      if (ff_X8_isHead v5 h) = 0 then
        (ff_X8_meet (3 : Int32) h).bind fun v7 =>
        some (v7.1, v7.2)
      else
        (ff_X8_rowAt x1 (x4 + (1 : Int32)) h).bind fun v9 =>
        if (ff_X8_isPlace v9) = 0 then
          (ff_X8_meet (3 : Int32) h).bind fun v11 =>
          some (v11.1, v11.2)
        else
          (ff_X8_rowAt x1 (x4 + (2 : Int32)) h).bind fun v13 =>
          if (ff_X8_in v13 (0 : Int32) (9 : Int32)) = 0 then
            (ff_X8_meet (3 : Int32) h).bind fun v15 =>
            some (v15.1, v15.2)
          else
            ff_X8_learn_50 x1 x2 h K50_120 n9 (x4 + (3 : Int32))
def ff_X8_learn_169 (x1 : Int32) (x2 : Int32) (x5 : Int32) (x6 : Int32) (x7 : Int32) (y0 : Int32) (y1 : Int32) (h : hh_) (K169_129 : Int32 → Int32 → Int32 → Option (Int32 × hh_)) : Option (Int32 × hh_) :=
  if x7 = 0 then
    K169_129 (y0 ||| y1) (x5 ||| (0 : Int32)) (x6 + (1 : Int32))
  else
    K169_129 (y0 ||| y1) (x5 ||| ((1 : Int32) <<< ((x6 - x6 / (4 : Int32) * (4 : Int32)) &&& 31))) (x6 + (1 : Int32))
def ff_X8_learn_129 (x1 : Int32) (x2 : Int32) (h : hh_) : Nat → Int32 → Int32 → Int32 → Option (Int32 × hh_)
  | 0, _, _, _ => none
  | n9 + 1, x4, x5, x6 =>
    if (24 : Int32) ≤ x6 then
      some ((ff_X8_ask x5 x4 h).1, (ff_X8_ask x5 x4 h).2)
    else
      (ff_X8_doesLearn x1 (x6 / (4 : Int32)) (x6 - x6 / (4 : Int32) * (4 : Int32)) x2 h).bind fun v17 =>
      if v17 = 0 then
        ff_X8_learn_169 x1 x2 x5 x6 v17 x4 (0 : Int32) h (fun z4 z5 z6 => ff_X8_learn_129 x1 x2 h n9 z4 z5 z6)
      else
        ff_X8_learn_169 x1 x2 x5 x6 v17 x4 ((1 : Int32) <<< ((x6 / (4 : Int32)) &&& 31)) h (fun z4 z5 z6 => ff_X8_learn_129 x1 x2 h n9 z4 z5 z6)
def ff_X8_learn (a1 : Int32) (a2 : Int32) (h : hh_) : Option (Int32 × hh_) :=
  if (ff_X8_isRow a1) = 0 then
    some ((-1 : Int32), h)
  else
    if (ff_X8_in a2 (0 : Int32) (2 : Int32)) = 0 then
      some ((-1 : Int32), h)
    else
      (ff_X8_askedRow a1 h).bind fun v1 =>
      if 0 ≤ v1.1 then
        gd_ (bi_ a1 6) <|
        if ((v1.2.1 100 (Int32.toNatClampNeg a1)) - (v1.2.1 100 (Int32.toNatClampNeg a1)) / (3 : Int32) * (3 : Int32)) = 0 then
          ff_X8_learn_50 a1 a2 v1.2 (
            ff_X8_learn_129 a1 a2 v1.2 FU_ (0 : Int32) (0 : Int32) (0 : Int32)) FU_ (0 : Int32)
        else
          (ff_X8_meet (5 : Int32) v1.2).bind fun v19 =>
          some (v19.1, v19.2)
      else
        some (v1.1, v1.2)
def ff_X8_tells_33 (x1 : Int32) (h : hh_) (K33_67 : Option (Int32 × hh_)) : Nat → Int32 → Option (Int32 × hh_)
  | 0, _ => none
  | n9 + 1, x3 =>
    if (h.1 98 10) ≤ x3 then
      K33_67
    else
      (ff_X8_rowAt x1 x3 h).bind fun v4 =>
      if (ff_X8_in v4 (0 : Int32) (1 : Int32)) = 0 then
        (ff_X8_meet (3 : Int32) h).bind fun v6 =>
        some (v6.1, v6.2)
      else
        ff_X8_tells_33 x1 h K33_67 n9 (x3 + (1 : Int32))
def ff_X8_tells_122 (x1 : Int32) (x3 : Int32) (x4 : Int32) (x5 : Int32) (x6 : Int32) (h : hh_) (K122_123 : Int32 → Option (Int32 × hh_)) : Option (Int32 × hh_) :=
  K122_123 (0 : Int32)
def ff_X8_tells_151 (x1 : Int32) (x3 : Int32) (x5 : Int32) (x6 : Int32) (x7 : Int32) (y0 : Int32) (h : hh_) (K151_152 : Int32 → Int32 → Option (Int32 × hh_)) : Option (Int32 × hh_) :=
  K151_152 y0 (0 : Int32)
def ff_X8_tells_158 (x1 : Int32) (x4 : Int32) (x5 : Int32) (x6 : Int32) (x7 : Int32) (h : hh_) (K158_207 : Int32 → Option (Int32 × hh_)) : Nat → Int32 → Int32 → Option (Int32 × hh_)
  | 0, _, _ => none
  | n9 + 1, x3, x8 =>
    if (4 : Int32) ≤ x8 then
      K158_207 x3
    else
      if x7 = 0 then
        ff_X8_tells_158 x1 x4 x5 x6 x7 h K158_207 n9 (x3 &&& (-1 : Int32)) (x8 + (1 : Int32))
      else
        (ff_X8_bump x5 x8 h).bind fun v13 =>
        (ff_X8_bump x6 x8 h).bind fun v15 =>
        if v15 < v13 then
          ff_X8_tells_158 x1 x4 x5 x6 x7 h K158_207 n9 (x3 &&& (-1 : Int32)) (x8 + (1 : Int32))
        else
          ff_X8_tells_158 x1 x4 x5 x6 x7 h K158_207 n9 (x3 &&& (((1 : Int32) <<< (x8 &&& 31)) ^^^ (-1 : Int32))) (x8 + (1 : Int32))
def ff_X8_tells_152 (x1 : Int32) (x3 : Int32) (x5 : Int32) (x6 : Int32) (x7 : Int32) (y0 : Int32) (y1 : Int32) (h : hh_) (K152_88 : Int32 → Int32 → Int32 → Option (Int32 × hh_)) : Option (Int32 × hh_) :=
  ff_X8_tells_158 x1 (y0 + y1) x5 x6 x7 h (fun u17 =>
    K152_88 u17 (y0 + y1) (x6 + (1 : Int32))) FU_ x3 (0 : Int32)
def ff_X8_tells_123 (x1 : Int32) (x3 : Int32) (x4 : Int32) (x5 : Int32) (x6 : Int32) (y0 : Int32) (h : hh_) (K123_88 : Int32 → Int32 → Int32 → Option (Int32 × hh_)) : Option (Int32 × hh_) :=
  if y0 = 0 then
    ff_X8_tells_151 x1 x3 x5 x6 y0 x4 h (fun q11 q12 =>
      ff_X8_tells_152 x1 x3 x5 x6 y0 q11 q12 h K123_88)
  else
    (ff_X8_bumps x5 h).bind fun v18 =>
    (ff_X8_bumps x6 h).bind fun v20 =>
    if v18 ≤ v20 then
      ff_X8_tells_151 x1 x3 x5 x6 y0 x4 h (fun q22 q23 =>
        ff_X8_tells_152 x1 x3 x5 x6 y0 q22 q23 h K123_88)
    else
      ff_X8_tells_152 x1 x3 x5 x6 y0 x4 (1 : Int32) h K123_88
def ff_X8_tells_88 (x1 : Int32) (x5 : Int32) (h : hh_) (K88_213 : Int32 → Int32 → Option (Int32 × hh_)) : Nat → Int32 → Int32 → Int32 → Option (Int32 × hh_)
  | 0, _, _, _ => none
  | n9 + 1, x3, x4, x6 =>
    if (h.1 98 10) ≤ x6 then
      K88_213 x3 x4
    else
      (ff_X8_rowAt x1 x5 h).bind fun v8 =>
      if v8 = (1 : Int32) then
        (ff_X8_rowAt x1 x6 h).bind fun v24 =>
        if v24 = 0 then
          ff_X8_tells_123 x1 x3 x4 x5 x6 (1 : Int32) h (fun z3 z4 z6 => ff_X8_tells_88 x1 x5 h K88_213 n9 z3 z4 z6)
        else
          ff_X8_tells_122 x1 x3 x4 x5 x6 h (fun q26 =>
            ff_X8_tells_123 x1 x3 x4 x5 x6 q26 h (fun z3 z4 z6 => ff_X8_tells_88 x1 x5 h K88_213 n9 z3 z4 z6))
      else
        ff_X8_tells_122 x1 x3 x4 x5 x6 h (fun q10 =>
          ff_X8_tells_123 x1 x3 x4 x5 x6 q10 h (fun z3 z4 z6 => ff_X8_tells_88 x1 x5 h K88_213 n9 z3 z4 z6))
def ff_X8_tells_76 (x1 : Int32) (h : hh_) : Nat → Int32 → Int32 → Int32 → Option (Int32 × hh_)
  | 0, _, _, _ => none
  | n9 + 1, x3, x4, x5 =>
    if (h.1 98 10) ≤ x5 then
      some ((ff_X8_ask x4 x3 h).1, (ff_X8_ask x4 x3 h).2)
    else
      ff_X8_tells_88 x1 x5 h (fun u27 u28 =>
        ff_X8_tells_76 x1 h n9 u27 u28 (x5 + (1 : Int32))) FU_ x3 x4 (0 : Int32)
def ff_X8_tells (a1 : Int32) (h : hh_) : Option (Int32 × hh_) :=
  (ff_X8_askedRow a1 h).bind fun v1 =>
  if 0 ≤ v1.1 then
    gd_ (bi_ a1 6) <|
    if (v1.2.1 100 (Int32.toNatClampNeg a1)) = (v1.2.1 98 10) then
      ff_X8_tells_33 a1 v1.2 (
        ff_X8_tells_76 a1 v1.2 FU_ (15 : Int32) (0 : Int32) (0 : Int32)) FU_ (0 : Int32)
    else
      (ff_X8_meet (5 : Int32) v1.2).bind fun v29 =>
      some (v29.1, v29.2)
  else
    some (v1.1, v1.2)
def ff_X8_isAlone_20 (x1 : Int32) (x2 : Int32) (x3 : Int32) (x4 : Int32) (h : hh_) (K20_75 : Int32 → Option (Int32)) : Nat → Int32 → Int32 → Option (Int32)
  | 0, _, _ => none
  | n9 + 1, x5, x6 =>
    if (4 : Int32) ≤ x6 then
      K20_75 x5
    else
      if x5 = 0 then
        ff_X8_isAlone_20 x1 x2 x3 x4 h K20_75 n9 (0 : Int32) (x6 + (1 : Int32))
      else
        gd_ (bi_ x6 4) <|
        (ff_X8_least x1 x4 x6 h).bind fun v3 =>
        (ff_X8_most x1 x4 x6 h).bind fun v5 =>
        if (ff_X8_in (h.1 114 (Int32.toNatClampNeg x6)) v3 v5) = 0 then
          ff_X8_isAlone_20 x1 x2 x3 x4 h K20_75 n9 (0 : Int32) (x6 + (1 : Int32))
        else
          ff_X8_isAlone_20 x1 x2 x3 x4 h K20_75 n9 (1 : Int32) (x6 + (1 : Int32))
def ff_X8_isAlone_5 (x1 : Int32) (x2 : Int32) (h : hh_) : Nat → Int32 → Int32 → Option (Int32)
  | 0, _, _ => none
  | n9 + 1, x3, x4 =>
    if (h.1 98 10) ≤ x4 then
      gd_ (bz_ x3) <|
      some (x3)
    else
      ff_X8_isAlone_20 x1 x2 x3 x4 h (fun u7 =>
        if x3 = 0 then
          ff_X8_isAlone_5 x1 x2 h n9 (0 : Int32) (x4 + (1 : Int32))
        else
          if x4 = x2 then
            if u7 = (1 : Int32) then
              ff_X8_isAlone_5 x1 x2 h n9 (1 : Int32) (x4 + (1 : Int32))
            else
              ff_X8_isAlone_5 x1 x2 h n9 (0 : Int32) (x4 + (1 : Int32))
          else
            if u7 = (0 : Int32) then
              ff_X8_isAlone_5 x1 x2 h n9 (1 : Int32) (x4 + (1 : Int32))
            else
              ff_X8_isAlone_5 x1 x2 h n9 (0 : Int32) (x4 + (1 : Int32))) FU_ (1 : Int32) (0 : Int32)
def ff_X8_isAlone (a1 : Int32) (a2 : Int32) (h : hh_) : Option (Int32) :=
  ff_X8_isAlone_5 a1 a2 h FU_ (1 : Int32) (0 : Int32)
def ff_X8_lots_72 (x1 : Int32) (x2 : Int32) (x6 : Int32) (x7 : Int32) (x8 : Int32) (K72_127 : Int64 → hh_ → Option (Int32 × hh_)) : Nat → Int64 → Int32 → hh_ → Option (Int32 × hh_)
  | 0, _, _, _ => none
  | n9 + 1, x4, x9, h =>
    if (4 : Int32) ≤ x9 then
      K72_127 x4 h
    else
      (ff_X8_least x1 x8 x9 h).bind fun v2 =>
      (ff_X8_spread x1 x8 x9 h).bind fun v4 =>
      gd_ (bm_ (Int32.toInt64 v4)) <|
      gd_ (bi_ x9 4) <|
      ff_X8_lots_72 x1 x2 x6 x7 x8 K72_127 n9 (((48271 : Int64) * x4) - ((48271 : Int64) * x4) / (2147483647 : Int64) * (2147483647 : Int64)) (x9 + (1 : Int32)) (hh_sI h 114 (Int32.toNatClampNeg x9) (v2 + (Int64.toInt32 ((((48271 : Int64) * x4) - ((48271 : Int64) * x4) / (2147483647 : Int64) * (2147483647 : Int64)) - (((48271 : Int64) * x4) - ((48271 : Int64) * x4) / (2147483647 : Int64) * (2147483647 : Int64)) / (Int32.toInt64 v4) * (Int32.toInt64 v4)))))
def ff_X8_lots_40 (x1 : Int32) (x2 : Int32) : Nat → Int64 → Int32 → Int32 → hh_ → Option (Int32 × hh_)
  | 0, _, _, _, _ => none
  | n9 + 1, x4, x6, x7, h =>
    if x2 ≤ x7 then
      some (x6, h)
    else
      gd_ (bm_ (Int32.toInt64 (h.1 98 10))) <|
      ff_X8_lots_72 x1 x2 x6 x7 (Int64.toInt32 ((((48271 : Int64) * x4) - ((48271 : Int64) * x4) / (2147483647 : Int64) * (2147483647 : Int64)) - (((48271 : Int64) * x4) - ((48271 : Int64) * x4) / (2147483647 : Int64) * (2147483647 : Int64)) / (Int32.toInt64 (h.1 98 10)) * (Int32.toInt64 (h.1 98 10)))) (fun u8 k9 =>
        (ff_X8_isAlone x1 (Int64.toInt32 ((((48271 : Int64) * x4) - ((48271 : Int64) * x4) / (2147483647 : Int64) * (2147483647 : Int64)) - (((48271 : Int64) * x4) - ((48271 : Int64) * x4) / (2147483647 : Int64) * (2147483647 : Int64)) / (Int32.toInt64 (h.1 98 10)) * (Int32.toInt64 (h.1 98 10)))) k9).bind fun v10 =>
        if v10 = 0 then
          ff_X8_lots_40 x1 x2 n9 u8 (x6 + (0 : Int32)) (x7 + (1 : Int32)) k9
        else
          ff_X8_lots_40 x1 x2 n9 u8 (x6 + (1 : Int32)) (x7 + (1 : Int32)) k9) FU_ (((48271 : Int64) * x4) - ((48271 : Int64) * x4) / (2147483647 : Int64) * (2147483647 : Int64)) (0 : Int32) h
def ff_X8_lots (a1 : Int32) (a2 : Int32) (a3 : Int32) (h : hh_) : Option (Int32 × hh_) :=
  if (ff_X8_isThumb a1 h) = 0 then
    some ((-1 : Int32), h)
  else
    if (ff_X8_in a2 (1 : Int32) (5 : Int32)) = 0 then
      some ((-1 : Int32), h)
    else
      if (ff_X8_in a3 (1 : Int32) (2147483646 : Int32)) = 0 then
        some ((-1 : Int32), h)
      else
        ff_X8_lots_40 a1 a2 FU_ (Int32.toInt64 a3) (0 : Int32) (0 : Int32) h
def ff_X8_asked (h : hh_) : Int32 :=
  (h.1 98 2)
def ff_X8_upper (h : hh_) : Int64 :=
  (h.2.1 98 3)
def ff_X8_lower (h : hh_) : Int64 :=
  (h.2.1 98 4)
def ff_X8_tellsOf_99 (x1 : Int32) (x3 : Int32) (x4 : Int32) (y0 : Int32) (h : hh_) (K99_127 : Int32 → Option (Int32)) (K99_132 : Int32 → Int32 → Option (Int32)) : Option (Int32) :=
  if x1 = (8 : Int32) then
    if (3 : Int32) ≤ x4 then
      K99_132 y0 (0 : Int32)
    else
      gd_ (bi_ ((1030 : Int32) * x4) 3090) <|
      if (h.1 110 (Int32.toNatClampNeg ((1030 : Int32) * x4))) = (-9 : Int32) then
        K99_132 y0 (0 : Int32)
      else
        K99_127 y0
  else
    K99_132 y0 (0 : Int32)
def ff_X8_tellsOf_77 (x1 : Int32) (x3 : Int32) (x4 : Int32) (y0 : Int32) (h : hh_) (K77_127 : Int32 → Option (Int32)) (K77_132 : Int32 → Int32 → Option (Int32)) : Option (Int32) :=
  if x1 = (7 : Int32) then
    if (4 : Int32) ≤ x4 then
      ff_X8_tellsOf_99 x1 x3 x4 y0 h K77_127 K77_132
    else
      gd_ (bi_ x4 4) <|
      if 0 ≤ (h.1 103 (Int32.toNatClampNeg x4)) then
        K77_127 y0
      else
        ff_X8_tellsOf_99 x1 x3 x4 y0 h K77_127 K77_132
  else
    ff_X8_tellsOf_99 x1 x3 x4 y0 h K77_127 K77_132
def ff_X8_tellsOf_61 (x1 : Int32) (x3 : Int32) (x4 : Int32) (y0 : Int32) (h : hh_) (K61_127 : Int32 → Option (Int32)) (K61_132 : Int32 → Int32 → Option (Int32)) : Option (Int32) :=
  if x1 = (6 : Int32) then
    gd_ (bi_ x4 6) <|
    if 0 ≤ (h.1 100 (Int32.toNatClampNeg x4)) then
      K61_127 y0
    else
      ff_X8_tellsOf_77 x1 x3 x4 y0 h K61_127 K61_132
  else
    ff_X8_tellsOf_77 x1 x3 x4 y0 h K61_127 K61_132
def ff_X8_tellsOf_34 (x1 : Int32) (x2 : Int32) (x4 : Int32) (y0 : Int32) (y1 : Int32) (h : hh_) (K34_7 : Int32 → Int32 → Int32 → Option (Int32)) : Option (Int32) :=
  if x1 = (5 : Int32) then
    if (h.1 98 11) ≤ x4 then
      ff_X8_tellsOf_61 x1 (y0 + y1) x4 x2 h (fun q7 =>
        K34_7 (q7 + (1 : Int32)) (y0 + y1) (x4 + (1 : Int32))) (fun q8 q9 =>
        K34_7 (q8 + q9) (y0 + y1) (x4 + (1 : Int32)))
    else
      (ff_X8_isA x4 (3 : Int32) h).bind fun v10 =>
      if v10 = 0 then
        ff_X8_tellsOf_61 x1 (y0 + y1) x4 x2 h (fun q12 =>
          K34_7 (q12 + (1 : Int32)) (y0 + y1) (x4 + (1 : Int32))) (fun q13 q14 =>
          K34_7 (q13 + q14) (y0 + y1) (x4 + (1 : Int32)))
      else
        K34_7 (x2 + (1 : Int32)) (y0 + y1) (x4 + (1 : Int32))
  else
    ff_X8_tellsOf_61 x1 (y0 + y1) x4 x2 h (fun q4 =>
      K34_7 (q4 + (1 : Int32)) (y0 + y1) (x4 + (1 : Int32))) (fun q5 q6 =>
      K34_7 (q5 + q6) (y0 + y1) (x4 + (1 : Int32)))
def ff_X8_tellsOf_7 (x1 : Int32) (h : hh_) (K7_140 : Int32 → Int32 → Option (Int32)) : Nat → Int32 → Int32 → Int32 → Option (Int32)
  | 0, _, _, _ => none
  | n9 + 1, x2, x3, x4 =>
    if (6 : Int32) ≤ x4 then
      K7_140 x2 x3
    else
      if (h.1 98 10) ≤ x4 then
        ff_X8_tellsOf_34 x1 x2 x4 x3 (0 : Int32) h (fun z2 z3 z4 => ff_X8_tellsOf_7 x1 h K7_140 n9 z2 z3 z4)
      else
        (ff_X8_bumps x4 h).bind fun v15 =>
        ff_X8_tellsOf_34 x1 x2 x4 x3 v15 h (fun z2 z3 z4 => ff_X8_tellsOf_7 x1 h K7_140 n9 z2 z3 z4)
def ff_X8_tellsOf (a1 : Int32) (h : hh_) : Option (Int32) :=
  ff_X8_tellsOf_7 a1 h (fun u17 u18 =>
    if a1 = (0 : Int32) then
      some (h.1 98 10)
    else
      if a1 = (1 : Int32) then
        some (h.1 98 11)
      else
        if a1 = (2 : Int32) then
          some (h.1 98 12)
        else
          if a1 = (3 : Int32) then
            some (h.1 98 21)
          else
            if a1 = (4 : Int32) then
              some (u18)
            else
              some (u17)) FU_ (0 : Int32) (0 : Int32) (0 : Int32)
def ff_X8_count (a1 : Int32) (h : hh_) : Option (Int32) :=
  if (ff_X8_in a1 (0 : Int32) (8 : Int32)) = 0 then
    some (-1 : Int32)
  else
    (ff_X8_tellsOf a1 h).bind fun v1 =>
    some (v1)
def ff_X8_finding (h : hh_) : Int32 :=
  (h.1 98 0)
def ff_X8_findings (a1 : Int32) (h : hh_) : Option (Int32) :=
  if (ff_X8_in a1 (1 : Int32) (5 : Int32)) = 0 then
    some (-1 : Int32)
  else
    gd_ (bi_ a1 6) <|
    some (h.1 99 (Int32.toNatClampNeg a1))
def ff_X8_mix (a1 : Int32) (h : hh_) : hh_ :=
  (hh_sL h 98 30 (((31 : Int64) * (h.2.1 98 30)) + (Int32.toInt64 a1)))
def ff_X8_mixOffice_12 (x1 : Int32) (K12_33 : hh_ → Option (hh_)) : Nat → Int32 → hh_ → Option (hh_)
  | 0, _, _ => none
  | n9 + 1, x2, h =>
    if (5 : Int32) < x2 then
      K12_33 h
    else
      (ff_X8_headOf x1 x2 h).bind fun v1 =>
      ff_X8_mixOffice_12 x1 K12_33 n9 (x2 + (1 : Int32)) (ff_X8_mix v1 h)
def ff_X8_mixOffice_2 (K2_39 : hh_ → Option (hh_)) : Nat → Int32 → hh_ → Option (hh_)
  | 0, _, _ => none
  | n9 + 1, x1, h =>
    if (h.1 98 10) ≤ x1 then
      K2_39 h
    else
      ff_X8_mixOffice_12 x1 (fun k3 =>
        ff_X8_mixOffice_2 K2_39 n9 (x1 + (1 : Int32)) k3) FU_ (0 : Int32) h
def ff_X8_mixOffice_41 (K41_67 : hh_ → Option (hh_)) : Nat → Int32 → hh_ → Option (hh_)
  | 0, _, _ => none
  | n9 + 1, x1, h =>
    if ((3 : Int32) * (h.1 98 11)) ≤ x1 then
      K41_67 h
    else
      gd_ (bi_ x1 12) <|
      ff_X8_mixOffice_41 K41_67 n9 (x1 + (1 : Int32)) (ff_X8_mix (h.1 106 (Int32.toNatClampNeg x1)) h)
def ff_X8_mixOffice_69 (K69_95 : hh_ → Option (hh_)) : Nat → Int32 → hh_ → Option (hh_)
  | 0, _, _ => none
  | n9 + 1, x1, h =>
    if ((5 : Int32) * (h.1 98 12)) ≤ x1 then
      K69_95 h
    else
      gd_ (bi_ x1 20) <|
      ff_X8_mixOffice_69 K69_95 n9 (x1 + (1 : Int32)) (ff_X8_mix (h.1 107 (Int32.toNatClampNeg x1)) h)
def ff_X8_mixOffice_97 : Nat → Int32 → hh_ → Option (hh_)
  | 0, _, _ => none
  | n9 + 1, x1, h =>
    if (3 : Int32) ≤ x1 then
      some (h)
    else
      gd_ (bi_ ((1030 : Int32) * x1) 3090) <|
      if (h.1 110 (Int32.toNatClampNeg ((1030 : Int32) * x1))) = (-9 : Int32) then
        ff_X8_mixOffice_97 n9 (x1 + (1 : Int32)) (ff_X8_mix (-1 : Int32) h)
      else
        ff_X8_mixOffice_97 n9 (x1 + (1 : Int32)) (ff_X8_mix (h.1 110 (Int32.toNatClampNeg ((1030 : Int32) * x1))) h)
def ff_X8_mixOffice (h : hh_) : Option (hh_) :=
  ff_X8_mixOffice_2 (fun k4 =>
    ff_X8_mixOffice_41 (fun k6 =>
      ff_X8_mixOffice_69 (fun k8 =>
        ff_X8_mixOffice_97 FU_ (0 : Int32) k8) FU_ (0 : Int32) k6) FU_ (0 : Int32) k4) FU_ (0 : Int32) h
def ff_X8_digest_9 (K9_30 : hh_ → Option (Int64 × hh_)) : Nat → Int32 → hh_ → Option (Int64 × hh_)
  | 0, _, _ => none
  | n9 + 1, x1, h =>
    if (8 : Int32) < x1 then
      K9_30 h
    else
      (ff_X8_tellsOf x1 h).bind fun v1 =>
      ff_X8_digest_9 K9_30 n9 (x1 + (1 : Int32)) (ff_X8_mix v1 h)
def ff_X8_digest_67 (x1 : Int32) (K67_93 : hh_ → Option (Int64 × hh_)) : Nat → Int32 → hh_ → Option (Int64 × hh_)
  | 0, _, _ => none
  | n9 + 1, x2, h =>
    gd_ (bi_ x1 6) <|
    if (h.1 100 (Int32.toNatClampNeg x1)) ≤ x2 then
      K67_93 h
    else
      (ff_X8_rowAt x1 x2 h).bind fun v8 =>
      ff_X8_digest_67 x1 K67_93 n9 (x2 + (1 : Int32)) (ff_X8_mix v8 h)
def ff_X8_digest_62 (x1 : Int32) (y1 : Int32) (h : hh_) (K62_36 : Int32 → hh_ → Option (Int64 × hh_)) : Option (Int64 × hh_) :=
  ff_X8_digest_67 x1 (fun k10 =>
    K62_36 (x1 + (1 : Int32)) k10) FU_ (0 : Int32) (ff_X8_mix y1 h)
def ff_X8_digest_36 (K36_99 : hh_ → Option (Int64 × hh_)) : Nat → Int32 → hh_ → Option (Int64 × hh_)
  | 0, _, _ => none
  | n9 + 1, x1, h =>
    if (6 : Int32) ≤ x1 then
      K36_99 h
    else
      gd_ (bi_ x1 6) <|
      if 0 ≤ (h.1 100 (Int32.toNatClampNeg x1)) then
        ff_X8_digest_62 x1 (h.1 100 (Int32.toNatClampNeg x1)) h (fun z1 h8 => ff_X8_digest_36 K36_99 n9 z1 h8)
      else
        ff_X8_digest_62 x1 (-1 : Int32) h (fun z1 h8 => ff_X8_digest_36 K36_99 n9 z1 h8)
def ff_X8_digest_131 (x1 : Int32) (K131_162 : hh_ → Option (Int64 × hh_)) : Nat → Int32 → hh_ → Option (Int64 × hh_)
  | 0, _, _ => none
  | n9 + 1, x2, h =>
    gd_ (bi_ x1 4) <|
    if (h.1 103 (Int32.toNatClampNeg x1)) ≤ x2 then
      K131_162 h
    else
      gd_ (bi_ (((80 : Int32) * x1) + x2) 320) <|
      ff_X8_digest_131 x1 K131_162 n9 (x2 + (1 : Int32)) (ff_X8_mix (h.1 104 (Int32.toNatClampNeg (((80 : Int32) * x1) + x2))) h)
def ff_X8_digest_126 (x1 : Int32) (y1 : Int32) (h : hh_) (K126_101 : Int32 → hh_ → Option (Int64 × hh_)) : Option (Int64 × hh_) :=
  ff_X8_digest_131 x1 (fun k15 =>
    K126_101 (x1 + (1 : Int32)) k15) FU_ (0 : Int32) (ff_X8_mix y1 h)
def ff_X8_digest_101 : Nat → Int32 → hh_ → Option (Int64 × hh_)
  | 0, _, _ => none
  | n9 + 1, x1, h =>
    if (4 : Int32) ≤ x1 then
      some ((h.2.1 98 30), h)
    else
      gd_ (bi_ x1 4) <|
      if 0 ≤ (h.1 103 (Int32.toNatClampNeg x1)) then
        ff_X8_digest_126 x1 (h.1 103 (Int32.toNatClampNeg x1)) h (fun z1 h8 => ff_X8_digest_101 n9 z1 h8)
      else
        ff_X8_digest_126 x1 (-1 : Int32) h (fun z1 h8 => ff_X8_digest_101 n9 z1 h8)
def ff_X8_digest (h : hh_) : Option (Int64 × hh_) :=
  ff_X8_digest_9 (fun k3 =>
    (ff_X8_mixOffice k3).bind fun v4 =>
    ff_X8_digest_36 (fun k11 =>
      ff_X8_digest_101 FU_ (0 : Int32) k11) FU_ (0 : Int32) v4) FU_ (0 : Int32) (hh_sL h 98 30 (17 : Int64))
end
section
/-- 0: row -/
def sp_0 (I : hh_ → Prop) : Prop := ∀ (h : hh_) (a1 : Int32) (a2 : Int32), I h → ∃ (r : Int32) (h1 : hh_) (h2 : hh_), ff_X7_row a1 a2 h = some (r, h1) ∧ ff_X8_row a1 a2 h1 = some (r, h2) ∧ I h2
/-- 1: lay -/
def sp_1 (I : hh_ → Prop) : Prop := ∀ (h : hh_) (a1 : Int32) (a2 : Int32) (a3 : Int32), I h → ∃ (r : Int32) (h1 : hh_) (h2 : hh_), ff_X7_lay a1 a2 a3 h = some (r, h1) ∧ ff_X8_lay a1 a2 a3 h1 = some (r, h2) ∧ I h2
/-- 2: at -/
def sp_2 (I : hh_ → Prop) : Prop := ∀ (h : hh_) (a1 : Int32) (a2 : Int32), I h → ∃ (r : Int32) (h1 : hh_) (h2 : hh_), ff_X7_at a1 a2 h = some (r, h1) ∧ ff_X8_at a1 a2 h1 = some (r, h2) ∧ I h2
/-- 3: tear -/
def sp_3 (I : hh_ → Prop) : Prop := ∀ (h : hh_) (a1 : Int32), I h → ∃ (r : Int32) (h1 : hh_) (h2 : hh_), ff_X7_tear a1 h = some (r, h1) ∧ ff_X8_tear a1 h1 = some (r, h2) ∧ I h2
/-- 4: copy -/
def sp_4 (I : hh_ → Prop) : Prop := ∀ (h : hh_) (a1 : Int32) (a2 : Int32) (a3 : Int32) (a4 : Int32) (a5 : Int32), I h → ∃ (r : Int32) (h1 : hh_) (h2 : hh_), ff_X7_copy a1 a2 a3 a4 a5 h = some (r, h1) ∧ ff_X8_copy a1 a2 a3 a4 a5 h1 = some (r, h2) ∧ I h2
/-- 5: mean -/
def sp_5 (I : hh_ → Prop) : Prop := ∀ (h : hh_) (a1 : Int32), I h → ∃ (r : Int32) (h1 : hh_) (h2 : hh_), ff_X7_mean a1 h = some (r, h1) ∧ ff_X8_mean a1 h1 = some (r, h2) ∧ I h2
/-- 6: text -/
def sp_6 (I : hh_ → Prop) : Prop := ∀ (h : hh_) (a1 : Int32) (a2 : Int32), I h → ∃ (r : Int32) (h1 : hh_) (h2 : hh_), ff_X7_text a1 a2 h = some (r, h1) ∧ ff_X8_text a1 a2 h1 = some (r, h2) ∧ I h2
/-- 7: put -/
def sp_7 (I : hh_ → Prop) : Prop := ∀ (h : hh_) (a1 : Int32) (a2 : Int32) (a3 : Int32), I h → ∃ (r : Int32) (h1 : hh_) (h2 : hh_), ff_X7_put a1 a2 a3 h = some (r, h1) ∧ ff_X8_put a1 a2 a3 h1 = some (r, h2) ∧ I h2
/-- 8: fault -/
def sp_8 (I : hh_ → Prop) : Prop := ∀ (h : hh_) (a1 : Int32), I h → ∃ (r : Int32) (h1 : hh_) (h2 : hh_), ff_X7_fault a1 h = some (r, h1) ∧ ff_X8_fault a1 h1 = some (r, h2) ∧ I h2
/-- 9: office -/
def sp_9 (I : hh_ → Prop) : Prop := ∀ (h : hh_) (a1 : Int32), I h → ∃ (r : Int32) (h1 : hh_) (h2 : hh_), ff_X7_office a1 h = some (r, h1) ∧ ff_X8_office a1 h1 = some (r, h2) ∧ I h2
/-- 10: head -/
def sp_10 (I : hh_ → Prop) : Prop := ∀ (h : hh_) (a1 : Int32) (a2 : Int32), I h → ∃ (r : Int32) (h1 : hh_) (h2 : hh_), ff_X7_head a1 a2 h = some (r, h1) ∧ ff_X8_head a1 a2 h1 = some (r, h2) ∧ I h2
/-- 11: thumb -/
def sp_11 (I : hh_ → Prop) : Prop := ∀ (h : hh_) (a1 : Int32) (a2 : Int32), I h → ∃ (r : Int32) (h1 : hh_) (h2 : hh_), ff_X7_thumb a1 a2 h = some (r, h1) ∧ ff_X8_thumb a1 a2 h1 = some (r, h2) ∧ I h2
/-- 12: post -/
def sp_12 (I : hh_ → Prop) : Prop := ∀ (h : hh_) (a1 : Int32) (a2 : Int32), I h → ∃ (r : Int32) (h1 : hh_) (h2 : hh_), ff_X7_post a1 a2 h = some (r, h1) ∧ ff_X8_post a1 a2 h1 = some (r, h2) ∧ I h2
/-- 13: mark -/
def sp_13 (I : hh_ → Prop) : Prop := ∀ (h : hh_) (a1 : Int32) (a2 : Int32), I h → ∃ (r : Int32) (h1 : hh_) (h2 : hh_), ff_X7_mark a1 a2 h = some (r, h1) ∧ ff_X8_mark a1 a2 h1 = some (r, h2) ∧ I h2
/-- 14: error -/
def sp_14 (I : hh_ → Prop) : Prop := ∀ (h : hh_) (a1 : Int32) (a2 : Int32), I h → ∃ (r : Int32) (h1 : hh_) (h2 : hh_), ff_X7_error a1 a2 h = some (r, h1) ∧ ff_X8_error a1 a2 h1 = some (r, h2) ∧ I h2
/-- 15: pad -/
def sp_15 (I : hh_ → Prop) : Prop := ∀ (h : hh_) (a1 : Int32) (a2 : Int32), I h → ∃ (r : Int32) (h1 : hh_) (h2 : hh_), ff_X7_pad a1 a2 h = some (r, h1) ∧ ff_X8_pad a1 a2 h1 = some (r, h2) ∧ I h2
/-- 16: grow -/
def sp_16 (I : hh_ → Prop) : Prop := ∀ (h : hh_) (a1 : Int32), I h → ∃ (r : Int32) (h1 : hh_) (h2 : hh_), ff_X7_grow a1 h = some (r, h1) ∧ ff_X8_grow a1 h1 = some (r, h2) ∧ I h2
/-- 17: cut -/
def sp_17 (I : hh_ → Prop) : Prop := ∀ (h : hh_) (a1 : Int32) (a2 : Int32), I h → ∃ (r : Int32) (h1 : hh_) (h2 : hh_), ff_X7_cut a1 a2 h = some (r, h1) ∧ ff_X8_cut a1 a2 h1 = some (r, h2) ∧ I h2
/-- 18: undo -/
def sp_18 (I : hh_ → Prop) : Prop := ∀ (h : hh_) (a1 : Int32), I h → ∃ (r : Int32) (h1 : hh_) (h2 : hh_), ff_X7_undo a1 h = some (r, h1) ∧ ff_X8_undo a1 h1 = some (r, h2) ∧ I h2
/-- 19: keep -/
def sp_19 (I : hh_ → Prop) : Prop := ∀ (h : hh_) (a1 : Int32), I h → ∃ (r : Int32) (h1 : hh_) (h2 : hh_), ff_X7_keep a1 h = some (r, h1) ∧ ff_X8_keep a1 h1 = some (r, h2) ∧ I h2
/-- 20: on -/
def sp_20 (I : hh_ → Prop) : Prop := ∀ (h : hh_) (a1 : Int32), I h → ∃ (r : Int32) (h1 : hh_) (h2 : hh_), ff_X7_on a1 h = some (r, h1) ∧ ff_X8_on a1 h1 = some (r, h2) ∧ I h2
/-- 21: reads -/
def sp_21 (I : hh_ → Prop) : Prop := ∀ (h : hh_) (a1 : Int32) (a2 : Int32) (a3 : Int32), I h → ∃ (r : Int32) (h1 : hh_) (h2 : hh_), ff_X7_reads a1 a2 a3 h = some (r, h1) ∧ ff_X8_reads a1 a2 a3 h1 = some (r, h2) ∧ I h2
/-- 22: fits -/
def sp_22 (I : hh_ → Prop) : Prop := ∀ (h : hh_) (a1 : Int32) (a2 : Int32) (a3 : Int32), I h → ∃ (r : Int32) (h1 : hh_) (h2 : hh_), ff_X7_fits a1 a2 a3 h = some (r, h1) ∧ ff_X8_fits a1 a2 a3 h1 = some (r, h2) ∧ I h2
/-- 23: whose -/
def sp_23 (I : hh_ → Prop) : Prop := ∀ (h : hh_) (a1 : Int32) (a2 : Int32), I h → ∃ (r : Int32) (h1 : hh_) (h2 : hh_), ff_X7_whose a1 a2 h = some (r, h1) ∧ ff_X8_whose a1 a2 h1 = some (r, h2) ∧ I h2
/-- 24: who -/
def sp_24 (I : hh_ → Prop) : Prop := ∀ (h : hh_) (a1 : Int32) (a2 : Int32), I h → ∃ (r : Int32) (h1 : hh_) (h2 : hh_), ff_X7_who a1 a2 h = some (r, h1) ∧ ff_X8_who a1 a2 h1 = some (r, h2) ∧ I h2
/-- 25: odds -/
def sp_25 (I : hh_ → Prop) : Prop := ∀ (h : hh_) (a1 : Int32) (a2 : Int32) (a3 : Int32), I h → ∃ (r : Int32) (h1 : hh_) (h2 : hh_), ff_X7_odds a1 a2 a3 h = some (r, h1) ∧ ff_X8_odds a1 a2 a3 h1 = some (r, h2) ∧ I h2
/-- 26: look -/
def sp_26 (I : hh_ → Prop) : Prop := ∀ (h : hh_) (a1 : Int32), I h → ∃ (r : Int32) (h1 : hh_) (h2 : hh_), ff_X7_look a1 h = some (r, h1) ∧ ff_X8_look a1 h1 = some (r, h2) ∧ I h2
/-- 27: alike -/
def sp_27 (I : hh_ → Prop) : Prop := ∀ (h : hh_) (a1 : Int32) (a2 : Int32), I h → ∃ (r : Int32), ff_X7_alike a1 a2 h = some r ∧ ff_X8_alike a1 a2 h = some r ∧ I h
/-- 28: suits -/
def sp_28 (I : hh_ → Prop) : Prop := ∀ (h : hh_) (a1 : Int32) (a2 : Int32) (a3 : Int32), I h → ∃ (r : Int32), ff_X7_suits a1 a2 a3 h = some r ∧ ff_X8_suits a1 a2 a3 h = some r ∧ I h
/-- 29: luck -/
def sp_29 (I : hh_ → Prop) : Prop := ∀ (h : hh_) (a1 : Int32) (a2 : Int32) (a3 : Int32), I h → ∃ (r : Int32) (h1 : hh_) (h2 : hh_), ff_X7_luck a1 a2 a3 h = some (r, h1) ∧ ff_X8_luck a1 a2 a3 h1 = some (r, h2) ∧ I h2
/-- 30: pads -/
def sp_30 (I : hh_ → Prop) : Prop := ∀ (h : hh_) (a1 : Int32) (a2 : Int32) (a3 : Int32) (a4 : Int32), I h → ∃ (r : Int32) (h1 : hh_) (h2 : hh_), ff_X7_pads a1 a2 a3 a4 h = some (r, h1) ∧ ff_X8_pads a1 a2 a3 a4 h1 = some (r, h2) ∧ I h2
/-- 31: all -/
def sp_31 (I : hh_ → Prop) : Prop := ∀ (h : hh_) (a1 : Int32) (a2 : Int32), I h → ∃ (r : Int32) (h2 : hh_), ff_X7_all a1 a2 h = some r ∧ ff_X8_all a1 a2 h = some (r, h2) ∧ I h2
/-- 32: finds -/
def sp_32 (I : hh_ → Prop) : Prop := ∀ (h : hh_) (a1 : Int32) (a2 : Int32) (a3 : Int32), I h → ∃ (r : Int32) (h2 : hh_), ff_X7_finds a1 a2 a3 h = some r ∧ ff_X8_finds a1 a2 a3 h = some (r, h2) ∧ I h2
/-- 33: posts -/
def sp_33 (I : hh_ → Prop) : Prop := ∀ (h : hh_) (a1 : Int32) (a2 : Int32), I h → ∃ (r : Int32) (h1 : hh_) (h2 : hh_), ff_X7_posts a1 a2 h = some (r, h1) ∧ ff_X8_posts a1 a2 h1 = some (r, h2) ∧ I h2
/-- 34: plan -/
def sp_34 (I : hh_ → Prop) : Prop := ∀ (h : hh_) (a1 : Int32) (a2 : Int32), I h → ∃ (r : Int32) (h1 : hh_) (h2 : hh_), ff_X7_plan a1 a2 h = some (r, h1) ∧ ff_X8_plan a1 a2 h1 = some (r, h2) ∧ I h2
/-- 35: plans -/
def sp_35 (I : hh_ → Prop) : Prop := ∀ (h : hh_) (a1 : Int32), I h → ∃ (r : Int32) (h1 : hh_) (h2 : hh_), ff_X7_plans a1 h = some (r, h1) ∧ ff_X8_plans a1 h1 = some (r, h2) ∧ I h2
/-- 36: safest -/
def sp_36 (I : hh_ → Prop) : Prop := ∀ (h : hh_) (a1 : Int32), I h → ∃ (r : Int32) (h1 : hh_) (h2 : hh_), ff_X7_safest a1 h = some (r, h1) ∧ ff_X8_safest a1 h1 = some (r, h2) ∧ I h2
/-- 37: gain -/
def sp_37 (I : hh_ → Prop) : Prop := ∀ (h : hh_) (a1 : Int32) (a2 : Int32), I h → ∃ (r : Int32) (h1 : hh_) (h2 : hh_), ff_X7_gain a1 a2 h = some (r, h1) ∧ ff_X8_gain a1 a2 h1 = some (r, h2) ∧ I h2
/-- 38: learn -/
def sp_38 (I : hh_ → Prop) : Prop := ∀ (h : hh_) (a1 : Int32) (a2 : Int32), I h → ∃ (r : Int32) (h1 : hh_) (h2 : hh_), ff_X7_learn a1 a2 h = some (r, h1) ∧ ff_X8_learn a1 a2 h1 = some (r, h2) ∧ I h2
/-- 39: tells -/
def sp_39 (I : hh_ → Prop) : Prop := ∀ (h : hh_) (a1 : Int32), I h → ∃ (r : Int32) (h1 : hh_) (h2 : hh_), ff_X7_tells a1 h = some (r, h1) ∧ ff_X8_tells a1 h1 = some (r, h2) ∧ I h2
/-- 40: lots -/
def sp_40 (I : hh_ → Prop) : Prop := ∀ (h : hh_) (a1 : Int32) (a2 : Int32) (a3 : Int32), I h → ∃ (r : Int32) (h1 : hh_) (h2 : hh_), ff_X7_lots a1 a2 a3 h = some (r, h1) ∧ ff_X8_lots a1 a2 a3 h1 = some (r, h2) ∧ I h2
/-- 41: asked -/
def sp_41 (I : hh_ → Prop) : Prop := ∀ (h : hh_), I h → ∃ (r : Int32), ff_X7_asked h = r ∧ ff_X8_asked h = r ∧ I h
/-- 42: upper -/
def sp_42 (I : hh_ → Prop) : Prop := ∀ (h : hh_), I h → ∃ (r : Int64), ff_X7_upper h = r ∧ ff_X8_upper h = r ∧ I h
/-- 43: lower -/
def sp_43 (I : hh_ → Prop) : Prop := ∀ (h : hh_), I h → ∃ (r : Int64), ff_X7_lower h = r ∧ ff_X8_lower h = r ∧ I h
/-- 44: count -/
def sp_44 (I : hh_ → Prop) : Prop := ∀ (h : hh_) (a1 : Int32), I h → ∃ (r : Int32), ff_X7_count a1 h = some r ∧ ff_X8_count a1 h = some r ∧ I h
/-- 45: finding -/
def sp_45 (I : hh_ → Prop) : Prop := ∀ (h : hh_), I h → ∃ (r : Int32), ff_X7_finding h = r ∧ ff_X8_finding h = r ∧ I h
/-- 46: findings -/
def sp_46 (I : hh_ → Prop) : Prop := ∀ (h : hh_) (a1 : Int32), I h → ∃ (r : Int32), ff_X7_findings a1 h = some r ∧ ff_X8_findings a1 h = some r ∧ I h
/-- 47: digest -/
def sp_47 (I : hh_ → Prop) : Prop := ∀ (h : hh_), I h → ∃ (r : Int64) (h2 : hh_), ff_X7_digest h = some r ∧ ff_X8_digest h = some (r, h2) ∧ I h2
end
section
/-! ===== the heap behind the two constructors ===== -/
def hz_ : hh_ := ((fun _ _ => 0, fun _ _ => 0, 39, 64, 0) : hh_)
def h0_ : hh_ := (hh_sI (hh_sI (hh_sI (hh_sI (hh_sI (hh_sI (hh_sI (hh_sI (hh_sI (hh_sI (hh_sI (hh_sI (hh_sI (hh_sL (hh_sI (hh_sI (hh_sI (hh_sL (hh_sI (hh_sI (hh_sI (hh_sI (hh_sI (hh_sI (hh_sI (hh_sI (hh_sI (hh_sI hz_ 10 0 (-1)) 10 1 (-1)) 10 2 (-1)) 10 3 (-1)) 10 4 (-1)) 10 5 (-1)) 17 0 (-1)) 17 1 (-1)) 17 2 (-1)) 17 3 (-1)) 36 4 1) 89 2 (-1)) 92 2 (-1)) 95 2 (-1)) 98 4 1) 100 0 (-9)) 100 1 (-9)) 100 2 (-9)) 100 3 (-9)) 100 4 (-9)) 100 5 (-9)) 103 0 (-9)) 103 1 (-9)) 103 2 (-9)) 103 3 (-9)) 110 0 (-9)) 110 1030 (-9)) 110 2060 (-9))
end
section
/-! ===== the invariant between the class's cells and the reference's ===== -/
theorem sI_ne {h : hh_} {a i k j : Nat} {v : Int32} (e : k ≠ a) : (hh_sI h a i v).1 k j = h.1 k j := hh_up_ne e
theorem sI_nj {h : hh_} {a i k j : Nat} {v : Int32} (e : j ≠ i) : (hh_sI h a i v).1 k j = h.1 k j := by
  show hh_up h.1 a i v k j = _
  unfold hh_up
  rw [if_neg (fun q => e q.2)]
theorem sI_eq {h : hh_} {a i : Nat} {v : Int32} : (hh_sI h a i v).1 a i = v := by
  show hh_up h.1 a i v a i = _
  unfold hh_up
  rw [if_pos ⟨rfl, rfl⟩]
theorem sI_if {h : hh_} {a i j : Nat} {v : Int32} : (hh_sI h a i v).1 a j = if j = i then v else h.1 a j := by
  by_cases e : j = i
  · subst e; rw [if_pos rfl, sI_eq]
  · rw [if_neg e, sI_nj e]
theorem sL_ne {h : hh_} {a i k j : Nat} {v : Int64} (e : k ≠ a) : (hh_sL h a i v).2.1 k j = h.2.1 k j := hh_up_ne e
theorem sL_nj {h : hh_} {a i k j : Nat} {v : Int64} (e : j ≠ i) : (hh_sL h a i v).2.1 k j = h.2.1 k j := by
  show hh_up h.2.1 a i v k j = _
  unfold hh_up
  rw [if_neg (fun q => e q.2)]
theorem sL_eq {h : hh_} {a i : Nat} {v : Int64} : (hh_sL h a i v).2.1 a i = v := by
  show hh_up h.2.1 a i v a i = _
  unfold hh_up
  rw [if_pos ⟨rfl, rfl⟩]
theorem hh_ext {h h' : hh_} (e1 : ∀ k j, h.1 k j = h'.1 k j) (e2 : ∀ k j, h.2.1 k j = h'.2.1 k j) (e3 : h.2.2 = h'.2.2) : h = h' := by
  obtain ⟨a, b, c⟩ := h
  obtain ⟨a', b', c'⟩ := h'
  have h1 : a = a' := funext fun k => funext fun j => e1 k j
  have h2 : b = b' := funext fun k => funext fun j => e2 k j
  have h3 : c = c' := e3
  rw [h1, h2, h3]
/-- what was told -/
def iT_ (h : hh_) : Prop := h.1 36 1 = h.1 98 0 ∧ h.1 36 2 = h.1 98 2 ∧ h.2.1 36 3 = h.2.1 98 3 ∧ h.2.1 36 4 = h.2.1 98 4 ∧ ∀ f, f < 6 → h.1 37 f = h.1 99 f
/-- rows: cs the sizes, cb the first row, of the class; ms, mb of the reference; w how wide -/
def rw_ (h : hh_) (cs cb ms mb w r : Nat) : Prop := (h.1 cs r = -1 ∧ h.1 ms r = -9) ∨ ∃ n, n ≤ w ∧ h.1 cs r = nI n ∧ h.1 ms r = nI n ∧ ∀ i, i < n → h.1 (cb + r) i = h.1 mb (w * r + i)
def iR_ (h : hh_) : Prop := ∀ r, r < 6 → rw_ h 10 4 100 101 40 r
def iX_ (h : hh_) : Prop := ∀ r, r < 4 → rw_ h 17 13 103 104 80 r
/-- an office's data: how many HEADS, THUMBS, POSTS; their numbers -/
abbrev od_ : Type := Nat × Nat × Nat × (Nat → Nat → Nat) × (Nat → Nat → Nat) × (Nat → Nat → Nat)
abbrev d_m (D : od_) : Nat := D.1
abbrev d_t (D : od_) : Nat := D.2.1
abbrev d_p (D : od_) : Nat := D.2.2.1
abbrev d_H (D : od_) : Nat → Nat → Nat := D.2.2.2.1
abbrev d_T (D : od_) : Nat → Nat → Nat := D.2.2.2.2.1
abbrev d_P (D : od_) : Nat → Nat → Nat := D.2.2.2.2.2
def oK_ (D : od_) : Prop := d_m D ≤ 5 ∧ d_t D ≤ 4 ∧ d_p D ≤ 4 ∧ (0 < d_t D → 0 < d_m D) ∧ (∀ i, i < d_m D → (∀ j, j < 4 → d_H D i j ≤ 5) ∧ d_H D i 4 ≤ 3) ∧ (∀ t, t < d_t D → d_T D t 0 ≤ 5 ∧ d_T D t 1 ≤ 2 ∧ d_T D t 2 ≤ 3) ∧ ∀ p, p < d_p D → (∀ j, j < 4 → d_P D p j ≤ 6) ∧ 1 ≤ d_P D p 4 ∧ d_P D p 4 ≤ 9
/-- the class's office o holds D -/
def oC_ (o : Nat) (h : hh_) (D : od_) : Prop := h.1 (o + 23) 0 = nI (d_m D) ∧ h.1 (o + 23) 1 = nI (d_t D) ∧ h.1 (o + 23) 2 = nI (d_p D) ∧ (∀ i, i < d_m D → ∀ j, j < 5 → h.1 (o + 8 + i) j = nI (d_H D i j)) ∧ (∀ t, t < d_t D → ∀ j, j < 3 → h.1 (o + 14 + t) j = nI (d_T D t j)) ∧ ∀ p, p < d_p D → ∀ j, j < 5 → h.1 (o + 19 + p) j = nI (d_P D p j)
/-- the reference holds D -/
def oM_ (h : hh_) (D : od_) : Prop := h.1 98 10 = nI (d_m D) ∧ h.1 98 11 = nI (d_t D) ∧ h.1 98 12 = nI (d_p D) ∧ (∀ i, i < d_m D → ∀ j, j < 5 → h.1 105 (5 * i + j) = nI (d_H D i j)) ∧ (∀ t, t < d_t D → ∀ j, j < 3 → h.1 106 (3 * t + j) = nI (d_T D t j)) ∧ ∀ p, p < d_p D → ∀ j, j < 5 → h.1 107 (5 * p + j) = nI (d_P D p j)
/-- a DEED done to HEADS: its code is 8 times the HEAD, and what it does -/
def ap_ (c : Nat) (H : Nat → Nat → Nat) : Nat → Nat → Nat := fun i j =>
  if i = c / 8 then (if 5 ≤ c % 8 then (if j = 4 then c % 8 - 5 else H i j) else if j < 4 ∧ (c % 8 = 4 ∨ c % 8 = j) then min 5 (H i j + 1) else H i j) else H i j
def rp_ (F : Nat → Nat → Nat) (ds : Nat → Nat) : Nat → Nat → Nat → Nat
  | 0 => F
  | d + 1 => ap_ (ds d) (rp_ F ds d)
/-- HEADS at the start, DEEDS (codes cd in cell a), their pictures in the reference's cell b from place p on, each 25 long -/
def dd2_ (h : hh_) (m : Nat) (F : Nat → Nat → Nat) (ds : Nat → Nat) (n a b p : Nat) : Prop := n ≤ 40 ∧ (∀ d, d < n → h.1 a d = nI (ds d) ∧ ds d / 8 < m ∧ ds d < 40) ∧ ∀ d, d < n → ∀ i, i < m → ∀ j, j < 5 → h.1 b (p + (25 * d + (5 * i + j))) = nI (rp_ F ds d i j)
/-- a kept office -/
def kp_ (h : hh_) (m t : Nat) (F : Nat → Nat → Nat) (k : Nat) : Prop := (h.1 (89 + 3 * k) 2 = -1 ∧ h.1 110 (1030 * k) = -9) ∨ ∃ (n : Nat) (ds : Nat → Nat), h.1 (89 + 3 * k) 2 = nI n ∧ h.1 110 (1030 * k) = nI n ∧ dd2_ h m F ds n (90 + 3 * k) 110 (1030 * k + 30) ∧ (∀ i, i < m → ∀ j, j < 5 → h.1 110 (1030 * k + 5 + (5 * i + j)) = nI (rp_ F ds n i j)) ∧ ∀ x, x < t → ∃ e, e ≤ 2 ∧ h.1 (91 + 3 * k) x = nI e ∧ h.1 110 (1030 * k + 1 + x) = nI e
def iO_ (h : hh_) : Prop := ((h.2.2.1 = 39 ∧ h.2.2.2.1 = 64) ∨ (h.2.2.1 = 64 ∧ h.2.2.2.1 = 39)) ∧ ∃ (D : od_) (F : Nat → Nat → Nat) (ds : Nat → Nat) (n : Nat), oK_ D ∧ oC_ h.2.2.1 h D ∧ oM_ h D ∧
  h.1 h.2.2.1 6 = nI n ∧ h.1 98 21 = nI n ∧ dd2_ h (d_m D) F ds n (h.2.2.1 + 24) 109 0 ∧ (∀ i, i < d_m D → ∀ j, j < 5 → h.1 (h.2.2.1 + 2 + i) j = nI (F i j)) ∧ (∀ i, i < d_m D → (∀ j, j < 4 → F i j ≤ 5) ∧ F i 4 ≤ 3) ∧ (∀ i, i < d_m D → ∀ j, j < 5 → d_H D i j = rp_ F ds n i j) ∧ (d_m D = 0 → n = 0) ∧ ∀ k, k < 3 → kp_ h (d_m D) (d_t D) F k
def inv_ (h : hh_) : Prop := iT_ h ∧ iR_ h ∧ iX_ h ∧ iO_ h
/-! frames -/
theorem rw_.fr {h h' : hh_} {cs cb ms mb w r : Nat} (e1 : h'.1 cs r = h.1 cs r) (e2 : h'.1 ms r = h.1 ms r) (e3 : ∀ i, h'.1 (cb + r) i = h.1 (cb + r) i) (e4 : ∀ i, h'.1 mb (w * r + i) = h.1 mb (w * r + i)) (H : rw_ h cs cb ms mb w r) : rw_ h' cs cb ms mb w r := by
  rcases H with ⟨a, b⟩ | ⟨n, hn, a, b, c⟩
  · exact Or.inl ⟨e1.trans a, e2.trans b⟩
  · exact Or.inr ⟨n, hn, e1.trans a, e2.trans b, fun i hi => by rw [e3, e4]; exact c i hi⟩
theorem iR_.fr {h h' : hh_} (e : ∀ k j, (4 ≤ k ∧ k ≤ 10) ∨ k = 100 ∨ k = 101 → h'.1 k j = h.1 k j) (H : iR_ h) : iR_ h' := fun r hr => (H r hr).fr (e _ _ (by omega)) (e _ _ (by omega)) (fun i => e _ _ (by omega)) (fun i => e _ _ (by omega))
theorem iX_.fr {h h' : hh_} (e : ∀ k j, (13 ≤ k ∧ k ≤ 17) ∨ k = 103 ∨ k = 104 → h'.1 k j = h.1 k j) (H : iX_ h) : iX_ h' := fun r hr => (H r hr).fr (e _ _ (by omega)) (e _ _ (by omega)) (fun i => e _ _ (by omega)) (fun i => e _ _ (by omega))
theorem iT_.fr {h h' : hh_} (e : ∀ k j, k = 36 ∨ k = 37 ∨ k = 99 ∨ (k = 98 ∧ (j = 0 ∨ j = 2)) → h'.1 k j = h.1 k j) (e2 : ∀ k j, k = 36 ∨ (k = 98 ∧ (j = 3 ∨ j = 4)) → h'.2.1 k j = h.2.1 k j) (H : iT_ h) : iT_ h' := by
  obtain ⟨a, b, c, d, f⟩ := H
  refine ⟨?_, ?_, ?_, ?_, fun g hg => ?_⟩
  · rw [e 36 1 (by omega), e 98 0 (by omega)]; exact a
  · rw [e 36 2 (by omega), e 98 2 (by omega)]; exact b
  · rw [e2 36 3 (by omega), e2 98 3 (by omega)]; exact c
  · rw [e2 36 4 (by omega), e2 98 4 (by omega)]; exact d
  · rw [e 37 g (by omega), e 99 g (by omega)]; exact f g hg
theorem dd2_.fr {h h' : hh_} {m n a b p : Nat} {F : Nat → Nat → Nat} {ds : Nat → Nat} (ea : ∀ j, h'.1 a j = h.1 a j) (eb : ∀ j, h'.1 b j = h.1 b j) (H : dd2_ h m F ds n a b p) : dd2_ h' m F ds n a b p :=
  ⟨H.1, fun d hd => by rw [ea]; exact H.2.1 d hd, fun d hd i hi j hj => by rw [eb]; exact H.2.2 d hd i hi j hj⟩
theorem kp_.fr {h h' : hh_} {m t k : Nat} {F : Nat → Nat → Nat} (hk : k < 3) (e : ∀ c j, (89 ≤ c ∧ c ≤ 97) ∨ c = 110 → h'.1 c j = h.1 c j) (H : kp_ h m t F k) : kp_ h' m t F k := by
  rcases H with ⟨a, b⟩ | ⟨n, ds, a, b, c, d, f⟩
  · exact Or.inl ⟨by rw [e _ _ (by omega)]; exact a, by rw [e _ _ (by omega)]; exact b⟩
  · refine Or.inr ⟨n, ds, by rw [e _ _ (by omega)]; exact a, by rw [e _ _ (by omega)]; exact b, c.fr (fun j => e _ _ (by omega)) (fun j => e _ _ (by omega)), fun i hi j hj => by rw [e _ _ (by omega)]; exact d i hi j hj, fun x hx => ?_⟩
    obtain ⟨q, hq, h1, h2⟩ := f x hx
    exact ⟨q, hq, by rw [e _ _ (by omega)]; exact h1, by rw [e _ _ (by omega)]; exact h2⟩
theorem oC_.fr {h h' : hh_} {o : Nat} {D : od_} (K : oK_ D) (e : ∀ c j, o ≤ c ∧ c ≤ o + 24 → h'.1 c j = h.1 c j) (H : oC_ o h D) : oC_ o h' D := by
  obtain ⟨a, b, c, d, f, g⟩ := H
  have k1 := K.1
  have k2 := K.2.1
  have k3 := K.2.2.1
  exact ⟨by rw [e _ _ (by omega)]; exact a, by rw [e _ _ (by omega)]; exact b, by rw [e _ _ (by omega)]; exact c, fun i hi j hj => by rw [e _ _ (by omega)]; exact d i hi j hj, fun i hi j hj => by rw [e _ _ (by omega)]; exact f i hi j hj, fun i hi j hj => by rw [e _ _ (by omega)]; exact g i hi j hj⟩
theorem oM_.fr {h h' : hh_} {D : od_} (e : ∀ c j, c = 105 ∨ c = 106 ∨ c = 107 ∨ (c = 98 ∧ (j = 10 ∨ j = 11 ∨ j = 12)) → h'.1 c j = h.1 c j) (H : oM_ h D) : oM_ h' D := by
  obtain ⟨a, b, c, d, f, g⟩ := H
  exact ⟨by rw [e _ _ (by omega)]; exact a, by rw [e _ _ (by omega)]; exact b, by rw [e _ _ (by omega)]; exact c, fun i hi j hj => by rw [e _ _ (by omega)]; exact d i hi j hj, fun i hi j hj => by rw [e _ _ (by omega)]; exact f i hi j hj, fun i hi j hj => by rw [e _ _ (by omega)]; exact g i hi j hj⟩
/-- the cells that the office's part of the invariant speaks of -/
def fO_ (h : hh_) (k j : Nat) : Prop := (h.2.2.1 ≤ k ∧ k ≤ h.2.2.1 + 24) ∨ (89 ≤ k ∧ k ≤ 97) ∨ k = 105 ∨ k = 106 ∨ k = 107 ∨ k = 109 ∨ k = 110 ∨ (k = 98 ∧ (j = 10 ∨ j = 11 ∨ j = 12 ∨ j = 21))
theorem iO_.fr {h h' : hh_} (er : h'.2.2.1 = h.2.2.1 ∧ h'.2.2.2.1 = h.2.2.2.1) (e : ∀ k j, fO_ h k j → h'.1 k j = h.1 k j) (H : iO_ h) : iO_ h' := by
  obtain ⟨hn, D, F, ds, n, k1, k2, k3, k4, k5, k6, k7, k8, k9, k10, k11⟩ := H
  unfold iO_
  rw [er.1, er.2]
  have km := k1.1
  refine ⟨hn, D, F, ds, n, k1, k2.fr k1 (fun c j hc => e _ _ (Or.inl hc)), k3.fr (fun c j hc => e _ _ (by unfold fO_; omega)), by rw [e _ _ (by unfold fO_; omega)]; exact k4, by rw [e _ _ (by unfold fO_; omega)]; exact k5, k6.fr (fun j => e _ _ (by unfold fO_; omega)) (fun j => e _ _ (by unfold fO_; omega)), fun i hi j hj => by rw [e _ _ (by unfold fO_; omega)]; exact k7 i hi j hj, k8, k9, k10, fun k hk => (k11 k hk).fr hk (fun c j hc => e _ _ (by unfold fO_; omega))⟩
theorem iO_.nw {h : hh_} (H : iO_ h) : (h.2.2.1 = 39 ∨ h.2.2.1 = 64) := by rcases H.1 with q | q <;> omega
theorem iO_.nwB {h : hh_} (H : iO_ h) : bo_ h.2.2.1 = true := by
  unfold bo_
  rcases H.nw with q | q <;> rw [q] <;> rfl
/-! refusals, tellings -/
def cre_ (f : Nat) (h : hh_) : hh_ := hh_sI (hh_sI h 36 1 (nI f)) 37 f (h.1 37 f + 1)
def mre_ (f : Nat) (h : hh_) : hh_ := hh_sI (hh_sI h 98 0 (nI f)) 99 f (h.1 99 f + 1)
theorem bi_t {n N : Nat} (h : n < N) (hN : N < 2 ^ 31) : bi_ (nI n) N = true := by
  unfold bi_
  have h1 : ¬ nI n < 0 := nI_pos (by omega)
  simp only [nI_clamp (show n < 2 ^ 31 by omega), h1, decide_false, Bool.false_or, Bool.not_eq_true', decide_eq_false_iff_not]
  omega
theorem gd_t {α : Type} {b : Bool} {x : Option α} (h : b = true) : gd_ b x = x := by unfold gd_; rw [if_pos h]
theorem gd_n {α : Type} {n N : Nat} {x : Option α} (h : n < N) (hN : N < 2 ^ 31) : gd_ (bi_ (nI n) N) x = x := gd_t (bi_t h hN)
theorem fu_ (m : Nat) (h : m ≤ 4999) : ∃ k, FU_ = k + m + 1 := ⟨4999 - m, by unfold FU_; omega⟩
theorem ref_C {f : Nat} (hf : f < 6) (h : hh_) : ff_X6_refuse (nI f) h = some (-3, cre_ f h) := by
  unfold ff_X6_refuse
  rw [gd_n hf (by decide), nI_clamp (by omega), sI_ne (by decide)]
  rfl
theorem ref_M {f : Nat} (hf : f < 6) (h : hh_) : ff_X8_meet (nI f) h = some (-3, mre_ f h) := by
  unfold ff_X8_meet
  rw [gd_n hf (by decide), nI_clamp (by omega), sI_ne (by decide)]
  rfl
theorem cre_I {f k j : Nat} {h : hh_} (h1 : k ≠ 36) (h2 : k ≠ 37) : (cre_ f h).1 k j = h.1 k j := by unfold cre_; rw [sI_ne h2, sI_ne h1]
theorem cre_2 {f : Nat} {h : hh_} : (cre_ f h).2 = h.2 := rfl
theorem mre_I {f k j : Nat} {h : hh_} (h1 : k ≠ 98) (h2 : k ≠ 99) : (mre_ f h).1 k j = h.1 k j := by unfold mre_; rw [sI_ne h2, sI_ne h1]
theorem mre_98 {f j : Nat} {h : hh_} (h1 : j ≠ 0) : (mre_ f h).1 98 j = h.1 98 j := by unfold mre_; rw [sI_ne (by decide), sI_nj h1]
theorem cre_37 {f g : Nat} {h : hh_} : (cre_ f h).1 37 g = if g = f then h.1 37 f + 1 else h.1 37 g := by unfold cre_; rw [sI_if, sI_ne (by decide)]
theorem mre_99 {f g : Nat} {h : hh_} : (mre_ f h).1 99 g = if g = f then h.1 99 f + 1 else h.1 99 g := by unfold mre_; rw [sI_if, sI_ne (by decide)]
theorem fO_out {h : hh_} (H : iO_ h) {k j : Nat} (q : fO_ h k j) : k ≠ 36 ∧ k ≠ 37 ∧ k ≠ 99 ∧ k ≠ 38 ∧ ¬ (k < 39) ∧ (k = 98 → j = 10 ∨ j = 11 ∨ j = 12 ∨ j = 21) := by
  have := H.nw
  unfold fO_ at q
  omega
theorem inv_ref {h : hh_} (H : inv_ h) {f : Nat} (hf : f < 6) : inv_ (mre_ f (cre_ f h)) := by
  obtain ⟨hT, hR, hX, hO⟩ := H
  refine ⟨?_, hR.fr (fun k j q => ?_), hX.fr (fun k j q => ?_), iO_.fr (h := h) ⟨rfl, rfl⟩ (fun k j q => ?_) hO⟩
  · obtain ⟨a, b, c, d, e⟩ := hT
    refine ⟨?_, ?_, c, d, fun g hg => ?_⟩
    · unfold mre_ cre_
      rw [sI_ne (by decide), sI_ne (by decide), sI_ne (by decide), sI_eq, sI_ne (by decide), sI_eq]
    · unfold mre_ cre_
      rw [sI_ne (by decide), sI_ne (by decide), sI_ne (by decide), sI_nj (by decide), sI_ne (by decide), sI_nj (by decide), sI_ne (by decide), sI_ne (by decide)]
      exact b
    · rw [mre_I (by decide) (by decide), mre_99, cre_37, cre_I (by decide) (by decide), cre_I (by decide) (by decide)]
      by_cases eg : g = f
      · subst eg
        rw [if_pos rfl, if_pos rfl, e g hg]
      · rw [if_neg eg, if_neg eg]
        exact e g hg
  · rw [mre_I (by omega) (by omega), cre_I (by omega) (by omega)]
  · rw [mre_I (by omega) (by omega), cre_I (by omega) (by omega)]
  · have w := fO_out hO q
    unfold mre_
    rw [sI_ne (by omega)]
    by_cases e98 : k = 98
    · rw [sI_nj (by omega), cre_I (by omega) (by omega)]
    · rw [sI_ne e98, cre_I (by omega) (by omega)]
def cte_ (v : Int32) (h : hh_) : hh_ := hh_sI h 36 2 v
def mte_ (v : Int32) (h : hh_) : hh_ := hh_sI h 98 2 v
theorem inv_tell {h : hh_} (H : inv_ h) (v : Int32) : inv_ (mte_ v (cte_ v h)) := by
  obtain ⟨hT, hR, hX, hO⟩ := H
  refine ⟨?_, hR.fr (fun k j q => ?_), hX.fr (fun k j q => ?_), iO_.fr (h := h) ⟨rfl, rfl⟩ (fun k j q => ?_) hO⟩
  · obtain ⟨a, b, c, d, e⟩ := hT
    unfold mte_ cte_
    refine ⟨?_, ?_, c, d, fun g hg => ?_⟩
    · rw [sI_ne (by decide), sI_nj (by decide), sI_nj (by decide), sI_ne (by decide)]; exact a
    · rw [sI_ne (by decide), sI_eq, sI_eq]
    · rw [sI_ne (by decide), sI_ne (by decide), sI_ne (by decide), sI_ne (by decide)]; exact e g hg
  · unfold mte_ cte_; rw [sI_ne (by omega), sI_ne (by omega)]
  · unfold mte_ cte_; rw [sI_ne (by omega), sI_ne (by omega)]
  · have w := fO_out hO q
    unfold mte_ cte_
    by_cases e98 : k = 98
    · rw [sI_nj (by omega), sI_ne (by omega)]
    · rw [sI_ne e98, sI_ne (by omega)]
end
section
/-! ===== numbers in and out of range ===== -/
theorem ti_0 : (0 : Int32).toInt = 0 := rfl
theorem nI_lit (n : Nat) (x : Int32) (h : x = nI n) : x = nI n := h
theorem in_t {j lo hi : Nat} (h1 : lo ≤ j) (h2 : j ≤ hi) (h3 : hi < 2 ^ 31) : ff_X8_in (nI j) (nI lo) (nI hi) = 1 := by
  unfold ff_X8_in
  rw [if_neg (by rw [nI_ltI (by omega) (by omega)]; omega), if_neg (by rw [nI_ltI (by omega) (by omega)]; omega)]
theorem in_f {a : Int32} {lo hi : Nat} (h : a < nI lo ∨ nI hi < a) : ff_X8_in a (nI lo) (nI hi) = 0 := by
  unfold ff_X8_in
  rcases h with h | h
  · rw [if_pos h]
  · by_cases e : a < nI lo
    · rw [if_pos e]
    · rw [if_neg e, if_pos h]
theorem ix_cases (a : Int32) {N : Nat} (hN : N < 2 ^ 31) (h0 : 0 < N) : (∃ j, j < N ∧ a = nI j ∧ ¬ a < 0 ∧ ¬ nI N ≤ a ∧ ff_X8_in a (nI 0) (nI (N - 1)) = 1) ∨ ((a < 0 ∨ (¬ a < 0 ∧ nI N ≤ a)) ∧ ff_X8_in a (nI 0) (nI (N - 1)) = 0) := by
  rcases pk_ix a hN with h | h | ⟨j, hj, rfl⟩
  · exact Or.inr ⟨Or.inl h, in_f (Or.inl h)⟩
  · refine Or.inr ⟨?_, in_f (Or.inr ?_)⟩
    · by_cases e : a < 0
      · exact Or.inl e
      · exact Or.inr ⟨e, h⟩
    · rw [Int32.le_iff_toInt_le, nI_toInt (by omega)] at h
      rw [Int32.lt_iff_toInt_lt, nI_toInt (by omega)]
      omega
  · refine Or.inl ⟨j, hj, rfl, nI_pos (by omega), ?_, in_t (Nat.zero_le _) (by omega) (by omega)⟩
    rw [nI_leI (by omega) (by omega)]; omega
theorem al_r (a : Int32) (h : hh_) : (∃ j, j < 6 ∧ a = nI j ∧ ff_X5r_allows a h = 1 ∧ ff_X8_isRow a = 1) ∨ (ff_X5r_allows a h = 0 ∧ ff_X8_isRow a = 0) := by
  unfold ff_X5r_allows ff_X8_isRow
  rcases ix_cases a (N := 6) (by decide) (by decide) with ⟨j, hj, e, n1, n2, n3⟩ | ⟨n1, n3⟩
  · exact Or.inl ⟨j, hj, e, by rw [if_neg n1, if_neg (show ¬ (6 : Int32) ≤ a from n2)], n3⟩
  · refine Or.inr ⟨?_, n3⟩
    rcases n1 with n | ⟨n, n2⟩
    · rw [if_pos n]
    · rw [if_neg n, if_pos (show (6 : Int32) ≤ a from n2)]
theorem al_t (a : Int32) (h : hh_) : (∃ j, j < 4 ∧ a = nI j ∧ ff_X5t_allows a h = 1 ∧ ff_X8_isText a = 1) ∨ (ff_X5t_allows a h = 0 ∧ ff_X8_isText a = 0) := by
  unfold ff_X5t_allows ff_X8_isText
  rcases ix_cases a (N := 4) (by decide) (by decide) with ⟨j, hj, e, n1, n2, n3⟩ | ⟨n1, n3⟩
  · exact Or.inl ⟨j, hj, e, by rw [if_neg n1, if_neg (show ¬ (4 : Int32) ≤ a from n2)], n3⟩
  · refine Or.inr ⟨?_, n3⟩
    rcases n1 with n | ⟨n, n2⟩
    · rw [if_pos n]
    · rw [if_neg n, if_pos (show (4 : Int32) ≤ a from n2)]
theorem is_r {r : Nat} (hr : r < 6) : ff_X8_isRow (nI r) = 1 := in_t (lo := 0) (hi := 5) (Nat.zero_le _) (by omega) (by decide)
theorem is_t {r : Nat} (hr : r < 4) : ff_X8_isText (nI r) = 1 := in_t (lo := 0) (hi := 3) (Nat.zero_le _) (by omega) (by decide)
theorem n10 : ¬ (1 : Int32) = 0 := by decide
theorem m9_neg : ¬ (0 : Int32) ≤ -9 := by decide
theorem m1_neg : ¬ (0 : Int32) ≤ -1 := by decide
theorem m3_neg : ¬ (0 : Int32) ≤ -3 := by decide
theorem nI_m1 {n : Nat} (h : n < 2 ^ 31) : ¬ nI n = -1 := by
  intro e
  have := congrArg Int32.toInt e
  rw [nI_toInt h] at this
  have h2 : (-1 : Int32).toInt = -1 := by decide
  omega
/-! ===== rows: lacking, or of a size ===== -/
theorem lk_r {h : hh_} {r : Nat} (hr : r < 6) (H : rw_ h 10 4 100 101 40 r) : (ff_X5r_lacks (nI r) h = some 1 ∧ h.1 100 r = -9) ∨ ∃ n, n ≤ 40 ∧ ff_X5r_lacks (nI r) h = some 0 ∧ h.1 10 r = nI n ∧ h.1 100 r = nI n ∧ ∀ i, i < n → h.1 (4 + r) i = h.1 101 (40 * r + i) := by
  unfold ff_X5r_lacks
  rw [gd_n hr (by decide), nI_clamp (by omega)]
  rcases H with ⟨a, b⟩ | ⟨n, hn, a, b, c⟩
  · exact Or.inl ⟨by rw [a, if_pos rfl], b⟩
  · exact Or.inr ⟨n, hn, by rw [a, if_neg (nI_m1 (by omega))], a, b, c⟩
theorem lk_t {h : hh_} {r : Nat} (hr : r < 4) (H : rw_ h 17 13 103 104 80 r) : (ff_X5t_lacks (nI r) h = some 1 ∧ h.1 103 r = -9) ∨ ∃ n, n ≤ 80 ∧ ff_X5t_lacks (nI r) h = some 0 ∧ h.1 17 r = nI n ∧ h.1 103 r = nI n ∧ ∀ i, i < n → h.1 (13 + r) i = h.1 104 (80 * r + i) := by
  unfold ff_X5t_lacks
  rw [gd_n hr (by decide), nI_clamp (by omega)]
  rcases H with ⟨a, b⟩ | ⟨n, hn, a, b, c⟩
  · exact Or.inl ⟨by rw [a, if_pos rfl], b⟩
  · exact Or.inr ⟨n, hn, by rw [a, if_neg (nI_m1 (by omega))], a, b, c⟩
theorem ar_n {h : hh_} {r : Nat} (hr : r < 6) (e : h.1 100 r = -9) : ff_X8_askedRow (nI r) h = some (-3, mre_ 1 h) := by
  unfold ff_X8_askedRow
  have e1 := is_r hr
  rw [e1, if_neg n10, gd_n hr (by decide), nI_clamp (by omega), e, if_neg m9_neg, show (1 : Int32) = nI 1 from rfl, ref_M (by decide)]
  rfl
theorem ar_s {h : hh_} {r n : Nat} (hr : r < 6) (hn : n < 2 ^ 31) (e : h.1 100 r = nI n) : ff_X8_askedRow (nI r) h = some (0, h) := by
  unfold ff_X8_askedRow
  have e1 := is_r hr
  rw [e1, if_neg n10, gd_n hr (by decide), nI_clamp (by omega), e, if_pos (nI_pos' hn)]
theorem ar_b {a : Int32} {h : hh_} (e : ff_X8_isRow a = 0) : ff_X8_askedRow a h = some (-1, h) := by
  unfold ff_X8_askedRow
  rw [e, if_pos rfl]
theorem at_n {h : hh_} {r : Nat} (hr : r < 4) (e : h.1 103 r = -9) : ff_X8_askedText (nI r) h = some (-3, mre_ 1 h) := by
  unfold ff_X8_askedText
  have e1 := is_t hr
  rw [e1, if_neg n10, gd_n hr (by decide), nI_clamp (by omega), e, if_neg m9_neg, show (1 : Int32) = nI 1 from rfl, ref_M (by decide)]
  rfl
theorem at_s {h : hh_} {r n : Nat} (hr : r < 4) (hn : n < 2 ^ 31) (e : h.1 103 r = nI n) : ff_X8_askedText (nI r) h = some (0, h) := by
  unfold ff_X8_askedText
  have e1 := is_t hr
  rw [e1, if_neg n10, gd_n hr (by decide), nI_clamp (by omega), e, if_pos (nI_pos' hn)]
theorem at_b {a : Int32} {h : hh_} (e : ff_X8_isText a = 0) : ff_X8_askedText a h = some (-1, h) := by
  unfold ff_X8_askedText
  rw [e, if_pos rfl]
theorem ra_ {r i : Nat} (h : hh_) (hr : r < 6) (hi : i < 40) : ff_X8_rowAt (nI r) (nI i) h = some (h.1 101 (40 * r + i)) := by
  unfold ff_X8_rowAt
  rw [show (40 : Int32) = nI 40 from rfl, pk_mul, nI_add, gd_n (by omega) (by decide), nI_clamp (by omega)]
theorem sr_ {r i : Nat} {v : Int32} (h : hh_) (hr : r < 6) (hi : i < 40) : ff_X8_setRow (nI r) (nI i) v h = some (hh_sI h 101 (40 * r + i) v) := by
  unfold ff_X8_setRow
  rw [show (40 : Int32) = nI 40 from rfl, pk_mul, nI_add, gd_n (by omega) (by decide), nI_clamp (by omega)]
/-- a index against a size -/
theorem sz_cases (a : Int32) (n : Nat) (hn : n < 2 ^ 31) : (∃ i, i < n ∧ a = nI i ∧ ¬ a < 0 ∧ a < nI n ∧ ff_X8_in a 0 (nI n - 1) = 1) ∨ ((a < 0 ∨ (¬ a < 0 ∧ ¬ a < nI n)) ∧ ff_X8_in a 0 (nI n - 1) = 0) := by
  have e1 : (nI n - 1).toInt = (n : Int) - 1 := by
    rw [show (1 : Int32) = nI 1 from rfl]
    by_cases h : 1 ≤ n
    · rw [pk_sub h, nI_toInt (by omega)]; omega
    · have : n = 0 := by omega
      subst this
      decide
  have key : ff_X8_in a 0 (nI n - 1) = if 0 ≤ a.toInt ∧ a.toInt < n then 1 else 0 := by
    unfold ff_X8_in
    simp only [Int32.lt_iff_toInt_lt, ti_0, e1]
    by_cases h1 : a.toInt < 0
    · rw [if_pos h1, if_neg (by omega)]
    · rw [if_neg h1]
      by_cases h2 : (n : Int) - 1 < a.toInt
      · rw [if_pos h2, if_neg (by omega)]
      · rw [if_neg h2, if_pos (by omega)]
  rcases pk_ix a hn with h | h | ⟨j, hj, rfl⟩
  · refine Or.inr ⟨Or.inl h, ?_⟩
    rw [key, if_neg]
    rw [Int32.lt_iff_toInt_lt, ti_0] at h
    omega
  · rw [Int32.le_iff_toInt_le, nI_toInt hn] at h
    refine Or.inr ⟨Or.inr ⟨?_, ?_⟩, ?_⟩
    · rw [Int32.lt_iff_toInt_lt, ti_0]; omega
    · rw [Int32.lt_iff_toInt_lt, nI_toInt hn]; omega
    · rw [key, if_neg]; omega
  · refine Or.inl ⟨j, hj, rfl, nI_pos (by omega), nI_lt hj hn, ?_⟩
    rw [key, nI_toInt (by omega), if_pos]; omega
theorem fa_r {h : hh_} {r n : Nat} (a : Int32) (hr : r < 6) (hn : n ≤ 40) (e0 : ff_X5r_lacks (nI r) h = some 0) (e : h.1 10 r = nI n) : (∃ i, i < n ∧ a = nI i ∧ ff_X5r_findingAt (nI r) a h = some 0 ∧ ff_X8_in a 0 (nI n - 1) = 1) ∨ (ff_X5r_findingAt (nI r) a h = some (nI 2) ∧ ff_X8_in a 0 (nI n - 1) = 0) := by
  have key : ff_X5r_findingAt (nI r) a h = if a < 0 then some 2 else if a < nI n then some 0 else some 2 := by
    unfold ff_X5r_findingAt
    rw [e0, Option.bind_some, if_pos rfl, gd_n hr (by decide), nI_clamp (by omega), e]
  rw [key]
  rcases sz_cases a n (by omega) with ⟨i, hi, e2, n1, n2, n3⟩ | ⟨n1, n3⟩
  · exact Or.inl ⟨i, hi, e2, by rw [if_neg n1, if_pos n2], n3⟩
  · refine Or.inr ⟨?_, n3⟩
    rcases n1 with q | ⟨q, q2⟩
    · rw [if_pos q]; rfl
    · rw [if_neg q, if_neg q2]; rfl
theorem fa_t {h : hh_} {r n : Nat} (a : Int32) (hr : r < 4) (hn : n ≤ 80) (e0 : ff_X5t_lacks (nI r) h = some 0) (e : h.1 17 r = nI n) : (∃ i, i < n ∧ a = nI i ∧ ff_X5t_findingAt (nI r) a h = some 0 ∧ ff_X8_in a 0 (nI n - 1) = 1) ∨ (ff_X5t_findingAt (nI r) a h = some (nI 2) ∧ ff_X8_in a 0 (nI n - 1) = 0) := by
  have key : ff_X5t_findingAt (nI r) a h = if a < 0 then some 2 else if a < nI n then some 0 else some 2 := by
    unfold ff_X5t_findingAt
    rw [e0, Option.bind_some, if_pos rfl, gd_n hr (by decide), nI_clamp (by omega), e]
  rw [key]
  rcases sz_cases a n (by omega) with ⟨i, hi, e2, n1, n2, n3⟩ | ⟨n1, n3⟩
  · exact Or.inl ⟨i, hi, e2, by rw [if_neg n1, if_pos n2], n3⟩
  · refine Or.inr ⟨?_, n3⟩
    rcases n1 with q | ⟨q, q2⟩
    · rw [if_pos q]; rfl
    · rw [if_neg q, if_neg q2]; rfl
theorem fa_n {h : hh_} {a1 a : Int32} (e0 : ff_X5r_lacks a1 h = some 1) : ff_X5r_findingAt a1 a h = some (nI 1) := by
  unfold ff_X5r_findingAt
  rw [e0]
  rfl
theorem fat_n {h : hh_} {a1 a : Int32} (e0 : ff_X5t_lacks a1 h = some 1) : ff_X5t_findingAt a1 a h = some (nI 1) := by
  unfold ff_X5t_findingAt
  rw [e0]
  rfl
/-- refused by both alike -/
theorem in_bad {h : hh_} (H : inv_ h) {C : Option (Int32 × hh_)} {M : hh_ → Option (Int32 × hh_)} {v : Int32} (e1 : C = some (v, h)) (e2 : M h = some (v, h)) : ∃ (r : Int32) (h1 : hh_) (h2 : hh_), C = some (r, h1) ∧ M h1 = some (r, h2) ∧ inv_ h2 := ⟨v, h, h, e1, e2, H⟩
/-- 2: at -/
theorem at_C {r n i : Nat} {h : hh_} (hr : r < 6) (hi : i < n) (hn : n ≤ 40) (e0 : ff_X5r_findingAt (nI r) (nI i) h = some 0) : ff_X7_at (nI r) (nI i) h = some (1, cte_ (h.1 (4 + r) i) h) := by
  unfold ff_X7_at
  have e1 : ff_X5r_allows (nI r) h = 1 := by
    rcases al_r (nI r) h with ⟨j, hj, e, w, -⟩ | ⟨-, w⟩
    · exact w
    · rw [is_r hr] at w
      exact absurd w n10
  rw [e1, if_neg n10, e0, Option.bind_some, if_pos rfl, gd_n hr (by decide), gd_n (by omega) (by decide), nI_clamp (by omega), nI_clamp (by omega)]
  rfl
theorem at_M {r n i : Nat} {h : hh_} (hr : r < 6) (hi : i < n) (hn : n ≤ 40) (e : h.1 100 r = nI n) (e2 : ff_X8_in (nI i) 0 (nI n - 1) = 1) : ff_X8_at (nI r) (nI i) h = some (1, mte_ (h.1 101 (40 * r + i)) h) := by
  unfold ff_X8_at
  rw [ar_s hr (by omega) e, Option.bind_some]
  dsimp only
  rw [if_pos (show (0 : Int32) ≤ 0 by decide), gd_n hr (by decide), nI_clamp (by omega), e, e2, if_neg n10, ra_ h hr (by omega)]
  rfl
theorem al_1 {r : Nat} (h : hh_) (hr : r < 6) : ff_X5r_allows (nI r) h = 1 := by
  rcases al_r (nI r) h with ⟨j, hj, e, w, -⟩ | ⟨-, w⟩
  · exact w
  · rw [is_r hr] at w
    exact absurd w n10
theorem alt_1 {r : Nat} (h : hh_) (hr : r < 4) : ff_X5t_allows (nI r) h = 1 := by
  rcases al_t (nI r) h with ⟨j, hj, e, w, -⟩ | ⟨-, w⟩
  · exact w
  · rw [is_t hr] at w
    exact absurd w n10
theorem st_2 : sp_2 inv_ := by
  intro h a1 a2 H
  rcases al_r a1 h with ⟨r, hr, rfl, c1, m1⟩ | ⟨c1, m1⟩
  · rcases lk_r hr (H.2.1 r hr) with ⟨l0, l1⟩ | ⟨n, hn, l0, l1, l2, l3⟩
    · refine ⟨-3, cre_ 1 h, mre_ 1 (cre_ 1 h), ?_, ?_, inv_ref H (by decide)⟩
      · unfold ff_X7_at
        rw [c1, if_neg n10, fa_n l0, Option.bind_some, if_neg (show ¬ nI 1 = 0 by decide), ref_C (by decide)]
        rfl
      · unfold ff_X8_at
        rw [ar_n hr (by rw [cre_I (by decide) (by decide)]; exact l1)]
        rfl
    · rcases fa_r a2 hr hn l0 l1 with ⟨i, hi, rfl, f1, f2⟩ | ⟨f1, f2⟩
      · refine ⟨1, _, _, at_C hr hi hn f1, ?_, inv_tell H (h.1 (4 + r) i)⟩
        have e1 : (cte_ (h.1 (4 + r) i) h).1 101 (40 * r + i) = h.1 (4 + r) i := by
          unfold cte_
          rw [sI_ne (by decide)]
          exact (l3 i hi).symm
        rw [at_M hr hi hn (by unfold cte_; rw [sI_ne (by decide)]; exact l2) f2, e1]
      · refine ⟨-3, cre_ 2 h, mre_ 2 (cre_ 2 h), ?_, ?_, inv_ref H (by decide)⟩
        · unfold ff_X7_at
          rw [c1, if_neg n10, f1, Option.bind_some, if_neg (show ¬ nI 2 = 0 by decide), ref_C (by decide)]
          rfl
        · unfold ff_X8_at
          have e : (cre_ 2 h).1 100 r = nI n := by rw [cre_I (by decide) (by decide)]; exact l2
          rw [ar_s hr (by omega) e, Option.bind_some]
          dsimp only
          rw [if_pos (show (0 : Int32) ≤ 0 by decide), gd_n hr (by decide), nI_clamp (by omega), e, f2, if_pos rfl, show (2 : Int32) = nI 2 from rfl, ref_M (by decide)]
          rfl
  · exact in_bad H (M := ff_X8_at a1 a2) (v := -1) (by unfold ff_X7_at; rw [c1, if_pos rfl]) (by unfold ff_X8_at; rw [ar_b m1]; rfl)
end
section
/-! ===== row, lay, tear, text, put; what is told ===== -/
theorem sI_comm {h : hh_} {a i b j : Nat} {v w : Int32} (e : a ≠ b) : hh_sI (hh_sI h a i v) b j w = hh_sI (hh_sI h b j w) a i v := by
  refine hh_ext (fun k x => ?_) (fun _ _ => rfl) rfl
  by_cases k1 : k = b
  · subst k1
    rw [sI_if, sI_ne (Ne.symm e), sI_ne (Ne.symm e), sI_if]
  · rw [sI_ne k1]
    by_cases k2 : k = a
    · subst k2
      rw [sI_if, sI_if, sI_ne k1]
    · rw [sI_ne k2, sI_ne k2, sI_ne k1]
/-- places a .. n-1 of a cell are v -/
def fi_ (h : hh_) (k a n : Nat) (v : Int32) : hh_ := (fun c j => if c = k ∧ a ≤ j ∧ j < n then v else h.1 c j, h.2)
theorem fi_0 {h : hh_} {k n : Nat} {v : Int32} : fi_ h k n n v = h := by
  refine hh_ext (fun c j => ?_) (fun _ _ => rfl) rfl
  show (if c = k ∧ n ≤ j ∧ j < n then v else h.1 c j) = _
  rw [if_neg (by omega)]
theorem fi_s {h : hh_} {k a n : Nat} {v : Int32} (ha : a < n) : fi_ (hh_sI h k a v) k (a + 1) n v = fi_ h k a n v := by
  refine hh_ext (fun c j => ?_) (fun _ _ => rfl) rfl
  show (if c = k ∧ a + 1 ≤ j ∧ j < n then v else (hh_sI h k a v).1 c j) = (if c = k ∧ a ≤ j ∧ j < n then v else h.1 c j)
  by_cases e : c = k
  · subst e
    by_cases e2 : j = a
    · subst e2
      rw [if_neg (by omega), if_pos (by omega), sI_eq]
    · rw [sI_nj e2]
      by_cases e3 : a + 1 ≤ j ∧ j < n
      · rw [if_pos ⟨rfl, e3⟩, if_pos (by omega)]
      · rw [if_neg (fun q => e3 q.2), if_neg (by omega)]
  · rw [if_neg (fun q => e q.1), if_neg (fun q => e q.1), sI_ne e]
theorem fi_ne {h : hh_} {k a n c j : Nat} {v : Int32} (e : c ≠ k) : (fi_ h k a n v).1 c j = h.1 c j := by
  show (if c = k ∧ a ≤ j ∧ j < n then v else h.1 c j) = _
  rw [if_neg (fun q => e q.1)]
theorem fi_in {h : hh_} {k a n j : Nat} {v : Int32} (h1 : a ≤ j) (h2 : j < n) : (fi_ h k a n v).1 k j = v := by
  show (if k = k ∧ a ≤ j ∧ j < n then v else h.1 k j) = _
  rw [if_pos ⟨rfl, h1, h2⟩]
theorem fi_out {h : hh_} {k a n c j : Nat} {v : Int32} (h1 : j < a ∨ n ≤ j) : (fi_ h k a n v).1 c j = h.1 c j := by
  show (if c = k ∧ a ≤ j ∧ j < n then v else h.1 c j) = _
  rw [if_neg (by omega)]
theorem rn_loop {r n : Nat} {v : Int32} (hr : r < 6) (hn : n ≤ 40) : ∀ (d i m : Nat) (h : hh_), i + d = n → ff_X5r_renew_10 (nI r) (nI n) v (m + d + 1) (nI i) h = some (fi_ h (4 + r) i n v) := by
  intro d
  induction d with
  | zero =>
    intro i m h e
    have e : i = n := by omega
    subst e
    rw [ff_X5r_renew_10, if_pos (nI_le (Nat.le_refl _) (by omega)), fi_0]
  | succ d ih =>
    intro i m h e
    rw [show m + (d + 1) + 1 = (m + d + 1) + 1 by omega, ff_X5r_renew_10, if_neg (nI_ge (by omega) (by omega)), gd_n hr (by decide), gd_n (by omega) (by decide), nI_1, nI_clamp (by omega), nI_clamp (by omega), ih (i + 1) m _ (by omega), fi_s (by omega)]
theorem rn_C {r n : Nat} {v : Int32} {h : hh_} (hr : r < 6) (hn : n ≤ 40) : ff_X5r_renew (nI r) (nI n) v h = some (fi_ (hh_sI h 10 r (nI n)) (4 + r) 0 n v) := by
  unfold ff_X5r_renew
  obtain ⟨k, hk⟩ := fu_ n (by omega)
  rw [gd_n hr (by decide), nI_clamp (by omega), hk]
  exact rn_loop hr hn n 0 k _ (by omega)
theorem rnt_loop {r n : Nat} {v : Int32} (hr : r < 4) (hn : n ≤ 80) : ∀ (d i m : Nat) (h : hh_), i + d = n → ff_X5t_renew_10 (nI r) (nI n) v (m + d + 1) (nI i) h = some (fi_ h (13 + r) i n v) := by
  intro d
  induction d with
  | zero =>
    intro i m h e
    have e : i = n := by omega
    subst e
    rw [ff_X5t_renew_10, if_pos (nI_le (Nat.le_refl _) (by omega)), fi_0]
  | succ d ih =>
    intro i m h e
    rw [show m + (d + 1) + 1 = (m + d + 1) + 1 by omega, ff_X5t_renew_10, if_neg (nI_ge (by omega) (by omega)), gd_n hr (by decide), gd_n (by omega) (by decide), nI_1, nI_clamp (by omega), nI_clamp (by omega), ih (i + 1) m _ (by omega), fi_s (by omega)]
theorem rnt_C {r n : Nat} {v : Int32} {h : hh_} (hr : r < 4) (hn : n ≤ 80) : ff_X5t_renew (nI r) (nI n) v h = some (fi_ (hh_sI h 17 r (nI n)) (13 + r) 0 n v) := by
  unfold ff_X5t_renew
  obtain ⟨k, hk⟩ := fu_ n (by omega)
  rw [gd_n hr (by decide), nI_clamp (by omega), hk]
  exact rnt_loop hr hn n 0 k _ (by omega)
theorem mr_loop {r : Nat} {x2 : Int32} (hr : r < 6) : ∀ (d i m : Nat) (h : hh_), i + d = 40 → ff_X8_row_34 (nI r) x2 (m + d + 1) (nI i) h = some (x2, fi_ h 101 (40 * r + i) (40 * r + 40) 0) := by
  intro d
  induction d with
  | zero =>
    intro i m h e
    have e : i = 40 := by omega
    subst e
    rw [ff_X8_row_34, if_pos (show (40 : Int32) ≤ nI 40 by decide), fi_0]
  | succ d ih =>
    intro i m h e
    rw [show m + (d + 1) + 1 = (m + d + 1) + 1 by omega, ff_X8_row_34, if_neg (show ¬ (40 : Int32) ≤ nI i from nI_ge (b := 40) (by omega) (by omega)), sr_ h hr (by omega), Option.bind_some, nI_1, ih (i + 1) m _ (by omega), ← Nat.add_assoc, fi_s (by omega)]
theorem mr_M {r n : Nat} {h : hh_} (hr : r < 6) (hn : n ≤ 40) : ff_X8_row (nI r) (nI n) h = some (nI n, fi_ (hh_sI h 100 r (nI n)) 101 (40 * r) (40 * r + 40) 0) := by
  unfold ff_X8_row
  obtain ⟨k, hk⟩ := fu_ 40 (by omega)
  rw [is_r hr, if_neg n10, if_pos (show nI n ≤ 40 from nI_le (b := 40) hn (by decide)), if_pos (nI_pos' (by omega)), gd_n hr (by decide), nI_clamp (by omega), hk]
  exact mr_loop hr 40 0 k _ (by omega)
theorem mt_loop {r : Nat} {x2 : Int32} (hr : r < 4) : ∀ (d i m : Nat) (h : hh_), i + d = 80 → ff_X8_text_34 (nI r) x2 (m + d + 1) (nI i) h = some (x2, fi_ h 104 (80 * r + i) (80 * r + 80) 32) := by
  intro d
  induction d with
  | zero =>
    intro i m h e
    have e : i = 80 := by omega
    subst e
    rw [ff_X8_text_34, if_pos (show (80 : Int32) ≤ nI 80 by decide), fi_0]
  | succ d ih =>
    intro i m h e
    rw [show m + (d + 1) + 1 = (m + d + 1) + 1 by omega, ff_X8_text_34, if_neg (show ¬ (80 : Int32) ≤ nI i from nI_ge (b := 80) (by omega) (by omega)), show (80 : Int32) = nI 80 from rfl, pk_mul, nI_add, gd_n (by omega) (by decide), nI_clamp (by omega), nI_1, ih (i + 1) m _ (by omega), ← Nat.add_assoc, fi_s (by omega)]
theorem mt_M {r n : Nat} {h : hh_} (hr : r < 4) (hn : n ≤ 80) : ff_X8_text (nI r) (nI n) h = some (nI n, fi_ (hh_sI h 103 r (nI n)) 104 (80 * r) (80 * r + 80) 32) := by
  unfold ff_X8_text
  obtain ⟨k, hk⟩ := fu_ 80 (by omega)
  rw [is_t hr, if_neg n10, if_pos (show nI n ≤ 80 from nI_le (b := 80) hn (by decide)), if_pos (nI_pos' (by omega)), gd_n hr (by decide), nI_clamp (by omega), hk]
  exact mt_loop hr 80 0 k _ (by omega)
/-- only rows change -/
theorem inv_rows {h h' : hh_} (H : inv_ h) (e : ∀ k j, ¬ ((4 ≤ k ∧ k ≤ 10) ∨ k = 100 ∨ k = 101) → h'.1 k j = h.1 k j) (e2 : h'.2 = h.2) (hR : iR_ h') : inv_ h' := by
  obtain ⟨hT, -, hX, hO⟩ := H
  refine ⟨hT.fr (fun k j q => e _ _ (by omega)) (fun k j q => by rw [e2]), hR, hX.fr (fun k j q => e _ _ (by omega)), iO_.fr (h := h) (by rw [e2]; exact ⟨rfl, rfl⟩) (fun k j q => e _ _ ?_) hO⟩
  have w := fO_out hO q
  have w2 := hO.nw
  unfold fO_ at q
  omega
theorem inv_texts {h h' : hh_} (H : inv_ h) (e : ∀ k j, ¬ ((13 ≤ k ∧ k ≤ 17) ∨ k = 103 ∨ k = 104) → h'.1 k j = h.1 k j) (e2 : h'.2 = h.2) (hX : iX_ h') : inv_ h' := by
  obtain ⟨hT, hR, -, hO⟩ := H
  refine ⟨hT.fr (fun k j q => e _ _ (by omega)) (fun k j q => by rw [e2]), hR.fr (fun k j q => e _ _ (by omega)), hX, iO_.fr (h := h) (by rw [e2]; exact ⟨rfl, rfl⟩) (fun k j q => e _ _ ?_) hO⟩
  have w := fO_out hO q
  have w2 := hO.nw
  unfold fO_ at q
  omega
/-- a row made anew: in both -/
theorem iR_new {h h' : hh_} (H : iR_ h) {r n : Nat} (hr : r < 6) (hn : n ≤ 40) (c1 : h'.1 10 r = nI n) (c2 : h'.1 100 r = nI n) (c3 : ∀ i, i < n → h'.1 (4 + r) i = h'.1 101 (40 * r + i)) (o1 : ∀ s, s ≠ r → h'.1 10 s = h.1 10 s) (o2 : ∀ s, s ≠ r → h'.1 100 s = h.1 100 s) (o3 : ∀ s i, s < 6 → s ≠ r → h'.1 (4 + s) i = h.1 (4 + s) i) (o4 : ∀ j, j < 40 * r ∨ 40 * r + 40 ≤ j → h'.1 101 j = h.1 101 j) : iR_ h' := by
  intro s hs
  by_cases e : s = r
  · subst e
    exact Or.inr ⟨n, hn, c1, c2, c3⟩
  · rcases H s hs with ⟨a, b⟩ | ⟨m, hm, a, b, c⟩
    · exact Or.inl ⟨(o1 s e).trans a, (o2 s e).trans b⟩
    · exact Or.inr ⟨m, hm, (o1 s e).trans a, (o2 s e).trans b, fun i hi => by rw [o3 s i hs e, o4 _ (by omega)]; exact c i hi⟩
theorem iX_new {h h' : hh_} (H : iX_ h) {r n : Nat} (hr : r < 4) (hn : n ≤ 80) (c1 : h'.1 17 r = nI n) (c2 : h'.1 103 r = nI n) (c3 : ∀ i, i < n → h'.1 (13 + r) i = h'.1 104 (80 * r + i)) (o1 : ∀ s, s ≠ r → h'.1 17 s = h.1 17 s) (o2 : ∀ s, s ≠ r → h'.1 103 s = h.1 103 s) (o3 : ∀ s i, s < 4 → s ≠ r → h'.1 (13 + s) i = h.1 (13 + s) i) (o4 : ∀ j, j < 80 * r ∨ 80 * r + 80 ≤ j → h'.1 104 j = h.1 104 j) : iX_ h' := by
  intro s hs
  by_cases e : s = r
  · subst e
    exact Or.inr ⟨n, hn, c1, c2, c3⟩
  · rcases H s hs with ⟨a, b⟩ | ⟨m, hm, a, b, c⟩
    · exact Or.inl ⟨(o1 s e).trans a, (o2 s e).trans b⟩
    · exact Or.inr ⟨m, hm, (o1 s e).trans a, (o2 s e).trans b, fun i hi => by rw [o3 s i hs e, o4 _ (by omega)]; exact c i hi⟩
/-- a size: below 0, too large, or good -/
theorem sz3 (a : Int32) (N : Nat) (hN : N < 2 ^ 31 - 1) : (¬ a ≤ nI N) ∨ (a ≤ nI N ∧ ¬ 0 ≤ a) ∨ ∃ n, n ≤ N ∧ a = nI n ∧ a ≤ nI N ∧ 0 ≤ a := by
  rcases pk_ix a (n := N + 1) (by omega) with h | h | ⟨j, hj, rfl⟩
  · refine Or.inr (Or.inl ⟨?_, ?_⟩)
    · rw [Int32.le_iff_toInt_le, nI_toInt (by omega)]
      rw [Int32.lt_iff_toInt_lt, ti_0] at h
      omega
    · rw [Int32.le_iff_toInt_le, ti_0]
      rw [Int32.lt_iff_toInt_lt, ti_0] at h
      omega
  · refine Or.inl ?_
    rw [Int32.le_iff_toInt_le, nI_toInt (by omega)] at h
    rw [Int32.le_iff_toInt_le, nI_toInt (by omega)]
    omega
  · exact Or.inr (Or.inr ⟨j, by omega, rfl, nI_le (by omega) (by omega), nI_pos' (by omega)⟩)
/-- 0: row -/
theorem st_0 : sp_0 inv_ := by
  intro h a1 a2 H
  rcases al_r a1 h with ⟨r, hr, rfl, c1, m1⟩ | ⟨c1, m1⟩
  · rcases sz3 a2 40 (by decide) with s | ⟨s, s2⟩ | ⟨n, hn, rfl, s, s2⟩
    · exact in_bad H (M := ff_X8_row (nI r) a2) (v := -1) (by unfold ff_X7_row; rw [c1, if_neg n10, if_neg (show ¬ a2 ≤ 40 from s)]) (by unfold ff_X8_row; rw [m1, if_neg n10, if_neg (show ¬ a2 ≤ 40 from s)])
    · refine ⟨-3, cre_ 5 h, mre_ 5 (cre_ 5 h), ?_, ?_, inv_ref H (by decide)⟩
      · unfold ff_X7_row
        rw [c1, if_neg n10, if_pos (show a2 ≤ 40 from s), if_neg s2, show (5 : Int32) = nI 5 from rfl, ref_C (by decide)]
        rfl
      · unfold ff_X8_row
        rw [m1, if_neg n10, if_pos (show a2 ≤ 40 from s), if_neg s2, show (5 : Int32) = nI 5 from rfl, ref_M (by decide)]
        rfl
    · refine ⟨nI n, fi_ (hh_sI h 10 r (nI n)) (4 + r) 0 n 0, _, ?_, mr_M hr hn, ?_⟩
      · unfold ff_X7_row
        rw [c1, if_neg n10, if_pos (show nI n ≤ 40 from s), if_pos s2, rn_C hr hn]
        rfl
      · refine inv_rows H (fun k j q => ?_) rfl (iR_new H.2.1 hr hn ?_ ?_ (fun i hi => ?_) (fun s q => ?_) (fun s q => ?_) (fun s i q q2 => ?_) (fun j q => ?_))
        · rw [fi_ne (by omega), sI_ne (by omega), fi_ne (by omega), sI_ne (by omega)]
        · rw [fi_ne (by decide), sI_ne (by decide), fi_ne (by omega), sI_eq]
        · rw [fi_ne (by decide), sI_eq]
        · rw [fi_ne (by omega), sI_ne (by omega), fi_in (by omega) hi, fi_in (by omega) (by omega)]
        · rw [fi_ne (by decide), sI_ne (by decide), fi_ne (by omega), sI_nj q]
        · rw [fi_ne (by decide), sI_nj q, fi_ne (by omega), sI_ne (by decide)]
        · rw [fi_ne (by omega), sI_ne (by omega), fi_ne (by omega), sI_ne (by omega)]
        · rw [fi_out q, sI_ne (by decide), fi_ne (by omega), sI_ne (by decide)]
  · exact in_bad H (M := ff_X8_row a1 a2) (v := -1) (by unfold ff_X7_row; rw [c1, if_pos rfl]) (by unfold ff_X8_row; rw [m1, if_pos rfl])
/-- 6: text -/
theorem st_6 : sp_6 inv_ := by
  intro h a1 a2 H
  rcases al_t a1 h with ⟨r, hr, rfl, c1, m1⟩ | ⟨c1, m1⟩
  · rcases sz3 a2 80 (by decide) with s | ⟨s, s2⟩ | ⟨n, hn, rfl, s, s2⟩
    · exact in_bad H (M := ff_X8_text (nI r) a2) (v := -1) (by unfold ff_X7_text; rw [c1, if_neg n10, if_neg (show ¬ a2 ≤ 80 from s)]) (by unfold ff_X8_text; rw [m1, if_neg n10, if_neg (show ¬ a2 ≤ 80 from s)])
    · refine ⟨-3, cre_ 5 h, mre_ 5 (cre_ 5 h), ?_, ?_, inv_ref H (by decide)⟩
      · unfold ff_X7_text
        rw [c1, if_neg n10, if_pos (show a2 ≤ 80 from s), if_neg s2, show (5 : Int32) = nI 5 from rfl, ref_C (by decide)]
        rfl
      · unfold ff_X8_text
        rw [m1, if_neg n10, if_pos (show a2 ≤ 80 from s), if_neg s2, show (5 : Int32) = nI 5 from rfl, ref_M (by decide)]
        rfl
    · refine ⟨nI n, fi_ (hh_sI h 17 r (nI n)) (13 + r) 0 n 32, _, ?_, mt_M hr hn, ?_⟩
      · unfold ff_X7_text
        rw [c1, if_neg n10, if_pos (show nI n ≤ 80 from s), if_pos s2, rnt_C hr hn]
        rfl
      · refine inv_texts H (fun k j q => ?_) rfl (iX_new H.2.2.1 hr hn ?_ ?_ (fun i hi => ?_) (fun s q => ?_) (fun s q => ?_) (fun s i q q2 => ?_) (fun j q => ?_))
        · rw [fi_ne (by omega), sI_ne (by omega), fi_ne (by omega), sI_ne (by omega)]
        · rw [fi_ne (by decide), sI_ne (by decide), fi_ne (by omega), sI_eq]
        · rw [fi_ne (by decide), sI_eq]
        · rw [fi_ne (by omega), sI_ne (by omega), fi_in (by omega) hi, fi_in (by omega) (by omega)]
        · rw [fi_ne (by decide), sI_ne (by decide), fi_ne (by omega), sI_nj q]
        · rw [fi_ne (by decide), sI_nj q, fi_ne (by omega), sI_ne (by decide)]
        · rw [fi_ne (by omega), sI_ne (by omega), fi_ne (by omega), sI_ne (by omega)]
        · rw [fi_out q, sI_ne (by decide), fi_ne (by omega), sI_ne (by decide)]
  · exact in_bad H (M := ff_X8_text a1 a2) (v := -1) (by unfold ff_X7_text; rw [c1, if_pos rfl]) (by unfold ff_X8_text; rw [m1, if_pos rfl])
/-- 3: tear -/
theorem st_3 : sp_3 inv_ := by
  intro h a1 H
  rcases al_r a1 h with ⟨r, hr, rfl, c1, m1⟩ | ⟨c1, m1⟩
  · rcases lk_r hr (H.2.1 r hr) with ⟨l0, l1⟩ | ⟨n, hn, l0, l1, l2, l3⟩
    · refine ⟨-3, cre_ 1 h, mre_ 1 (cre_ 1 h), ?_, ?_, inv_ref H (by decide)⟩
      · unfold ff_X7_tear
        rw [c1, if_neg n10, l0, Option.bind_some, if_neg n10, show (1 : Int32) = nI 1 from rfl, ref_C (by decide)]
        rfl
      · unfold ff_X8_tear
        rw [ar_n hr (by rw [cre_I (by decide) (by decide)]; exact l1)]
        rfl
    · refine ⟨1, hh_sI h 10 r (-1), hh_sI (hh_sI h 10 r (-1)) 100 r (-9), ?_, ?_, ?_⟩
      · unfold ff_X7_tear
        rw [c1, if_neg n10, l0, Option.bind_some, if_pos rfl, gd_n hr (by decide), nI_clamp (by omega)]
      · unfold ff_X8_tear
        rw [ar_s hr (n := n) (by omega) (by rw [sI_ne (by decide)]; exact l2), Option.bind_some]
        dsimp only
        rw [if_pos (show (0 : Int32) ≤ 0 by decide), gd_n hr (by decide), nI_clamp (by omega)]
      · refine inv_rows H (fun k j q => ?_) rfl (fun s hs => ?_)
        · rw [sI_ne (by omega), sI_ne (by omega)]
        · by_cases e : s = r
          · subst e
            exact Or.inl ⟨by rw [sI_ne (by decide), sI_eq], by rw [sI_eq]⟩
          · exact (H.2.1 s hs).fr (by rw [sI_ne (by decide), sI_nj e]) (by rw [sI_nj e, sI_ne (by decide)]) (fun i => by rw [sI_ne (by omega), sI_ne (by omega)]) (fun i => by rw [sI_ne (by decide), sI_ne (by decide)])
  · exact in_bad H (M := ff_X8_tear a1) (v := -1) (by unfold ff_X7_tear; rw [c1, if_pos rfl]) (by unfold ff_X8_tear; rw [ar_b m1]; rfl)
/-- 1: lay -/
theorem st_1 : sp_1 inv_ := by
  intro h a1 a2 a3 H
  rcases al_r a1 h with ⟨r, hr, rfl, c1, m1⟩ | ⟨c1, m1⟩
  · rcases lk_r hr (H.2.1 r hr) with ⟨l0, l1⟩ | ⟨n, hn, l0, l1, l2, l3⟩
    · refine ⟨-3, cre_ 1 h, mre_ 1 (cre_ 1 h), ?_, ?_, inv_ref H (by decide)⟩
      · unfold ff_X7_lay
        rw [c1, if_neg n10, fa_n l0, Option.bind_some, if_neg (show ¬ nI 1 = 0 by decide), ref_C (by decide)]
        rfl
      · unfold ff_X8_lay ff_X8_at
        rw [ar_n hr (by rw [cre_I (by decide) (by decide)]; exact l1)]
        rfl
    · rcases fa_r a2 hr hn l0 l1 with ⟨i, hi, rfl, f1, f2⟩ | ⟨f1, f2⟩
      · refine ⟨1, cte_ (h.1 (4 + r) i) (hh_sI h (4 + r) i a3), hh_sI (mte_ (h.1 (4 + r) i) (cte_ (h.1 (4 + r) i) (hh_sI h (4 + r) i a3))) 101 (40 * r + i) a3, ?_, ?_, ?_⟩
        · unfold ff_X7_lay
          rw [c1, if_neg n10, f1, Option.bind_some, if_pos rfl, gd_n hr (by decide), gd_n (by omega) (by decide), nI_clamp (by omega), nI_clamp (by omega)]
          rfl
        · have e1 : (cte_ (h.1 (4 + r) i) (hh_sI h (4 + r) i a3)).1 101 (40 * r + i) = h.1 (4 + r) i := by
            unfold cte_
            rw [sI_ne (by decide), sI_ne (by omega)]
            exact (l3 i hi).symm
          unfold ff_X8_lay
          rw [at_M hr hi hn (by unfold cte_; rw [sI_ne (by decide), sI_ne (by omega)]; exact l2) f2, e1, Option.bind_some]
          dsimp only
          rw [if_pos (show (0 : Int32) ≤ 1 by decide), sr_ _ hr (by omega)]
          rfl
        · have H2 : inv_ (hh_sI (hh_sI h (4 + r) i a3) 101 (40 * r + i) a3) := by
            refine inv_rows H (fun k j q => ?_) rfl (iR_new H.2.1 hr hn ?_ ?_ (fun x hx => ?_) (fun s q => ?_) (fun s q => ?_) (fun s x q q2 => ?_) (fun j q => ?_))
            · rw [sI_ne (by omega), sI_ne (by omega)]
            · rw [sI_ne (by decide), sI_ne (by omega)]; exact l1
            · rw [sI_ne (by decide), sI_ne (by omega)]; exact l2
            · by_cases e : x = i
              · subst e
                rw [sI_ne (by omega), sI_eq, sI_eq]
              · rw [sI_ne (by omega), sI_nj e, sI_nj (by omega), sI_ne (by omega)]
                exact l3 x hx
            · rw [sI_ne (by decide), sI_ne (by omega)]
            · rw [sI_ne (by decide), sI_ne (by omega)]
            · rw [sI_ne (by omega), sI_ne (by omega)]
            · rw [sI_nj (by omega), sI_ne (by omega)]
          have e3 := inv_tell H2 (h.1 (4 + r) i)
          have e4 : mte_ (h.1 (4 + r) i) (cte_ (h.1 (4 + r) i) (hh_sI (hh_sI h (4 + r) i a3) 101 (40 * r + i) a3)) = hh_sI (mte_ (h.1 (4 + r) i) (cte_ (h.1 (4 + r) i) (hh_sI h (4 + r) i a3))) 101 (40 * r + i) a3 := by
            unfold mte_ cte_
            rw [sI_comm (a := 101) (b := 36) (by decide), sI_comm (a := 101) (b := 98) (by decide)]
          rw [← e4]
          exact e3
      · refine ⟨-3, cre_ 2 h, mre_ 2 (cre_ 2 h), ?_, ?_, inv_ref H (by decide)⟩
        · unfold ff_X7_lay
          rw [c1, if_neg n10, f1, Option.bind_some, if_neg (show ¬ nI 2 = 0 by decide), ref_C (by decide)]
          rfl
        · unfold ff_X8_lay ff_X8_at
          have e : (cre_ 2 h).1 100 r = nI n := by rw [cre_I (by decide) (by decide)]; exact l2
          rw [ar_s hr (by omega) e, Option.bind_some]
          dsimp only
          rw [if_pos (show (0 : Int32) ≤ 0 by decide), gd_n hr (by decide), nI_clamp (by omega), e, f2, if_pos rfl, show (2 : Int32) = nI 2 from rfl, ref_M (by decide)]
          rfl
  · exact in_bad H (M := ff_X8_lay a1 a2 a3) (v := -1) (by unfold ff_X7_lay; rw [c1, if_pos rfl]) (by unfold ff_X8_lay ff_X8_at; rw [ar_b m1]; rfl)
/-- 7: put -/
theorem st_7 : sp_7 inv_ := by
  intro h a1 a2 a3 H
  rcases al_t a1 h with ⟨r, hr, rfl, c1, m1⟩ | ⟨c1, m1⟩
  · rcases lk_t hr (H.2.2.1 r hr) with ⟨l0, l1⟩ | ⟨n, hn, l0, l1, l2, l3⟩
    · refine ⟨-3, cre_ 1 h, mre_ 1 (cre_ 1 h), ?_, ?_, inv_ref H (by decide)⟩
      · unfold ff_X7_put
        rw [c1, if_neg n10, fat_n l0, Option.bind_some, if_neg (show ¬ nI 1 = 0 by decide), ref_C (by decide)]
        rfl
      · unfold ff_X8_put
        rw [at_n hr (by rw [cre_I (by decide) (by decide)]; exact l1)]
        rfl
    · rcases fa_t a2 hr hn l0 l1 with ⟨i, hi, rfl, f1, f2⟩ | ⟨f1, f2⟩
      · refine ⟨h.1 (13 + r) i + 1000, hh_sI h (13 + r) i (Int8.toInt32 (Int32.toInt8 a3)), hh_sI (hh_sI h (13 + r) i (Int8.toInt32 (Int32.toInt8 a3))) 104 (80 * r + i) (Int8.toInt32 (Int32.toInt8 a3)), ?_, ?_, ?_⟩
        · unfold ff_X7_put
          rw [c1, if_neg n10, f1, Option.bind_some, if_pos rfl, gd_n hr (by decide), gd_n (by omega) (by decide), nI_clamp (by omega), nI_clamp (by omega)]
        · unfold ff_X8_put
          have e : (hh_sI h (13 + r) i (Int8.toInt32 (Int32.toInt8 a3))).1 103 r = nI n := by rw [sI_ne (by omega)]; exact l2
          rw [at_s hr (by omega) e, Option.bind_some]
          dsimp only
          rw [if_pos (show (0 : Int32) ≤ 0 by decide), gd_n hr (by decide), nI_clamp (by omega), e, f2, if_neg n10, show (80 : Int32) = nI 80 from rfl, pk_mul, nI_add, gd_n (by omega) (by decide), nI_clamp (by omega), sI_ne (by omega), l3 i hi]
        · refine inv_texts H (fun k j q => ?_) rfl (iX_new H.2.2.1 hr hn ?_ ?_ (fun x hx => ?_) (fun s q => ?_) (fun s q => ?_) (fun s x q q2 => ?_) (fun j q => ?_))
          · rw [sI_ne (by omega), sI_ne (by omega)]
          · rw [sI_ne (by decide), sI_ne (by omega)]; exact l1
          · rw [sI_ne (by decide), sI_ne (by omega)]; exact l2
          · by_cases e : x = i
            · subst e
              rw [sI_ne (by omega), sI_eq, sI_eq]
            · rw [sI_ne (by omega), sI_nj e, sI_nj (by omega), sI_ne (by omega)]
              exact l3 x hx
          · rw [sI_ne (by decide), sI_ne (by omega)]
          · rw [sI_ne (by decide), sI_ne (by omega)]
          · rw [sI_ne (by omega), sI_ne (by omega)]
          · rw [sI_nj (by omega), sI_ne (by omega)]
      · refine ⟨-3, cre_ 2 h, mre_ 2 (cre_ 2 h), ?_, ?_, inv_ref H (by decide)⟩
        · unfold ff_X7_put
          rw [c1, if_neg n10, f1, Option.bind_some, if_neg (show ¬ nI 2 = 0 by decide), ref_C (by decide)]
          rfl
        · unfold ff_X8_put
          have e : (cre_ 2 h).1 103 r = nI n := by rw [cre_I (by decide) (by decide)]; exact l2
          rw [at_s hr (by omega) e, Option.bind_some]
          dsimp only
          rw [if_pos (show (0 : Int32) ≤ 0 by decide), gd_n hr (by decide), nI_clamp (by omega), e, f2, if_pos rfl, show (2 : Int32) = nI 2 from rfl, ref_M (by decide)]
          rfl
  · exact in_bad H (M := ff_X8_put a1 a2 a3) (v := -1) (by unfold ff_X7_put; rw [c1, if_pos rfl]) (by unfold ff_X8_put; rw [at_b m1]; rfl)
/-- 41, 42, 43, 45, 46: what is told -/
theorem st_41 : sp_41 inv_ := fun h H => ⟨h.1 36 2, rfl, H.1.2.1.symm, H⟩
theorem st_42 : sp_42 inv_ := fun h H => ⟨h.2.1 36 3, rfl, H.1.2.2.1.symm, H⟩
theorem st_43 : sp_43 inv_ := fun h H => ⟨h.2.1 36 4, rfl, H.1.2.2.2.1.symm, H⟩
theorem st_45 : sp_45 inv_ := fun h H => ⟨h.1 36 1, rfl, H.1.1.symm, H⟩
end
section
/-! ===== answers; readings of an office ===== -/
theorem nl_0 : (0 : Int32) = nI 0 := rfl
theorem nl_1 : (1 : Int32) = nI 1 := rfl
theorem nl_2 : (2 : Int32) = nI 2 := rfl
theorem nl_3 : (3 : Int32) = nI 3 := rfl
theorem nl_4 : (4 : Int32) = nI 4 := rfl
theorem nl_5 : (5 : Int32) = nI 5 := rfl
theorem nl_6 : (6 : Int32) = nI 6 := rfl
theorem nl_7 : (7 : Int32) = nI 7 := rfl
theorem nl_8 : (8 : Int32) = nI 8 := rfl
theorem nl_9 : (9 : Int32) = nI 9 := rfl
theorem nl_10 : (10 : Int32) = nI 10 := rfl
theorem nl_12 : (12 : Int32) = nI 12 := rfl
theorem nl_16 : (16 : Int32) = nI 16 := rfl
theorem nl_25 : (25 : Int32) = nI 25 := rfl
theorem nl_30 : (30 : Int32) = nI 30 := rfl
theorem nl_31 : (31 : Int32) = nI 31 := rfl
theorem nl_40 : (40 : Int32) = nI 40 := rfl
theorem nl_80 : (80 : Int32) = nI 80 := rfl
theorem nl_100 : (100 : Int32) = nI 100 := rfl

theorem rfC {f : Nat} {h : hh_} (hf : f < 6) : ((ff_X6_refuse (nI f) h).bind fun v => some (v.1, v.2)) = some (-3, cre_ f h) := by rw [ref_C hf]; rfl
theorem rfM {f : Nat} {h : hh_} (hf : f < 6) : ((ff_X8_meet (nI f) h).bind fun v => some (v.1, v.2)) = some (-3, mre_ f h) := by rw [ref_M hf]; rfl
/-- an answer: 0 no change; 1 a number told; f + 2 a finding f -/
def anC_ : Nat → Int32 → Int32 → hh_ → Int32 × hh_
  | 0, r, _, h => (r, h)
  | 1, r, v, h => (r, cte_ v h)
  | f + 2, _, _, h => (-3, cre_ f h)
def anM_ : Nat → Int32 → Int32 → hh_ → Int32 × hh_
  | 0, r, _, h => (r, h)
  | 1, r, v, h => (r, mte_ v h)
  | f + 2, _, _, h => (-3, mre_ f h)
/-- what the class's answers leave -/
def sm_ (h h' : hh_) : Prop := ∀ c j, c ≠ 36 → c ≠ 37 → h'.1 c j = h.1 c j
theorem an_sm (k : Nat) (r v : Int32) (h : hh_) : sm_ h (anC_ k r v h).2 := by
  intro c j h1 h2
  match k with
  | 0 => rfl
  | 1 => exact sI_ne h1
  | f + 2 => exact cre_I h1 h2
theorem rd_ {h : hh_} (H : inv_ h) {C : Option (Int32 × hh_)} {M : hh_ → Option (Int32 × hh_)} (k : Nat) (r v : Int32) (hk : k < 8) (e1 : C = some (anC_ k r v h)) (e2 : ∀ h', sm_ h h' → M h' = some (anM_ k r v h')) : ∃ (r : Int32) (h1 : hh_) (h2 : hh_), C = some (r, h1) ∧ M h1 = some (r, h2) ∧ inv_ h2 := by
  have e3 := e2 _ (an_sm k r v h)
  match k, hk with
  | 0, _ => exact ⟨r, h, h, e1, e3, H⟩
  | 1, _ => exact ⟨r, _, _, e1, e3, inv_tell H v⟩
  | f + 2, hk => exact ⟨-3, _, _, e1, e3, inv_ref H (by omega)⟩
theorem sm_.oM {h h' : hh_} {D : od_} (S : sm_ h h') (M : oM_ h D) : oM_ h' D := M.fr (fun c j q => S _ _ (by omega) (by omega))
theorem sz_0 {a : Int32} {n : Nat} (x : Int32) (hn : n < 2 ^ 31) (e : x = nI n) (y : Int32) (e2 : y = nI n) : (∃ i, i < n ∧ a = nI i ∧ ¬ a < 0 ∧ ¬ x ≤ a ∧ ff_X8_in a 0 (y - 1) = 1) ∨ ((a < 0 ∨ (¬ a < 0 ∧ x ≤ a)) ∧ ff_X8_in a 0 (y - 1) = 0) := by
  subst e
  subst e2
  rcases sz_cases a n hn with ⟨i, hi, e, q1, q2, q3⟩ | ⟨q1, q2⟩
  · exact Or.inl ⟨i, hi, e, q1, by subst e; rw [nI_leI (by omega) (by omega)]; omega, q3⟩
  · refine Or.inr ⟨q1.imp_right fun q => ⟨q.1, ?_⟩, q2⟩
    have w := q.2
    rw [Int32.lt_iff_toInt_lt] at w
    rw [Int32.le_iff_toInt_le]
    omega
theorem hs_0 {o : Nat} {h h' : hh_} {D : od_} (a : Int32) (K : oK_ D) (C : oC_ o h D) (M : oM_ h' D) : (∃ i, i < d_m D ∧ a = nI i ∧ ff_X2_has o 0 a h = some 1 ∧ ff_X8_isHead a h' = 1) ∨ (ff_X2_has o 0 a h = some 0 ∧ ff_X8_isHead a h' = 0) := by
  have k1 := K.1
  unfold ff_X2_has ff_X8_isHead
  rw [show gd_ (bi_ (0 : Int32) 3) = fun x => x from rfl]
  rcases sz_0 (a := a) (h.1 (o + 23) 0) (n := d_m D) (by omega) C.1 (h'.1 98 10) M.1 with ⟨i, hi, e, q1, q2, q3⟩ | ⟨q1, q3⟩
  · refine Or.inl ⟨i, hi, e, ?_, q3⟩
    rw [if_neg q1]
    exact if_neg q2
  · refine Or.inr ⟨?_, q3⟩
    rcases q1 with q | ⟨q, q2⟩
    · rw [if_pos q]
    · rw [if_neg q]
      exact if_pos q2
theorem hs_1 {o : Nat} {h h' : hh_} {D : od_} (a : Int32) (K : oK_ D) (C : oC_ o h D) (M : oM_ h' D) : (∃ i, i < d_t D ∧ a = nI i ∧ ff_X2_has o 1 a h = some 1 ∧ ff_X8_isThumb a h' = 1) ∨ (ff_X2_has o 1 a h = some 0 ∧ ff_X8_isThumb a h' = 0) := by
  have k1 := K.2.1
  unfold ff_X2_has ff_X8_isThumb
  rw [show gd_ (bi_ (1 : Int32) 3) = fun x => x from rfl]
  rcases sz_0 (a := a) (h.1 (o + 23) 1) (n := d_t D) (by omega) C.2.1 (h'.1 98 11) M.2.1 with ⟨i, hi, e, q1, q2, q3⟩ | ⟨q1, q3⟩
  · refine Or.inl ⟨i, hi, e, ?_, q3⟩
    rw [if_neg q1]
    exact if_neg q2
  · refine Or.inr ⟨?_, q3⟩
    rcases q1 with q | ⟨q, q2⟩
    · rw [if_pos q]
    · rw [if_neg q]
      exact if_pos q2
theorem hs_2 {o : Nat} {h h' : hh_} {D : od_} (a : Int32) (K : oK_ D) (C : oC_ o h D) (M : oM_ h' D) : (∃ i, i < d_p D ∧ a = nI i ∧ ff_X2_has o 2 a h = some 1 ∧ ff_X8_isPost a h' = 1) ∨ (ff_X2_has o 2 a h = some 0 ∧ ff_X8_isPost a h' = 0) := by
  have k1 := K.2.2.1
  unfold ff_X2_has ff_X8_isPost
  rw [show gd_ (bi_ (2 : Int32) 3) = fun x => x from rfl]
  rcases sz_0 (a := a) (h.1 (o + 23) 2) (n := d_p D) (by omega) C.2.2.1 (h'.1 98 12) M.2.2.1 with ⟨i, hi, e, q1, q2, q3⟩ | ⟨q1, q3⟩
  · refine Or.inl ⟨i, hi, e, ?_, q3⟩
    rw [if_neg q1]
    exact if_neg q2
  · refine Or.inr ⟨?_, q3⟩
    rcases q1 with q | ⟨q, q2⟩
    · rw [if_pos q]
    · rw [if_neg q]
      exact if_pos q2
/-- a number between 0 and N -/
theorem rg_ (a : Int32) (N : Nat) (hN : N < 2 ^ 31 - 1) : (∃ j, j ≤ N ∧ a = nI j ∧ ¬ a < 0 ∧ a ≤ nI N ∧ ff_X8_in a 0 (nI N) = 1) ∨ ((a < 0 ∨ (¬ a < 0 ∧ ¬ a ≤ nI N)) ∧ ff_X8_in a 0 (nI N) = 0) := by
  rcases ix_cases a (N := N + 1) (by omega) (by omega) with ⟨j, hj, e, q1, q2, q3⟩ | ⟨q1, q3⟩
  · exact Or.inl ⟨j, by omega, e, q1, by subst e; exact nI_le (by omega) (by omega), q3⟩
  · refine Or.inr ⟨q1.imp_right fun q => ⟨q.1, ?_⟩, q3⟩
    have w := q.2
    rw [Int32.le_iff_toInt_le, nI_toInt (by omega)] at w
    rw [Int32.le_iff_toInt_le, nI_toInt (by omega)]
    omega
/-- the BUMPS of a HEAD together -/
def bt_ (D : od_) (i : Nat) : Nat := d_H D i 0 + d_H D i 1 + d_H D i 2 + d_H D i 3
theorem tg_C {o i : Nat} {h : hh_} {D : od_} (K : oK_ D) (C : oC_ o h D) (hi : i < d_m D) : ff_X2_together o (nI i) h = some (nI (bt_ D i)) := by
  have k1 := K.1
  have c := C.2.2.2.1 i hi
  unfold ff_X2_together
  obtain ⟨k, hk⟩ := fu_ 4 (by decide)
  rw [hk]
  rw [ff_X2_together_4]
  simp (disch := omega) only [nl_0, nl_1, nl_2, nl_3, nl_4, nl_5, nl_6, nl_7, nl_8, nl_9, nl_10, nl_12, nl_16, nl_25, nl_30, nl_31, nl_40, nl_80, nl_100, nI_add, pk_mul, nI_leI, nI_ltI, nI_eq, nI_clamp, gd_n, Option.bind_some, if_pos, if_neg, c]
  rw [ff_X2_together_4]
  simp (disch := omega) only [nl_0, nl_1, nl_2, nl_3, nl_4, nl_5, nl_6, nl_7, nl_8, nl_9, nl_10, nl_12, nl_16, nl_25, nl_30, nl_31, nl_40, nl_80, nl_100, nI_add, pk_mul, nI_leI, nI_ltI, nI_eq, nI_clamp, gd_n, Option.bind_some, if_pos, if_neg, c]
  rw [ff_X2_together_4]
  simp (disch := omega) only [nl_0, nl_1, nl_2, nl_3, nl_4, nl_5, nl_6, nl_7, nl_8, nl_9, nl_10, nl_12, nl_16, nl_25, nl_30, nl_31, nl_40, nl_80, nl_100, nI_add, pk_mul, nI_leI, nI_ltI, nI_eq, nI_clamp, gd_n, Option.bind_some, if_pos, if_neg, c]
  rw [ff_X2_together_4]
  simp (disch := omega) only [nl_0, nl_1, nl_2, nl_3, nl_4, nl_5, nl_6, nl_7, nl_8, nl_9, nl_10, nl_12, nl_16, nl_25, nl_30, nl_31, nl_40, nl_80, nl_100, nI_add, pk_mul, nI_leI, nI_ltI, nI_eq, nI_clamp, gd_n, Option.bind_some, if_pos, if_neg, c]
  rw [ff_X2_together_4]
  simp (disch := omega) only [nl_0, nl_1, nl_2, nl_3, nl_4, nl_5, nl_6, nl_7, nl_8, nl_9, nl_10, nl_12, nl_16, nl_25, nl_30, nl_31, nl_40, nl_80, nl_100, nI_add, pk_mul, nI_leI, nI_ltI, nI_eq, nI_clamp, gd_n, Option.bind_some, if_pos, if_neg, c]
  unfold bt_
  rw [Nat.zero_add]
theorem oh_C {o i j : Nat} {h : hh_} {D : od_} (K : oK_ D) (C : oC_ o h D) (hi : i < d_m D) (hj : j ≤ 5) : ff_X2_ofHead o (nI i) (nI j) h = some (nI (if j = 5 then bt_ D i else d_H D i j)) := by
  have k1 := K.1
  have c := C.2.2.2.1 i hi
  unfold ff_X2_ofHead
  by_cases e : j = 5
  · subst e
    rw [if_pos (show nI 5 = 5 from rfl), tg_C K C hi, if_pos rfl]
    rfl
  · rw [if_neg e]
    simp (disch := omega) only [nl_0, nl_1, nl_2, nl_3, nl_4, nl_5, nl_6, nl_7, nl_8, nl_9, nl_10, nl_12, nl_16, nl_25, nl_30, nl_31, nl_40, nl_80, nl_100, nI_add, pk_mul, nI_leI, nI_ltI, nI_eq, nI_clamp, gd_n, Option.bind_some, if_pos, if_neg, c]
theorem bu_M {i j : Nat} {h : hh_} {D : od_} (K : oK_ D) (M : oM_ h D) (hi : i < d_m D) (hj : j < 5) : ff_X8_bump (nI i) (nI j) h = some (nI (d_H D i j)) := by
  have k1 := K.1
  have c := M.2.2.2.1 i hi
  unfold ff_X8_bump
  simp (disch := omega) only [nl_0, nl_1, nl_2, nl_3, nl_4, nl_5, nl_6, nl_7, nl_8, nl_9, nl_10, nl_12, nl_16, nl_25, nl_30, nl_31, nl_40, nl_80, nl_100, nI_add, pk_mul, nI_leI, nI_ltI, nI_eq, nI_clamp, gd_n, Option.bind_some, if_pos, if_neg, c]
theorem bs_M {i : Nat} {h : hh_} {D : od_} (K : oK_ D) (M : oM_ h D) (hi : i < d_m D) : ff_X8_bumps (nI i) h = some (nI (bt_ D i)) := by
  unfold ff_X8_bumps
  simp (disch := omega) only [nl_0, nl_1, nl_2, nl_3, nl_4, nl_5, nl_6, nl_7, nl_8, nl_9, nl_10, nl_12, nl_16, nl_25, nl_30, nl_31, nl_40, nl_80, nl_100, nI_add, pk_mul, nI_leI, nI_ltI, nI_eq, nI_clamp, gd_n, Option.bind_some, if_pos, if_neg, bu_M K M hi]
  rfl
theorem oh_M {i j : Nat} {h : hh_} {D : od_} (K : oK_ D) (M : oM_ h D) (hi : i < d_m D) (hj : j ≤ 5) : ff_X8_headOf (nI i) (nI j) h = some (nI (if j = 5 then bt_ D i else d_H D i j)) := by
  have k1 := K.1
  have c := M.2.2.2.1 i hi
  unfold ff_X8_headOf
  by_cases e : j = 5
  · subst e
    rw [if_pos (by decide), bs_M K M hi, if_pos rfl]
    rfl
  · rw [if_neg e]
    simp (disch := omega) only [nl_0, nl_1, nl_2, nl_3, nl_4, nl_5, nl_6, nl_7, nl_8, nl_9, nl_10, nl_12, nl_16, nl_25, nl_30, nl_31, nl_40, nl_80, nl_100, nI_add, pk_mul, nI_leI, nI_ltI, nI_eq, nI_clamp, gd_n, Option.bind_some, if_pos, if_neg, c]
/-- 10: head -/
theorem st_10 : sp_10 inv_ := by
  intro h a1 a2 H
  obtain ⟨hn, D, F, ds, n, K, C, M, -⟩ := H.2.2.2
  rcases hs_0 a1 K C M with ⟨i, hi, rfl, c1, m1⟩ | ⟨c1, m1⟩
  · rcases rg_ a2 5 (by decide) with ⟨j, hj, rfl, q1, q2, q3⟩ | ⟨q1, q3⟩
    · refine rd_ H 1 1 (nI (if j = 5 then bt_ D i else d_H D i j)) (by decide) ?_ (fun h' S => ?_)
      · unfold ff_X7_head
        rw [gd_t H.2.2.2.nwB, c1, Option.bind_some, if_neg n10, if_neg q1, if_pos (show nI j ≤ 5 from q2), oh_C K C hi hj, Option.bind_some]
        rfl
      · have M' := S.oM M
        have m2 : ff_X8_isHead (nI i) h' = 1 := by unfold ff_X8_isHead at m1 ⊢; rw [M'.1]; rw [M.1] at m1; exact m1
        unfold ff_X8_head
        rw [m2, if_neg n10, show (5 : Int32) = nI 5 from rfl, q3, if_neg n10, oh_M K M' hi hj, Option.bind_some]
        rfl
    · refine rd_ H 0 (-1) 0 (by decide) ?_ (fun h' S => ?_)
      · unfold ff_X7_head
        rw [gd_t H.2.2.2.nwB, c1, Option.bind_some, if_neg n10]
        rcases q1 with q | ⟨q, q2⟩
        · rw [if_pos q]; rfl
        · rw [if_neg q, if_neg (show ¬ a2 ≤ 5 from q2)]; rfl
      · unfold ff_X8_head
        by_cases e : ff_X8_isHead (nI i) h' = 0
        · rw [if_pos e]; rfl
        · rw [if_neg e, show (5 : Int32) = nI 5 from rfl, q3, if_pos rfl]; rfl
  · refine rd_ H 0 (-1) 0 (by decide) ?_ (fun h' S => ?_)
    · unfold ff_X7_head
      rw [gd_t H.2.2.2.nwB, c1, Option.bind_some, if_pos rfl]; rfl
    · have m2 : ff_X8_isHead a1 h' = 0 := by unfold ff_X8_isHead at m1 ⊢; rw [(S.oM M).1]; rw [M.1] at m1; exact m1
      unfold ff_X8_head
      rw [m2, if_pos rfl]; rfl
/-- 11: thumb -/
theorem st_11 : sp_11 inv_ := by
  intro h a1 a2 H
  obtain ⟨hn, D, F, ds, n, K, C, M, -⟩ := H.2.2.2
  have k2 := K.2.1
  rcases hs_1 a1 K C M with ⟨i, hi, rfl, c1, m1⟩ | ⟨c1, m1⟩
  · rcases rg_ a2 2 (by decide) with ⟨j, hj, rfl, q1, q2, q3⟩ | ⟨q1, q3⟩
    · refine rd_ H 1 1 (nI (d_T D i j)) (by decide) ?_ (fun h' S => ?_)
      · unfold ff_X7_thumb
        rw [gd_t H.2.2.2.nwB, c1, Option.bind_some, if_neg n10, if_neg q1, if_pos (show nI j ≤ 2 from q2), gd_n (by omega) (by decide), gd_n (by omega) (by decide), nI_clamp (by omega), nI_clamp (by omega), C.2.2.2.2.1 i hi j (by omega)]
        rfl
      · have M' := S.oM M
        have m2 : ff_X8_isThumb (nI i) h' = 1 := by unfold ff_X8_isThumb at m1 ⊢; rw [M'.2.1]; rw [M.2.1] at m1; exact m1
        unfold ff_X8_thumb
        rw [m2, if_neg n10, show (2 : Int32) = nI 2 from rfl, q3, if_neg n10, show (3 : Int32) = nI 3 from rfl, pk_mul, nI_add, gd_n (by omega) (by decide), nI_clamp (by omega), M'.2.2.2.2.1 i hi j (by omega)]
        rfl
    · refine rd_ H 0 (-1) 0 (by decide) ?_ (fun h' S => ?_)
      · unfold ff_X7_thumb
        rw [gd_t H.2.2.2.nwB, c1, Option.bind_some, if_neg n10]
        rcases q1 with q | ⟨q, q2⟩
        · rw [if_pos q]; rfl
        · rw [if_neg q, if_neg (show ¬ a2 ≤ 2 from q2)]; rfl
      · unfold ff_X8_thumb
        by_cases e : ff_X8_isThumb (nI i) h' = 0
        · rw [if_pos e]; rfl
        · rw [if_neg e, show (2 : Int32) = nI 2 from rfl, q3, if_pos rfl]; rfl
  · refine rd_ H 0 (-1) 0 (by decide) ?_ (fun h' S => ?_)
    · unfold ff_X7_thumb
      rw [gd_t H.2.2.2.nwB, c1, Option.bind_some, if_pos rfl]; rfl
    · have m2 : ff_X8_isThumb a1 h' = 0 := by unfold ff_X8_isThumb at m1 ⊢; rw [(S.oM M).2.1]; rw [M.2.1] at m1; exact m1
      unfold ff_X8_thumb
      rw [m2, if_pos rfl]; rfl
/-- 12: post -/
theorem st_12 : sp_12 inv_ := by
  intro h a1 a2 H
  obtain ⟨hn, D, F, ds, n, K, C, M, -⟩ := H.2.2.2
  have k2 := K.2.2.1
  rcases hs_2 a1 K C M with ⟨i, hi, rfl, c1, m1⟩ | ⟨c1, m1⟩
  · rcases rg_ a2 4 (by decide) with ⟨j, hj, rfl, q1, q2, q3⟩ | ⟨q1, q3⟩
    · refine rd_ H 1 1 (nI (d_P D i j)) (by decide) ?_ (fun h' S => ?_)
      · unfold ff_X7_post
        rw [gd_t H.2.2.2.nwB, c1, Option.bind_some, if_neg n10, if_neg q1, if_pos (show nI j ≤ 4 from q2), gd_n (by omega) (by decide), gd_n (by omega) (by decide), nI_clamp (by omega), nI_clamp (by omega), C.2.2.2.2.2 i hi j (by omega)]
        rfl
      · have M' := S.oM M
        have m2 : ff_X8_isPost (nI i) h' = 1 := by unfold ff_X8_isPost at m1 ⊢; rw [M'.2.2.1]; rw [M.2.2.1] at m1; exact m1
        unfold ff_X8_post
        rw [m2, if_neg n10, show (4 : Int32) = nI 4 from rfl, q3, if_neg n10, show (5 : Int32) = nI 5 from rfl, pk_mul, nI_add, gd_n (by omega) (by decide), nI_clamp (by omega), M'.2.2.2.2.2 i hi j (by omega)]
        rfl
    · refine rd_ H 0 (-1) 0 (by decide) ?_ (fun h' S => ?_)
      · unfold ff_X7_post
        rw [gd_t H.2.2.2.nwB, c1, Option.bind_some, if_neg n10]
        rcases q1 with q | ⟨q, q2⟩
        · rw [if_pos q]; rfl
        · rw [if_neg q, if_neg (show ¬ a2 ≤ 4 from q2)]; rfl
      · unfold ff_X8_post
        by_cases e : ff_X8_isPost (nI i) h' = 0
        · rw [if_pos e]; rfl
        · rw [if_neg e, show (4 : Int32) = nI 4 from rfl, q3, if_pos rfl]; rfl
  · refine rd_ H 0 (-1) 0 (by decide) ?_ (fun h' S => ?_)
    · unfold ff_X7_post
      rw [gd_t H.2.2.2.nwB, c1, Option.bind_some, if_pos rfl]; rfl
    · have m2 : ff_X8_isPost a1 h' = 0 := by unfold ff_X8_isPost at m1 ⊢; rw [(S.oM M).2.2.1]; rw [M.2.2.1] at m1; exact m1
      unfold ff_X8_post
      rw [m2, if_pos rfl]; rfl
/-- 46: findings -/
theorem st_46 : sp_46 inv_ := by
  intro h a1 H
  unfold ff_X7_findings ff_X8_findings
  rcases rg_ a1 5 (by decide) with ⟨j, hj, rfl, q1, q2, q3⟩ | ⟨q1, q3⟩
  · by_cases e : j = 0
    · subst e
      exact ⟨-1, by rw [if_pos (by decide)], by rw [if_pos (by decide)], H⟩
    · refine ⟨h.1 37 j, ?_, ?_, H⟩
      · simp (disch := omega) only [nl_0, nl_1, nl_2, nl_3, nl_4, nl_5, nl_6, nl_7, nl_8, nl_9, nl_10, nl_12, nl_16, nl_25, nl_30, nl_31, nl_40, nl_80, nl_100, nI_add, pk_mul, nI_leI, nI_ltI, nI_eq, nI_clamp, gd_n, Option.bind_some, if_pos, if_neg]
      · rw [show ff_X8_in (nI j) 1 5 = 1 from in_t (lo := 1) (hi := 5) (by omega) (by omega) (by decide), if_neg n10, gd_n (by omega) (by decide), nI_clamp (by omega), H.1.2.2.2.2 j (by omega)]
  · refine ⟨-1, ?_, ?_, H⟩
    · by_cases e : a1 < 1
      · rw [if_pos e]
      · rw [if_neg e]
        rcases q1 with q | ⟨q, q2⟩
        · exfalso
          apply e
          rw [Int32.lt_iff_toInt_lt] at q ⊢
          have : (1 : Int32).toInt = 1 := rfl
          rw [ti_0] at q
          omega
        · rw [if_neg (show ¬ a1 ≤ 5 from q2)]
    · rw [if_pos]
      refine in_f (lo := 1) (hi := 5) ?_
      rcases q1 with q | ⟨q, q2⟩
      · left
        rw [Int32.lt_iff_toInt_lt] at q ⊢
        have : (nI 1).toInt = 1 := rfl
        rw [ti_0] at q
        omega
      · right
        rw [Int32.le_iff_toInt_le] at q2
        rw [Int32.lt_iff_toInt_lt]
        omega
end
section
/-! ===== what a THUMB reads ===== -/
def fe_ (D : od_) (i j x : Nat) : Nat := if d_H D i 4 ≤ 1 then d_H D i j + x else d_H D i j + x - 1
def mo_ (k w f : Nat) : Nat := if k = 1 then f - 1 else if k = 2 then f + 1 else if k = 3 then f + w else if k = 4 then f + w + 1 else if k = 5 then min 3 (f - 1) else f
def mid_ (D : od_) (t i j x : Nat) : Nat := mo_ (d_T D t 0) (if d_T D t 2 = j then 1 else 0) (fe_ D i j x)
def lst_ (D : od_) (t i j x : Nat) : Nat := mid_ D t i j x - d_T D t 1
def mst_ (D : od_) (t i j x : Nat) : Nat := mid_ D t i j x + d_T D t 1
theorem fe_le {D : od_} (K : oK_ D) {i j x : Nat} (hi : i < d_m D) (hj : j < 4) : fe_ D i j x ≤ 5 + x := by
  have := (K.2.2.2.2.1 i hi).1 j hj
  unfold fe_
  by_cases e : d_H D i 4 ≤ 1
  · rw [if_pos e]; omega
  · rw [if_neg e]; omega
theorem mo_le (k w f : Nat) : mo_ k w f ≤ f + w + 1 := by
  unfold mo_
  repeat' split
  all_goals omega
theorem mid_le {D : od_} (K : oK_ D) {t i j x : Nat} (hi : i < d_m D) (hj : j < 4) : mid_ D t i j x ≤ 7 + x := by
  have h1 := fe_le K (x := x) hi hj
  have h2 := mo_le (d_T D t 0) (if d_T D t 2 = j then 1 else 0) (fe_ D i j x)
  unfold mid_
  split at h2 <;> rename_i q
  · rw [if_pos q]; omega
  · rw [if_neg q]; omega
theorem lst_le {D : od_} (K : oK_ D) {t i j x : Nat} (hi : i < d_m D) (hj : j < 4) : lst_ D t i j x ≤ 7 + x := by
  have := mid_le K (t := t) (x := x) hi hj
  unfold lst_
  omega
theorem mst_le {D : od_} (K : oK_ D) {t i j x : Nat} (ht : t < d_t D) (hi : i < d_m D) (hj : j < 4) : mst_ D t i j x ≤ 9 + x := by
  have := mid_le K (t := t) (x := x) hi hj
  have := (K.2.2.2.2.2.1 t ht).2.1
  unfold mst_
  omega
theorem lemx_ {D : od_} {t i j x : Nat} : lst_ D t i j x ≤ mst_ D t i j x := by unfold lst_ mst_; omega
theorem fe_C {o i j x : Nat} {h : hh_} {D : od_} (K : oK_ D) (C : oC_ o h D) (hi : i < d_m D) (hj : j < 4) (hx : x < 100) : ff_X2_felt o (nI i) (nI j) (nI x) h = some (nI (fe_ D i j x)) := by
  have k1 := K.1
  have c := C.2.2.2.1 i hi
  have b := K.2.2.2.2.1 i hi
  have b1 := b.1 j hj
  have b2 := b.2
  unfold ff_X2_felt fe_
  by_cases e : d_H D i 4 ≤ 1
  · simp (disch := omega) only [nl_0, nl_1, nl_2, nl_3, nl_4, nl_5, nl_6, nl_7, nl_8, nl_9, nl_10, nl_12, nl_16, nl_25, nl_30, nl_31, nl_40, nl_80, nl_100, nI_add, pk_mul, nI_leI, nI_ltI, nI_eq, nI_clamp, gd_n, Option.bind_some, if_pos, if_neg, c]
  · by_cases e2 : d_H D i j + x ≤ 0
    · simp (disch := omega) only [nl_0, nl_1, nl_2, nl_3, nl_4, nl_5, nl_6, nl_7, nl_8, nl_9, nl_10, nl_12, nl_16, nl_25, nl_30, nl_31, nl_40, nl_80, nl_100, nI_add, pk_mul, nI_leI, nI_ltI, nI_eq, nI_clamp, gd_n, Option.bind_some, if_pos, if_neg, c]
      rw [show d_H D i j + x - 1 = d_H D i j + x by omega]
    · simp (disch := omega) only [nl_0, nl_1, nl_2, nl_3, nl_4, nl_5, nl_6, nl_7, nl_8, nl_9, nl_10, nl_12, nl_16, nl_25, nl_30, nl_31, nl_40, nl_80, nl_100, nI_add, pk_mul, nI_leI, nI_ltI, nI_eq, nI_clamp, gd_n, Option.bind_some, if_pos, if_neg, c, pk_sub]
theorem md_C1 : ∀ k, k < 6 → ∀ w, w < 2 → ∀ f, f < 8 → ff_X2_middle (nI k) (nI w) (nI f) hz_ = some (nI (mo_ k w f)) := by decide +kernel
theorem md_C2 (a b c : Int32) (h : hh_) : ff_X2_middle a b c h = ff_X2_middle a b c hz_ := rfl
theorem fe_b {D : od_} {i j x : Nat} (hb : d_H D i j + x ≤ 7) : fe_ D i j x < 8 := by
  unfold fe_
  by_cases e : d_H D i 4 ≤ 1
  · rw [if_pos e]; omega
  · rw [if_neg e]; omega
theorem md_C {o t i j x : Nat} {h : hh_} {D : od_} (K : oK_ D) (C : oC_ o h D) (ht : t < d_t D) (hi : i < d_m D) (hj : j < 4) (hb : d_H D i j + x ≤ 7) : ff_X2_middleBy o (nI t) (nI i) (nI j) (nI x) h = some (nI (mid_ D t i j x)) := by
  have k2 := K.2.1
  have c := C.2.2.2.2.1 t ht
  have b := K.2.2.2.2.2.1 t ht
  have b1 := b.1
  have b2 := b.2.2
  have f1 := fe_b hb
  unfold ff_X2_middleBy ff_X2_middleBy_25 mid_
  by_cases e : d_T D t 2 = j
  · simp (disch := omega) only [nl_0, nl_1, nl_2, nl_3, nl_4, nl_5, nl_6, nl_7, nl_8, nl_9, nl_10, nl_12, nl_16, nl_25, nl_30, nl_31, nl_40, nl_80, nl_100, nI_add, pk_mul, nI_leI, nI_ltI, nI_eq, nI_clamp, gd_n, Option.bind_some, if_pos, if_neg, c, fe_C K C hi hj, e]
    rw [md_C2, md_C1 _ (by omega) _ (by omega) _ f1]
    rfl
  · simp (disch := omega) only [nl_0, nl_1, nl_2, nl_3, nl_4, nl_5, nl_6, nl_7, nl_8, nl_9, nl_10, nl_12, nl_16, nl_25, nl_30, nl_31, nl_40, nl_80, nl_100, nI_add, pk_mul, nI_leI, nI_ltI, nI_eq, nI_clamp, gd_n, Option.bind_some, if_pos, if_neg, c, fe_C K C hi hj]
    rw [md_C2, md_C1 _ (by omega) _ (by omega) _ f1]
    rfl
theorem max0 {a b : Nat} (ha : a < 2 ^ 30) (hb : b < 2 ^ 30) : (if (0 : Int32) < nI a - nI b then nI a - nI b else 0) = nI (a - b) := by
  by_cases e : b < a
  · rw [pk_sub (by omega), if_pos]
    exact nI_lt (a := 0) (by omega) (by omega)
  · rw [if_neg, show a - b = 0 by omega]
    · rfl
    · rw [Int32.lt_iff_toInt_lt, pk_sub_toInt ha hb, ti_0]
      omega
theorem gr0 {a b : Nat} (ha : a < 2 ^ 30) (hb : b < 2 ^ 30) : ff_X8_greater 0 (nI a - nI b) = nI (a - b) := by
  unfold ff_X8_greater
  by_cases e : b ≤ a
  · rw [pk_sub e, if_pos]
    exact nI_le (a := 0) (by omega) (by omega)
  · rw [if_neg, show a - b = 0 by omega]
    · rfl
    · rw [Int32.le_iff_toInt_le, pk_sub_toInt ha hb, ti_0]
      omega
theorem ls_C {o t i j x : Nat} {h : hh_} {D : od_} (K : oK_ D) (C : oC_ o h D) (ht : t < d_t D) (hi : i < d_m D) (hj : j < 4) (hb : d_H D i j + x ≤ 7) : ff_X2_least o (nI t) (nI i) (nI j) (nI x) h = some (nI (lst_ D t i j x)) := by
  have k2 := K.2.1
  have c := C.2.2.2.2.1 t ht
  have b := (K.2.2.2.2.2.1 t ht).2.1
  have b2 := mid_le K (t := t) (x := x) hi hj
  unfold ff_X2_least
  rw [md_C K C ht hi hj hb, Option.bind_some, gd_n (by omega) (by decide), nI_clamp (by omega), show Int32.toNatClampNeg 1 = 1 from rfl, c 1 (by decide), max0 (by omega) (by omega)]
  rfl
theorem ms_C {o t i j x : Nat} {h : hh_} {D : od_} (K : oK_ D) (C : oC_ o h D) (ht : t < d_t D) (hi : i < d_m D) (hj : j < 4) (hb : d_H D i j + x ≤ 7) : ff_X2_most o (nI t) (nI i) (nI j) (nI x) h = some (nI (mst_ D t i j x)) := by
  have k2 := K.2.1
  have c := C.2.2.2.2.1 t ht
  unfold ff_X2_most
  rw [md_C K C ht hi hj hb, Option.bind_some, gd_n (by omega) (by decide), nI_clamp (by omega), show Int32.toNatClampNeg 1 = 1 from rfl, c 1 (by decide), nI_add]
  rfl
/-- with no PADS -/
theorem fe_C0 {o i j : Nat} {h : hh_} {D : od_} (K : oK_ D) (C : oC_ o h D) (hi : i < d_m D) (hj : j < 4) : ff_X2_felt o (nI i) (nI j) 0 h = some (nI (fe_ D i j 0)) := fe_C K C hi hj (x := 0) (by decide)
theorem md_C0 {o t i j : Nat} {h : hh_} {D : od_} (K : oK_ D) (C : oC_ o h D) (ht : t < d_t D) (hi : i < d_m D) (hj : j < 4) : ff_X2_middleBy o (nI t) (nI i) (nI j) 0 h = some (nI (mid_ D t i j 0)) := md_C K C ht hi hj (x := 0) (by have := (K.2.2.2.2.1 i hi).1 j hj; omega)
theorem ls_C0 {o t i j : Nat} {h : hh_} {D : od_} (K : oK_ D) (C : oC_ o h D) (ht : t < d_t D) (hi : i < d_m D) (hj : j < 4) : ff_X2_least o (nI t) (nI i) (nI j) 0 h = some (nI (lst_ D t i j 0)) := ls_C K C ht hi hj (x := 0) (by have := (K.2.2.2.2.1 i hi).1 j hj; omega)
theorem ms_C0 {o t i j : Nat} {h : hh_} {D : od_} (K : oK_ D) (C : oC_ o h D) (ht : t < d_t D) (hi : i < d_m D) (hj : j < 4) : ff_X2_most o (nI t) (nI i) (nI j) 0 h = some (nI (mst_ D t i j 0)) := ms_C K C ht hi hj (x := 0) (by have := (K.2.2.2.2.1 i hi).1 j hj; omega)
/-- the reference -/
theorem mo_M : ∀ k, k < 6 → ∀ l, l < 4 → ∀ j, j < 4 → ∀ f, f < 8 → ff_X8_middleOf (nI k) (nI l) (nI f) (nI j) = nI (mo_ k (if l = j then 1 else 0) f) := by decide +kernel
theorem fe_M {i j : Nat} {h : hh_} {D : od_} (K : oK_ D) (M : oM_ h D) (hi : i < d_m D) (hj : j < 4) : ff_X8_felt (nI i) (nI j) h = some (nI (fe_ D i j 0)) := by
  have k1 := K.1
  have c := M.2.2.2.1 i hi
  have b := K.2.2.2.2.1 i hi
  have b1 := b.1 j hj
  have b2 := b.2
  unfold ff_X8_felt fe_
  rw [bu_M K M hi (by omega), Option.bind_some, show (5 : Int32) = nI 5 from rfl, pk_mul, show (4 : Int32) = nI 4 from rfl, nI_add, gd_n (by omega) (by decide), nI_clamp (by omega), c 4 (by decide)]
  by_cases e : d_H D i 4 ≤ 1
  · rw [if_pos (show nI (d_H D i 4) ≤ 1 from nI_le (b := 1) e (by omega)), show (0 : Int32) = nI 0 from rfl, if_pos e]
    exact congrArg some ((gr0 (b := 0) (by omega) (by omega)).trans rfl)
  · rw [if_neg (show ¬ nI (d_H D i 4) ≤ 1 from nI_ge (a := 1) (by omega) (by omega)), if_neg e]
    exact congrArg some ((gr0 (b := 1) (by omega) (by omega)).trans rfl)
theorem md_M {t i j : Nat} {h : hh_} {D : od_} (K : oK_ D) (M : oM_ h D) (ht : t < d_t D) (hi : i < d_m D) (hj : j < 4) : ff_X8_middle (nI t) (nI i) (nI j) h = some (nI (mid_ D t i j 0)) := by
  have k2 := K.2.1
  have c := M.2.2.2.2.1 t ht
  have c0 := c 0 (by decide)
  have c2 := c 2 (by decide)
  have b := K.2.2.2.2.2.1 t ht
  have b1 := (K.2.2.2.2.1 i hi).1 j hj
  unfold ff_X8_middle
  rw [show (3 : Int32) = nI 3 from rfl, pk_mul, show (2 : Int32) = nI 2 from rfl, nI_add, gd_n (by omega) (by decide), gd_n (by omega) (by decide), nI_clamp (by omega), nI_clamp (by omega), fe_M K M hi hj, Option.bind_some, show 3 * t = 3 * t + 0 from rfl, c0, c2, mo_M _ (by omega) _ (by omega) _ hj _ (fe_b (by omega))]
  rfl
theorem ls_M {t i j : Nat} {h : hh_} {D : od_} (K : oK_ D) (M : oM_ h D) (ht : t < d_t D) (hi : i < d_m D) (hj : j < 4) : ff_X8_least (nI t) (nI i) (nI j) h = some (nI (lst_ D t i j 0)) := by
  have k2 := K.2.1
  have c := M.2.2.2.2.1 t ht
  have b := (K.2.2.2.2.2.1 t ht).2.1
  have b2 := mid_le K (t := t) (x := 0) hi hj
  unfold ff_X8_least
  rw [md_M K M ht hi hj, Option.bind_some, show (3 : Int32) = nI 3 from rfl, pk_mul, show (1 : Int32) = nI 1 from rfl, nI_add, gd_n (by omega) (by decide), nI_clamp (by omega), c 1 (by decide), gr0 (by omega) (by omega)]
  rfl
theorem ms_M {t i j : Nat} {h : hh_} {D : od_} (K : oK_ D) (M : oM_ h D) (ht : t < d_t D) (hi : i < d_m D) (hj : j < 4) : ff_X8_most (nI t) (nI i) (nI j) h = some (nI (mst_ D t i j 0)) := by
  have k2 := K.2.1
  have c := M.2.2.2.2.1 t ht
  unfold ff_X8_most
  rw [md_M K M ht hi hj, Option.bind_some, show (3 : Int32) = nI 3 from rfl, pk_mul, show (1 : Int32) = nI 1 from rfl, nI_add, gd_n (by omega) (by decide), nI_clamp (by omega), c 1 (by decide), nI_add]
  rfl
theorem pl_ (a : Int32) : (∃ j, j < 4 ∧ a = nI j ∧ ff_X7_isPlace a = 1 ∧ ff_X8_isPlace a = 1) ∨ (ff_X7_isPlace a = 0 ∧ ff_X8_isPlace a = 0) := by
  unfold ff_X7_isPlace ff_X8_isPlace
  rcases ix_cases a (N := 4) (by decide) (by decide) with ⟨j, hj, e, n1, n2, n3⟩ | ⟨n1, n3⟩
  · exact Or.inl ⟨j, hj, e, by rw [if_neg n1, if_neg (show ¬ (4 : Int32) ≤ a from n2)], n3⟩
  · refine Or.inr ⟨?_, n3⟩
    rcases n1 with n | ⟨n, n2⟩
    · rw [if_pos n]
    · rw [if_neg n, if_pos (show (4 : Int32) ≤ a from n2)]
/-- is a THUMB, HEAD, POST, in the reference: not changed by the class's answers -/
theorem sm_.iT {h h' : hh_} {D : od_} {a v : Int32} (S : sm_ h h') (m : ff_X8_isThumb a h = v) : ff_X8_isThumb a h' = v := by
  unfold ff_X8_isThumb at m ⊢
  rw [S 98 11 (by decide) (by decide)]
  exact m
theorem sm_.iH {h h' : hh_} {a v : Int32} (S : sm_ h h') (m : ff_X8_isHead a h = v) : ff_X8_isHead a h' = v := by
  unfold ff_X8_isHead at m ⊢
  rw [S 98 10 (by decide) (by decide)]
  exact m
theorem sm_.iP {h h' : hh_} {a v : Int32} (S : sm_ h h') (m : ff_X8_isPost a h = v) : ff_X8_isPost a h' = v := by
  unfold ff_X8_isPost at m ⊢
  rw [S 98 12 (by decide) (by decide)]
  exact m
/-- 21: reads -/
theorem st_21 : sp_21 inv_ := by
  intro h a1 a2 a3 H
  obtain ⟨hn, D, F, ds, n, K, C, M, -⟩ := H.2.2.2
  have B := H.2.2.2.nwB
  rcases hs_1 a1 K C M with ⟨t, ht, rfl, c1, m1⟩ | ⟨c1, m1⟩
  · rcases hs_0 a2 K C M with ⟨i, hi, rfl, c2, m2⟩ | ⟨c2, m2⟩
    · rcases pl_ a3 with ⟨j, hj, rfl, c3, m3⟩ | ⟨c3, m3⟩
      · refine rd_ H 1 (nI (lst_ D t i j 0)) (nI (mst_ D t i j 0)) (by decide) ?_ (fun h' S => ?_)
        · unfold ff_X7_reads
          rw [gd_t B, c1, Option.bind_some, if_neg n10, c2, Option.bind_some, if_neg n10, c3, if_neg n10, ms_C0 K C ht hi hj, Option.bind_some]
          have C' : oC_ h.2.2.1 (ff_X6_tell (nI (mst_ D t i j 0)) h).2 D := C.fr K (fun c j q => sI_ne (by have := H.2.2.2.nw; omega))
          have e1 := ls_C0 K C' ht hi hj
          rw [show (ff_X6_tell (nI (mst_ D t i j 0)) h).2.2.2.1 = h.2.2.1 from rfl, gd_t B, e1]
          rfl
        · have M' := S.oM M
          unfold ff_X8_reads
          rw [S.iT (D := D) m1, if_neg n10, S.iH m2, if_neg n10, m3, if_neg n10, ms_M K M' ht hi hj, Option.bind_some, ls_M K M' ht hi hj, Option.bind_some]
          rfl
      · refine rd_ H 0 (-1) 0 (by decide) ?_ (fun h' S => ?_)
        · unfold ff_X7_reads
          rw [gd_t B, c1, Option.bind_some, if_neg n10, c2, Option.bind_some, if_neg n10, c3, if_pos rfl]; rfl
        · unfold ff_X8_reads
          rw [S.iT (D := D) m1, if_neg n10, S.iH m2, if_neg n10, m3, if_pos rfl]; rfl
    · refine rd_ H 0 (-1) 0 (by decide) ?_ (fun h' S => ?_)
      · unfold ff_X7_reads
        rw [gd_t B, c1, Option.bind_some, if_neg n10, c2, Option.bind_some, if_pos rfl]; rfl
      · unfold ff_X8_reads
        rw [S.iT (D := D) m1, if_neg n10, S.iH m2, if_pos rfl]; rfl
  · refine rd_ H 0 (-1) 0 (by decide) ?_ (fun h' S => ?_)
    · unfold ff_X7_reads
      rw [gd_t B, c1, Option.bind_some, if_pos rfl]; rfl
    · unfold ff_X8_reads
      rw [S.iT (D := D) m1, if_pos rfl]; rfl
end
section
/-! ===== readings in a row; fits, whose, who ===== -/
def all_ (p : Nat → Bool) : Nat → Nat → Bool
  | 0, _ => true
  | d + 1, j => p j && all_ p d (j + 1)
def bI_ (b : Bool) : Int32 := if b = true then 1 else 0
theorem bI_0 {b : Bool} : bI_ b = 0 ↔ b = false := by cases b <;> decide
/-- row r holds a reading R -/
def rR_ (h : hh_) (r : Nat) (R : Nat → Nat) : Prop := ∀ j, j < 4 → R j ≤ 9 ∧ h.1 (4 + r) j = nI (R j) ∧ h.1 101 (40 * r + j) = nI (R j)
theorem sm_.rR {h h' : hh_} {r : Nat} {R : Nat → Nat} (hr : r < 6) (S : sm_ h h') (Q : rR_ h r R) : rR_ h' r R := fun j hj => by
  rw [S _ _ (by omega) (by omega), S _ _ (by omega) (by omega)]
  exact Q j hj
theorem fo_cases (x : Int32) : (∃ v, v ≤ 9 ∧ x = nI v ∧ ¬ x < 0 ∧ x ≤ 9 ∧ ff_X8_in x 0 9 = 1) ∨ ((x < 0 ∨ (¬ x < 0 ∧ ¬ x ≤ 9)) ∧ ff_X8_in x 0 9 = 0) := rg_ x 9 (by decide)
theorem fo_loop {h : hh_} {r : Nat} (hr : r < 6) (E : ∀ j, j < 4 → h.1 (4 + r) j = h.1 101 (40 * r + j)) : ∀ (d j m m' : Nat), j + d = 4 → (ff_X7_findingOfReading_30 (nI r) h (m + d + 1) (nI j) = some (nI 3) ∧ ∀ h', sm_ h h' → ff_X8_askedReading_30 (nI r) h' (m' + d + 1) (nI j) = some (-3, mre_ 3 h')) ∨ (ff_X7_findingOfReading_30 (nI r) h (m + d + 1) (nI j) = some 0 ∧ (∀ h', sm_ h h' → ff_X8_askedReading_30 (nI r) h' (m' + d + 1) (nI j) = some (0, h')) ∧ ∀ x, j ≤ x → x < 4 → ∃ v, v ≤ 9 ∧ h.1 (4 + r) x = nI v) := by
  intro d
  induction d with
  | zero =>
    intro j m m' e
    have e : j = 4 := by omega
    subst e
    refine Or.inr ⟨?_, fun h' S => ?_, fun x hx hx2 => by omega⟩
    · rw [ff_X7_findingOfReading_30, if_pos (by decide)]
    · rw [ff_X8_askedReading_30, if_pos (by decide)]
  | succ d ih =>
    intro j m m' e
    have hj : j < 4 := by omega
    have s1 : ¬ (4 : Int32) ≤ nI j := nI_ge (b := 4) hj (by omega)
    have a1 : ff_X7_findingOfReading_30 (nI r) h (m + (d + 1) + 1) (nI j) = if h.1 (4 + r) j < 0 then some 3 else if h.1 (4 + r) j ≤ 9 then ff_X7_findingOfReading_30 (nI r) h (m + d + 1) (nI (j + 1)) else some 3 := by
      rw [show m + (d + 1) + 1 = (m + d + 1) + 1 by omega, ff_X7_findingOfReading_30, if_neg s1, gd_n hr (by decide), gd_n (by omega) (by decide), nI_clamp (by omega), nI_clamp (by omega), nI_1]
    have a2 : ∀ h', sm_ h h' → ff_X8_askedReading_30 (nI r) h' (m' + (d + 1) + 1) (nI j) = if ff_X8_in (h.1 (4 + r) j) 0 9 = 0 then some (-3, mre_ 3 h') else ff_X8_askedReading_30 (nI r) h' (m' + d + 1) (nI (j + 1)) := by
      intro h' S
      rw [show m' + (d + 1) + 1 = (m' + d + 1) + 1 by omega, ff_X8_askedReading_30, if_neg s1, ra_ h' hr (by omega), Option.bind_some, S 101 _ (by decide) (by decide), ← E j hj, nI_1, show ((ff_X8_meet (3 : Int32) h').bind fun v6 => some (v6.1, v6.2)) = some (-3, mre_ 3 h') from rfM (f := 3) (by decide)]
    rcases fo_cases (h.1 (4 + r) j) with ⟨v, hv, q0, q1, q2, q3⟩ | ⟨q1, q3⟩
    · rw [a1, if_neg q1, if_pos q2]
      rcases ih (j + 1) m m' (by omega) with ⟨w1, w2⟩ | ⟨w1, w2, w3⟩
      · exact Or.inl ⟨w1, fun h' S => by rw [a2 h' S, q3, if_neg n10]; exact w2 h' S⟩
      · refine Or.inr ⟨w1, fun h' S => by rw [a2 h' S, q3, if_neg n10]; exact w2 h' S, fun x hx hx2 => ?_⟩
        by_cases e : x = j
        · subst e
          exact ⟨v, hv, q0⟩
        · exact w3 x (by omega) hx2
    · refine Or.inl ⟨?_, fun h' S => by rw [a2 h' S, q3, if_pos rfl]⟩
      rw [a1]
      rcases q1 with q | ⟨q, q2⟩
      · rw [if_pos q]; rfl
      · rw [if_neg q, if_neg q2]; rfl
theorem fo_ {h : hh_} {r : Nat} (hr : r < 6) (Q : rw_ h 10 4 100 101 40 r) : (∃ f, f < 6 ∧ f ≠ 0 ∧ ff_X7_findingOfReading (nI r) h = some (nI f) ∧ ∀ h', sm_ h h' → ff_X8_askedReading (nI r) h' = some (-3, mre_ f h')) ∨ ∃ R, rR_ h r R ∧ ff_X7_findingOfReading (nI r) h = some 0 ∧ ∀ h', sm_ h h' → ff_X8_askedReading (nI r) h' = some (0, h') := by
  rcases lk_r hr Q with ⟨l0, l1⟩ | ⟨n, hn, l0, l1, l2, l3⟩
  · refine Or.inl ⟨1, by decide, by decide, ?_, fun h' S => ?_⟩
    · unfold ff_X7_findingOfReading
      rw [l0]; rfl
    · unfold ff_X8_askedReading
      rw [ar_n hr (by rw [S _ _ (by decide) (by decide)]; exact l1)]; rfl
  · have b1 : ff_X7_findingOfReading (nI r) h = if nI n = 4 then ff_X7_findingOfReading_30 (nI r) h FU_ 0 else some 5 := by
      unfold ff_X7_findingOfReading
      rw [l0, Option.bind_some, if_pos rfl, gd_n hr (by decide), nI_clamp (by omega), l1]
    have b2 : ∀ h', sm_ h h' → ff_X8_askedReading (nI r) h' = if nI n = 4 then ff_X8_askedReading_30 (nI r) h' FU_ 0 else some (-3, mre_ 5 h') := by
      intro h' S
      have e : h'.1 100 r = nI n := by rw [S _ _ (by decide) (by decide)]; exact l2
      unfold ff_X8_askedReading
      rw [ar_s hr (by omega) e, Option.bind_some]
      dsimp only
      rw [if_pos (show (0 : Int32) ≤ 0 by decide), gd_n hr (by decide), nI_clamp (by omega), e, show (5 : Int32) = nI 5 from rfl, rfM (by decide)]
    by_cases e : n = 4
    · subst e
      obtain ⟨k, hk⟩ := fu_ 4 (by decide)
      rw [if_pos (show nI 4 = 4 from rfl), hk] at b1
      rcases fo_loop hr (h := h) (fun j hj => l3 j hj) 4 0 k k rfl with ⟨w1, w2⟩ | ⟨w1, w2, w3⟩
      · exact Or.inl ⟨3, by decide, by decide, b1.trans w1, fun h' S => by rw [b2 h' S, if_pos (show nI 4 = 4 from rfl), hk]; exact w2 h' S⟩
      · refine Or.inr ⟨fun j => (h.1 (4 + r) j).toNatClampNeg, fun j hj => ?_, b1.trans w1, fun h' S => by rw [b2 h' S, if_pos (show nI 4 = 4 from rfl), hk]; exact w2 h' S⟩
        obtain ⟨v, hv, q⟩ := w3 j (by omega) hj
        dsimp only
        rw [← l3 j hj, q, nI_clamp (by omega)]
        exact ⟨hv, rfl, rfl⟩
    · have e2 : ¬ nI n = 4 := fun q => e ((nI_eq (b := 4) (by omega) (by omega)).mp q)
      rw [if_neg e2] at b1
      exact Or.inl ⟨5, by decide, by decide, b1, fun h' S => by rw [b2 h' S, if_neg e2]⟩
/-- does a reading fit -/
def ft_ (D : od_) (t i : Nat) (R : Nat → Nat) (j : Nat) : Bool := decide (lst_ D t i j 0 ≤ R j) && decide (R j ≤ mst_ D t i j 0)
theorem sh4 : ∀ r, r < 6 → sh_ (4 + r) = (1, 40) := by decide +kernel
theorem bp_r {r j : Nat} (hr : r < 6) (hj : j < 40) : bp_ (4 + r) (nI j) = true := by
  unfold bp_
  rw [sh4 r hr]
  exact bi_t hj (by decide)
theorem cr_loop {o t i r : Nat} {h : hh_} {D : od_} {R : Nat → Nat} (K : oK_ D) (C : oC_ o h D) (ht : t < d_t D) (hi : i < d_m D) (hr : r < 6) (Q : rR_ h r R) : ∀ (d j m : Nat), j + d = 4 → ff_X2_canRead_3 o (nI t) (nI i) (4 + r) h (m + d + 1) (nI j) = some (bI_ (all_ (ft_ D t i R) d j)) := by
  intro d
  induction d with
  | zero =>
    intro j m e
    have e : j = 4 := by omega
    subst e
    rw [ff_X2_canRead_3, if_pos (by decide)]; rfl
  | succ d ih =>
    intro j m e
    have hj : j < 4 := by omega
    have q := Q j hj
    have l1 := lst_le K (t := t) (x := 0) hi hj
    have l2 := mst_le K (x := 0) ht hi hj
    rw [show m + (d + 1) + 1 = (m + d + 1) + 1 by omega, ff_X2_canRead_3, if_neg (show ¬ (4 : Int32) ≤ nI j from nI_ge (b := 4) hj (by omega)), gd_t (bp_r hr (by omega)), ls_C0 K C ht hi hj, Option.bind_some, nI_clamp (by omega), q.2.1, ms_C0 K C ht hi hj, Option.bind_some, nI_1, ih (j + 1) m (by omega), all_]
    unfold ft_
    by_cases e1 : R j < lst_ D t i j 0
    · rw [if_pos (nI_lt e1 (by omega)), decide_eq_false (by omega)]; rfl
    · rw [if_neg (nI_nlt (by omega) (by omega)), decide_eq_true (p := lst_ D t i j 0 ≤ R j) (by omega)]
      by_cases e2 : R j ≤ mst_ D t i j 0
      · rw [if_pos (nI_le e2 (by omega)), decide_eq_true e2]; rfl
      · rw [if_neg (nI_ge (by omega) (by omega)), decide_eq_false e2]; rfl
theorem cr_C {o t i r : Nat} {h : hh_} {D : od_} {R : Nat → Nat} (K : oK_ D) (C : oC_ o h D) (ht : t < d_t D) (hi : i < d_m D) (hr : r < 6) (Q : rR_ h r R) : ff_X2_canRead o (nI t) (nI i) (4 + r) h = some (bI_ (all_ (ft_ D t i R) 4 0)) := by
  unfold ff_X2_canRead
  obtain ⟨k, hk⟩ := fu_ 4 (by decide)
  rw [hk]
  exact cr_loop K C ht hi hr Q 4 0 k rfl
theorem in_3 {a b c : Nat} (ha : a < 2 ^ 31) (hb : b < 2 ^ 31) (hc : c < 2 ^ 31) : ff_X8_in (nI a) (nI b) (nI c) = bI_ (decide (b ≤ a) && decide (a ≤ c)) := by
  unfold ff_X8_in
  by_cases e1 : a < b
  · rw [if_pos (nI_lt e1 hb), decide_eq_false (by omega)]; rfl
  · rw [if_neg (nI_nlt (by omega) ha), decide_eq_true (p := b ≤ a) (by omega)]
    by_cases e2 : a ≤ c
    · rw [if_neg (nI_nlt e2 hc), decide_eq_true e2]; rfl
    · rw [if_pos (nI_lt (by omega) ha), decide_eq_false e2]; rfl
theorem bz_0 : bz_ 0 = true := rfl
theorem bz_1 : bz_ 1 = true := rfl
theorem df_loop0 {t i r : Nat} {h : hh_} : ∀ (d j m : Nat), j + d = 4 → ff_X8_doesFit_6 (nI t) (nI i) (nI r) h (m + d + 1) 0 (nI j) = some 0 := by
  intro d
  induction d with
  | zero =>
    intro j m e
    have e : j = 4 := by omega
    subst e
    rw [ff_X8_doesFit_6, if_pos (by decide)]; rfl
  | succ d ih =>
    intro j m e
    rw [show m + (d + 1) + 1 = (m + d + 1) + 1 by omega, ff_X8_doesFit_6, if_neg (show ¬ (4 : Int32) ≤ nI j from nI_ge (b := 4) (by omega) (by omega)), if_pos rfl, nI_1]
    exact ih (j + 1) m (by omega)
theorem df_loop {t i r : Nat} {h : hh_} {D : od_} {R : Nat → Nat} (K : oK_ D) (M : oM_ h D) (ht : t < d_t D) (hi : i < d_m D) (hr : r < 6) (Q : rR_ h r R) : ∀ (d j m : Nat), j + d = 4 → ff_X8_doesFit_6 (nI t) (nI i) (nI r) h (m + d + 1) 1 (nI j) = some (bI_ (all_ (ft_ D t i R) d j)) := by
  intro d
  induction d with
  | zero =>
    intro j m e
    have e : j = 4 := by omega
    subst e
    rw [ff_X8_doesFit_6, if_pos (by decide)]; rfl
  | succ d ih =>
    intro j m e
    have hj : j < 4 := by omega
    have q := Q j hj
    have l1 := lst_le K (t := t) (x := 0) hi hj
    have l2 := mst_le K (x := 0) ht hi hj
    rw [show m + (d + 1) + 1 = (m + d + 1) + 1 by omega, ff_X8_doesFit_6, if_neg (show ¬ (4 : Int32) ≤ nI j from nI_ge (b := 4) hj (by omega)), if_neg n10, ra_ h hr (by omega), Option.bind_some, ls_M K M ht hi hj, Option.bind_some, ms_M K M ht hi hj, Option.bind_some, q.2.2, in_3 (by omega) (by omega) (by omega), nI_1, ih (j + 1) m (by omega), df_loop0 d (j + 1) m (by omega), all_]
    show (if bI_ (ft_ D t i R j) = 0 then some 0 else _) = _
    cases ft_ D t i R j <;> rfl
theorem df_M {t i r : Nat} {h : hh_} {D : od_} {R : Nat → Nat} (K : oK_ D) (M : oM_ h D) (ht : t < d_t D) (hi : i < d_m D) (hr : r < 6) (Q : rR_ h r R) : ff_X8_doesFit (nI t) (nI i) (nI r) h = some (bI_ (all_ (ft_ D t i R) 4 0)) := by
  unfold ff_X8_doesFit
  obtain ⟨k, hk⟩ := fu_ 4 (by decide)
  rw [hk]
  exact df_loop K M ht hi hr Q 4 0 k rfl
/-- 22: fits -/
theorem st_22 : sp_22 inv_ := by
  intro h a1 a2 a3 H
  obtain ⟨hn, D, F, ds, n, K, C, M, -⟩ := H.2.2.2
  have B := H.2.2.2.nwB
  rcases hs_1 a1 K C M with ⟨t, ht, rfl, c1, m1⟩ | ⟨c1, m1⟩
  · rcases hs_0 a2 K C M with ⟨i, hi, rfl, c2, m2⟩ | ⟨c2, m2⟩
    · rcases al_r a3 h with ⟨r, hr, rfl, c3, m3⟩ | ⟨c3, m3⟩
      · rcases fo_ hr (H.2.1 r hr) with ⟨f, hf, hf0, w1, w2⟩ | ⟨R, Q, w1, w2⟩
        · refine rd_ H (f + 2) 0 0 (by omega) ?_ (fun h' S => ?_)
          · unfold ff_X7_fits
            rw [gd_t B, c1, Option.bind_some, if_neg n10, c2, Option.bind_some, if_neg n10, c3, if_neg n10, w1, Option.bind_some, if_neg (nI_ne0 (by omega) (by omega)), rfC hf]; rfl
          · unfold ff_X8_fits
            rw [S.iT (D := D) m1, if_neg n10, S.iH m2, if_neg n10, w2 h' S]; rfl
        · refine rd_ H 0 (bI_ (all_ (ft_ D t i R) 4 0)) 0 (by decide) ?_ (fun h' S => ?_)
          · unfold ff_X7_fits
            rw [gd_t B, c1, Option.bind_some, if_neg n10, c2, Option.bind_some, if_neg n10, c3, if_neg n10, w1, Option.bind_some, if_pos rfl, gd_n hr (by decide), nI_clamp (by omega), cr_C K C ht hi hr Q, Option.bind_some]
            cases all_ (ft_ D t i R) 4 0 <;> rfl
          · unfold ff_X8_fits
            rw [S.iT (D := D) m1, if_neg n10, S.iH m2, if_neg n10, w2 h' S, Option.bind_some]
            dsimp only
            rw [if_pos (show (0 : Int32) ≤ 0 by decide), df_M K (S.oM M) ht hi hr (S.rR hr Q), Option.bind_some]
            cases all_ (ft_ D t i R) 4 0 <;> rfl
      · refine rd_ H 0 (-1) 0 (by decide) ?_ (fun h' S => ?_)
        · unfold ff_X7_fits
          rw [gd_t B, c1, Option.bind_some, if_neg n10, c2, Option.bind_some, if_neg n10, c3, if_pos rfl]; rfl
        · unfold ff_X8_fits ff_X8_askedReading
          rw [S.iT (D := D) m1, if_neg n10, S.iH m2, if_neg n10, ar_b m3]; rfl
    · refine rd_ H 0 (-1) 0 (by decide) ?_ (fun h' S => ?_)
      · unfold ff_X7_fits
        rw [gd_t B, c1, Option.bind_some, if_neg n10, c2, Option.bind_some, if_pos rfl]; rfl
      · unfold ff_X8_fits
        rw [S.iT (D := D) m1, if_neg n10, S.iH m2, if_pos rfl]; rfl
  · refine rd_ H 0 (-1) 0 (by decide) ?_ (fun h' S => ?_)
    · unfold ff_X7_fits
      rw [gd_t B, c1, Option.bind_some, if_pos rfl]; rfl
    · unfold ff_X8_fits
      rw [S.iT (D := D) m1, if_pos rfl]; rfl
/-- a mask of those for which p holds -/
def msk_ (p : Nat → Bool) : Nat → Nat → Int32 → Int32
  | 0, _, x => x
  | d + 1, i, x => msk_ p d (i + 1) (if p i = true then x ||| ((1 : Int32) <<< (nI i &&& 31)) else x)
theorem or_0 (x : Int32) : x ||| 0 = x := by
  cases x with | ofUInt32 y => cases y with | ofBitVec b => exact congrArg (fun z => Int32.ofUInt32 (UInt32.ofBitVec z)) (BitVec.or_zero)
theorem hf_C {o t r : Nat} {h : hh_} {D : od_} {R : Nat → Nat} (K : oK_ D) (C : oC_ o h D) (ht : t < d_t D) (hr : r < 6) (Q : rR_ h r R) : ∀ (d i m : Nat) (x : Int32), i + d = d_m D → ff_X2_headsThatFit_5 o (nI t) (4 + r) h (m + d + 1) x (nI i) = some (msk_ (fun i => all_ (ft_ D t i R) 4 0) d i x) := by
  have k1 := K.1
  intro d
  induction d with
  | zero =>
    intro i m x e
    rw [ff_X2_headsThatFit_5, show Int32.toNatClampNeg 0 = 0 from rfl, C.1, if_pos (nI_le (by omega) (by omega))]; rfl
  | succ d ih =>
    intro i m x e
    rw [show m + (d + 1) + 1 = (m + d + 1) + 1 by omega, ff_X2_headsThatFit_5, show Int32.toNatClampNeg 0 = 0 from rfl, C.1, if_neg (nI_ge (by omega) (by omega)), cr_C K C ht (by omega) hr Q, Option.bind_some, nI_1, ih _ _ _ (by omega), ih _ _ _ (by omega), msk_]
    cases all_ (ft_ D t i R) 4 0 <;> rfl
theorem hf_M {t r : Nat} {h : hh_} {D : od_} {R : Nat → Nat} (K : oK_ D) (M : oM_ h D) (ht : t < d_t D) (hr : r < 6) (Q : rR_ h r R) : ∀ (d i m : Nat) (x : Int32), i + d = d_m D → ff_X8_headsBy_5 (nI t) (nI r) h (m + d + 1) x (nI i) = some (msk_ (fun i => all_ (ft_ D t i R) 4 0) d i x) := by
  have k1 := K.1
  intro d
  induction d with
  | zero =>
    intro i m x e
    rw [ff_X8_headsBy_5, M.1, if_pos (nI_le (by omega) (by omega))]; rfl
  | succ d ih =>
    intro i m x e
    rw [show m + (d + 1) + 1 = (m + d + 1) + 1 by omega, ff_X8_headsBy_5, M.1, if_neg (nI_ge (by omega) (by omega)), df_M K M ht (by omega) hr Q, Option.bind_some, nI_1, or_0, ih _ _ _ (by omega), ih _ _ _ (by omega), msk_]
    cases all_ (ft_ D t i R) 4 0 <;> rfl
def hm_ (D : od_) (R : Nat → Nat) (t : Nat) : Int32 := msk_ (fun i => all_ (ft_ D t i R) 4 0) (d_m D) 0 0
theorem hb_C {o t r : Nat} {h : hh_} {D : od_} {R : Nat → Nat} (K : oK_ D) (C : oC_ o h D) (ht : t < d_t D) (hr : r < 6) (Q : rR_ h r R) : ff_X2_headsThatFit o (nI t) (4 + r) h = some (hm_ D R t) := by
  have k1 := K.1
  unfold ff_X2_headsThatFit
  obtain ⟨k, hk⟩ := fu_ (d_m D) (by omega)
  rw [hk]
  exact hf_C K C ht hr Q _ 0 k _ (by omega)
theorem hb_M {t r : Nat} {h : hh_} {D : od_} {R : Nat → Nat} (K : oK_ D) (M : oM_ h D) (ht : t < d_t D) (hr : r < 6) (Q : rR_ h r R) : ff_X8_headsBy (nI t) (nI r) h = some (hm_ D R t) := by
  have k1 := K.1
  unfold ff_X8_headsBy
  obtain ⟨k, hk⟩ := fu_ (d_m D) (by omega)
  rw [hk]
  exact hf_M K M ht hr Q _ 0 k _ (by omega)
/-- all of them together -/
def orA_ (f : Nat → Int32) : Nat → Nat → Int32 → Int32
  | 0, _, x => x
  | d + 1, t, x => orA_ f d (t + 1) (x ||| f t)
theorem ws_C {a1 : Int32} {r : Nat} {h : hh_} {D : od_} {R : Nat → Nat} {KK : Int32 → Option (Int32 × hh_)} (B : bo_ h.2.2.1 = true) (K : oK_ D) (C : oC_ h.2.2.1 h D) (hr : r < 6) (Q : rR_ h r R) : ∀ (d t m : Nat) (x : Int32), t + d = d_t D → ff_X7_whose_50 a1 (nI r) h KK (m + d + 1) x (nI t) = KK (orA_ (hm_ D R) d t x) := by
  have k1 := K.2.1
  intro d
  induction d with
  | zero =>
    intro t m x e
    rw [ff_X7_whose_50, gd_t B, show Int32.toNatClampNeg 1 = 1 from rfl, C.2.1, if_pos (nI_le (by omega) (by omega))]; rfl
  | succ d ih =>
    intro t m x e
    rw [show m + (d + 1) + 1 = (m + d + 1) + 1 by omega, ff_X7_whose_50, gd_t B, show Int32.toNatClampNeg 1 = 1 from rfl, C.2.1, if_neg (nI_ge (by omega) (by omega)), gd_n hr (by decide), nI_clamp (by omega), hb_C K C (by omega) hr Q, Option.bind_some, nI_1, ih _ _ _ (by omega)]; rfl
theorem ws_M {t0 r : Nat} {h : hh_} {D : od_} {R : Nat → Nat} (K : oK_ D) (M : oM_ h D) (h0 : t0 < d_t D) (hr : r < 6) (Q : rR_ h r R) : ∀ (d t m : Nat) (x : Int32), t + d = d_t D → ff_X8_whose_28 (nI t0) (nI r) h (m + d + 1) x (nI t) = some (hm_ D R t0, mte_ (orA_ (hm_ D R) d t x) h) := by
  have k1 := K.2.1
  intro d
  induction d with
  | zero =>
    intro t m x e
    rw [ff_X8_whose_28, M.2.1, if_pos (nI_le (by omega) (by omega)), hb_M K M h0 hr Q]; rfl
  | succ d ih =>
    intro t m x e
    rw [show m + (d + 1) + 1 = (m + d + 1) + 1 by omega, ff_X8_whose_28, M.2.1, if_neg (nI_ge (by omega) (by omega)), hb_M K M (by omega) hr Q, Option.bind_some, nI_1, ih _ _ _ (by omega)]; rfl
/-- 23: whose -/
theorem st_23 : sp_23 inv_ := by
  intro h a1 a2 H
  obtain ⟨hn, D, F, ds, n, K, C, M, -⟩ := H.2.2.2
  have k1 := K.2.1
  have B := H.2.2.2.nwB
  rcases hs_1 a1 K C M with ⟨t, ht, rfl, c1, m1⟩ | ⟨c1, m1⟩
  · rcases al_r a2 h with ⟨r, hr, rfl, c3, m3⟩ | ⟨c3, m3⟩
    · rcases fo_ hr (H.2.1 r hr) with ⟨f, hf, hf0, w1, w2⟩ | ⟨R, Q, w1, w2⟩
      · refine rd_ H (f + 2) 0 0 (by omega) ?_ (fun h' S => ?_)
        · unfold ff_X7_whose
          rw [gd_t B, c1, Option.bind_some, if_neg n10, c3, if_neg n10, w1, Option.bind_some, if_neg (nI_ne0 (by omega) (by omega)), rfC hf]; rfl
        · unfold ff_X8_whose
          rw [S.iT (D := D) m1, if_neg n10, w2 h' S]; rfl
      · obtain ⟨k, hk⟩ := fu_ (d_t D) (by omega)
        refine rd_ H 1 (hm_ D R t) (orA_ (hm_ D R) (d_t D) 0 0) (by decide) ?_ (fun h' S => ?_)
        · unfold ff_X7_whose
          rw [gd_t B, c1, Option.bind_some, if_neg n10, c3, if_neg n10, w1, Option.bind_some, if_pos rfl, hk]
          refine (ws_C B K C hr Q (d_t D) 0 k 0 (by omega)).trans ?_
          have C' : oC_ h.2.2.1 (ff_X6_tell (orA_ (hm_ D R) (d_t D) 0 0) h).2 D := C.fr K (fun c j q => sI_ne (by have := H.2.2.2.nw; omega))
          have Q' : rR_ (ff_X6_tell (orA_ (hm_ D R) (d_t D) 0 0) h).2 r R := (an_sm 1 0 _ h).rR hr Q
          rw [show (ff_X6_tell (orA_ (hm_ D R) (d_t D) 0 0) h).2.2.2.1 = h.2.2.1 from rfl, gd_t B, gd_n hr (by decide), nI_clamp (by omega), hb_C K C' ht hr Q']; rfl
        · unfold ff_X8_whose
          rw [S.iT (D := D) m1, if_neg n10, w2 h' S, Option.bind_some]
          dsimp only
          rw [if_pos (show (0 : Int32) ≤ 0 by decide), hk]
          exact ws_M K (S.oM M) ht hr (S.rR hr Q) (d_t D) 0 k 0 (by omega)
    · refine rd_ H 0 (-1) 0 (by decide) ?_ (fun h' S => ?_)
      · unfold ff_X7_whose
        rw [gd_t B, c1, Option.bind_some, if_neg n10, c3, if_pos rfl]; rfl
      · unfold ff_X8_whose ff_X8_askedReading
        rw [S.iT (D := D) m1, if_neg n10, ar_b m3]; rfl
  · refine rd_ H 0 (-1) 0 (by decide) ?_ (fun h' S => ?_)
    · unfold ff_X7_whose
      rw [gd_t B, c1, Option.bind_some, if_pos rfl]; rfl
    · unfold ff_X8_whose
      rw [S.iT (D := D) m1, if_pos rfl]; rfl
theorem wo_C {i r : Nat} {h : hh_} {D : od_} {R : Nat → Nat} (B : bo_ h.2.2.1 = true) (K : oK_ D) (C : oC_ h.2.2.1 h D) (hi : i < d_m D) (hr : r < 6) (Q : rR_ h r R) : ∀ (d t m : Nat) (x : Int32), t + d = d_t D → ff_X7_who_50 (nI i) (nI r) h (m + d + 1) x (nI t) = some (msk_ (fun t => all_ (ft_ D t i R) 4 0) d t x, h) := by
  have k1 := K.2.1
  intro d
  induction d with
  | zero =>
    intro t m x e
    rw [ff_X7_who_50, gd_t B, show Int32.toNatClampNeg 1 = 1 from rfl, C.2.1, if_pos (nI_le (by omega) (by omega))]; rfl
  | succ d ih =>
    intro t m x e
    rw [show m + (d + 1) + 1 = (m + d + 1) + 1 by omega, ff_X7_who_50, gd_t B, show Int32.toNatClampNeg 1 = 1 from rfl, C.2.1, if_neg (nI_ge (by omega) (by omega)), gd_n hr (by decide), nI_clamp (show r < 2 ^ 31 by omega), cr_C K C (by omega) hi hr Q, Option.bind_some, nI_1, ih _ _ _ (by omega), ih _ _ _ (by omega), msk_]
    cases all_ (ft_ D t i R) 4 0 <;> rfl
theorem wo_M {i r : Nat} {h : hh_} {D : od_} {R : Nat → Nat} (K : oK_ D) (M : oM_ h D) (hi : i < d_m D) (hr : r < 6) (Q : rR_ h r R) : ∀ (d t m : Nat) (x : Int32), t + d = d_t D → ff_X8_who_28 (nI i) (nI r) h (m + d + 1) x (nI t) = some (msk_ (fun t => all_ (ft_ D t i R) 4 0) d t x, h) := by
  have k1 := K.2.1
  intro d
  induction d with
  | zero =>
    intro t m x e
    rw [ff_X8_who_28, M.2.1, if_pos (nI_le (by omega) (by omega))]; rfl
  | succ d ih =>
    intro t m x e
    rw [show m + (d + 1) + 1 = (m + d + 1) + 1 by omega, ff_X8_who_28, M.2.1, if_neg (nI_ge (by omega) (by omega)), df_M K M (by omega) hi hr Q, Option.bind_some, nI_1, or_0, ih _ _ _ (by omega), ih _ _ _ (by omega), msk_]
    cases all_ (ft_ D t i R) 4 0 <;> rfl
/-- 24: who -/
theorem st_24 : sp_24 inv_ := by
  intro h a1 a2 H
  obtain ⟨hn, D, F, ds, n, K, C, M, -⟩ := H.2.2.2
  have k1 := K.2.1
  have B := H.2.2.2.nwB
  rcases hs_0 a1 K C M with ⟨i, hi, rfl, c1, m1⟩ | ⟨c1, m1⟩
  · rcases al_r a2 h with ⟨r, hr, rfl, c3, m3⟩ | ⟨c3, m3⟩
    · rcases fo_ hr (H.2.1 r hr) with ⟨f, hf, hf0, w1, w2⟩ | ⟨R, Q, w1, w2⟩
      · refine rd_ H (f + 2) 0 0 (by omega) ?_ (fun h' S => ?_)
        · unfold ff_X7_who
          rw [gd_t B, c1, Option.bind_some, if_neg n10, c3, if_neg n10, w1, Option.bind_some, if_neg (nI_ne0 (by omega) (by omega)), rfC hf]; rfl
        · unfold ff_X8_who
          rw [S.iH m1, if_neg n10, w2 h' S]; rfl
      · obtain ⟨k, hk⟩ := fu_ (d_t D) (by omega)
        refine rd_ H 0 (msk_ (fun t => all_ (ft_ D t i R) 4 0) (d_t D) 0 0) 0 (by decide) ?_ (fun h' S => ?_)
        · unfold ff_X7_who
          rw [gd_t B, c1, Option.bind_some, if_neg n10, c3, if_neg n10, w1, Option.bind_some, if_pos rfl, hk]
          exact wo_C B K C hi hr Q (d_t D) 0 k 0 (by omega)
        · unfold ff_X8_who
          rw [S.iH m1, if_neg n10, w2 h' S, Option.bind_some]
          dsimp only
          rw [if_pos (show (0 : Int32) ≤ 0 by decide), hk]
          exact wo_M K (S.oM M) hi hr (S.rR hr Q) (d_t D) 0 k 0 (by omega)
    · refine rd_ H 0 (-1) 0 (by decide) ?_ (fun h' S => ?_)
      · unfold ff_X7_who
        rw [gd_t B, c1, Option.bind_some, if_neg n10, c3, if_pos rfl]; rfl
      · unfold ff_X8_who ff_X8_askedReading
        rw [S.iH m1, if_neg n10, ar_b m3]; rfl
  · refine rd_ H 0 (-1) 0 (by decide) ?_ (fun h' S => ?_)
    · unfold ff_X7_who
      rw [gd_t B, c1, Option.bind_some, if_pos rfl]; rfl
    · unfold ff_X8_who
      rw [S.iH m1, if_pos rfl]; rfl
end
section
/-! ===== fractions; luck ===== -/
theorem cmp0 {b : Nat} (hb : b < 2 ^ 63) : lg_cmp (lN b) 0 = 0 ↔ b = 0 := by
  unfold lg_cmp
  rw [show (0 : Int64) = lN 0 from rfl]
  by_cases e : b = 0
  · subst e; decide
  · rw [if_pos (show lN b > lN 0 from (pk_lLT (by decide) hb).mpr (by omega))]
    exact ⟨fun q => absurd q (by decide), fun q => absurd q e⟩
theorem bm_n {b : Nat} (hb : b < 2 ^ 63) (h : b ≠ 0) : bm_ (lN b) = true := by
  unfold bm_
  rw [show (0 : Int64) = lN 0 from rfl]
  have : ¬ lN b = lN 0 := fun q => h ((pk_lEQ hb (by decide)).mp q)
  simp only [Bool.not_eq_true', beq_eq_false_iff_ne, ne_eq]
  exact this
theorem gcd_C : ∀ (k b a s m : Nat), b < 2 ^ k → a < 2 ^ 63 → b < 2 ^ 63 → s + 2 * k ≤ 99 → ff_X6_commonDivisor_3 (m + 2 * k + 1) (lN a) (lN b) (nI s) = some (lN (Nat.gcd a b)) := by
  intro k
  induction k with
  | zero =>
    intro b a s m hb ha hb2 hs
    have e : b = 0 := by omega
    subst e
    rw [ff_X6_commonDivisor_3, if_neg (show ¬ (100 : Int32) ≤ nI s from nI_ge (b := 100) (by omega) (by omega)), if_pos ((cmp0 (by decide)).mpr rfl), Nat.gcd_zero_right]
  | succ k ih =>
    intro b a s m hb ha hb2 hs
    rw [show m + 2 * (k + 1) + 1 = (m + 2 * k + 1 + 1) + 1 by omega, ff_X6_commonDivisor_3, if_neg (show ¬ (100 : Int32) ≤ nI s from nI_ge (b := 100) (by omega) (by omega))]
    by_cases e : b = 0
    · subst e
      rw [if_pos ((cmp0 (by decide)).mpr rfl), Nat.gcd_zero_right]
    · rw [if_neg (fun q => e ((cmp0 hb2).mp q)), gd_t (bm_n hb2 e), pk_lRem ha (by omega) hb2, nI_1, ff_X6_commonDivisor_3, if_neg (show ¬ (100 : Int32) ≤ nI (s + 1) from nI_ge (b := 100) (by omega) (by omega))]
      have l1 : a % b < b := Nat.mod_lt _ (by omega)
      have g1 : Nat.gcd a b = Nat.gcd b (a % b) := by rw [Nat.gcd_comm b (a % b), ← Nat.gcd_rec, Nat.gcd_comm]
      by_cases e2 : a % b = 0
      · rw [e2, if_pos ((cmp0 (by decide)).mpr rfl), g1, e2, Nat.gcd_zero_right]
      · have hab : a % b < 2 ^ 63 := by omega
        have l2 : b % (a % b) < a % b := Nat.mod_lt _ (by omega)
        have l3 : b % (a % b) < 2 ^ k := by
          have h5 : b % (a % b) + (a % b) ≤ b := by
            have h6 := Nat.div_add_mod b (a % b)
            have h7 : 1 ≤ b / (a % b) := Nat.div_pos (by omega) (by omega)
            have h8 : (a % b) * 1 ≤ (a % b) * (b / (a % b)) := Nat.mul_le_mul_left _ h7
            omega
          have h9 : 2 ^ (k + 1) = 2 * 2 ^ k := by rw [Nat.pow_succ]; omega
          omega
        have g2 : Nat.gcd b (a % b) = Nat.gcd (a % b) (b % (a % b)) := by rw [Nat.gcd_comm (a % b) (b % (a % b)), ← Nat.gcd_rec, Nat.gcd_comm]
        rw [if_neg (fun q => e2 ((cmp0 hab).mp q)), gd_t (bm_n hab e2), pk_lRem hb2 (by omega) hab, nI_1, g1, g2]
        exact ih _ _ _ _ l3 hab (by omega) (by omega)
theorem gcd_M {x3 : Nat} {x1 : Int64} {h : hh_} : ∀ (k b a m : Nat), b < 2 ^ k → a < 2 ^ 63 → b < 2 ^ 63 → 0 < Nat.gcd a b → ff_X8_part_6 x1 (lN x3) h (m + 2 * k + 1) (lN a) (lN b) = some ((1 : Int32), hh_sL (hh_sL h 98 3 (x1 / lN (Nat.gcd a b))) 98 4 (lN x3 / lN (Nat.gcd a b))) := by
  intro k
  induction k with
  | zero =>
    intro b a m hb ha hb2 hg
    have e : b = 0 := by omega
    subst e
    rw [Nat.gcd_zero_right] at hg ⊢
    rw [ff_X8_part_6, if_pos ((cmp0 (by decide)).mpr rfl), gd_t (bm_n ha (by omega))]
  | succ k ih =>
    intro b a m hb ha hb2 hg
    rw [show m + 2 * (k + 1) + 1 = (m + 2 * k + 1 + 1) + 1 by omega, ff_X8_part_6]
    by_cases e : b = 0
    · subst e
      rw [Nat.gcd_zero_right] at hg ⊢
      rw [if_pos ((cmp0 (by decide)).mpr rfl), gd_t (bm_n ha (by omega))]
    · rw [if_neg (fun q => e ((cmp0 hb2).mp q)), gd_t (bm_n hb2 e), pk_lRem ha (by omega) hb2, ff_X8_part_6]
      have l1 : a % b < b := Nat.mod_lt _ (by omega)
      have g1 : Nat.gcd a b = Nat.gcd b (a % b) := by rw [Nat.gcd_comm b (a % b), ← Nat.gcd_rec, Nat.gcd_comm]
      by_cases e2 : a % b = 0
      · rw [e2, if_pos ((cmp0 (by decide)).mpr rfl), gd_t (bm_n hb2 e), g1, e2, Nat.gcd_zero_right]
      · have hab : a % b < 2 ^ 63 := by omega
        have l2 : b % (a % b) < a % b := Nat.mod_lt _ (by omega)
        have l3 : b % (a % b) < 2 ^ k := by
          have h5 : b % (a % b) + (a % b) ≤ b := by
            have h6 := Nat.div_add_mod b (a % b)
            have h7 : 1 ≤ b / (a % b) := Nat.div_pos (by omega) (by omega)
            have h8 : (a % b) * 1 ≤ (a % b) * (b / (a % b)) := Nat.mul_le_mul_left _ h7
            omega
          have h9 : 2 ^ (k + 1) = 2 * 2 ^ k := by rw [Nat.pow_succ]; omega
          omega
        have g2 : Nat.gcd b (a % b) = Nat.gcd (a % b) (b % (a % b)) := by rw [Nat.gcd_comm (a % b) (b % (a % b)), ← Nat.gcd_rec, Nat.gcd_comm]
        rw [if_neg (fun q => e2 ((cmp0 hab).mp q)), gd_t (bm_n hab e2), pk_lRem hb2 (by omega) hab, g1, g2]
        exact ih _ _ _ l3 hab (by omega) (by rw [← g2, ← g1]; exact hg)
def fC_ (a b : Nat) (h : hh_) : hh_ := hh_sL (hh_sL h 36 3 (lN a)) 36 4 (lN b)
def fM_ (a b : Nat) (h : hh_) : hh_ := hh_sL (hh_sL h 98 3 (lN a)) 98 4 (lN b)
theorem tf_C {X Y : Nat} {h : hh_} (hX : X < 2 ^ 63) (hY : Y < 2 ^ 45) (h0 : 0 < Y) : ff_X6_tellFraction (lN X) (lN Y) h = some (1, fC_ (X / Nat.gcd X Y) (Y / Nat.gcd X Y) h) := by
  have g0 : 0 < Nat.gcd X Y := Nat.gcd_pos_of_pos_right _ h0
  have g1 : Nat.gcd X Y ≤ Y := Nat.gcd_le_right _ h0
  unfold ff_X6_tellFraction ff_X6_commonDivisor
  obtain ⟨k, hk⟩ := fu_ (2 * 45) (by decide)
  rw [hk, show (0 : Int32) = nI 0 from rfl, gcd_C 45 Y X 0 k hY hX (by omega) (by decide), Option.bind_some]
  rw [if_neg (show ¬ lg_cmp (lN (Nat.gcd X Y)) 0 = nI 0 from fun q => by have := (cmp0 (by omega)).mp q; omega), gd_t (bm_n (by omega) (by omega)), pk_lDiv hX g0 (by omega), pk_lDiv (by omega) g0 (by omega)]
  rfl
theorem tf_M {X Y : Nat} {h : hh_} (hX : X < 2 ^ 63) (hY : Y < 2 ^ 45) (h0 : 0 < Y) : ff_X8_part (lN X) (lN Y) h = some (1, fM_ (X / Nat.gcd X Y) (Y / Nat.gcd X Y) h) := by
  have g0 : 0 < Nat.gcd X Y := Nat.gcd_pos_of_pos_right _ h0
  have g1 : Nat.gcd X Y ≤ Y := Nat.gcd_le_right _ h0
  unfold ff_X8_part
  obtain ⟨k, hk⟩ := fu_ (2 * 45) (by decide)
  rw [hk, gcd_M 45 Y X k hY hX (by omega) g0, pk_lDiv hX g0 (by omega), pk_lDiv (by omega) g0 (by omega)]
  rfl
theorem inv_frac {h : hh_} (H : inv_ h) (a b : Nat) : inv_ (fM_ a b (fC_ a b h)) := by
  obtain ⟨hT, hR, hX, hO⟩ := H
  refine ⟨?_, hR.fr (fun k j q => rfl), hX.fr (fun k j q => rfl), iO_.fr (h := h) ⟨rfl, rfl⟩ (fun k j q => rfl) hO⟩
  obtain ⟨x1, x2, x3, x4, x5⟩ := hT
  refine ⟨x1, x2, ?_, ?_, x5⟩
  · unfold fM_ fC_
    rw [sL_ne (by decide), sL_ne (by decide), sL_nj (by decide), sL_eq, sL_nj (by decide), sL_eq]
  · unfold fM_ fC_
    rw [sL_ne (by decide), sL_ne (by decide), sL_eq, sL_eq]
theorem rdF_ {h : hh_} (H : inv_ h) {C : Option (Int32 × hh_)} {M : hh_ → Option (Int32 × hh_)} (a b : Nat) (e1 : C = some (1, fC_ a b h)) (e2 : ∀ h', sm_ h h' → M h' = some (1, fM_ a b h')) : ∃ (r : Int32) (h1 : hh_) (h2 : hh_), C = some (r, h1) ∧ M h1 = some (r, h2) ∧ inv_ h2 :=
  ⟨1, _, _, e1, e2 _ (fun _ _ _ _ => rfl), inv_frac H a b⟩
/-- how many ways -/
def sd_ (D : od_) (t i j : Nat) : Nat := mst_ D t i j 0 - lst_ D t i j 0 + 1
theorem sd_le {D : od_} (K : oK_ D) {t i j : Nat} (ht : t < d_t D) : sd_ D t i j ≤ 5 := by
  have := (K.2.2.2.2.2.1 t ht).2.1
  unfold sd_ mst_ lst_
  omega
theorem sd_pos {D : od_} {t i j : Nat} : 0 < sd_ D t i j := by unfold sd_; omega
theorem wy_C {o t i j : Nat} {h : hh_} {D : od_} (K : oK_ D) (C : oC_ o h D) (ht : t < d_t D) (hi : i < d_m D) (hj : j < 4) : ff_X2_ways o (nI t) (nI i) (nI j) h = some (nI (sd_ D t i j)) := by
  have b1 := sd_le K (i := i) (j := j) ht
  have b0 := sd_pos (D := D) (t := t) (i := i) (j := j)
  unfold ff_X2_ways
  rw [ms_C0 K C ht hi hj, Option.bind_some, ls_C0 K C ht hi hj, Option.bind_some, pk_sub lemx_, nI_1]
  refine congrArg some ?_
  show (if nI 1 < nI (sd_ D t i j) then nI (sd_ D t i j) else nI 1) = nI (sd_ D t i j)
  by_cases e : sd_ D t i j = 1
  · rw [e]; rfl
  · rw [if_pos (nI_lt (by omega) (by omega))]
theorem wy_M {t i j : Nat} {h : hh_} {D : od_} (K : oK_ D) (M : oM_ h D) (ht : t < d_t D) (hi : i < d_m D) (hj : j < 4) : ff_X8_spread (nI t) (nI i) (nI j) h = some (nI (sd_ D t i j)) := by
  unfold ff_X8_spread
  rw [ms_M K M ht hi hj, Option.bind_some, ls_M K M ht hi hj, Option.bind_some, pk_sub lemx_, nI_1]
  rfl
theorem nd_M {p j : Nat} {h : hh_} {D : od_} (K : oK_ D) (M : oM_ h D) (hp : p < d_p D) (hj : j < 5) : ff_X8_need (nI p) (nI j) h = some (nI (d_P D p j)) := by
  have k1 := K.2.2.1
  have c := M.2.2.2.2.2 p hp
  unfold ff_X8_need
  simp (disch := omega) only [nl_0, nl_1, nl_2, nl_3, nl_4, nl_5, nl_6, nl_7, nl_8, nl_9, nl_10, nl_12, nl_16, nl_25, nl_30, nl_31, nl_40, nl_80, nl_100, nI_add, pk_mul, nI_leI, nI_ltI, nI_eq, nI_clamp, gd_n, Option.bind_some, if_pos, if_neg, c]
theorem mx_i {a b : Nat} (ha : a < 2 ^ 31) (hb : b < 2 ^ 31) : (if nI a < nI b then nI b else nI a) = nI (max a b) := by
  by_cases e : a < b
  · rw [if_pos (nI_lt e hb), Nat.max_eq_right (by omega)]
  · rw [if_neg (nI_nlt (by omega) ha), Nat.max_eq_left (by omega)]
theorem gr_i {a b : Nat} (ha : a < 2 ^ 31) (hb : b < 2 ^ 31) : ff_X8_greater (nI a) (nI b) = nI (max a b) := by
  unfold ff_X8_greater
  by_cases e : a ≤ b
  · rw [if_pos (nI_le e hb), Nat.max_eq_right (by omega)]
  · rw [if_neg (nI_ge (by omega) ha), Nat.max_eq_left (by omega)]
theorem su1 (a b : Nat) : nI a - nI b + 1 = nI (a + 1) - nI b := by
  rw [← nI_1, Int32.sub_eq_add_neg, Int32.sub_eq_add_neg, Int32.add_assoc, Int32.add_comm (-nI b) 1, ← Int32.add_assoc]
def lu_ (D : od_) (t i p j : Nat) : Nat := mst_ D t i j 0 + 1 - max (lst_ D t i j 0) (d_P D p j)
def pr_ (f : Nat → Nat) : Nat → Nat → Nat → Nat
  | 0, _, x => x
  | d + 1, j, x => pr_ f d (j + 1) (x * f j)
theorem lk_C {t i p : Nat} {h : hh_} {D : od_} (B : bo_ h.2.2.1 = true) (K : oK_ D) (C : oC_ h.2.2.1 h D) (ht : t < d_t D) (hi : i < d_m D) (hp : p < d_p D) : ∀ (d j m x y : Nat), j + d = 4 → ff_X7_luck_47 (nI t) (nI i) (nI p) h (m + d + 1) (lN x) (lN y) (nI j) = (ff_X6_tellFraction (lN (pr_ (lu_ D t i p) d j x)) (lN (pr_ (sd_ D t i) d j y)) h).bind fun v => some (v.1, v.2) := by
  intro d
  induction d with
  | zero =>
    intro j m x y e
    have e : j = 4 := by omega
    subst e
    rw [ff_X7_luck_47, if_pos (by decide)]; rfl
  | succ d ih =>
    intro j m x y e
    have hj : j < 4 := by omega
    have k3 := K.2.2.1
    have l1 := lst_le K (t := t) (x := 0) hi hj
    have l2 := mst_le K (x := 0) ht hi hj
    have l3 := (K.2.2.2.2.2.2 p hp).1 j hj
    have l4 := sd_le K (i := i) (j := j) ht
    rw [show m + (d + 1) + 1 = (m + d + 1) + 1 by omega, ff_X7_luck_47, if_neg (show ¬ (4 : Int32) ≤ nI j from nI_ge (b := 4) hj (by omega)), gd_t B, ls_C0 K C ht hi hj, Option.bind_some, ms_C0 K C ht hi hj, Option.bind_some, gd_n (by omega) (by decide), gd_n (by omega) (by decide), wy_C K C ht hi hj, Option.bind_some, nI_clamp (show p < 2 ^ 31 by omega), nI_clamp (show j < 2 ^ 31 by omega), C.2.2.2.2.2 p hp j (by omega), mx_i (by omega) (by omega), su1, max0 (by omega) (by omega), nI_l (by omega), nI_l (by omega), lN_mul, lN_mul, nI_1, ih _ _ _ _ (by omega)]
    rfl
theorem lk_M {t i p : Nat} {h : hh_} {D : od_} (K : oK_ D) (M : oM_ h D) (ht : t < d_t D) (hi : i < d_m D) (hp : p < d_p D) : ∀ (d j m x y : Nat), j + d = 4 → ff_X8_luck_35 (nI t) (nI i) (nI p) h (m + d + 1) (lN x) (lN y) (nI j) = (ff_X8_part (lN (pr_ (lu_ D t i p) d j x)) (lN (pr_ (sd_ D t i) d j y)) h).bind fun v => some (v.1, v.2) := by
  intro d
  induction d with
  | zero =>
    intro j m x y e
    have e : j = 4 := by omega
    subst e
    rw [ff_X8_luck_35, if_pos (by decide)]; rfl
  | succ d ih =>
    intro j m x y e
    have hj : j < 4 := by omega
    have k3 := K.2.2.1
    have l1 := lst_le K (t := t) (x := 0) hi hj
    have l2 := mst_le K (x := 0) ht hi hj
    have l3 := (K.2.2.2.2.2.2 p hp).1 j hj
    have l4 := sd_le K (i := i) (j := j) ht
    rw [show m + (d + 1) + 1 = (m + d + 1) + 1 by omega, ff_X8_luck_35, if_neg (show ¬ (4 : Int32) ≤ nI j from nI_ge (b := 4) hj (by omega)), ls_M K M ht hi hj, Option.bind_some, nd_M K M hp (by omega), Option.bind_some, ms_M K M ht hi hj, Option.bind_some, wy_M K M ht hi hj, Option.bind_some, gr_i (by omega) (by omega), su1, gr0 (by omega) (by omega), nI_l (by omega), nI_l (by omega), lN_mul, lN_mul, nI_1, ih _ _ _ _ (by omega)]
    rfl
theorem pr_le {f : Nat → Nat} {B : Nat} (hf : ∀ j, j < 4 → f j ≤ B) : ∀ (d j x X : Nat), j + d = 4 → x ≤ X → pr_ f d j x ≤ X * B ^ d := by
  intro d
  induction d with
  | zero => intro j x X _ h; rw [pr_, Nat.pow_zero, Nat.mul_one]; exact h
  | succ d ih =>
    intro j x X e h
    rw [pr_, Nat.pow_succ, Nat.mul_comm (B ^ d) B, ← Nat.mul_assoc]
    exact ih _ _ _ (by omega) (Nat.mul_le_mul h (hf j (by omega)))
theorem pr_pos {f : Nat → Nat} (hf : ∀ j, 0 < f j) : ∀ (d j x : Nat), 0 < x → 0 < pr_ f d j x := by
  intro d
  induction d with
  | zero => intro j x h; exact h
  | succ d ih => intro j x h; exact ih _ _ (Nat.mul_pos h (hf j))
/-- 29: luck -/
theorem st_29 : sp_29 inv_ := by
  intro h a1 a2 a3 H
  obtain ⟨hn, D, F, ds, n, K, C, M, -⟩ := H.2.2.2
  have B := H.2.2.2.nwB
  rcases hs_1 a1 K C M with ⟨t, ht, rfl, c1, m1⟩ | ⟨c1, m1⟩
  · rcases hs_0 a2 K C M with ⟨i, hi, rfl, c2, m2⟩ | ⟨c2, m2⟩
    · rcases hs_2 a3 K C M with ⟨p, hp, rfl, c3, m3⟩ | ⟨c3, m3⟩
      · obtain ⟨k, hk⟩ := fu_ 4 (by decide)
        have b1 : pr_ (lu_ D t i p) 4 0 1 ≤ 1 * 10 ^ 4 := pr_le (fun j hj => by have := mst_le K (x := 0) ht hi hj; unfold lu_; omega) 4 0 1 1 rfl (by omega)
        have b2 : pr_ (sd_ D t i) 4 0 1 ≤ 1 * 5 ^ 4 := pr_le (fun j hj => sd_le K ht) 4 0 1 1 rfl (by omega)
        have b3 : 0 < pr_ (sd_ D t i) 4 0 1 := pr_pos (fun j => sd_pos) 4 0 1 (by omega)
        refine rdF_ H (pr_ (lu_ D t i p) 4 0 1 / Nat.gcd (pr_ (lu_ D t i p) 4 0 1) (pr_ (sd_ D t i) 4 0 1)) (pr_ (sd_ D t i) 4 0 1 / Nat.gcd (pr_ (lu_ D t i p) 4 0 1) (pr_ (sd_ D t i) 4 0 1)) ?_ (fun h' S => ?_)
        · unfold ff_X7_luck
          rw [gd_t B, c1, Option.bind_some, if_neg n10, c2, Option.bind_some, if_neg n10, c3, Option.bind_some, if_neg n10, hk]
          refine (lk_C B K C ht hi hp 4 0 k 1 1 rfl).trans ?_
          rw [tf_C (by omega) (by omega) b3]; rfl
        · unfold ff_X8_luck
          rw [S.iT (D := D) m1, if_neg n10, S.iH m2, if_neg n10, S.iP m3, if_neg n10, hk]
          refine (lk_M K (S.oM M) ht hi hp 4 0 k 1 1 rfl).trans ?_
          rw [tf_M (by omega) (by omega) b3]; rfl
      · refine rd_ H 0 (-1) 0 (by decide) ?_ (fun h' S => ?_)
        · unfold ff_X7_luck
          rw [gd_t B, c1, Option.bind_some, if_neg n10, c2, Option.bind_some, if_neg n10, c3, Option.bind_some, if_pos rfl]; rfl
        · unfold ff_X8_luck
          rw [S.iT (D := D) m1, if_neg n10, S.iH m2, if_neg n10, S.iP m3, if_pos rfl]; rfl
    · refine rd_ H 0 (-1) 0 (by decide) ?_ (fun h' S => ?_)
      · unfold ff_X7_luck
        rw [gd_t B, c1, Option.bind_some, if_neg n10, c2, Option.bind_some, if_pos rfl]; rfl
      · unfold ff_X8_luck
        rw [S.iT (D := D) m1, if_neg n10, S.iH m2, if_pos rfl]; rfl
  · refine rd_ H 0 (-1) 0 (by decide) ?_ (fun h' S => ?_)
    · unfold ff_X7_luck
      rw [gd_t B, c1, Option.bind_some, if_pos rfl]; rfl
    · unfold ff_X8_luck
      rw [S.iT (D := D) m1, if_pos rfl]; rfl
end
section
/-! ===== alike, suits, look ===== -/
def pt_ (D : od_) (t i k j : Nat) : Bool := decide (mst_ D t i j 0 < lst_ D t k j 0) || decide (mst_ D t k j 0 < lst_ D t i j 0)
theorem pt_c {D : od_} {t i k j : Nat} : pt_ D t i k j = pt_ D t k i j := by unfold pt_; exact Bool.or_comm _ _
theorem ap_C {o t i k j : Nat} {h : hh_} {D : od_} (K : oK_ D) (C : oC_ o h D) (ht : t < d_t D) (hi : i < d_m D) (hk : k < d_m D) (hj : j < 4) : ff_X2_isApart o (nI t) (nI i) (nI k) (nI j) h = some (bI_ (pt_ D t i k j)) := by
  have l1 := lst_le K (t := t) (x := 0) hi hj
  have l2 := mst_le K (x := 0) ht hi hj
  have l3 := lst_le K (t := t) (x := 0) hk hj
  have l4 := mst_le K (x := 0) ht hk hj
  unfold ff_X2_isApart pt_
  rw [ls_C0 K C ht hi hj, Option.bind_some, ms_C0 K C ht hk hj, Option.bind_some, ls_C0 K C ht hk hj, Option.bind_some, ms_C0 K C ht hi hj, Option.bind_some]
  by_cases e1 : mst_ D t k j 0 < lst_ D t i j 0
  · rw [if_pos (nI_lt e1 (by omega)), decide_eq_true e1, Bool.or_true]; rfl
  · rw [if_neg (nI_nlt (by omega) (by omega)), decide_eq_false e1, Bool.or_false]
    by_cases e2 : mst_ D t i j 0 < lst_ D t k j 0
    · rw [if_neg (nI_ge e2 (by omega)), decide_eq_true e2]; rfl
    · rw [if_pos (nI_le (by omega) (by omega)), decide_eq_false e2]; rfl
theorem ap_M {t i k j : Nat} {h : hh_} {D : od_} (K : oK_ D) (M : oM_ h D) (ht : t < d_t D) (hi : i < d_m D) (hk : k < d_m D) (hj : j < 4) : ff_X8_areApart (nI t) (nI i) (nI k) (nI j) h = some (bI_ (pt_ D t i k j)) := by
  have l1 := lst_le K (t := t) (x := 0) hi hj
  have l2 := mst_le K (x := 0) ht hi hj
  have l3 := lst_le K (t := t) (x := 0) hk hj
  have l4 := mst_le K (x := 0) ht hk hj
  unfold ff_X8_areApart pt_
  rw [ms_M K M ht hi hj, Option.bind_some, ls_M K M ht hk hj, Option.bind_some, ms_M K M ht hk hj, Option.bind_some, ls_M K M ht hi hj, Option.bind_some]
  by_cases e2 : mst_ D t i j 0 < lst_ D t k j 0
  · rw [if_pos (nI_lt e2 (by omega)), decide_eq_true e2, Bool.true_or]; rfl
  · rw [if_neg (nI_nlt (by omega) (by omega)), decide_eq_false e2, Bool.false_or]
    by_cases e1 : mst_ D t k j 0 < lst_ D t i j 0
    · rw [if_neg (nI_ge e1 (by omega)), decide_eq_true e1]; rfl
    · rw [if_pos (nI_le (by omega) (by omega)), decide_eq_false e1]; rfl
/-- may seem -/
theorem sem_loop {o t i k : Nat} {h : hh_} {D : od_} (K : oK_ D) (C : oC_ o h D) (ht : t < d_t D) (hi : i < d_m D) (hk : k < d_m D) : ∀ (d j m : Nat), j + d = 4 → ff_X2_maySeem_3 o (nI t) (nI i) (nI k) h (m + d + 1) (nI j) = some (bI_ (all_ (fun j => !pt_ D t i k j) d j)) := by
  intro d
  induction d with
  | zero =>
    intro j m e
    have e : j = 4 := by omega
    subst e
    rw [ff_X2_maySeem_3, if_pos (by decide)]; rfl
  | succ d ih =>
    intro j m e
    have hj : j < 4 := by omega
    rw [show m + (d + 1) + 1 = (m + d + 1) + 1 by omega, ff_X2_maySeem_3, if_neg (show ¬ (4 : Int32) ≤ nI j from nI_ge (b := 4) hj (by omega)), ap_C K C ht hi hk hj, Option.bind_some, nI_1, ih _ _ (by omega), all_]
    cases pt_ D t i k j <;> rfl
theorem sem_C {o t i k : Nat} {h : hh_} {D : od_} (K : oK_ D) (C : oC_ o h D) (ht : t < d_t D) (hi : i < d_m D) (hk : k < d_m D) : ff_X2_maySeem o (nI t) (nI i) (nI k) h = some (bI_ (all_ (fun j => !pt_ D t i k j) 4 0)) := by
  unfold ff_X2_maySeem
  obtain ⟨q, hq⟩ := fu_ 4 (by decide)
  rw [hq]
  exact sem_loop K C ht hi hk 4 0 q rfl
theorem ali_C {t i : Nat} {h : hh_} {D : od_} (B : bo_ h.2.2.1 = true) (K : oK_ D) (C : oC_ h.2.2.1 h D) (ht : t < d_t D) (hi : i < d_m D) : ∀ (d k m : Nat) (x : Int32), k + d = d_m D → ff_X7_alike_31 (nI t) (nI i) h (m + d + 1) x (nI k) = some (msk_ (fun k => all_ (fun j => !pt_ D t i k j) 4 0) d k x) := by
  have k1 := K.1
  intro d
  induction d with
  | zero =>
    intro k m x e
    rw [ff_X7_alike_31, gd_t B, show Int32.toNatClampNeg 0 = 0 from rfl, C.1, if_pos (nI_le (by omega) (by omega))]; rfl
  | succ d ih =>
    intro k m x e
    rw [show m + (d + 1) + 1 = (m + d + 1) + 1 by omega, ff_X7_alike_31, gd_t B, show Int32.toNatClampNeg 0 = 0 from rfl, C.1, if_neg (nI_ge (by omega) (by omega)), sem_C K C ht hi (by omega), Option.bind_some, nI_1, ih _ _ _ (by omega), ih _ _ _ (by omega), msk_]
    cases all_ (fun j => !pt_ D t i k j) 4 0 <;> rfl
theorem alm_1 {t i k : Nat} {x3 : Int32} {h : hh_} {KK : Int32 → Option Int32} : ∀ (d j m : Nat), j + d = 4 → ff_X8_alike_38 (nI t) (nI i) x3 (nI k) h KK (m + d + 1) 1 (nI j) = KK 1 := by
  intro d
  induction d with
  | zero =>
    intro j m e
    have e : j = 4 := by omega
    subst e
    rw [ff_X8_alike_38, if_pos (by decide)]
  | succ d ih =>
    intro j m e
    rw [show m + (d + 1) + 1 = (m + d + 1) + 1 by omega, ff_X8_alike_38, if_neg (show ¬ (4 : Int32) ≤ nI j from nI_ge (b := 4) (by omega) (by omega)), if_neg n10, nI_1]
    exact ih _ _ (by omega)
theorem alm_0 {t i k : Nat} {x3 : Int32} {h : hh_} {D : od_} {KK : Int32 → Option Int32} (K : oK_ D) (M : oM_ h D) (ht : t < d_t D) (hi : i < d_m D) (hk : k < d_m D) : ∀ (d j m : Nat), j + d = 4 → ff_X8_alike_38 (nI t) (nI i) x3 (nI k) h KK (m + d + 1) 0 (nI j) = KK (bI_ (!all_ (fun j => !pt_ D t i k j) d j)) := by
  intro d
  induction d with
  | zero =>
    intro j m e
    have e : j = 4 := by omega
    subst e
    rw [ff_X8_alike_38, if_pos (by decide)]; rfl
  | succ d ih =>
    intro j m e
    have hj : j < 4 := by omega
    rw [show m + (d + 1) + 1 = (m + d + 1) + 1 by omega, ff_X8_alike_38, if_neg (show ¬ (4 : Int32) ≤ nI j from nI_ge (b := 4) hj (by omega)), if_pos rfl, ap_M K M ht hk hi hj, Option.bind_some, nI_1, ih _ _ (by omega), alm_1 d _ _ (by omega), pt_c, all_]
    cases pt_ D t i k j <;> rfl
theorem ali_M {t i : Nat} {h : hh_} {D : od_} (K : oK_ D) (M : oM_ h D) (ht : t < d_t D) (hi : i < d_m D) : ∀ (d k m : Nat) (x : Int32), k + d = d_m D → ff_X8_alike_23 (nI t) (nI i) h (m + d + 1) x (nI k) = some (msk_ (fun k => all_ (fun j => !pt_ D t i k j) 4 0) d k x) := by
  have k1 := K.1
  obtain ⟨q, hq⟩ := fu_ 4 (by decide)
  intro d
  induction d with
  | zero =>
    intro k m x e
    rw [ff_X8_alike_23, M.1, if_pos (nI_le (by omega) (by omega))]; rfl
  | succ d ih =>
    intro k m x e
    rw [show m + (d + 1) + 1 = (m + d + 1) + 1 by omega, ff_X8_alike_23, M.1, if_neg (nI_ge (by omega) (by omega)), hq]
    refine (alm_0 K M ht hi (by omega) 4 0 q rfl).trans ?_
    rw [nI_1, or_0, ih _ _ _ (by omega), ih _ _ _ (by omega), msk_]
    cases all_ (fun j => !pt_ D t i k j) 4 0 <;> rfl
/-- 27: alike -/
theorem st_27 : sp_27 inv_ := by
  intro h a1 a2 H
  obtain ⟨hn, D, F, ds, n, K, C, M, -⟩ := H.2.2.2
  have k1 := K.1
  have B := H.2.2.2.nwB
  unfold ff_X7_alike ff_X8_alike
  rcases hs_1 a1 K C M with ⟨t, ht, rfl, c1, m1⟩ | ⟨c1, m1⟩
  · rcases hs_0 a2 K C M with ⟨i, hi, rfl, c2, m2⟩ | ⟨c2, m2⟩
    · obtain ⟨q, hq⟩ := fu_ (d_m D) (by omega)
      refine ⟨msk_ (fun k => all_ (fun j => !pt_ D t i k j) 4 0) (d_m D) 0 0, ?_, ?_, H⟩
      · rw [gd_t B, c1, Option.bind_some, if_neg n10, c2, Option.bind_some, if_neg n10, hq]
        exact ali_C B K C ht hi _ 0 q 0 (by omega)
      · rw [m1, if_neg n10, m2, if_neg n10, hq]
        exact ali_M K M ht hi _ 0 q 0 (by omega)
    · exact ⟨-1, by rw [gd_t B, c1, Option.bind_some, if_neg n10, c2, Option.bind_some, if_pos rfl], by rw [m1, if_neg n10, m2, if_pos rfl], H⟩
  · exact ⟨-1, by rw [gd_t B, c1, Option.bind_some, if_pos rfl], by rw [m1, if_pos rfl], H⟩
/-! suits -/
def su_ (D : od_) (t i p q j : Nat) : Bool := decide (d_P D p j ≤ lst_ D t i j (if j = q then 1 else 0))
def ly_ (D : od_) (t i p j : Nat) : Bool := decide (d_P D p j ≤ mst_ D t i j 0)
theorem sur_C {o t i p q : Nat} {a4 : Int32} {h : hh_} {D : od_} (K : oK_ D) (C : oC_ o h D) (ht : t < d_t D) (hi : i < d_m D) (hp : p < d_p D) (e4 : ∀ j, j < 4 → (nI j = a4 ↔ j = q)) : ∀ (d j m : Nat), j + d = 4 → ff_X2_isSure_3 o (nI t) (nI i) (nI p) a4 h (m + d + 1) (nI j) = some (bI_ (all_ (su_ D t i p q) d j)) := by
  have k3 := K.2.2.1
  intro d
  induction d with
  | zero =>
    intro j m e
    have e : j = 4 := by omega
    subst e
    rw [ff_X2_isSure_3, if_pos (by decide)]; rfl
  | succ d ih =>
    intro j m e
    have hj : j < 4 := by omega
    have l3 := (K.2.2.2.2.2.2 p hp).1 j hj
    have l5 := (K.2.2.2.2.1 i hi).1 j hj
    rw [show m + (d + 1) + 1 = (m + d + 1) + 1 by omega, ff_X2_isSure_3, if_neg (show ¬ (4 : Int32) ≤ nI j from nI_ge (b := 4) hj (by omega)), all_]
    unfold ff_X2_isSure_26
    have s0 : su_ D t i p q j = decide (d_P D p j ≤ lst_ D t i j (if j = q then 1 else 0)) := rfl
    rw [s0]
    by_cases e2 : j = q
    · have l1 := lst_le K (t := t) (x := 1) hi hj
      rw [if_pos ((e4 j hj).mpr e2), if_pos e2, show (1 : Int32) = nI 1 from rfl, ls_C K C ht hi hj (by omega), Option.bind_some, gd_n (by omega) (by decide), gd_n (by omega) (by decide), nI_clamp (show p < 2 ^ 31 by omega), nI_clamp (show j < 2 ^ 31 by omega), C.2.2.2.2.2 p hp j (by omega), nI_add]
      dsimp only
      rw [ih _ _ (by omega)]
      by_cases e3 : d_P D p j ≤ lst_ D t i j 1
      · rw [if_pos (nI_le e3 (by omega)), decide_eq_true e3, Bool.true_and]
      · rw [if_neg (nI_ge (by omega) (by omega)), decide_eq_false e3, Bool.false_and]; rfl
    · have l1 := lst_le K (t := t) (x := 0) hi hj
      rw [if_neg (fun w => e2 ((e4 j hj).mp w)), if_neg e2, ls_C0 K C ht hi hj, Option.bind_some, gd_n (by omega) (by decide), gd_n (by omega) (by decide), nI_clamp (show p < 2 ^ 31 by omega), nI_clamp (show j < 2 ^ 31 by omega), C.2.2.2.2.2 p hp j (by omega), nI_1]
      dsimp only
      rw [ih _ _ (by omega)]
      by_cases e3 : d_P D p j ≤ lst_ D t i j 0
      · rw [if_pos (nI_le e3 (by omega)), decide_eq_true e3, Bool.true_and]
      · rw [if_neg (nI_ge (by omega) (by omega)), decide_eq_false e3, Bool.false_and]; rfl
theorem e4_9 : ∀ j, j < 4 → (nI j = (-9 : Int32) ↔ j = 9) := by decide +kernel
/-- sure, no PAD -/
theorem su_C {o t i p : Nat} {h : hh_} {D : od_} (K : oK_ D) (C : oC_ o h D) (ht : t < d_t D) (hi : i < d_m D) (hp : p < d_p D) : ff_X2_isSure o (nI t) (nI i) (nI p) (-9) h = some (bI_ (all_ (su_ D t i p 9) 4 0)) := by
  unfold ff_X2_isSure
  obtain ⟨q, hq⟩ := fu_ 4 (by decide)
  rw [hq]
  exact sur_C K C ht hi hp e4_9 4 0 q rfl
theorem suq_C {o t i p q : Nat} {h : hh_} {D : od_} (K : oK_ D) (C : oC_ o h D) (ht : t < d_t D) (hi : i < d_m D) (hp : p < d_p D) (hq : q < 4) : ff_X2_isSure o (nI t) (nI i) (nI p) (nI q) h = some (bI_ (all_ (su_ D t i p q) 4 0)) := by
  unfold ff_X2_isSure
  obtain ⟨k, hk⟩ := fu_ 4 (by decide)
  rw [hk]
  exact sur_C K C ht hi hp (fun j hj => nI_eq (by omega) (by omega)) 4 0 k rfl
theorem luc_C {o t i p : Nat} {h : hh_} {D : od_} (K : oK_ D) (C : oC_ o h D) (ht : t < d_t D) (hi : i < d_m D) (hp : p < d_p D) : ∀ (d j m : Nat), j + d = 4 → ff_X2_isLucky_3 o (nI t) (nI i) (nI p) h (m + d + 1) (nI j) = some (bI_ (all_ (ly_ D t i p) d j)) := by
  have k3 := K.2.2.1
  intro d
  induction d with
  | zero =>
    intro j m e
    have e : j = 4 := by omega
    subst e
    rw [ff_X2_isLucky_3, if_pos (by decide)]; rfl
  | succ d ih =>
    intro j m e
    have hj : j < 4 := by omega
    have l3 := (K.2.2.2.2.2.2 p hp).1 j hj
    have l1 := mst_le K (t := t) (x := 0) ht hi hj
    rw [show m + (d + 1) + 1 = (m + d + 1) + 1 by omega, ff_X2_isLucky_3, if_neg (show ¬ (4 : Int32) ≤ nI j from nI_ge (b := 4) hj (by omega)), all_, ms_C0 K C ht hi hj, Option.bind_some, gd_n (by omega) (by decide), gd_n (by omega) (by decide), nI_clamp (show p < 2 ^ 31 by omega), nI_clamp (show j < 2 ^ 31 by omega), C.2.2.2.2.2 p hp j (by omega), nI_1, ih _ _ (by omega)]
    unfold ly_
    by_cases e3 : d_P D p j ≤ mst_ D t i j 0
    · rw [if_pos (nI_le e3 (by omega)), decide_eq_true e3, Bool.true_and]
    · rw [if_neg (nI_ge (by omega) (by omega)), decide_eq_false e3, Bool.false_and]; rfl
theorem lu_C {o t i p : Nat} {h : hh_} {D : od_} (K : oK_ D) (C : oC_ o h D) (ht : t < d_t D) (hi : i < d_m D) (hp : p < d_p D) : ff_X2_isLucky o (nI t) (nI i) (nI p) h = some (bI_ (all_ (ly_ D t i p) 4 0)) := by
  unfold ff_X2_isLucky
  obtain ⟨q, hq⟩ := fu_ 4 (by decide)
  rw [hq]
  exact luc_C K C ht hi hp 4 0 q rfl
theorem so_M {t i p : Nat} {h : hh_} {D : od_} {KK : Int32 → Int32 → Option Int32} (K : oK_ D) (M : oM_ h D) (ht : t < d_t D) (hi : i < d_m D) (hp : p < d_p D) : ∀ (d j m : Nat) (a b : Bool), j + d = 4 → ff_X8_suitsOf_9 (nI t) (nI i) (nI p) h KK (m + d + 1) (bI_ a) (bI_ b) (nI j) = KK (bI_ (a && all_ (su_ D t i p 9) d j)) (bI_ (b && all_ (ly_ D t i p) d j)) := by
  intro d
  induction d with
  | zero =>
    intro j m a b e
    have e : j = 4 := by omega
    subst e
    rw [ff_X8_suitsOf_9, if_pos (by decide), all_, all_, Bool.and_true, Bool.and_true]
  | succ d ih =>
    intro j m a b e
    have hj : j < 4 := by omega
    have l3 := (K.2.2.2.2.2.2 p hp).1 j hj
    have l1 := mst_le K (t := t) (x := 0) ht hi hj
    have l2 := lst_le K (t := t) (x := 0) hi hj
    have st1 : ∀ b : Bool, ∀ (y : Bool), ff_X8_suitsOf_43 (nI t) (nI i) (nI p) (bI_ b) (nI j) (bI_ y) h (fun z4 z5 z6 => ff_X8_suitsOf_9 (nI t) (nI i) (nI p) h KK (m + d + 1) z4 z5 z6) = KK (bI_ (y && all_ (su_ D t i p 9) d (j + 1))) (bI_ (b && all_ (ly_ D t i p) (d + 1) j)) := by
      intro b y
      unfold ff_X8_suitsOf_43
      rw [all_]
      cases b with
      | false =>
        rw [if_pos (show bI_ false = 0 from rfl), nI_1]
        exact (ih (j + 1) m y false (by omega)).trans (by rw [Bool.false_and, Bool.false_and])
      | true =>
        rw [if_neg (by decide), ms_M K M ht hi hj, Option.bind_some, nd_M K M hp (by omega), Option.bind_some, nI_1]
        by_cases e3 : mst_ D t i j 0 < d_P D p j
        · rw [if_pos (nI_lt e3 (by omega)), show ly_ D t i p j = false from decide_eq_false (by omega)]
          exact (ih (j + 1) m y false (by omega)).trans (by simp only [Bool.false_and, Bool.and_false])
        · rw [if_neg (nI_nlt (by omega) (by omega)), show ly_ D t i p j = true from decide_eq_true (by omega)]
          exact (ih (j + 1) m y true (by omega)).trans (by rw [Bool.true_and, Bool.true_and])
    rw [show m + (d + 1) + 1 = (m + d + 1) + 1 by omega, ff_X8_suitsOf_9, if_neg (show ¬ (4 : Int32) ≤ nI j from nI_ge (b := 4) hj (by omega))]
    unfold ff_X8_suitsOf_42
    cases a with
    | false =>
      rw [if_pos (show bI_ false = 0 from rfl)]
      exact (st1 b false).trans (by rw [Bool.false_and, Bool.false_and])
    | true =>
      have e9 : ¬ j = 9 := by omega
      rw [if_neg (by decide), ls_M K M ht hi hj, Option.bind_some, nd_M K M hp (by omega), Option.bind_some, show all_ (su_ D t i p 9) (d + 1) j = (su_ D t i p 9 j && all_ (su_ D t i p 9) d (j + 1)) from rfl]
      by_cases e3 : lst_ D t i j 0 < d_P D p j
      · rw [if_pos (nI_lt e3 (by omega)), show su_ D t i p 9 j = false from by unfold su_; rw [if_neg e9]; exact decide_eq_false (by omega)]
        exact (st1 b false).trans (by simp only [Bool.false_and, Bool.and_false])
      · rw [if_neg (nI_nlt (by omega) (by omega)), show su_ D t i p 9 j = true from by unfold su_; rw [if_neg e9]; exact decide_eq_true (by omega)]
        exact (st1 b true).trans (by rw [Bool.true_and, Bool.true_and])
def st2_ (D : od_) (t i p : Nat) : Int32 := if all_ (su_ D t i p 9) 4 0 = true then 2 else if all_ (ly_ D t i p) 4 0 = true then 1 else 0
theorem sv_M {t i p : Nat} {h : hh_} {D : od_} (K : oK_ D) (M : oM_ h D) (ht : t < d_t D) (hi : i < d_m D) (hp : p < d_p D) : ff_X8_suitsOf (nI t) (nI i) (nI p) h = some (st2_ D t i p) := by
  unfold ff_X8_suitsOf
  obtain ⟨q, hq⟩ := fu_ 4 (by decide)
  rw [hq]
  refine (so_M K M ht hi hp 4 0 q true true rfl).trans ?_
  rw [Bool.true_and, Bool.true_and]
  unfold st2_
  cases all_ (su_ D t i p 9) 4 0 <;> cases all_ (ly_ D t i p) 4 0 <;> rfl
/-- 28: suits -/
theorem st_28 : sp_28 inv_ := by
  intro h a1 a2 a3 H
  obtain ⟨hn, D, F, ds, n, K, C, M, -⟩ := H.2.2.2
  have k1 := K.1
  have B := H.2.2.2.nwB
  unfold ff_X7_suits ff_X8_suits
  rcases hs_1 a1 K C M with ⟨t, ht, rfl, c1, m1⟩ | ⟨c1, m1⟩
  · rcases hs_0 a2 K C M with ⟨i, hi, rfl, c2, m2⟩ | ⟨c2, m2⟩
    · rcases hs_2 a3 K C M with ⟨p, hp, rfl, c3, m3⟩ | ⟨c3, m3⟩
      · refine ⟨st2_ D t i p, ?_, ?_, H⟩
        · rw [gd_t B, c1, Option.bind_some, if_neg n10, c2, Option.bind_some, if_neg n10, c3, Option.bind_some, if_neg n10, su_C K C ht hi hp, Option.bind_some, lu_C K C ht hi hp, Option.bind_some]
          unfold st2_
          cases all_ (su_ D t i p 9) 4 0 <;> cases all_ (ly_ D t i p) 4 0 <;> rfl
        · rw [m1, if_neg n10, m2, if_neg n10, m3, if_neg n10, sv_M K M ht hi hp]; rfl
      · exact ⟨-1, by rw [gd_t B, c1, Option.bind_some, if_neg n10, c2, Option.bind_some, if_neg n10, c3, Option.bind_some, if_pos rfl], by rw [m1, if_neg n10, m2, if_neg n10, m3, if_pos rfl], H⟩
    · exact ⟨-1, by rw [gd_t B, c1, Option.bind_some, if_neg n10, c2, Option.bind_some, if_pos rfl], by rw [m1, if_neg n10, m2, if_pos rfl], H⟩
  · exact ⟨-1, by rw [gd_t B, c1, Option.bind_some, if_pos rfl], by rw [m1, if_pos rfl], H⟩
/-! look -/
def cn_ (p : Nat → Bool) : Nat → Nat → Nat → Nat
  | 0, _, x => x
  | d + 1, k, x => cn_ p d (k + 1) (if p k = true then x + 1 else x)
def cC_ (p : Nat → Nat → Bool) : Nat → Nat → Nat → Nat
  | 0, _, x => x
  | d + 1, i, x => cC_ p d (i + 1) (cn_ (p i) i 0 x)
def cM_ (p : Nat → Nat → Bool) (m : Nat) : Nat → Nat → Nat → Nat
  | 0, _, x => x
  | d + 1, i, x => cM_ p m d (i + 1) (cn_ (p i) (m - (i + 1)) (i + 1) x)
theorem lo_C1 {o t j i : Nat} {h : hh_} {D : od_} {KK : Int32 → Option Int32} (K : oK_ D) (C : oC_ o h D) (ht : t < d_t D) (hj : j < 4) (hi : i < d_m D) : ∀ (d k m x : Nat), k + d = i → ff_X2_pairsApart_19 o (nI t) (nI j) (nI i) h KK (m + d + 1) (nI x) (nI k) = KK (nI (cn_ (fun k => pt_ D t i k j) d k x)) := by
  have k1 := K.1
  intro d
  induction d with
  | zero =>
    intro k m x e
    rw [ff_X2_pairsApart_19, if_pos (nI_le (by omega) (by omega))]; rfl
  | succ d ih =>
    intro k m x e
    rw [show m + (d + 1) + 1 = (m + d + 1) + 1 by omega, ff_X2_pairsApart_19, if_neg (nI_ge (by omega) (by omega)), ap_C K C ht hi (by omega) hj, Option.bind_some, nI_1, nI_1, show nI x + (0 : Int32) = nI x from nI_add x 0, ih _ _ _ (by omega), ih _ _ _ (by omega), cn_]
    cases pt_ D t i k j <;> rfl
theorem lo_C2 {o t j : Nat} {h : hh_} {D : od_} (K : oK_ D) (C : oC_ o h D) (ht : t < d_t D) (hj : j < 4) : ∀ (d i m x : Nat), i + d = d_m D → ff_X2_pairsApart_5 o (nI t) (nI j) h (m + d + 1) (nI x) (nI i) = some (nI (cC_ (fun i k => pt_ D t i k j) d i x)) := by
  have k1 := K.1
  intro d
  induction d with
  | zero =>
    intro i m x e
    rw [ff_X2_pairsApart_5, show Int32.toNatClampNeg 0 = 0 from rfl, C.1, if_pos (nI_le (by omega) (by omega))]; rfl
  | succ d ih =>
    intro i m x e
    obtain ⟨q, hq⟩ := fu_ i (by omega)
    rw [show m + (d + 1) + 1 = (m + d + 1) + 1 by omega, ff_X2_pairsApart_5, show Int32.toNatClampNeg 0 = 0 from rfl, C.1, if_neg (nI_ge (by omega) (by omega)), hq]
    refine (lo_C1 K C ht hj (by omega) i 0 q x (by omega)).trans ?_
    rw [nI_1, ih _ _ _ (by omega)]; rfl
theorem lo_C3 {o t j : Nat} {h : hh_} {D : od_} (K : oK_ D) (C : oC_ o h D) (ht : t < d_t D) (hj : j < 4) : ff_X2_pairsApart o (nI t) (nI j) h = some (nI (cC_ (fun i k => pt_ D t i k j) (d_m D) 0 0)) := by
  have k1 := K.1
  unfold ff_X2_pairsApart
  obtain ⟨q, hq⟩ := fu_ (d_m D) (by omega)
  rw [hq]
  exact lo_C2 K C ht hj _ 0 q 0 (by omega)
theorem lo_M1 {t j i : Nat} {x2 x3 : Int32} {h : hh_} {D : od_} {KK : Int32 → Option (Int32 × hh_)} (K : oK_ D) (M : oM_ h D) (ht : t < d_t D) (hj : j < 4) (hi : i < d_m D) : ∀ (d k m x : Nat), k + d = d_m D → ff_X8_look_44 (nI t) x2 x3 (nI j) (nI i) h KK (m + d + 1) (nI x) (nI k) = KK (nI (cn_ (fun k => pt_ D t i k j) d k x)) := by
  have k1 := K.1
  intro d
  induction d with
  | zero =>
    intro k m x e
    rw [ff_X8_look_44, M.1, if_pos (nI_le (by omega) (by omega))]; rfl
  | succ d ih =>
    intro k m x e
    rw [show m + (d + 1) + 1 = (m + d + 1) + 1 by omega, ff_X8_look_44, M.1, if_neg (nI_ge (by omega) (by omega)), ap_M K M ht hi (by omega) hj, Option.bind_some, nI_1, nI_1, show nI x + (0 : Int32) = nI x from nI_add x 0, ih _ _ _ (by omega), ih _ _ _ (by omega), cn_]
    cases pt_ D t i k j <;> rfl
theorem lo_M2 {t j : Nat} {x2 x3 : Int32} {h : hh_} {D : od_} {KK : Int32 → Option (Int32 × hh_)} (K : oK_ D) (M : oM_ h D) (ht : t < d_t D) (hj : j < 4) : ∀ (d i m x : Nat), i + d = d_m D → ff_X8_look_29 (nI t) x2 x3 (nI j) h KK (m + d + 1) (nI x) (nI i) = KK (nI (cM_ (fun i k => pt_ D t i k j) (d_m D) d i x)) := by
  have k1 := K.1
  intro d
  induction d with
  | zero =>
    intro i m x e
    rw [ff_X8_look_29, M.1, if_pos (nI_le (by omega) (by omega))]; rfl
  | succ d ih =>
    intro i m x e
    obtain ⟨q, hq⟩ := fu_ (d_m D - (i + 1)) (by omega)
    rw [show m + (d + 1) + 1 = (m + d + 1) + 1 by omega, ff_X8_look_29, M.1, if_neg (nI_ge (by omega) (by omega)), hq, nI_1]
    refine (lo_M1 K M ht hj (by omega) (d_m D - (i + 1)) (i + 1) q x (by omega)).trans ?_
    rw [ih _ _ _ (by omega)]; rfl
theorem cn_b {p : Nat → Bool} : ∀ (d k x : Nat), x ≤ cn_ p d k x ∧ cn_ p d k x ≤ x + d := by
  intro d
  induction d with
  | zero => intro k x; exact ⟨Nat.le_refl _, Nat.le_refl _⟩
  | succ d ih =>
    intro k x
    rw [cn_]
    cases p k
    · have := ih (k + 1) x
      rw [if_neg (by decide)]; omega
    · have := ih (k + 1) (x + 1)
      rw [if_pos rfl]; omega
theorem cn_x {p : Nat → Bool} : ∀ (d k x : Nat), cn_ p d k x = x + cn_ p d k 0 := by
  intro d
  induction d with
  | zero => intro k x; rfl
  | succ d ih =>
    intro k x
    rw [cn_, cn_, ih, ih _ (if p k = true then 0 + 1 else 0)]
    cases p k <;> simp only [if_true, Bool.false_eq_true, if_false] <;> omega
theorem cn_s {p : Nat → Bool} (d k x : Nat) : cn_ p (d + 1) k x = cn_ p d (k + 1) 0 + (x + (if p k = true then 1 else 0)) := by
  rw [cn_, cn_x]
  cases p k <;> simp only [if_true, Bool.false_eq_true, if_false] <;> omega
theorem cp_eq {p : Nat → Nat → Bool} (hp : ∀ i k, p i k = p k i) : ∀ m, m ≤ 5 → cC_ p m 0 0 = cM_ p m m 0 0 := by
  intro m hm
  have h10 := hp 1 0
  have h20 := hp 2 0
  have h30 := hp 3 0
  have h40 := hp 4 0
  have h21 := hp 2 1
  have h31 := hp 3 1
  have h41 := hp 4 1
  have h32 := hp 3 2
  have h42 := hp 4 2
  have h43 := hp 4 3
  rcases (show m = 0 ∨ m = 1 ∨ m = 2 ∨ m = 3 ∨ m = 4 ∨ m = 5 by omega) with rfl | rfl | rfl | rfl | rfl | rfl
  · rfl
  · rfl
  all_goals
    simp only [cC_, cM_, cn_s, show cn_ = cn_ from rfl, Nat.reduceSub, Nat.reduceAdd]
    simp only [cn_]
    rw [h10]
    try rw [h20]
    try rw [h30]
    try rw [h40]
    try rw [h21]
    try rw [h31]
    try rw [h41]
    try rw [h32]
    try rw [h42]
    try rw [h43]
    try omega
theorem cC_b {p : Nat → Nat → Bool} : ∀ (d i x : Nat), i + d ≤ 5 → cC_ p d i x ≤ x + d * 5 := by
  intro d
  induction d with
  | zero => intro i x _; exact Nat.le_refl _
  | succ d ih =>
    intro i x e
    have h1 := ih (i + 1) (cn_ (p i) i 0 x) (by omega)
    have h2 := (cn_b (p := p i) i 0 x).2
    rw [cC_]
    omega
def lov_ (D : od_) (t j : Nat) : Nat := cC_ (fun i k => pt_ D t i k j) (d_m D) 0 0
theorem lov_b {D : od_} (K : oK_ D) (t j : Nat) : lov_ D t j ≤ 25 := by
  have k1 := K.1
  have := cC_b (p := fun i k => pt_ D t i k j) (d_m D) 0 0 (by omega)
  unfold lov_
  omega
def lof_ (f : Nat → Nat) : Nat → Nat → Nat → Nat → Nat × Nat
  | 0, _, x, y => (x, y)
  | d + 1, j, x, y => if f j ≤ y then lof_ f d (j + 1) x y else lof_ f d (j + 1) j (f j)
theorem lok_C {t : Nat} {h : hh_} {D : od_} (B : bo_ h.2.2.1 = true) (K : oK_ D) (C : oC_ h.2.2.1 h D) (ht : t < d_t D) : ∀ (d j m x y : Nat), j + d = 4 → y ≤ 25 → ff_X7_look_21 (nI t) h (m + d + 1) (nI x) (nI y) (nI j) = some (anC_ 1 (nI (lof_ (lov_ D t) d j x y).1) (nI (lof_ (lov_ D t) d j x y).2) h) := by
  intro d
  induction d with
  | zero =>
    intro j m x y e hy
    have e : j = 4 := by omega
    subst e
    rw [ff_X7_look_21, if_pos (by decide)]; rfl
  | succ d ih =>
    intro j m x y e hy
    have hj : j < 4 := by omega
    have b := lov_b K t j
    rw [show m + (d + 1) + 1 = (m + d + 1) + 1 by omega, ff_X7_look_21, if_neg (show ¬ (4 : Int32) ≤ nI j from nI_ge (b := 4) hj (by omega)), gd_t B, lo_C3 K C ht hj, Option.bind_some, show cC_ (fun i k => pt_ D t i k j) (d_m D) 0 0 = lov_ D t j from rfl, nI_1, ih _ _ _ _ (by omega) hy, ih _ _ _ _ (by omega) b, lof_]
    by_cases e2 : lov_ D t j ≤ y
    · rw [if_pos (nI_le e2 (by omega)), if_pos e2]
    · rw [if_neg (nI_ge (by omega) (by omega)), if_neg e2]
theorem lok_M {t : Nat} {h : hh_} {D : od_} (K : oK_ D) (M : oM_ h D) (ht : t < d_t D) : ∀ (d j m x y : Nat), j + d = 4 → y ≤ 25 → ff_X8_look_17 (nI t) h (m + d + 1) (nI x) (nI y) (nI j) = some (anM_ 1 (nI (lof_ (lov_ D t) d j x y).1) (nI (lof_ (lov_ D t) d j x y).2) h) := by
  have k1 := K.1
  obtain ⟨q, hq⟩ := fu_ (d_m D) (by omega)
  intro d
  induction d with
  | zero =>
    intro j m x y e hy
    have e : j = 4 := by omega
    subst e
    rw [ff_X8_look_17, if_pos (by decide)]; rfl
  | succ d ih =>
    intro j m x y e hy
    have hj : j < 4 := by omega
    have b := lov_b K t j
    rw [show m + (d + 1) + 1 = (m + d + 1) + 1 by omega, ff_X8_look_17, if_neg (show ¬ (4 : Int32) ≤ nI j from nI_ge (b := 4) hj (by omega)), hq]
    refine (lo_M2 K M ht hj (d_m D) 0 q 0 (by omega)).trans ?_
    rw [← cp_eq (fun i k => pt_c) _ k1, show cC_ (fun i k => pt_ D t i k j) (d_m D) 0 0 = lov_ D t j from rfl, nI_1, gr_i (by omega) (by omega), lof_]
    by_cases e2 : lov_ D t j ≤ y
    · rw [if_pos (nI_le e2 (by omega)), if_pos e2, Nat.max_eq_right e2, ih _ _ _ _ (by omega) hy]
    · rw [if_neg (nI_ge (by omega) (by omega)), if_neg e2, Nat.max_eq_left (by omega), ih _ _ _ _ (by omega) b]
/-- 26: look -/
theorem st_26 : sp_26 inv_ := by
  intro h a1 H
  obtain ⟨hn, D, F, ds, n, K, C, M, -⟩ := H.2.2.2
  have B := H.2.2.2.nwB
  rcases hs_1 a1 K C M with ⟨t, ht, rfl, c1, m1⟩ | ⟨c1, m1⟩
  · obtain ⟨k, hk⟩ := fu_ 4 (by decide)
    have b := lov_b K t 0
    refine rd_ H 1 (nI (lof_ (lov_ D t) 3 1 0 (lov_ D t 0)).1) (nI (lof_ (lov_ D t) 3 1 0 (lov_ D t 0)).2) (by decide) ?_ (fun h' S => ?_)
    · unfold ff_X7_look
      rw [gd_t B, c1, Option.bind_some, if_neg n10, hk, show k + 4 + 1 = (k + 3 + 1) + 1 by omega, ff_X7_look_21, if_neg (by decide), gd_t B, show (0 : Int32) = nI 0 from rfl, lo_C3 K C ht (by decide), Option.bind_some, show cC_ (fun i k => pt_ D t i k 0) (d_m D) 0 0 = lov_ D t 0 from rfl, nI_1, lok_C B K C ht 3 _ k _ _ (by decide) b, if_neg]
      rw [Int32.le_iff_toInt_le, nI_toInt (by omega), show (-1 : Int32).toInt = -1 from rfl]
      omega
    · unfold ff_X8_look
      rw [S.iT (D := D) m1, if_neg n10, hk, show (0 : Int32) = nI 0 from rfl, lok_M K (S.oM M) ht 4 0 k 0 0 (by omega) (by omega), lof_]
      by_cases e : lov_ D t 0 ≤ 0
      · rw [if_pos e, show lov_ D t 0 = 0 by omega]
      · rw [if_neg e]
  · refine rd_ H 0 (-1) 0 (by decide) ?_ (fun h' S => ?_)
    · unfold ff_X7_look
      rw [gd_t B, c1, Option.bind_some, if_pos rfl]; rfl
    · unfold ff_X8_look
      rw [S.iT (D := D) m1, if_pos rfl]; rfl
end
section
/-! ===== pads, all, finds, posts ===== -/
theorem sI_sI {h : hh_} {a i : Nat} {v w : Int32} : hh_sI (hh_sI h a i v) a i w = hh_sI h a i w := by
  refine hh_ext (fun k x => ?_) (fun _ _ => rfl) rfl
  by_cases e : k = a
  · subst e
    rw [sI_if, sI_if, sI_if]
    by_cases e2 : x = i
    · rw [if_pos e2, if_pos e2]
    · rw [if_neg e2, if_neg e2, if_neg e2]
  · rw [sI_ne e, sI_ne e, sI_ne e]
theorem sI_self {h : hh_} {a i : Nat} {v : Int32} (e : h.1 a i = v) : hh_sI h a i v = h := by
  refine hh_ext (fun k x => ?_) (fun _ _ => rfl) rfl
  by_cases e1 : k = a
  · subst e1
    rw [sI_if]
    by_cases e2 : x = i
    · rw [if_pos e2, e2, e]
    · rw [if_neg e2]
  · rw [sI_ne e1]
/-- a BUMP changed -/
def up_ (D : od_) (i j v : Nat) : od_ := (D.1, D.2.1, D.2.2.1, fun a b => if a = i ∧ b = j then v else d_H D a b, D.2.2.2.2)
theorem up_H {D : od_} {i j v : Nat} (a b : Nat) : d_H (up_ D i j v) a b = if a = i ∧ b = j then v else d_H D a b := rfl
theorem up_K {D : od_} (K : oK_ D) {i j v : Nat} (hj : j < 4) (hv : v ≤ 5) : oK_ (up_ D i j v) := by
  refine ⟨K.1, K.2.1, K.2.2.1, K.2.2.2.1, fun a ha => ⟨fun b hb => ?_, ?_⟩, K.2.2.2.2.2.1, K.2.2.2.2.2.2⟩
  · rw [up_H]
    by_cases e : a = i ∧ b = j
    · rw [if_pos e]; exact hv
    · rw [if_neg e]; exact (K.2.2.2.2.1 a ha).1 b hb
  · rw [up_H, if_neg (by omega)]
    exact (K.2.2.2.2.1 a ha).2
theorem up_M {h : hh_} {D : od_} (M : oM_ h D) {i j v : Nat} (hj : j < 5) : oM_ (hh_sI h 105 (5 * i + j) (nI v)) (up_ D i j v) := by
  refine ⟨?_, ?_, ?_, fun a ha b hb => ?_, fun t ht b hb => ?_, fun p hp b hb => ?_⟩
  · rw [sI_ne (by decide)]; exact M.1
  · rw [sI_ne (by decide)]; exact M.2.1
  · rw [sI_ne (by decide)]; exact M.2.2.1
  · rw [up_H]
    by_cases e : a = i ∧ b = j
    · rw [if_pos e, e.1, e.2, sI_eq]
    · rw [if_neg e, sI_nj (by omega)]
      exact M.2.2.2.1 a ha b hb
  · rw [sI_ne (by decide)]; exact M.2.2.2.2.1 t ht b hb
  · rw [sI_ne (by decide)]; exact M.2.2.2.2.2 p hp b hb
theorem up_fe {D : od_} {i j b x : Nat} (hb : d_H D i j = b) (hj : j < 4) : fe_ (up_ D i j (b + x)) i j 0 = fe_ D i j x := by
  unfold fe_
  rw [up_H, up_H, if_neg (show ¬ (i = i ∧ 4 = j) by omega), if_pos (show i = i ∧ j = j from ⟨rfl, rfl⟩), hb]
  rfl
theorem up_ls {D : od_} {t i j b x : Nat} (hb : d_H D i j = b) (hj : j < 4) : lst_ (up_ D i j (b + x)) t i j 0 = lst_ D t i j x := by
  unfold lst_ mid_
  rw [up_fe hb hj]
  rfl
theorem up_ms {D : od_} {t i j b x : Nat} (hb : d_H D i j = b) (hj : j < 4) : mst_ (up_ D i j (b + x)) t i j 0 = mst_ D t i j x := by
  unfold mst_ mid_
  rw [up_fe hb hj]
  rfl
/-- the first that will do -/
def fw_ (p : Nat → Bool) : Nat → Nat → Option Nat
  | 0, _ => none
  | d + 1, x => if p x = true then some x else fw_ p d (x + 1)
def oI_ : Option Nat → Int32
  | none => -9
  | some x => nI x
theorem fw_b {p : Nat → Bool} : ∀ (d x v : Nat), fw_ p d x = some v → v < x + d := by
  intro d
  induction d with
  | zero => intro x v e; exact absurd e (by rw [fw_]; exact fun q => nomatch q)
  | succ d ih =>
    intro x v e
    rw [fw_] at e
    by_cases q : p x = true
    · rw [if_pos q] at e
      injection e with e
      omega
    · rw [if_neg q] at e
      have := ih _ _ e
      omega
def pd_ (D : od_) (t i p j x : Nat) : Bool := decide (d_P D p j ≤ lst_ D t i j x)
/-- PADS needed at a place -/
def pn_ (D : od_) (t i p j : Nat) : Option Nat := fw_ (pd_ D t i p j) (6 - d_H D i j) 0
theorem fp_C {o t i p j : Nat} {h : hh_} {D : od_} (K : oK_ D) (C : oC_ o h D) (ht : t < d_t D) (hi : i < d_m D) (hp : p < d_p D) (hj : j < 4) : ∀ (d x m : Nat), d_H D i j + x + d = 6 → ff_X2_fewestPads_3 o (nI t) (nI i) (nI p) (nI j) h (m + d + 1) (nI x) = some (oI_ (fw_ (pd_ D t i p j) d x)) := by
  have k1 := K.1
  have k3 := K.2.2.1
  have l3 := (K.2.2.2.2.2.2 p hp).1 j hj
  have l5 := (K.2.2.2.2.1 i hi).1 j hj
  intro d
  induction d with
  | zero =>
    intro x m e
    rw [ff_X2_fewestPads_3, gd_n (by omega) (by decide), gd_n (by omega) (by decide), nI_clamp (by omega), nI_clamp (by omega), C.2.2.2.1 i hi j (by omega), nI_add, if_pos (show (5 : Int32) < nI (d_H D i j + x) from nI_lt (a := 5) (by omega) (by omega))]; rfl
  | succ d ih =>
    intro x m e
    have l1 := lst_le K (t := t) (x := x) hi hj
    rw [show m + (d + 1) + 1 = (m + d + 1) + 1 by omega, ff_X2_fewestPads_3, gd_n (by omega) (by decide), gd_n (by omega) (by decide), nI_clamp (show i < 2 ^ 31 by omega), nI_clamp (show j < 2 ^ 31 by omega), C.2.2.2.1 i hi j (by omega), nI_add, if_neg (show ¬ (5 : Int32) < nI (d_H D i j + x) from nI_nlt (a := 5) (by omega) (by omega)), ls_C K C ht hi hj (by omega), Option.bind_some, gd_n (by omega) (by decide), nI_clamp (show p < 2 ^ 31 by omega), C.2.2.2.2.2 p hp j (by omega), nI_1, ih _ _ (by omega), fw_]
    unfold pd_
    by_cases e3 : lst_ D t i j x < d_P D p j
    · rw [if_pos (nI_lt e3 (by omega)), decide_eq_false (by omega), if_neg (by decide)]
    · rw [if_neg (nI_nlt (by omega) (by omega)), decide_eq_true (p := d_P D p j ≤ lst_ D t i j x) (by omega), if_pos rfl]; rfl
theorem fpn_C {o t i p j : Nat} {h : hh_} {D : od_} (K : oK_ D) (C : oC_ o h D) (ht : t < d_t D) (hi : i < d_m D) (hp : p < d_p D) (hj : j < 4) : ff_X2_fewestPads o (nI t) (nI i) (nI p) (nI j) h = some (oI_ (pn_ D t i p j)) := by
  have l5 := (K.2.2.2.2.1 i hi).1 j hj
  unfold ff_X2_fewestPads
  obtain ⟨q, hq⟩ := fu_ (6 - d_H D i j) (by omega)
  rw [hq]
  exact fp_C K C ht hi hp hj _ 0 q (by omega)
theorem fp_M {t i p j : Nat} {h : hh_} {D : od_} (K : oK_ D) (M : oM_ h D) (ht : t < d_t D) (hi : i < d_m D) (hp : p < d_p D) (hj : j < 4) : ∀ (e m : Nat) (h' : hh_), d_H D i j + e ≤ 5 → (∀ v, hh_sI h' 105 (5 * i + j) v = hh_sI h 105 (5 * i + j) v) → ff_X8_padsAt_16 (nI t) (nI i) (nI p) (nI j) (nI (d_H D i j)) (m + e + 1 + 1) (oI_ (fw_ (pd_ D t i p j) (5 - d_H D i j - e) (e + 1))) (nI (d_H D i j + e)) h' = some (oI_ (pn_ D t i p j), h) := by
  have k1 := K.1
  have k3 := K.2.2.1
  have l3 := (K.2.2.2.2.2.2 p hp).1 j hj
  have l5 := (K.2.2.2.2.1 i hi).1 j hj
  have cH := M.2.2.2.1 i hi j (by omega)
  have stp : ∀ (e m : Nat) (h' : hh_), d_H D i j + e ≤ 5 → (∀ v, hh_sI h' 105 (5 * i + j) v = hh_sI h 105 (5 * i + j) v) → ff_X8_padsAt_16 (nI t) (nI i) (nI p) (nI j) (nI (d_H D i j)) (m + 1) (oI_ (fw_ (pd_ D t i p j) (5 - d_H D i j - e) (e + 1))) (nI (d_H D i j + e)) h' = ff_X8_padsAt_16 (nI t) (nI i) (nI p) (nI j) (nI (d_H D i j)) m (oI_ (fw_ (pd_ D t i p j) (6 - d_H D i j - e) e)) (nI (d_H D i j + e) + (-1)) (hh_sI h 105 (5 * i + j) (nI (d_H D i j + e))) := by
    intro e m h' he hh
    have K' := up_K K (i := i) (j := j) (v := d_H D i j + e) hj he
    have M' := up_M M (i := i) (j := j) (v := d_H D i j + e) (by omega)
    have l1 := lst_le K (t := t) (x := e) hi hj
    rw [ff_X8_padsAt_16, if_neg (nI_nlt (by omega) (by omega)), show (5 : Int32) = nI 5 from rfl, pk_mul, nI_add, gd_n (by omega) (by decide), nI_clamp (by omega), hh, ls_M K' M' ht hi hj, Option.bind_some, nd_M K' M' hp (by omega), Option.bind_some, up_ls rfl hj, show d_P (up_ D i j (d_H D i j + e)) p j = d_P D p j from rfl, show 6 - d_H D i j - e = (5 - d_H D i j - e) + 1 by omega, fw_]
    unfold pd_
    by_cases e3 : lst_ D t i j e < d_P D p j
    · rw [if_pos (nI_lt e3 (show d_P D p j < 2 ^ 31 by omega)), decide_eq_false (by omega), if_neg (by decide)]
    · rw [if_neg (nI_nlt (show d_P D p j ≤ _ by omega) (by omega)), decide_eq_true (p := d_P D p j ≤ lst_ D t i j e) (by omega), if_pos rfl, pk_sub (by omega), show d_H D i j + e - d_H D i j = e by omega]; rfl
  intro e
  induction e with
  | zero =>
    intro m h' he hh
    rw [stp 0 (m + 0 + 1) h' he hh, ff_X8_padsAt_16, if_pos, show (5 : Int32) = nI 5 from rfl, pk_mul, nI_add, gd_n (by omega) (by decide), nI_clamp (by omega), sI_sI, sI_self cH]
    · rfl
    · rw [Int32.lt_iff_toInt_lt, Nat.add_zero]
      by_cases e0 : d_H D i j = 0
      · rw [e0]; decide
      · obtain ⟨y, hy⟩ : ∃ y, d_H D i j = y + 1 := ⟨d_H D i j - 1, by omega⟩
        rw [hy, pk_m1, nI_toInt (by omega), nI_toInt (by omega)]
        omega
  | succ e ih =>
    intro m h' he hh
    rw [show m + (e + 1) + 1 + 1 = (m + e + 1 + 1) + 1 by omega, stp (e + 1) (m + e + 1 + 1) h' he hh, show d_H D i j + (e + 1) = (d_H D i j + e) + 1 by omega, pk_m1, show 6 - d_H D i j - (e + 1) = 5 - d_H D i j - e by omega]
    exact ih m _ (by omega) (fun v => sI_sI)
theorem fpn_M {t i p j : Nat} {h : hh_} {D : od_} (K : oK_ D) (M : oM_ h D) (ht : t < d_t D) (hi : i < d_m D) (hp : p < d_p D) (hj : j < 4) : ff_X8_padsAt (nI t) (nI i) (nI p) (nI j) h = some (oI_ (pn_ D t i p j), h) := by
  have l5 := (K.2.2.2.2.1 i hi).1 j hj
  unfold ff_X8_padsAt
  rw [bu_M K M hi (by omega), Option.bind_some]
  obtain ⟨q, hq⟩ := fu_ (5 - d_H D i j + 1) (by omega)
  have w := fp_M K M ht hi hp hj (5 - d_H D i j) q h (by omega) (fun v => rfl)
  rw [show 5 - d_H D i j - (5 - d_H D i j) = 0 by omega, show d_H D i j + (5 - d_H D i j) = 5 by omega] at w
  rw [hq]
  exact w
theorem pn_b {D : od_} {t i p j v : Nat} (e : pn_ D t i p j = some v) : v < 6 := by
  have := fw_b _ _ _ e
  omega
theorem oI_9 {x : Option Nat} (hx : ∀ v, x = some v → v < 100) : oI_ x = -9 ↔ x = none := by
  cases x with
  | none => exact ⟨fun _ => rfl, fun _ => rfl⟩
  | some v =>
    refine ⟨fun q => ?_, fun q => nomatch q⟩
    have := hx v rfl
    have q2 := congrArg Int32.toInt (show nI v = -9 from q)
    rw [nI_toInt (by omega), show (-9 : Int32).toInt = -9 from rfl] at q2
    omega
/-! all -/
def mxo_ (f : Nat → Option Nat) : Nat → Nat → Nat → Option Nat
  | 0, _, x => some x
  | d + 1, t, x => match f t with
    | none => none
    | some v => mxo_ f d (t + 1) (max x v)
def smo_ (f : Nat → Option Nat) : Nat → Nat → Nat → Option Nat
  | 0, _, x => some x
  | d + 1, t, x => match f t with
    | none => none
    | some v => smo_ f d (t + 1) (x + v)
theorem al_C1 {i p j : Nat} {x3 : Int32} {h : hh_} {D : od_} {KK : Int32 → Option Int32} (B : bo_ h.2.2.1 = true) (K : oK_ D) (C : oC_ h.2.2.1 h D) (hi : i < d_m D) (hp : p < d_p D) (hj : j < 4) : ∀ (d t m x : Nat), t + d = d_t D → x < 100 → ff_X7_all_58 (nI i) (nI p) x3 (nI j) h KK (m + d + 1) (nI x) (nI t) = match mxo_ (fun t => pn_ D t i p j) d t x with
    | none => some (-9)
    | some v => KK (nI v) := by
  have k2 := K.2.1
  intro d
  induction d with
  | zero =>
    intro t m x e hx
    rw [ff_X7_all_58, gd_t B, show Int32.toNatClampNeg 1 = 1 from rfl, C.2.1, if_pos (nI_le (by omega) (by omega))]; rfl
  | succ d ih =>
    intro t m x e hx
    rw [show m + (d + 1) + 1 = (m + d + 1) + 1 by omega, ff_X7_all_58, gd_t B, show Int32.toNatClampNeg 1 = 1 from rfl, C.2.1, if_neg (nI_ge (by omega) (by omega)), fpn_C K C (by omega) hi hp hj, Option.bind_some, mxo_]
    cases e2 : pn_ D t i p j with
    | none => rw [if_pos (show oI_ none = -9 from rfl)]
    | some v =>
      have b := pn_b e2
      rw [if_neg (fun q => nomatch (oI_9 (x := some v) (fun w hw => by injection hw; omega)).mp q), show oI_ (some v) = nI v from rfl, mx_i (by omega) (by omega), nI_1]
      exact ih _ _ _ (by omega) (by omega)
theorem al_M1 {i p j : Nat} {x3 : Int32} {h : hh_} {D : od_} {KK : Int32 → hh_ → Option (Int32 × hh_)} (K : oK_ D) (M : oM_ h D) (hi : i < d_m D) (hp : p < d_p D) (hj : j < 4) : ∀ (d t m x : Nat), t + d = d_t D → x < 100 → ff_X8_all_45 (nI i) (nI p) x3 (nI j) KK (m + d + 1) (nI x) (nI t) h = match mxo_ (fun t => pn_ D t i p j) d t x with
    | none => some (-9, h)
    | some v => KK (nI v) h := by
  have k2 := K.2.1
  intro d
  induction d with
  | zero =>
    intro t m x e hx
    rw [ff_X8_all_45, M.2.1, if_pos (nI_le (by omega) (by omega))]; rfl
  | succ d ih =>
    intro t m x e hx
    rw [show m + (d + 1) + 1 = (m + d + 1) + 1 by omega, ff_X8_all_45, M.2.1, if_neg (nI_ge (by omega) (by omega)), fpn_M K M (by omega) hi hp hj, Option.bind_some, mxo_]
    dsimp only
    cases e2 : pn_ D t i p j with
    | none => rw [if_pos (show oI_ none = -9 from rfl)]
    | some v =>
      have b := pn_b e2
      rw [if_neg (fun q => nomatch (oI_9 (x := some v) (fun w hw => by injection hw; omega)).mp q), show oI_ (some v) = nI v from rfl, gr_i (by omega) (by omega), nI_1]
      exact ih _ _ _ (by omega) (by omega)
def am_ (D : od_) (i p j : Nat) : Option Nat := mxo_ (fun t => pn_ D t i p j) (d_t D) 0 0
theorem al_C2 {i p : Nat} {h : hh_} {D : od_} (B : bo_ h.2.2.1 = true) (K : oK_ D) (C : oC_ h.2.2.1 h D) (hi : i < d_m D) (hp : p < d_p D) : ∀ (d j m x : Nat), j + d = 4 → ff_X7_all_46 (nI i) (nI p) h (m + d + 1) (nI x) (nI j) = some (oI_ (smo_ (am_ D i p) d j x)) := by
  have k2 := K.2.1
  obtain ⟨q, hq⟩ := fu_ (d_t D) (by omega)
  intro d
  induction d with
  | zero =>
    intro j m x e
    have e : j = 4 := by omega
    subst e
    rw [ff_X7_all_46, if_pos (by decide)]; rfl
  | succ d ih =>
    intro j m x e
    have hj : j < 4 := by omega
    rw [show m + (d + 1) + 1 = (m + d + 1) + 1 by omega, ff_X7_all_46, if_neg (show ¬ (4 : Int32) ≤ nI j from nI_ge (b := 4) hj (by omega)), hq]
    refine (al_C1 B K C hi hp hj _ 0 q 0 (by omega) (by omega)).trans ?_
    rw [smo_, show mxo_ (fun t => pn_ D t i p j) (d_t D) 0 0 = am_ D i p j from rfl]
    cases e2 : am_ D i p j with
    | none => rfl
    | some v =>
      dsimp only
      rw [nI_add, nI_1]
      exact ih _ _ _ (by omega)
theorem al_M2 {i p : Nat} {h : hh_} {D : od_} (K : oK_ D) (M : oM_ h D) (hi : i < d_m D) (hp : p < d_p D) : ∀ (d j m x : Nat), j + d = 4 → ff_X8_all_33 (nI i) (nI p) (m + d + 1) (nI x) (nI j) h = some (oI_ (smo_ (am_ D i p) d j x), h) := by
  have k2 := K.2.1
  obtain ⟨q, hq⟩ := fu_ (d_t D) (by omega)
  intro d
  induction d with
  | zero =>
    intro j m x e
    have e : j = 4 := by omega
    subst e
    rw [ff_X8_all_33, if_pos (by decide)]; rfl
  | succ d ih =>
    intro j m x e
    have hj : j < 4 := by omega
    rw [show m + (d + 1) + 1 = (m + d + 1) + 1 by omega, ff_X8_all_33, if_neg (show ¬ (4 : Int32) ≤ nI j from nI_ge (b := 4) hj (by omega)), hq]
    refine (al_M1 K M hi hp hj _ 0 q 0 (by omega) (by omega)).trans ?_
    rw [smo_, show mxo_ (fun t => pn_ D t i p j) (d_t D) 0 0 = am_ D i p j from rfl]
    cases e2 : am_ D i p j with
    | none => rfl
    | some v =>
      dsimp only
      rw [nI_add, nI_1]
      exact ih _ _ _ (by omega)
/-- 31: all -/
theorem st_31 : sp_31 inv_ := by
  intro h a1 a2 H
  obtain ⟨hn, D, F, ds, n, K, C, M, -⟩ := H.2.2.2
  have k1 := K.2.1
  have B := H.2.2.2.nwB
  unfold ff_X7_all ff_X8_all
  rcases hs_0 a1 K C M with ⟨i, hi, rfl, c1, m1⟩ | ⟨c1, m1⟩
  · rcases hs_2 a2 K C M with ⟨p, hp, rfl, c2, m2⟩ | ⟨c2, m2⟩
    · by_cases e0 : d_t D = 0
      · refine ⟨-4, h, ?_, ?_, H⟩
        · rw [gd_t B, c1, Option.bind_some, if_neg n10, c2, Option.bind_some, if_neg n10, show Int32.toNatClampNeg 1 = 1 from rfl, C.2.1, e0, if_pos (show nI 0 = 0 from rfl)]
        · rw [m1, if_neg n10, m2, if_neg n10, M.2.1, e0, if_pos (show nI 0 = 0 from rfl)]
      · obtain ⟨q, hq⟩ := fu_ 4 (by decide)
        refine ⟨oI_ (smo_ (am_ D i p) 4 0 0), h, ?_, ?_, H⟩
        · rw [gd_t B, c1, Option.bind_some, if_neg n10, c2, Option.bind_some, if_neg n10, show Int32.toNatClampNeg 1 = 1 from rfl, C.2.1, if_neg (nI_ne0 (by omega) (by omega)), hq]
          exact al_C2 B K C hi hp 4 0 q 0 rfl
        · rw [m1, if_neg n10, m2, if_neg n10, M.2.1, if_neg (nI_ne0 (by omega) (by omega)), hq]
          exact al_M2 K M hi hp 4 0 q 0 rfl
    · exact ⟨-1, h, by rw [gd_t B, c1, Option.bind_some, if_neg n10, c2, Option.bind_some, if_pos rfl], by rw [m1, if_neg n10, m2, if_pos rfl], H⟩
  · exact ⟨-1, h, by rw [gd_t B, c1, Option.bind_some, if_pos rfl], by rw [m1, if_pos rfl], H⟩
/-! finds -/
theorem mo_mono (k w f : Nat) : mo_ k w f ≤ mo_ k w (f + 1) := by
  unfold mo_
  repeat' split
  all_goals omega
theorem fe_s {D : od_} {i j x : Nat} : fe_ D i j (x + 1) = fe_ D i j x + 1 ∨ fe_ D i j (x + 1) = fe_ D i j x := by
  unfold fe_
  by_cases e : d_H D i 4 ≤ 1
  · rw [if_pos e, if_pos e]; omega
  · rw [if_neg e, if_neg e]; omega
theorem mid_s {D : od_} {t i j x : Nat} : mid_ D t i j x ≤ mid_ D t i j (x + 1) := by
  unfold mid_
  rcases fe_s (D := D) (i := i) (j := j) (x := x) with q | q
  · rw [q]; exact mo_mono _ _ _
  · rw [q]; exact Nat.le_refl _
def fd_ (D : od_) (t0 i j t : Nat) : Bool := decide (t ≠ t0) && decide (mst_ D t i j 0 < lst_ D t i j 1)
theorem fd_C {t0 i j : Nat} {h : hh_} {D : od_} (B : bo_ h.2.2.1 = true) (K : oK_ D) (C : oC_ h.2.2.1 h D) (h0 : t0 < d_t D) (hi : i < d_m D) (hj : j < 4) : ∀ (d t m : Nat), t + d = d_t D → ff_X7_finds_54 (nI t0) (nI i) (nI j) h (m + d + 1) (nI t) = some (oI_ (fw_ (fd_ D t0 i j) d t)) := by
  have k2 := K.2.1
  have l5 := (K.2.2.2.2.1 i hi).1 j hj
  intro d
  induction d with
  | zero =>
    intro t m e
    rw [ff_X7_finds_54, gd_t B, show Int32.toNatClampNeg 1 = 1 from rfl, C.2.1, if_pos (nI_le (by omega) (by omega))]; rfl
  | succ d ih =>
    intro t m e
    have ht : t < d_t D := by omega
    have l1 := lst_le K (t := t) (x := 1) hi hj
    have l2 := mst_le K (x := 0) ht hi hj
    have l1' : ff_X2_least h.2.2.1 (nI t) (nI i) (nI j) 1 h = some (nI (lst_ D t i j 1)) := ls_C K C ht hi hj (x := 1) (by omega)
    rw [show m + (d + 1) + 1 = (m + d + 1) + 1 by omega, ff_X7_finds_54, gd_t B, show Int32.toNatClampNeg 1 = 1 from rfl, C.2.1, if_neg (nI_ge (by omega) (by omega)), fw_, nI_1, ih _ _ (by omega)]
    unfold fd_
    by_cases e2 : t = t0
    · rw [if_pos (by rw [e2]), decide_eq_false (by omega), Bool.false_and, if_neg (by decide)]
    · rw [if_neg (fun q => e2 ((nI_eq (by omega) (by omega)).mp q)), l1', Option.bind_some, ms_C0 K C ht hi hj, Option.bind_some, decide_eq_true e2, Bool.true_and]
      by_cases e3 : lst_ D t i j 1 ≤ mst_ D t i j 0
      · rw [if_pos (nI_le e3 (by omega)), decide_eq_false (by omega), if_neg (by decide)]
      · rw [if_neg (nI_ge (by omega) (by omega)), decide_eq_true (p := mst_ D t i j 0 < lst_ D t i j 1) (by omega), if_pos rfl]; rfl
theorem fd_M {t0 i j : Nat} {h : hh_} {D : od_} (K : oK_ D) (M : oM_ h D) (h0 : t0 < d_t D) (hi : i < d_m D) (hj : j < 4) (hb : d_H D i j < 5) : ∀ (t m : Nat), t < d_t D → ff_X8_finds_50 (nI t0) (nI i) (nI j) (m + t + 1 + 1) (oI_ (fw_ (fd_ D t0 i j) (d_t D - (t + 1)) (t + 1))) (nI t) h = some (oI_ (fw_ (fd_ D t0 i j) (d_t D) 0), h) := by
  have k1 := K.1
  have k2 := K.2.1
  have cH := M.2.2.2.1 i hi j (by omega)
  have K' := up_K K (i := i) (j := j) (v := d_H D i j + 1) hj hb
  have M' := up_M M (i := i) (j := j) (v := d_H D i j + 1) (by omega)
  have stp : ∀ (t m : Nat), t < d_t D → ff_X8_finds_50 (nI t0) (nI i) (nI j) (m + 1) (oI_ (fw_ (fd_ D t0 i j) (d_t D - (t + 1)) (t + 1))) (nI t) h = ff_X8_finds_50 (nI t0) (nI i) (nI j) m (oI_ (fw_ (fd_ D t0 i j) (d_t D - t) t)) (nI t + (-1)) h := by
    intro t m ht
    have l1 := lst_le K (t := t) (x := 1) hi hj
    have l2 := mst_le K (x := 0) ht hi hj
    have l3 := mst_le K (x := 1) ht hi hj
    have l4 := lst_le K (t := t) (x := 0) hi hj
    have mo : lst_ D t i j 0 ≤ mst_ D t i j 1 := by
      have : mid_ D t i j 0 ≤ mid_ D t i j 1 := mid_s
      unfold lst_ mst_
      omega
    have bk : hh_sI (hh_sI h 105 (5 * i + j) (nI (d_H D i j + 1))) 105 (5 * i + j) ((hh_sI h 105 (5 * i + j) (nI (d_H D i j + 1))).1 105 (5 * i + j) - 1) = h := by
      rw [sI_sI, sI_eq, nI_pred, sI_self cH]
    rw [ff_X8_finds_50, if_neg (nI_pos (by omega)), ms_M K M ht hi hj, Option.bind_some, ls_M K M ht hi hj, Option.bind_some, show (5 : Int32) = nI 5 from rfl, pk_mul, nI_add, gd_n (by omega) (by decide), nI_clamp (by omega), cH, nI_1, ls_M K' M' ht hi hj, Option.bind_some, ms_M K' M' ht hi hj, Option.bind_some, up_ls rfl hj, up_ms rfl hj, if_pos (nI_le mo (by omega))]
    unfold ff_X8_finds_115 ff_X8_finds_120
    dsimp only
    rw [show (5 : Int32) = nI 5 from rfl, pk_mul, nI_add]
    simp only [gd_n (show 5 * i + j < 25 by omega) (show 25 < 2 ^ 31 by decide)]
    rw [nI_clamp (show 5 * i + j < 2 ^ 31 by omega), bk, show d_t D - t = (d_t D - (t + 1)) + 1 by omega, fw_]
    by_cases e2 : t = t0
    · have e5 : fd_ D t0 i j t = false := by unfold fd_; rw [decide_eq_false (by omega), Bool.false_and]
      rw [e5, if_neg (show ¬ false = true by decide), if_pos (show nI t = nI t0 by rw [e2]), if_pos (show nI t = nI t0 by rw [e2])]
      split <;> rfl
    · rw [if_neg (fun q => e2 ((nI_eq (by omega) (by omega)).mp q)), if_neg (fun q => e2 ((nI_eq (by omega) (by omega)).mp q)), if_neg n10, if_pos trivial]
      by_cases e3 : mst_ D t i j 0 < lst_ D t i j 1
      · have e5 : fd_ D t0 i j t = true := by unfold fd_; rw [decide_eq_true e2, decide_eq_true e3]; rfl
        rw [if_pos (nI_lt e3 (by omega)), e5, if_pos rfl]; rfl
      · have e5 : fd_ D t0 i j t = false := by unfold fd_; rw [decide_eq_false e3, Bool.and_false]
        rw [if_neg (nI_nlt (by omega) (by omega)), e5, if_neg (show ¬ false = true by decide)]
  intro t
  induction t with
  | zero =>
    intro m ht
    rw [stp 0 (m + 0 + 1) ht, ff_X8_finds_50, if_pos (by decide)]
    rfl
  | succ t ih =>
    intro m ht
    rw [show m + (t + 1) + 1 + 1 = (m + t + 1 + 1) + 1 by omega, stp (t + 1) (m + t + 1 + 1) ht, pk_m1]
    exact ih m (by omega)
/-- 32: finds -/
theorem st_32 : sp_32 inv_ := by
  intro h a1 a2 a3 H
  obtain ⟨hn, D, F, ds, n, K, C, M, -⟩ := H.2.2.2
  have k0 := K.1
  have k1 := K.2.1
  have B := H.2.2.2.nwB
  unfold ff_X7_finds ff_X8_finds
  rcases hs_1 a1 K C M with ⟨t, ht, rfl, c1, m1⟩ | ⟨c1, m1⟩
  · rcases hs_0 a2 K C M with ⟨i, hi, rfl, c2, m2⟩ | ⟨c2, m2⟩
    · rcases pl_ a3 with ⟨j, hj, rfl, c3, m3⟩ | ⟨c3, m3⟩
      · have l5 := (K.2.2.2.2.1 i hi).1 j hj
        by_cases e : d_H D i j < 5
        · obtain ⟨q, hq⟩ := fu_ (d_t D) (by omega)
          refine ⟨oI_ (fw_ (fd_ D t i j) (d_t D) 0), h, ?_, ?_, H⟩
          · rw [gd_t B, c1, Option.bind_some, if_neg n10, c2, Option.bind_some, if_neg n10, c3, if_neg n10, gd_n (by omega) (by decide), gd_n (by omega) (by decide), nI_clamp (by omega), nI_clamp (by omega), C.2.2.2.1 i hi j (by omega), if_pos (show nI (d_H D i j) < 5 from nI_lt (b := 5) e (by omega)), hq]
            exact fd_C B K C ht hi hj _ 0 q (by omega)
          · rw [m1, if_neg n10, m2, if_neg n10, m3, if_neg n10, bu_M K M hi (by omega), Option.bind_some, if_neg (show ¬ nI (d_H D i j) = 5 from fun w => by have := (nI_eq (b := 5) (by omega) (by omega)).mp w; omega), M.2.1, hq]
            obtain ⟨y, hy⟩ : ∃ y, d_t D = y + 1 := ⟨d_t D - 1, by omega⟩
            have w := fd_M K M ht hi hj e y q (by omega)
            rw [show d_t D - (y + 1) = 0 by omega] at w
            rw [hy] at w ⊢
            rw [nI_pred]
            exact w
        · refine ⟨-4, h, ?_, ?_, H⟩
          · rw [gd_t B, c1, Option.bind_some, if_neg n10, c2, Option.bind_some, if_neg n10, c3, if_neg n10, gd_n (by omega) (by decide), gd_n (by omega) (by decide), nI_clamp (by omega), nI_clamp (by omega), C.2.2.2.1 i hi j (by omega), if_neg (show ¬ nI (d_H D i j) < 5 from nI_nlt (b := 5) (by omega) (by omega))]
          · rw [m1, if_neg n10, m2, if_neg n10, m3, if_neg n10, bu_M K M hi (by omega), Option.bind_some, if_pos (show nI (d_H D i j) = 5 from by rw [show d_H D i j = 5 by omega]; rfl)]
      · exact ⟨-1, h, by rw [gd_t B, c1, Option.bind_some, if_neg n10, c2, Option.bind_some, if_neg n10, c3, if_pos rfl], by rw [m1, if_neg n10, m2, if_neg n10, m3, if_pos rfl], H⟩
    · exact ⟨-1, h, by rw [gd_t B, c1, Option.bind_some, if_neg n10, c2, Option.bind_some, if_pos rfl], by rw [m1, if_neg n10, m2, if_pos rfl], H⟩
  · exact ⟨-1, h, by rw [gd_t B, c1, Option.bind_some, if_pos rfl], by rw [m1, if_pos rfl], H⟩
/-! posts -/
theorem sp_C {o t i q : Nat} {a4 : Int32} {h : hh_} {D : od_} (K : oK_ D) (C : oC_ o h D) (ht : t < d_t D) (hi : i < d_m D) (e4 : ∀ j, j < 4 → (nI j = a4 ↔ j = q)) : ∀ (d p m : Nat) (x : Int32), p + d = d_p D → ff_X2_surePosts_6 o (nI t) (nI i) a4 h (m + d + 1) x (nI p) = some (msk_ (fun p => all_ (su_ D t i p q) 4 0) d p x) := by
  have k1 := K.2.2.1
  obtain ⟨k, hk⟩ := fu_ 4 (by decide)
  intro d
  induction d with
  | zero =>
    intro p m x e
    rw [ff_X2_surePosts_6, show Int32.toNatClampNeg 2 = 2 from rfl, C.2.2.1, if_pos (nI_le (by omega) (by omega))]; rfl
  | succ d ih =>
    intro p m x e
    have e5 : ff_X2_isSure o (nI t) (nI i) (nI p) a4 h = some (bI_ (all_ (su_ D t i p q) 4 0)) := by
      unfold ff_X2_isSure
      rw [hk]
      exact sur_C K C ht hi (by omega) e4 4 0 k rfl
    rw [show m + (d + 1) + 1 = (m + d + 1) + 1 by omega, ff_X2_surePosts_6, show Int32.toNatClampNeg 2 = 2 from rfl, C.2.2.1, if_neg (nI_ge (by omega) (by omega)), e5, Option.bind_some, nI_1, ih _ _ _ (by omega), ih _ _ _ (by omega), msk_]
    cases all_ (su_ D t i p q) 4 0 <;> rfl
def sms_ (D : od_) (t i q : Nat) : Int32 := msk_ (fun p => all_ (su_ D t i p q) 4 0) (d_p D) 0 0
theorem sps_C {o t i q : Nat} {a4 : Int32} {h : hh_} {D : od_} (K : oK_ D) (C : oC_ o h D) (ht : t < d_t D) (hi : i < d_m D) (e4 : ∀ j, j < 4 → (nI j = a4 ↔ j = q)) : ff_X2_surePosts o (nI t) (nI i) a4 h = some (sms_ D t i q) := by
  have k1 := K.2.2.1
  unfold ff_X2_surePosts
  obtain ⟨k, hk⟩ := fu_ (d_p D) (by omega)
  rw [hk]
  exact sp_C K C ht hi e4 _ 0 k 0 (by omega)
theorem ps_C {t i : Nat} {h : hh_} {D : od_} (H : iO_ h) (K : oK_ D) (C : oC_ h.2.2.1 h D) (ht : t < d_t D) (hi : i < d_m D) : ∀ (d p m : Nat) (x : Int32), p + d = d_p D → ff_X7_posts_31 (nI t) (nI i) h (m + d + 1) x (nI p) = some (anC_ 1 (sms_ D t i 9) (msk_ (fun p => all_ (ly_ D t i p) 4 0) d p x) h) := by
  have k1 := K.2.2.1
  have B := H.nwB
  intro d
  induction d with
  | zero =>
    intro p m x e
    have C' : oC_ h.2.2.1 (ff_X6_tell x h).2 D := C.fr K (fun c j q => sI_ne (by have := H.nw; omega))
    rw [ff_X7_posts_31, gd_t B, show Int32.toNatClampNeg 2 = 2 from rfl, C.2.2.1, if_pos (nI_le (by omega) (by omega)), show (ff_X6_tell x h).2.2.2.1 = h.2.2.1 from rfl, gd_t B, sps_C K C' ht hi e4_9]; rfl
  | succ d ih =>
    intro p m x e
    rw [show m + (d + 1) + 1 = (m + d + 1) + 1 by omega, ff_X7_posts_31, gd_t B, show Int32.toNatClampNeg 2 = 2 from rfl, C.2.2.1, if_neg (nI_ge (by omega) (by omega)), lu_C K C ht hi (by omega), Option.bind_some, nI_1, ih _ _ _ (by omega), ih _ _ _ (by omega), msk_]
    cases all_ (ly_ D t i p) 4 0 <;> rfl
theorem al_imp {p q : Nat → Bool} (h : ∀ j, p j = true → q j = true) : ∀ d j, all_ p d j = true → all_ q d j = true := by
  intro d
  induction d with
  | zero => intro j _; rfl
  | succ d ih =>
    intro j e
    rw [all_, Bool.and_eq_true] at e ⊢
    exact ⟨h j e.1, ih _ e.2⟩
theorem su_ly {D : od_} {t i p : Nat} : all_ (su_ D t i p 9) 4 0 = true → all_ (ly_ D t i p) 4 0 = true := by
  intro e
  have h0 : ∀ j, j < 4 → su_ D t i p 9 j = true → ly_ D t i p j = true := by
    intro j hj q
    unfold su_ at q
    unfold ly_
    rw [if_neg (by omega)] at q
    have q := of_decide_eq_true q
    have := lemx_ (D := D) (t := t) (i := i) (j := j) (x := 0)
    exact decide_eq_true (by omega)
  simp only [all_, Bool.and_eq_true] at e ⊢
  exact ⟨h0 0 (by decide) e.1, h0 1 (by decide) e.2.1, h0 2 (by decide) e.2.2.1, h0 3 (by decide) e.2.2.2.1, trivial⟩
theorem ps_M {t i : Nat} {h : hh_} {D : od_} (K : oK_ D) (M : oM_ h D) (ht : t < d_t D) (hi : i < d_m D) : ∀ (d p m : Nat) (x y : Int32), p + d = d_p D → ff_X8_posts_26 (nI t) (nI i) h (m + d + 1) y x (nI p) = some (anM_ 1 (msk_ (fun p => all_ (su_ D t i p 9) 4 0) d p y) (msk_ (fun p => all_ (ly_ D t i p) 4 0) d p x) h) := by
  have k1 := K.2.2.1
  intro d
  induction d with
  | zero =>
    intro p m x y e
    rw [ff_X8_posts_26, M.2.2.1, if_pos (nI_le (by omega) (by omega))]; rfl
  | succ d ih =>
    intro p m x y e
    have e6 := su_ly (D := D) (t := t) (i := i) (p := p)
    rw [show m + (d + 1) + 1 = (m + d + 1) + 1 by omega, ff_X8_posts_26, M.2.2.1, if_neg (nI_ge (by omega) (by omega)), sv_M K M ht hi (by omega), Option.bind_some, msk_, msk_]
    unfold ff_X8_posts_56
    rw [sv_M K M ht hi (by omega), Option.bind_some, Option.bind_some, nI_1, or_0, or_0]
    dsimp only
    rw [ih _ _ _ _ (by omega), ih _ _ _ _ (by omega), ih _ _ _ _ (by omega), ih _ _ _ _ (by omega)]
    unfold st2_
    cases e7 : all_ (su_ D t i p 9) 4 0
    · cases all_ (ly_ D t i p) 4 0 <;> rfl
    · rw [e6 e7]; rfl
/-- 33: posts -/
theorem st_33 : sp_33 inv_ := by
  intro h a1 a2 H
  obtain ⟨hn, D, F, ds, n, K, C, M, -⟩ := H.2.2.2
  have k1 := K.2.2.1
  have B := H.2.2.2.nwB
  rcases hs_1 a1 K C M with ⟨t, ht, rfl, c1, m1⟩ | ⟨c1, m1⟩
  · rcases hs_0 a2 K C M with ⟨i, hi, rfl, c2, m2⟩ | ⟨c2, m2⟩
    · obtain ⟨k, hk⟩ := fu_ (d_p D) (by omega)
      refine rd_ H 1 (sms_ D t i 9) (msk_ (fun p => all_ (ly_ D t i p) 4 0) (d_p D) 0 0) (by decide) ?_ (fun h' S => ?_)
      · unfold ff_X7_posts
        rw [gd_t B, c1, Option.bind_some, if_neg n10, c2, Option.bind_some, if_neg n10, hk]
        exact ps_C H.2.2.2 K C ht hi _ 0 k 0 (by omega)
      · unfold ff_X8_posts
        rw [S.iT (D := D) m1, if_neg n10, S.iH m2, if_neg n10, hk]
        exact ps_M K (S.oM M) ht hi _ 0 k 0 0 (by omega)
    · refine rd_ H 0 (-1) 0 (by decide) ?_ (fun h' S => ?_)
      · unfold ff_X7_posts
        rw [gd_t B, c1, Option.bind_some, if_neg n10, c2, Option.bind_some, if_pos rfl]; rfl
      · unfold ff_X8_posts
        rw [S.iT (D := D) m1, if_neg n10, S.iH m2, if_pos rfl]; rfl
  · refine rd_ H 0 (-1) 0 (by decide) ?_ (fun h' S => ?_)
    · unfold ff_X7_posts
      rw [gd_t B, c1, Option.bind_some, if_pos rfl]; rfl
    · unfold ff_X8_posts
      rw [S.iT (D := D) m1, if_pos rfl]; rfl
end
section
/-! ===== pads ===== -/
/-- places b + a .. b + n - 1 of a cell are g a .. g (n - 1) -/
def fg_ (h : hh_) (k b a n : Nat) (g : Nat → Int32) : hh_ := (fun c j => if c = k ∧ b + a ≤ j ∧ j < b + n then g (j - b) else h.1 c j, h.2)
theorem fg_0 {h : hh_} {k b n : Nat} {g : Nat → Int32} : fg_ h k b n n g = h := by
  refine hh_ext (fun c j => ?_) (fun _ _ => rfl) rfl
  show (if c = k ∧ b + n ≤ j ∧ j < b + n then _ else h.1 c j) = _
  rw [if_neg (by omega)]
theorem fg_s {h : hh_} {k b a n : Nat} {g : Nat → Int32} (ha : a < n) : fg_ (hh_sI h k (b + a) (g a)) k b (a + 1) n g = fg_ h k b a n g := by
  refine hh_ext (fun c j => ?_) (fun _ _ => rfl) rfl
  show (if c = k ∧ b + (a + 1) ≤ j ∧ j < b + n then g (j - b) else (hh_sI h k (b + a) (g a)).1 c j) = (if c = k ∧ b + a ≤ j ∧ j < b + n then g (j - b) else h.1 c j)
  by_cases e : c = k
  · subst e
    by_cases e2 : j = b + a
    · subst e2
      rw [if_neg (by omega), if_pos (by omega), sI_eq, show b + a - b = a by omega]
    · rw [sI_nj e2]
      by_cases e3 : b + (a + 1) ≤ j ∧ j < b + n
      · rw [if_pos ⟨rfl, e3⟩, if_pos (by omega)]
      · rw [if_neg (fun q => e3 q.2), if_neg (by omega)]
  · rw [if_neg (fun q => e q.1), if_neg (fun q => e q.1), sI_ne e]
theorem fg_ne {h : hh_} {k b a n c j : Nat} {g : Nat → Int32} (e : c ≠ k) : (fg_ h k b a n g).1 c j = h.1 c j := by
  show (if c = k ∧ b + a ≤ j ∧ j < b + n then _ else h.1 c j) = _
  rw [if_neg (fun q => e q.1)]
theorem fg_in {h : hh_} {k b a n j : Nat} {g : Nat → Int32} (h1 : a ≤ j) (h2 : j < n) : (fg_ h k b a n g).1 k (b + j) = g j := by
  show (if k = k ∧ b + a ≤ b + j ∧ b + j < b + n then g (b + j - b) else h.1 k (b + j)) = _
  rw [if_pos (by omega), show b + j - b = j by omega]
theorem fg_out {h : hh_} {k b a n c j : Nat} {g : Nat → Int32} (h1 : j < b + a ∨ b + n ≤ j) : (fg_ h k b a n g).1 c j = h.1 c j := by
  show (if c = k ∧ b + a ≤ j ∧ j < b + n then _ else h.1 c j) = _
  rw [if_neg (by omega)]
theorem pd_C1 {t i p : Nat} {x4 : Int32} {h : hh_} {D : od_} {KK : Int32 → Option (Int32 × hh_)} (B : bo_ h.2.2.1 = true) (K : oK_ D) (C : oC_ h.2.2.1 h D) (ht : t < d_t D) (hi : i < d_m D) (hp : p < d_p D) : ∀ (d j m x : Nat), j + d = 4 → ff_X7_pads_56 (nI t) (nI i) (nI p) x4 h KK (m + d + 1) (nI x) (nI j) = match smo_ (pn_ D t i p) d j x with
    | none => some (-9, h)
    | some v => KK (nI v) := by
  intro d
  induction d with
  | zero =>
    intro j m x e
    have e : j = 4 := by omega
    subst e
    rw [ff_X7_pads_56, if_pos (by decide)]; rfl
  | succ d ih =>
    intro j m x e
    have hj : j < 4 := by omega
    rw [show m + (d + 1) + 1 = (m + d + 1) + 1 by omega, ff_X7_pads_56, if_neg (show ¬ (4 : Int32) ≤ nI j from nI_ge (b := 4) hj (by omega)), gd_t B, fpn_C K C ht hi hp hj, Option.bind_some, smo_]
    cases e2 : pn_ D t i p j with
    | none => rw [if_pos (show oI_ none = -9 from rfl)]
    | some v =>
      have b := pn_b e2
      rw [if_neg (fun q => nomatch (oI_9 (x := some v) (fun w hw => by injection hw; omega)).mp q), show oI_ (some v) = nI v from rfl, nI_add, nI_1]
      exact ih _ _ _ (by omega)
theorem pd_M1 {t i p : Nat} {x4 : Int32} {h : hh_} {D : od_} {KK : Int32 → hh_ → Option (Int32 × hh_)} (K : oK_ D) (M : oM_ h D) (ht : t < d_t D) (hi : i < d_m D) (hp : p < d_p D) : ∀ (d j m x : Nat), j + d = 4 → ff_X8_pads_40 (nI t) (nI i) (nI p) x4 KK (m + d + 1) (nI x) (nI j) h = match smo_ (pn_ D t i p) d j x with
    | none => some (-9, h)
    | some v => KK (nI v) h := by
  intro d
  induction d with
  | zero =>
    intro j m x e
    have e : j = 4 := by omega
    subst e
    rw [ff_X8_pads_40, if_pos (by decide)]; rfl
  | succ d ih =>
    intro j m x e
    have hj : j < 4 := by omega
    rw [show m + (d + 1) + 1 = (m + d + 1) + 1 by omega, ff_X8_pads_40, if_neg (show ¬ (4 : Int32) ≤ nI j from nI_ge (b := 4) hj (by omega)), fpn_M K M ht hi hp hj, Option.bind_some, smo_]
    dsimp only
    cases e2 : pn_ D t i p j with
    | none => rw [if_pos (show oI_ none = -9 from rfl)]
    | some v =>
      have b := pn_b e2
      rw [if_neg (fun q => nomatch (oI_9 (x := some v) (fun w hw => by injection hw; omega)).mp q), show oI_ (some v) = nI v from rfl, nI_add, nI_1]
      exact ih _ _ _ (by omega)
theorem pd_C2 {o t i p r : Nat} {v : Int32} {D : od_} (ho : o = 39 ∨ o = 64) (K : oK_ D) (ht : t < d_t D) (hi : i < d_m D) (hp : p < d_p D) (hr : r < 6) : ∀ (d j m : Nat) (h : hh_), j + d = 4 → h.2.2.1 = o → oC_ o h D → ff_X7_pads_113 (nI t) (nI i) (nI p) (nI r) v (m + d + 1) (nI j) h = some (v, fg_ h (4 + r) 0 j 4 (fun j => oI_ (pn_ D t i p j))) := by
  have B : bo_ o = true := by rcases ho with rfl | rfl <;> rfl
  intro d
  induction d with
  | zero =>
    intro j m h e eo C
    have e : j = 4 := by omega
    subst e
    rw [ff_X7_pads_113, if_pos (by decide), fg_0]
  | succ d ih =>
    intro j m h e eo C
    have hj : j < 4 := by omega
    rw [show m + (d + 1) + 1 = (m + d + 1) + 1 by omega, ff_X7_pads_113, if_neg (show ¬ (4 : Int32) ≤ nI j from nI_ge (b := 4) hj (by omega)), gd_n hr (by decide), eo, gd_t B, fpn_C K C ht hi hp hj, Option.bind_some, gd_n (by omega) (by decide), nI_clamp (show r < 2 ^ 31 by omega), nI_clamp (show j < 2 ^ 31 by omega), nI_1, ih (j + 1) m (hh_sI h (4 + r) j (oI_ (pn_ D t i p j))) (by omega) eo (C.fr K (fun c x q => sI_ne (by omega)))]
    refine congrArg (fun z => some (v, z)) ?_
    have w := fg_s (h := h) (k := 4 + r) (b := 0) (a := j) (n := 4) (g := fun j => oI_ (pn_ D t i p j)) hj
    rw [Nat.zero_add] at w
    exact w
theorem pd_M2 {t i p r : Nat} {v : Int32} {D : od_} (K : oK_ D) (ht : t < d_t D) (hi : i < d_m D) (hp : p < d_p D) (hr : r < 6) : ∀ (d j m : Nat) (h : hh_), j + d = 4 → oM_ h D → ff_X8_pads_91 (nI t) (nI i) (nI p) (nI r) v (m + d + 1) (nI j) h = some (v, fg_ h 101 (40 * r) j 4 (fun j => oI_ (pn_ D t i p j))) := by
  intro d
  induction d with
  | zero =>
    intro j m h e M
    have e : j = 4 := by omega
    subst e
    rw [ff_X8_pads_91, if_pos (by decide), fg_0]
  | succ d ih =>
    intro j m h e M
    have hj : j < 4 := by omega
    rw [show m + (d + 1) + 1 = (m + d + 1) + 1 by omega, ff_X8_pads_91, if_neg (show ¬ (4 : Int32) ≤ nI j from nI_ge (b := 4) hj (by omega)), fpn_M K M ht hi hp hj, Option.bind_some]
    dsimp only
    rw [sr_ h hr (by omega), Option.bind_some, nI_1, ih (j + 1) m _ (by omega) (M.fr (fun c x q => sI_ne (by omega)))]
    exact congrArg (fun z => some (v, z)) (fg_s (h := h) (k := 101) (b := 40 * r) (a := j) (n := 4) (g := fun j => oI_ (pn_ D t i p j)) hj)
/-- 30: pads -/
theorem st_30 : sp_30 inv_ := by
  intro h a1 a2 a3 a4 H
  obtain ⟨hn, D, F, ds, n, K, C, M, -⟩ := H.2.2.2
  have B := H.2.2.2.nwB
  have nw := H.2.2.2.nw
  obtain ⟨k, hk⟩ := fu_ 4 (by decide)
  rcases hs_1 a1 K C M with ⟨t, ht, rfl, c1, m1⟩ | ⟨c1, m1⟩
  · rcases hs_0 a2 K C M with ⟨i, hi, rfl, c2, m2⟩ | ⟨c2, m2⟩
    · rcases hs_2 a3 K C M with ⟨p, hp, rfl, c3, m3⟩ | ⟨c3, m3⟩
      · rcases al_r a4 h with ⟨r, hr, rfl, c4, m4⟩ | ⟨c4, m4⟩
        · have eC : ff_X7_pads (nI t) (nI i) (nI p) (nI r) h = match smo_ (pn_ D t i p) 4 0 0 with
              | none => some (-9, h)
              | some v => some (nI v, fg_ (fi_ (hh_sI h 10 r (nI 4)) (4 + r) 0 4 0) (4 + r) 0 0 4 (fun j => oI_ (pn_ D t i p j))) := by
            unfold ff_X7_pads
            rw [gd_t B, c1, Option.bind_some, if_neg n10, c2, Option.bind_some, if_neg n10, c3, Option.bind_some, if_neg n10, c4, if_neg n10, hk]
            refine (pd_C1 B K C ht hi hp 4 0 k 0 rfl).trans ?_
            cases e2 : smo_ (pn_ D t i p) 4 0 0 with
            | none => rfl
            | some v =>
              dsimp only
              rw [show (4 : Int32) = nI 4 from rfl, rn_C hr (by decide), Option.bind_some]
              exact pd_C2 nw K ht hi hp hr 4 0 k _ rfl rfl (C.fr K (fun c x q => by rw [fi_ne (by omega), sI_ne (by omega)]))
          have eM : ∀ h', oM_ h' D → ff_X8_isThumb (nI t) h' = 1 → ff_X8_isHead (nI i) h' = 1 → ff_X8_isPost (nI p) h' = 1 → ff_X8_pads (nI t) (nI i) (nI p) (nI r) h' = match smo_ (pn_ D t i p) 4 0 0 with
              | none => some (-9, h')
              | some v => some (nI v, fg_ (fi_ (hh_sI h' 100 r (nI 4)) 101 (40 * r) (40 * r + 40) 0) 101 (40 * r) 0 4 (fun j => oI_ (pn_ D t i p j))) := by
            intro h' M' q1 q2 q3
            unfold ff_X8_pads
            rw [q1, if_neg n10, q2, if_neg n10, q3, if_neg n10, m4, if_neg n10, hk]
            refine (pd_M1 K M' ht hi hp 4 0 k 0 rfl).trans ?_
            cases e2 : smo_ (pn_ D t i p) 4 0 0 with
            | none => rfl
            | some v =>
              dsimp only
              rw [show (4 : Int32) = nI 4 from rfl, mr_M hr (by decide), Option.bind_some]
              exact pd_M2 K ht hi hp hr 4 0 k _ rfl (M'.fr (fun c x q => by rw [fi_ne (by omega), sI_ne (by omega)]))
          cases e2 : smo_ (pn_ D t i p) 4 0 0 with
          | none =>
            rw [e2] at eC eM
            exact ⟨-9, h, h, eC, eM h M m1 m2 m3, H⟩
          | some v =>
            rw [e2] at eC eM
            have M' : oM_ (fg_ (fi_ (hh_sI h 10 r (nI 4)) (4 + r) 0 4 0) (4 + r) 0 0 4 (fun j => oI_ (pn_ D t i p j))) D := M.fr (fun c x q => by rw [fg_ne (by omega), fi_ne (by omega), sI_ne (by omega)])
            refine ⟨nI v, _, _, eC, eM _ M' ?_ ?_ ?_, ?_⟩
            · unfold ff_X8_isThumb at m1 ⊢; rw [M'.2.1]; rw [M.2.1] at m1; exact m1
            · unfold ff_X8_isHead at m2 ⊢; rw [M'.1]; rw [M.1] at m2; exact m2
            · unfold ff_X8_isPost at m3 ⊢; rw [M'.2.2.1]; rw [M.2.2.1] at m3; exact m3
            · refine inv_rows H (fun k j q => ?_) rfl (iR_new H.2.1 hr (n := 4) (by decide) ?_ ?_ (fun x hx => ?_) (fun s q => ?_) (fun s q => ?_) (fun s x q q2 => ?_) (fun j q => ?_))
              · rw [fg_ne (by omega), fi_ne (by omega), sI_ne (by omega), fg_ne (by omega), fi_ne (by omega), sI_ne (by omega)]
              · rw [fg_ne (by decide), fi_ne (by decide), sI_ne (by decide), fg_ne (by omega), fi_ne (by omega), sI_eq]
              · rw [fg_ne (by decide), fi_ne (by decide), sI_eq]
              · have w := fg_in (h := fi_ (hh_sI h 10 r (nI 4)) (4 + r) 0 4 0) (k := 4 + r) (b := 0) (a := 0) (n := 4) (j := x) (g := fun j => oI_ (pn_ D t i p j)) (by omega) hx
                rw [Nat.zero_add] at w
                rw [fg_in (by omega) hx, fg_ne (by omega), fi_ne (by omega), sI_ne (by omega)]
                exact w
              · rw [fg_ne (by decide), fi_ne (by decide), sI_ne (by decide), fg_ne (by omega), fi_ne (by omega), sI_nj q]
              · rw [fg_ne (by decide), fi_ne (by decide), sI_nj q, fg_ne (by omega), fi_ne (by omega), sI_ne (by decide)]
              · rw [fg_ne (by omega), fi_ne (by omega), sI_ne (by omega), fg_ne (by omega), fi_ne (by omega), sI_ne (by omega)]
              · rw [fg_out (by omega), fi_out q, sI_ne (by decide), fg_ne (by omega), fi_ne (by omega), sI_ne (by decide)]
        · refine rd_ H 0 (-1) 0 (by decide) ?_ (fun h' S => ?_)
          · unfold ff_X7_pads
            rw [gd_t B, c1, Option.bind_some, if_neg n10, c2, Option.bind_some, if_neg n10, c3, Option.bind_some, if_neg n10, c4, if_pos rfl]; rfl
          · unfold ff_X8_pads
            rw [S.iT (D := D) m1, if_neg n10, S.iH m2, if_neg n10, S.iP m3, if_neg n10, m4, if_pos rfl]; rfl
      · refine rd_ H 0 (-1) 0 (by decide) ?_ (fun h' S => ?_)
        · unfold ff_X7_pads
          rw [gd_t B, c1, Option.bind_some, if_neg n10, c2, Option.bind_some, if_neg n10, c3, Option.bind_some, if_pos rfl]; rfl
        · unfold ff_X8_pads
          rw [S.iT (D := D) m1, if_neg n10, S.iH m2, if_neg n10, S.iP m3, if_pos rfl]; rfl
    · refine rd_ H 0 (-1) 0 (by decide) ?_ (fun h' S => ?_)
      · unfold ff_X7_pads
        rw [gd_t B, c1, Option.bind_some, if_neg n10, c2, Option.bind_some, if_pos rfl]; rfl
      · unfold ff_X8_pads
        rw [S.iT (D := D) m1, if_neg n10, S.iH m2, if_pos rfl]; rfl
  · refine rd_ H 0 (-1) 0 (by decide) ?_ (fun h' S => ?_)
    · unfold ff_X7_pads
      rw [gd_t B, c1, Option.bind_some, if_pos rfl]; rfl
    · unfold ff_X8_pads
      rw [S.iT (D := D) m1, if_pos rfl]; rfl
end
section
/-! ===== mean, copy ===== -/
/-- all that the invariant speaks of -/
def sc_ (h : hh_) (k j : Nat) : Prop := (4 ≤ k ∧ k ≤ 10) ∨ (13 ≤ k ∧ k ≤ 17) ∨ k = 36 ∨ k = 37 ∨ (99 ≤ k ∧ k ≤ 101) ∨ k = 103 ∨ k = 104 ∨ (k = 98 ∧ (j = 0 ∨ j = 2)) ∨ fO_ h k j
theorem inv_scr {h h' : hh_} (H : inv_ h) (e : ∀ k j, sc_ h k j → h'.1 k j = h.1 k j) (eL : ∀ k j, k = 36 ∨ (k = 98 ∧ (j = 3 ∨ j = 4)) → h'.2.1 k j = h.2.1 k j) (er : h'.2.2.1 = h.2.2.1 ∧ h'.2.2.2.1 = h.2.2.2.1) : inv_ h' := by
  obtain ⟨hT, hR, hX, hO⟩ := H
  refine ⟨hT.fr (fun k j q => e _ _ ?_) eL, hR.fr (fun k j q => e _ _ ?_), hX.fr (fun k j q => e _ _ ?_), iO_.fr (h := h) er (fun k j q => e _ _ ?_) hO⟩
  · unfold sc_; omega
  · unfold sc_; omega
  · unfold sc_; omega
  · unfold sc_; exact Or.inr (Or.inr (Or.inr (Or.inr (Or.inr (Or.inr (Or.inr (Or.inr q)))))))
def sr64_ (g : Nat → Int32) : Nat → Nat → Int64 → Int64
  | 0, _, x => x
  | d + 1, i, x => sr64_ g d (i + 1) (x + Int32.toInt64 (g i))
theorem mn_C {h : hh_} {r n : Nat} (hr : r < 6) (hn : n ≤ 40) (e : h.1 10 r = nI n) : ∀ (d i m : Nat) (x : Int64), i + d = n → ff_X5r_sum_5 (nI r) h (m + d + 1) x (nI i) = some (sr64_ (fun i => h.1 (4 + r) i) d i x) := by
  intro d
  induction d with
  | zero =>
    intro i m x q
    rw [ff_X5r_sum_5, gd_n hr (by decide), nI_clamp (by omega), e, if_pos (nI_le (by omega) (by omega))]; rfl
  | succ d ih =>
    intro i m x q
    rw [show m + (d + 1) + 1 = (m + d + 1) + 1 by omega, ff_X5r_sum_5, gd_n hr (by decide), nI_clamp (show r < 2 ^ 31 by omega), e, if_neg (nI_ge (by omega) (by omega)), gd_n (by omega) (by decide), nI_clamp (by omega), nI_1, ih _ _ _ (by omega)]; rfl
theorem mn_M {h : hh_} {r n : Nat} {g : Nat → Int32} {KK : Int64 → Option (Int32 × hh_)} (hr : r < 6) (hn : n ≤ 40) (e : h.1 100 r = nI n) (eg : ∀ i, i < n → g i = h.1 101 (40 * r + i)) : ∀ (d i m : Nat) (x : Int64), i + d = n → ff_X8_mean_17 (nI r) h KK (m + d + 1) x (nI i) = KK (sr64_ g d i x) := by
  intro d
  induction d with
  | zero =>
    intro i m x q
    rw [ff_X8_mean_17, gd_n hr (by decide), nI_clamp (by omega), e, if_pos (nI_le (by omega) (by omega))]; rfl
  | succ d ih =>
    intro i m x q
    rw [show m + (d + 1) + 1 = (m + d + 1) + 1 by omega, ff_X8_mean_17, gd_n hr (by decide), nI_clamp (show r < 2 ^ 31 by omega), e, if_neg (nI_ge (by omega) (by omega)), ra_ h hr (by omega), Option.bind_some, nI_1, ih _ _ _ (by omega), ← eg i (by omega)]; rfl
/-- 5: mean -/
theorem st_5 : sp_5 inv_ := by
  intro h a1 H
  rcases al_r a1 h with ⟨r, hr, rfl, c1, m1⟩ | ⟨c1, m1⟩
  · rcases lk_r hr (H.2.1 r hr) with ⟨l0, l1⟩ | ⟨n, hn, l0, l1, l2, l3⟩
    · refine rd_ H 3 0 0 (by decide) ?_ (fun h' S => ?_)
      · unfold ff_X7_mean
        rw [c1, if_neg n10, l0, Option.bind_some, if_neg n10]
        exact rfC (f := 1) (by decide)
      · unfold ff_X8_mean
        rw [ar_n hr (by rw [S _ _ (by decide) (by decide)]; exact l1)]; rfl
    · obtain ⟨k, hk⟩ := fu_ n (by omega)
      have eM : ∀ h', sm_ h h' → ff_X8_mean (nI r) h' = (if nI n = 0 then some (-3, mre_ 4 h') else gd_ (bm_ (Int32.toInt64 (nI n))) (some (1, mte_ (Int64.toInt32 (sr64_ (fun i => h.1 (4 + r) i) n 0 0 / Int32.toInt64 (nI n))) h'))) := by
        intro h' S
        have e : h'.1 100 r = nI n := by rw [S _ _ (by decide) (by decide)]; exact l2
        unfold ff_X8_mean
        rw [ar_s hr (by omega) e, Option.bind_some]
        dsimp only
        rw [if_pos (show (0 : Int32) ≤ 0 by decide), hk]
        refine (mn_M (g := fun i => h.1 (4 + r) i) hr hn e (fun i hi => by rw [S _ _ (by decide) (by decide)]; exact l3 i hi) n 0 k 0 (by omega)).trans ?_
        rw [gd_n hr (by decide), nI_clamp (by omega), e, show ((ff_X8_meet (4 : Int32) h').bind fun v9 => some (v9.1, v9.2)) = some (-3, mre_ 4 h') from rfM (f := 4) (by decide)]
        rfl
      by_cases e0 : n = 0
      · refine rd_ H 6 0 0 (by decide) ?_ (fun h' S => ?_)
        · unfold ff_X7_mean
          rw [c1, if_neg n10, l0, Option.bind_some, if_pos rfl, gd_n hr (by decide), nI_clamp (by omega), l1, e0, if_pos (show nI 0 = 0 from rfl)]
          exact rfC (f := 4) (by decide)
        · rw [eM h' S, e0, if_pos (show nI 0 = 0 from rfl)]; rfl
      · have b0 : bm_ (Int32.toInt64 (nI n)) = true := by rw [nI_l (by omega)]; exact bm_n (by omega) e0
        refine rd_ H 1 1 (Int64.toInt32 (sr64_ (fun i => h.1 (4 + r) i) n 0 0 / Int32.toInt64 (nI n))) (by decide) ?_ (fun h' S => ?_)
        · unfold ff_X7_mean ff_X5r_sum
          rw [c1, if_neg n10, l0, Option.bind_some, if_pos rfl, gd_n hr (by decide), nI_clamp (by omega), l1, if_neg (nI_ne0 (by omega) (by omega)), hk]
          have w := mn_C hr hn l1 n 0 k 0 (by omega)
          rw [show (0 : Int32) = nI 0 from rfl, w, Option.bind_some, gd_t b0]; rfl
        · rw [eM h' S, if_neg (nI_ne0 (by omega) (by omega)), gd_t b0]; rfl
  · exact in_bad H (M := ff_X8_mean a1) (v := -1) (by unfold ff_X7_mean; rw [c1, if_pos rfl]) (by unfold ff_X8_mean; rw [ar_b m1]; rfl)
/-! copy -/
theorem spn_ {h : hh_} {r n z : Nat} (a2 : Int32) (hr : r < 6) (hn : n ≤ 40) (hz : z < 2 ^ 31) (e : h.1 10 r = nI n) : ff_X5r_spans (nI r) a2 (nI z) h = some (bI_ (decide (0 ≤ a2.toInt ∧ a2.toInt + z ≤ n))) := by
  unfold ff_X5r_spans
  by_cases e1 : a2 < 0
  · rw [if_pos e1, decide_eq_false]
    · rfl
    · rw [Int32.lt_iff_toInt_lt, ti_0] at e1
      omega
  · obtain ⟨x, hx, rfl⟩ := nI_of e1
    rw [if_neg e1, gd_n hr (by decide), nI_clamp (by omega), e, nI_toInt hx]
    by_cases e2 : n < z
    · rw [if_pos (nI_lt e2 hz), decide_eq_false (by omega)]; rfl
    · rw [if_neg (nI_nlt (by omega) (by omega)), pk_sub (by omega)]
      by_cases e3 : n - z < x
      · rw [if_pos (nI_lt e3 hx), decide_eq_false (by omega)]; rfl
      · rw [if_neg (nI_nlt (by omega) (by omega)), decide_eq_true (by omega)]; rfl
theorem cmpN {a b : Nat} (ha : a < 2 ^ 63) (hb : b < 2 ^ 63) : lg_cmp (lN a) (lN b) = if b < a then 1 else if a = b then 0 else -1 := by
  unfold lg_cmp
  by_cases e : b < a
  · rw [if_pos e, if_pos (show lN a > lN b from (pk_lLT hb ha).mpr e)]
  · rw [if_neg e, if_neg (show ¬ lN a > lN b from fun q => e ((pk_lLT hb ha).mp q))]
    by_cases e2 : a = b
    · rw [if_pos e2, if_pos (by rw [e2])]
    · rw [if_neg e2, if_neg (fun q => e2 ((pk_lEQ ha hb).mp q))]
theorem cp_M1 {r s x y z : Nat} {KK : hh_ → Option (Int32 × hh_)} {g : Nat → Int32} (hr : r < 6) (hx : x + z ≤ 40) : ∀ (d i m : Nat) (h : hh_), i + d = z → (∀ q, q < z → h.1 101 (40 * r + (x + q)) = g q) → ff_X8_copy_104 (nI r) (nI x) (nI s) (nI y) (nI z) KK (m + d + 1) (nI i) h = KK (fg_ h 102 0 i z g) := by
  intro d
  induction d with
  | zero =>
    intro i m h e eg
    have e : i = z := by omega
    subst e
    rw [ff_X8_copy_104, if_pos (nI_le (by omega) (by omega)), fg_0]
  | succ d ih =>
    intro i m h e eg
    rw [show m + (d + 1) + 1 = (m + d + 1) + 1 by omega, ff_X8_copy_104, if_neg (nI_ge (by omega) (by omega)), nI_add, ra_ h hr (by omega), Option.bind_some, gd_n (by omega) (by decide), nI_clamp (by omega), eg i (by omega), nI_1, ih (i + 1) m _ (by omega) (fun q hq => by rw [sI_ne (by decide)]; exact eg q hq)]
    have w := fg_s (h := h) (k := 102) (b := 0) (a := i) (n := z) (g := g) (by omega)
    rw [Nat.zero_add] at w
    rw [w]
theorem cp_M2 {s y z : Nat} {g : Nat → Int32} (hs : s < 6) (hy : y + z ≤ 40) : ∀ (d i m : Nat) (h : hh_), i + d = z → (∀ q, q < z → h.1 102 q = g q) → ff_X8_copy_136 (nI s) (nI y) (nI z) (m + d + 1) (nI i) h = some (1, fg_ h 101 (40 * s + y) i z g) := by
  intro d
  induction d with
  | zero =>
    intro i m h e eg
    have e : i = z := by omega
    subst e
    rw [ff_X8_copy_136, if_pos (nI_le (by omega) (by omega)), fg_0]
  | succ d ih =>
    intro i m h e eg
    rw [show m + (d + 1) + 1 = (m + d + 1) + 1 by omega, ff_X8_copy_136, if_neg (nI_ge (by omega) (by omega)), gd_n (by omega) (by decide), nI_clamp (by omega), eg i (by omega), nI_add, sr_ h hs (by omega), Option.bind_some, nI_1, ih (i + 1) m _ (by omega) (fun q hq => by rw [sI_ne (by decide)]; exact eg q hq), ← fg_s (h := h) (k := 101) (b := 40 * s + y) (a := i) (n := z) (g := g) (by omega), show 40 * s + (y + i) = 40 * s + y + i by omega]
/-- 4: copy -/
theorem st_4 : sp_4 inv_ := by
  intro h a1 a2 a3 a4 a5 H
  rcases al_r a1 h with ⟨r, hr, rfl, c1, m1⟩ | ⟨c1, m1⟩
  · rcases al_r a3 h with ⟨s, hs, rfl, c2, m2⟩ | ⟨c2, m2⟩
    · by_cases e5 : 0 ≤ a5
      · obtain ⟨z, hz, rfl⟩ := nI_of (x := a5) (by rw [Int32.lt_iff_toInt_lt]; rw [Int32.le_iff_toInt_le] at e5; omega)
        rcases lk_r hr (H.2.1 r hr) with ⟨l0, l1⟩ | ⟨n, hn, l0, l1, l2, l3⟩
        · refine rd_ H 3 0 0 (by decide) ?_ (fun h' S => ?_)
          · unfold ff_X7_copy
            rw [c1, if_neg n10, c2, if_neg n10, if_pos e5, l0, Option.bind_some, if_neg n10]
            exact rfC (f := 1) (by decide)
          · unfold ff_X8_copy
            rw [m1, if_neg n10, m2, if_neg n10, if_pos e5, gd_n hr (by decide), nI_clamp (by omega), S _ _ (by decide) (by decide), l1, if_pos (by decide)]
            exact rfM (f := 1) (by decide)
        · rcases lk_r hs (H.2.1 s hs) with ⟨p0, p1⟩ | ⟨n', hn', p0, p1, p2, p3⟩
          · refine rd_ H 3 0 0 (by decide) ?_ (fun h' S => ?_)
            · unfold ff_X7_copy
              rw [c1, if_neg n10, c2, if_neg n10, if_pos e5, l0, Option.bind_some, if_pos rfl, p0, Option.bind_some, if_neg n10]
              exact rfC (f := 1) (by decide)
            · unfold ff_X8_copy
              rw [m1, if_neg n10, m2, if_neg n10, if_pos e5, gd_n hr (by decide), nI_clamp (by omega), S _ _ (by decide) (by decide), l2, if_neg (nI_pos (by omega)), gd_n hs (by decide), nI_clamp (by omega), S _ _ (by decide) (by decide), p1, if_neg (by decide)]
              exact rfM (f := 1) (by decide)
          · have eC : ff_X7_copy (nI r) a2 (nI s) a4 (nI z) h = if (0 ≤ a2.toInt ∧ a2.toInt + z ≤ n) ∧ (0 ≤ a4.toInt ∧ a4.toInt + z ≤ n') then gd_ (bc_ a2 a4 (nI z) 40 40) (some (1, hh_cp h (4 + r) (4 + s) (Int32.toNatClampNeg a2) (Int32.toNatClampNeg a4) z)) else some (-3, cre_ 2 h) := by
              unfold ff_X7_copy
              rw [c1, if_neg n10, c2, if_neg n10, if_pos e5, l0, Option.bind_some, if_pos rfl, p0, Option.bind_some, if_pos rfl, spn_ a2 hr hn hz l1, Option.bind_some, spn_ a4 hs hn' hz p1, Option.bind_some, show ((ff_X6_refuse (2 : Int32) h).bind fun v9 => some (v9.1, v9.2)) = some (-3, cre_ 2 h) from rfC (f := 2) (by decide), gd_n hr (by decide), gd_n hs (by decide), nI_clamp (show r < 2 ^ 31 by omega), nI_clamp (show s < 2 ^ 31 by omega), nI_clamp hz]
              by_cases q1 : 0 ≤ a2.toInt ∧ a2.toInt + z ≤ n
              · rw [decide_eq_true q1]
                by_cases q2 : 0 ≤ a4.toInt ∧ a4.toInt + z ≤ n'
                · rw [decide_eq_true q2, if_pos (show (0 ≤ a2.toInt ∧ a2.toInt + z ≤ n) ∧ (0 ≤ a4.toInt ∧ a4.toInt + z ≤ n') from ⟨q1, q2⟩)]; rfl
                · rw [decide_eq_false q2, if_neg (show ¬ ((0 ≤ a2.toInt ∧ a2.toInt + z ≤ n) ∧ (0 ≤ a4.toInt ∧ a4.toInt + z ≤ n')) from fun w => q2 w.2)]; rfl
              · rw [decide_eq_false q1, if_neg (show ¬ ((0 ≤ a2.toInt ∧ a2.toInt + z ≤ n) ∧ (0 ≤ a4.toInt ∧ a4.toInt + z ≤ n')) from fun w => q1 w.1)]; rfl
            have eM : ∀ h', h'.1 100 r = nI n → h'.1 100 s = nI n' → (¬ ((0 ≤ a2.toInt ∧ a2.toInt + z ≤ n) ∧ (0 ≤ a4.toInt ∧ a4.toInt + z ≤ n')) → ff_X8_copy (nI r) a2 (nI s) a4 (nI z) h' = some (-3, mre_ 2 h')) ∧ (∀ x y, a2 = nI x → a4 = nI y → x + z ≤ n → y + z ≤ n' → ff_X8_copy (nI r) a2 (nI s) a4 (nI z) h' = some (1, fg_ (fg_ h' 102 0 0 z (fun q => h'.1 101 (40 * r + (x + q)))) 101 (40 * s + y) 0 z (fun q => h'.1 101 (40 * r + (x + q))))) := by
              intro h' g1 g2
              have r2 : ((ff_X8_meet (2 : Int32) h').bind fun v9 => some (v9.1, v9.2)) = some (-3, mre_ 2 h') := rfM (f := 2) (by decide)
              unfold ff_X8_copy
              rw [m1, if_neg n10, m2, if_neg n10, if_pos e5, gd_n hr (by decide), nI_clamp (show r < 2 ^ 31 by omega), g1, if_neg (nI_pos (by omega)), gd_n hs (by decide), nI_clamp (show s < 2 ^ 31 by omega), g2, if_pos (nI_pos' (by omega)), r2]
              constructor
              · intro nq
                by_cases w1 : a2 < 0
                · rw [if_pos w1]
                · rw [if_neg w1]
                  by_cases w2 : a4 < 0
                  · rw [if_pos w2]
                  · rw [if_neg w2]
                    obtain ⟨x, hx, rfl⟩ := nI_of w1
                    obtain ⟨y, hy, rfl⟩ := nI_of w2
                    rw [nI_toInt hx, nI_toInt hy] at nq
                    rw [nI_l hx, nI_l hy, nI_l hz, nI_l (by omega), nI_l (by omega), lN_add, lN_add, cmpN (by omega) (by omega), cmpN (by omega) (by omega)]
                    by_cases v1 : n < x + z
                    · rw [if_pos v1, if_pos (by decide)]
                    · have v2 : n' < y + z := by omega
                      rw [if_neg v1, if_pos v2, if_neg (show ¬ (1 : Int32) ≤ 0 by decide)]
                      by_cases v3 : x + z = n
                      · rw [if_pos v3]; rfl
                      · rw [if_neg v3]; rfl
              · intro x y ex ey q1 q2
                subst ex
                subst ey
                obtain ⟨k, hk⟩ := fu_ z (by omega)
                rw [if_neg (nI_pos (by omega)), if_neg (nI_pos (by omega)), nI_l (show x < 2 ^ 31 by omega), nI_l (show y < 2 ^ 31 by omega), nI_l hz, nI_l (show n < 2 ^ 31 by omega), nI_l (show n' < 2 ^ 31 by omega), lN_add, lN_add, cmpN (by omega) (by omega), cmpN (by omega) (by omega), if_neg (show ¬ n < x + z by omega), if_neg (show ¬ n' < y + z by omega), hk, if_neg (show ¬ 0 < (if x + z = n then (0 : Int32) else -1) from by split <;> decide), if_pos (show (if y + z = n' then (0 : Int32) else -1) ≤ 0 from by split <;> decide)]
                refine (cp_M1 hr (by omega) z 0 k h' (by omega) (g := fun q => h'.1 101 (40 * r + (x + q))) (fun q hq => rfl)).trans ?_
                exact cp_M2 hs (by omega) z 0 k _ (by omega) (fun q hq => by
                  have w := fg_in (h := h') (k := 102) (b := 0) (a := 0) (n := z) (j := q) (g := fun q => h'.1 101 (40 * r + (x + q))) (by omega) hq
                  rw [Nat.zero_add] at w
                  exact w)
            by_cases gq : (0 ≤ a2.toInt ∧ a2.toInt + z ≤ n) ∧ (0 ≤ a4.toInt ∧ a4.toInt + z ≤ n')
            · obtain ⟨x, hx, rfl⟩ := nI_of (x := a2) (by rw [Int32.lt_iff_toInt_lt, ti_0]; omega)
              obtain ⟨y, hy, rfl⟩ := nI_of (x := a4) (by rw [Int32.lt_iff_toInt_lt, ti_0]; omega)
              rw [if_pos gq] at eC
              rw [nI_toInt hx, nI_toInt hy] at gq
              have bc : bc_ (nI x) (nI y) (nI z) 40 40 = true := by
                unfold bc_
                rw [decide_eq_false (nI_pos hx), decide_eq_false (nI_pos hy), decide_eq_false (nI_pos hz), nI_clamp hx, nI_clamp hy, nI_clamp hz, decide_eq_true (show x + z ≤ 40 by omega), decide_eq_true (show y + z ≤ 40 by omega)]; rfl
              rw [gd_t bc, nI_clamp hx, nI_clamp hy] at eC
              have g0 : ∀ c j, c ≠ 4 + s → (hh_cp h (4 + r) (4 + s) x y z).1 c j = h.1 c j := fun c j q => if_neg q
              have g1 : ∀ j, (hh_cp h (4 + r) (4 + s) x y z).1 (4 + s) j = va_cpy (h.1 (4 + r)) (h.1 (4 + s)) x y z j := fun j => if_pos rfl
              refine ⟨1, _, _, eC, (eM _ (by rw [g0 _ _ (by omega)]; exact l2) (by rw [g0 _ _ (by omega)]; exact p2)).2 x y rfl rfl (by omega) (by omega), ?_⟩
              have nw := H.2.2.2.nw
              have H2 : inv_ (fg_ (hh_cp h (4 + r) (4 + s) x y z) 101 (40 * s + y) 0 z (fun q => (hh_cp h (4 + r) (4 + s) x y z).1 101 (40 * r + (x + q)))) := by
                refine inv_rows H (fun k j q => ?_) rfl (iR_new H.2.1 hs hn' ?_ ?_ (fun i hi => ?_) (fun t q => ?_) (fun t q => ?_) (fun t i q q2 => ?_) (fun j q => ?_))
                · rw [fg_ne (by omega), g0 _ _ (by omega)]
                · rw [fg_ne (by decide), g0 _ _ (by omega)]; exact p1
                · rw [fg_ne (by decide), g0 _ _ (by omega)]; exact p2
                · rw [fg_ne (by omega), g1]
                  by_cases v : y ≤ i ∧ i < y + z
                  · rw [pk_cpy_in v.1 v.2, show 40 * s + i = 40 * s + y + (i - y) by omega, fg_in (by omega) (by omega), g0 _ _ (by omega)]
                    exact l3 _ (by omega)
                  · rw [pk_cpy_out (by omega), fg_out (by omega), g0 _ _ (by omega)]
                    exact p3 i hi
                · rw [fg_ne (by decide), g0 _ _ (by omega)]
                · rw [fg_ne (by decide), g0 _ _ (by omega)]
                · rw [fg_ne (by omega), g0 _ _ (by omega)]
                · rw [fg_out (by omega), g0 _ _ (by omega)]
              refine inv_scr H2 (fun k j q => ?_) (fun _ _ _ => rfl) ⟨rfl, rfl⟩
              have k102 : k ≠ 102 := by
                intro e
                subst e
                unfold sc_ fO_ at q
                have nw2 : (fg_ (hh_cp h (4 + r) (4 + s) x y z) 101 (40 * s + y) 0 z (fun q => (hh_cp h (4 + r) (4 + s) x y z).1 101 (40 * r + (x + q)))).2.2.1 = h.2.2.1 := rfl
                rw [nw2] at q
                omega
              by_cases e101 : k = 101
              · subst e101
                by_cases v : 40 * s + y + 0 ≤ j ∧ j < 40 * s + y + z
                · rw [show j = 40 * s + y + (j - (40 * s + y)) by omega, fg_in (by omega) (by omega), fg_in (by omega) (by omega)]
                · rw [fg_out (b := 40 * s + y) (n := z) (by omega), fg_ne (show (101 : Nat) ≠ 102 by decide), fg_out (b := 40 * s + y) (n := z) (by omega)]
              · rw [fg_ne e101, fg_ne e101, fg_ne k102]
            · rw [if_neg gq] at eC
              refine rd_ H 4 0 0 (by decide) eC (fun h' S => ?_)
              exact (eM h' (by rw [S _ _ (by decide) (by decide)]; exact l2) (by rw [S _ _ (by decide) (by decide)]; exact p2)).1 gq
      · refine rd_ H 7 0 0 (by decide) ?_ (fun h' S => ?_)
        · unfold ff_X7_copy
          rw [c1, if_neg n10, c2, if_neg n10, if_neg e5]
          exact rfC (f := 5) (by decide)
        · unfold ff_X8_copy
          rw [m1, if_neg n10, m2, if_neg n10, if_neg e5]
          exact rfM (f := 5) (by decide)
    · exact in_bad H (M := ff_X8_copy (nI r) a2 a3 a4 a5) (v := -1) (by unfold ff_X7_copy; rw [c1, if_neg n10, c2, if_pos rfl]) (by unfold ff_X8_copy; rw [m1, if_neg n10, m2, if_pos rfl])
  · exact in_bad H (M := ff_X8_copy a1 a2 a3 a4 a5) (v := -1) (by unfold ff_X7_copy; rw [c1, if_pos rfl]) (by unfold ff_X8_copy; rw [m1, if_pos rfl])
end
section
/-! ===== mark, error ===== -/
def isa_ (k c : Nat) : Bool := k == c || (k == 4 && c == 3) || (k == 5 && c == 1)
theorem isa_C : ∀ k, k < 6 → ∀ c, c < 6 → 0 < c → (if nI k = nI c then some (1 : Int32) else gd_ (bi_ (nI k) 6) (if (sn_ 5).2.getD (Int32.toNatClampNeg (nI k)) 0 = nI c then some 1 else some 0)) = some (bI_ (isa_ k c)) := by decide +kernel
theorem isa_M : ∀ k, k < 6 → ∀ c, c < 6 → 0 < c → (if nI k = nI c then some (1 : Int32) else if nI c = 1 then (if nI k = 5 then some 1 else ff_X8_isA_24 (nI c) (nI k) hz_) else ff_X8_isA_24 (nI c) (nI k) hz_) = some (bI_ (isa_ k c)) := by decide +kernel
theorem io_C {o t c : Nat} {h : hh_} {D : od_} (K : oK_ D) (C : oC_ o h D) (ht : t < d_t D) (hc : c < 6) (h0 : 0 < c) : ff_X2_isOf o (nI t) (nI c) h = some (bI_ (isa_ (d_T D t 0) c)) := by
  have k2 := K.2.1
  have b := (K.2.2.2.2.2.1 t ht).1
  unfold ff_X2_isOf
  rw [gd_n (by omega) (by decide), nI_clamp (by omega), show Int32.toNatClampNeg 0 = 0 from rfl, C.2.2.2.2.1 t ht 0 (by decide)]
  exact isa_C _ (by omega) c hc h0
theorem io_M {t c : Nat} {h : hh_} {D : od_} (K : oK_ D) (M : oM_ h D) (ht : t < d_t D) (hc : c < 6) (h0 : 0 < c) : ff_X8_isA (nI t) (nI c) h = some (bI_ (isa_ (d_T D t 0) c)) := by
  have k2 := K.2.1
  have b := (K.2.2.2.2.2.1 t ht).1
  have e := M.2.2.2.2.1 t ht 0 (by decide)
  rw [Nat.add_zero] at e
  unfold ff_X8_isA
  rw [show (3 : Int32) = nI 3 from rfl, pk_mul, gd_n (by omega) (by decide), nI_clamp (by omega), e]
  exact isa_M _ (by omega) c hc h0
def fld_ (f : Nat → Int32 → Int32) : Nat → Nat → Int32 → Int32
  | 0, _, x => x
  | d + 1, j, x => fld_ f d (j + 1) (f j x)
def mks_ (c : Nat) (D : od_) (t i j : Nat) (x : Int32) : Int32 :=
  if c = 1 then (if fe_ D i j 0 = 0 then x + 1 else x) else if c = 2 then (if x < nI (mst_ D t i j 0) then nI (mst_ D t i j 0) else x) else if c = 4 then x + (nI (lst_ D t i j 0) - nI (fe_ D i j 0)) else if c = 5 then (if mid_ D t i j 0 = 3 then x + 1 else x) else x
def wsh_ (D : od_) (t i j : Nat) : Bool := decide (j = d_T D t 2) || decide (lst_ D t i j 0 < lst_ D t i (d_T D t 2) 0)
def mko_ (c : Nat) (D : od_) (t i : Nat) (x : Int32) : Int32 := if c = 3 then (if all_ (wsh_ D t i) 4 0 = true then x + 1 else x) else fld_ (mks_ c D t i) 4 0 x
def mkd_ (c : Nat) (D : od_) (t : Nat) : Int32 := fld_ (mko_ c D t) (d_m D) 0 0
theorem fld_s {f : Nat → Int32 → Int32} {d j : Nat} {x : Int32} : fld_ f (d + 1) j x = fld_ f d (j + 1) (f j x) := rfl
theorem mko_n {c t i : Nat} {D : od_} {x : Int32} (h : c ≠ 3) : mko_ c D t i x = fld_ (mks_ c D t i) 4 0 x := if_neg h
theorem a0 (x : Int32) : x + 0 = x := Int32.add_zero x
theorem hv_C1 {o i : Nat} {t : Nat} {h : hh_} {D : od_} {KK : Int32 → Option Int32} (K : oK_ D) (C : oC_ o h D) (hi : i < d_m D) : ∀ (d j m : Nat) (x : Int32), j + d = 4 → ff_X1_heavy_16 o (nI i) h KK (m + d + 1) x (nI j) = KK (fld_ (mks_ 1 D t i) d j x) := by
  intro d
  induction d with
  | zero =>
    intro j m x e
    have e : j = 4 := by omega
    subst e
    rw [ff_X1_heavy_16, if_pos (by decide)]; rfl
  | succ d ih =>
    intro j m x e
    have hj : j < 4 := by omega
    have b := fe_le K (x := 0) hi hj
    rw [show m + (d + 1) + 1 = (m + d + 1) + 1 by omega, ff_X1_heavy_16, if_neg (show ¬ (4 : Int32) ≤ nI j from nI_ge (b := 4) hj (by omega)), fe_C0 K C hi hj, Option.bind_some, nI_1, a0, ih _ _ _ (by omega), ih _ _ _ (by omega), fld_]
    by_cases e2 : fe_ D i j 0 = 0
    · rw [if_pos (show nI (fe_ D i j 0) = 0 by rw [e2]; rfl), show mks_ 1 D t i j x = x + 1 from by unfold mks_; rw [if_pos rfl, if_pos e2]]
    · rw [if_neg (nI_ne0 (by omega) (by omega)), show mks_ 1 D t i j x = x from by unfold mks_; rw [if_pos rfl, if_neg e2]]
theorem hv_C {o t : Nat} {h : hh_} {D : od_} (K : oK_ D) (C : oC_ o h D) : ∀ (d i m : Nat) (x : Int32), i + d = d_m D → ff_X1_heavy_4 o h (m + d + 1) x (nI i) = some (fld_ (mko_ 1 D t) d i x) := by
  have k1 := K.1
  obtain ⟨q, hq⟩ := fu_ 4 (by decide)
  intro d
  induction d with
  | zero =>
    intro i m x e
    rw [ff_X1_heavy_4, show Int32.toNatClampNeg 0 = 0 from rfl, C.1, if_pos (nI_le (by omega) (by omega))]; rfl
  | succ d ih =>
    intro i m x e
    rw [show m + (d + 1) + 1 = (m + d + 1) + 1 by omega, ff_X1_heavy_4, show Int32.toNatClampNeg 0 = 0 from rfl, C.1, if_neg (nI_ge (by omega) (by omega)), hq]
    refine (hv_C1 (t := t) K C (by omega) 4 0 q x rfl).trans ?_
    rw [nI_1, ih _ _ _ (by omega), fld_s (f := mko_ 1 D t), mko_n (by decide)]
theorem lt_C1 {o t i : Nat} {h : hh_} {D : od_} {KK : Int32 → Option Int32} (K : oK_ D) (C : oC_ o h D) (ht : t < d_t D) (hi : i < d_m D) : ∀ (d j m : Nat) (x : Int32), j + d = 4 → ff_X1_light_17 o (nI t) (nI i) h KK (m + d + 1) x (nI j) = KK (fld_ (mks_ 2 D t i) d j x) := by
  intro d
  induction d with
  | zero =>
    intro j m x e
    have e : j = 4 := by omega
    subst e
    rw [ff_X1_light_17, if_pos (by decide)]; rfl
  | succ d ih =>
    intro j m x e
    have hj : j < 4 := by omega
    rw [show m + (d + 1) + 1 = (m + d + 1) + 1 by omega, ff_X1_light_17, if_neg (show ¬ (4 : Int32) ≤ nI j from nI_ge (b := 4) hj (by omega)), ms_C0 K C ht hi hj, Option.bind_some, nI_1, ih _ _ _ (by omega)]; rfl
theorem lt_C {o t : Nat} {h : hh_} {D : od_} (K : oK_ D) (C : oC_ o h D) (ht : t < d_t D) : ∀ (d i m : Nat) (x : Int32), i + d = d_m D → ff_X1_light_4 o (nI t) h (m + d + 1) x (nI i) = some (fld_ (mko_ 2 D t) d i x) := by
  have k1 := K.1
  obtain ⟨q, hq⟩ := fu_ 4 (by decide)
  intro d
  induction d with
  | zero =>
    intro i m x e
    rw [ff_X1_light_4, show Int32.toNatClampNeg 0 = 0 from rfl, C.1, if_pos (nI_le (by omega) (by omega))]; rfl
  | succ d ih =>
    intro i m x e
    rw [show m + (d + 1) + 1 = (m + d + 1) + 1 by omega, ff_X1_light_4, show Int32.toNatClampNeg 0 = 0 from rfl, C.1, if_neg (nI_ge (by omega) (by omega)), hq]
    refine (lt_C1 K C ht (by omega) 4 0 q x rfl).trans ?_
    rw [nI_1, ih _ _ _ (by omega), fld_s (f := mko_ 2 D t), mko_n (by decide)]
theorem cl_C1 {o t i : Nat} {h : hh_} {D : od_} {KK : Int32 → Option Int32} (K : oK_ D) (C : oC_ o h D) (ht : t < d_t D) (hi : i < d_m D) : ∀ (d j m : Nat) (x : Int32), j + d = 4 → ff_X1_clerk_17 o (nI t) (nI i) h KK (m + d + 1) x (nI j) = KK (fld_ (mks_ 4 D t i) d j x) := by
  intro d
  induction d with
  | zero =>
    intro j m x e
    have e : j = 4 := by omega
    subst e
    rw [ff_X1_clerk_17, if_pos (by decide)]; rfl
  | succ d ih =>
    intro j m x e
    have hj : j < 4 := by omega
    rw [show m + (d + 1) + 1 = (m + d + 1) + 1 by omega, ff_X1_clerk_17, if_neg (show ¬ (4 : Int32) ≤ nI j from nI_ge (b := 4) hj (by omega)), ls_C0 K C ht hi hj, Option.bind_some, fe_C0 K C hi hj, Option.bind_some, nI_1, ih _ _ _ (by omega)]; rfl
theorem cl_C {o t : Nat} {h : hh_} {D : od_} (K : oK_ D) (C : oC_ o h D) (ht : t < d_t D) : ∀ (d i m : Nat) (x : Int32), i + d = d_m D → ff_X1_clerk_4 o (nI t) h (m + d + 1) x (nI i) = some (fld_ (mko_ 4 D t) d i x) := by
  have k1 := K.1
  obtain ⟨q, hq⟩ := fu_ 4 (by decide)
  intro d
  induction d with
  | zero =>
    intro i m x e
    rw [ff_X1_clerk_4, show Int32.toNatClampNeg 0 = 0 from rfl, C.1, if_pos (nI_le (by omega) (by omega))]; rfl
  | succ d ih =>
    intro i m x e
    rw [show m + (d + 1) + 1 = (m + d + 1) + 1 by omega, ff_X1_clerk_4, show Int32.toNatClampNeg 0 = 0 from rfl, C.1, if_neg (nI_ge (by omega) (by omega)), hq]
    refine (cl_C1 K C ht (by omega) 4 0 q x rfl).trans ?_
    rw [nI_1, ih _ _ _ (by omega), fld_s (f := mko_ 4 D t), mko_n (by decide)]
theorem du_C1 {o t i : Nat} {h : hh_} {D : od_} {KK : Int32 → Option Int32} (K : oK_ D) (C : oC_ o h D) (ht : t < d_t D) (hi : i < d_m D) : ∀ (d j m : Nat) (x : Int32), j + d = 4 → ff_X1_dull_17 o (nI t) (nI i) h KK (m + d + 1) x (nI j) = KK (fld_ (mks_ 5 D t i) d j x) := by
  intro d
  induction d with
  | zero =>
    intro j m x e
    have e : j = 4 := by omega
    subst e
    rw [ff_X1_dull_17, if_pos (by decide)]; rfl
  | succ d ih =>
    intro j m x e
    have hj : j < 4 := by omega
    have b := mid_le K (t := t) (x := 0) hi hj
    rw [show m + (d + 1) + 1 = (m + d + 1) + 1 by omega, ff_X1_dull_17, if_neg (show ¬ (4 : Int32) ≤ nI j from nI_ge (b := 4) hj (by omega)), md_C0 K C ht hi hj, Option.bind_some, nI_1, a0, ih _ _ _ (by omega), ih _ _ _ (by omega), fld_]
    by_cases e2 : mid_ D t i j 0 = 3
    · rw [if_pos (show nI (mid_ D t i j 0) = 3 by rw [e2]; rfl), show mks_ 5 D t i j x = x + 1 from if_pos e2]
    · rw [if_neg (show ¬ nI (mid_ D t i j 0) = 3 from fun q => e2 ((nI_eq (b := 3) (by omega) (by omega)).mp q)), show mks_ 5 D t i j x = x from if_neg e2]
theorem du_C {o t : Nat} {h : hh_} {D : od_} (K : oK_ D) (C : oC_ o h D) (ht : t < d_t D) : ∀ (d i m : Nat) (x : Int32), i + d = d_m D → ff_X1_dull_4 o (nI t) h (m + d + 1) x (nI i) = some (fld_ (mko_ 5 D t) d i x) := by
  have k1 := K.1
  obtain ⟨q, hq⟩ := fu_ 4 (by decide)
  intro d
  induction d with
  | zero =>
    intro i m x e
    rw [ff_X1_dull_4, show Int32.toNatClampNeg 0 = 0 from rfl, C.1, if_pos (nI_le (by omega) (by omega))]; rfl
  | succ d ih =>
    intro i m x e
    rw [show m + (d + 1) + 1 = (m + d + 1) + 1 by omega, ff_X1_dull_4, show Int32.toNatClampNeg 0 = 0 from rfl, C.1, if_neg (nI_ge (by omega) (by omega)), hq]
    refine (du_C1 K C ht (by omega) 4 0 q x rfl).trans ?_
    rw [nI_1, ih _ _ _ (by omega), fld_s (f := mko_ 5 D t), mko_n (by decide)]
theorem wi_C1 {o t i : Nat} {h : hh_} {D : od_} (K : oK_ D) (C : oC_ o h D) (ht : t < d_t D) (hi : i < d_m D) : ∀ (d j m : Nat), j + d = 4 → ff_X1_hasItsWish_12 o (nI t) (nI i) (nI (d_T D t 2)) h (m + d + 1) (nI j) = some (bI_ (all_ (wsh_ D t i) d j)) := by
  have b2 := (K.2.2.2.2.2.1 t ht).2.2
  intro d
  induction d with
  | zero =>
    intro j m e
    have e : j = 4 := by omega
    subst e
    rw [ff_X1_hasItsWish_12, if_pos (by decide)]; rfl
  | succ d ih =>
    intro j m e
    have hj : j < 4 := by omega
    have l1 := lst_le K (t := t) (x := 0) hi hj
    have l2 := lst_le K (t := t) (x := 0) hi (show d_T D t 2 < 4 by omega)
    rw [show m + (d + 1) + 1 = (m + d + 1) + 1 by omega, ff_X1_hasItsWish_12, if_neg (show ¬ (4 : Int32) ≤ nI j from nI_ge (b := 4) hj (by omega)), nI_1, ih _ _ (by omega), all_]
    unfold wsh_
    by_cases e2 : j = d_T D t 2
    · rw [if_pos (by rw [← e2]), decide_eq_true e2, Bool.true_or, Bool.true_and]
    · rw [if_neg (fun q => e2 ((nI_eq (by omega) (by omega)).mp q)), ls_C0 K C ht hi hj, Option.bind_some, ls_C0 K C ht hi (show d_T D t 2 < 4 by omega), Option.bind_some, decide_eq_false e2, Bool.false_or]
      by_cases e3 : lst_ D t i j 0 < lst_ D t i (d_T D t 2) 0
      · rw [if_pos (nI_lt e3 (by omega)), decide_eq_true e3, Bool.true_and]
      · rw [if_neg (nI_nlt (by omega) (by omega)), decide_eq_false e3, Bool.false_and]; rfl
theorem wi_C {o t : Nat} {h : hh_} {D : od_} (K : oK_ D) (C : oC_ o h D) (ht : t < d_t D) : ∀ (d i m : Nat) (x : Int32), i + d = d_m D → ff_X1_wishing_4 o (nI t) h (m + d + 1) x (nI i) = some (fld_ (mko_ 3 D t) d i x) := by
  have k1 := K.1
  have k2 := K.2.1
  obtain ⟨q, hq⟩ := fu_ 4 (by decide)
  intro d
  induction d with
  | zero =>
    intro i m x e
    rw [ff_X1_wishing_4, show Int32.toNatClampNeg 0 = 0 from rfl, C.1, if_pos (nI_le (by omega) (by omega))]; rfl
  | succ d ih =>
    intro i m x e
    have e5 : ff_X1_hasItsWish o (nI t) (nI i) h = some (bI_ (all_ (wsh_ D t i) 4 0)) := by
      unfold ff_X1_hasItsWish
      rw [gd_n (by omega) (by decide), nI_clamp (by omega), show Int32.toNatClampNeg 2 = 2 from rfl, C.2.2.2.2.1 t ht 2 (by decide), hq]
      exact wi_C1 K C ht (by omega) 4 0 q rfl
    rw [show m + (d + 1) + 1 = (m + d + 1) + 1 by omega, ff_X1_wishing_4, show Int32.toNatClampNeg 0 = 0 from rfl, C.1, if_neg (nI_ge (by omega) (by omega)), e5, Option.bind_some, nI_1, a0, ih _ _ _ (by omega), ih _ _ _ (by omega), fld_]
    show _ = some (fld_ (mko_ 3 D t) d (i + 1) (if all_ (wsh_ D t i) 4 0 = true then x + 1 else x))
    cases all_ (wsh_ D t i) 4 0 <;> rfl
/-! the reference -/
theorem gm_ (x v : Int32) : (if x ≤ v then v else x) = (if x < v then v else x) := by
  by_cases e : x < v
  · have : x ≤ v := by rw [Int32.lt_iff_toInt_lt] at e; rw [Int32.le_iff_toInt_le]; omega
    rw [if_pos e, if_pos this]
  · rw [if_neg e]
    by_cases e2 : x ≤ v
    · rw [if_pos e2]
      rw [Int32.lt_iff_toInt_lt] at e
      rw [Int32.le_iff_toInt_le] at e2
      exact Int32.toInt_inj.mp (by omega)
    · rw [if_neg e2]
theorem mk76 {t i j c : Nat} {x x5 y : Int32} {h : hh_} {D : od_} {KK : Int32 → Int32 → Int32 → Option Int32} (K : oK_ D) (M : oM_ h D) (ht : t < d_t D) (hi : i < d_m D) (hj : j < 4) (hc : c < 6) (h0 : 0 < c) : ff_X8_marked_76 (nI t) (nI c) x (nI i) x5 (nI j) y h KK = KK (mks_ c D t i j x) y (nI (j + 1)) := by
  have b := fe_le K (x := 0) hi hj
  have b2 := mid_le K (t := t) (x := 0) hi hj
  unfold ff_X8_marked_76 ff_X8_marked_99 ff_X8_marked_100 ff_X8_marked_124 ff_X8_marked_153 mks_
  rw [fe_M K M hi hj, Option.bind_some, ms_M K M ht hi hj, ls_M K M ht hi hj, md_M K M ht hi hj, nI_1]
  rcases (show c = 1 ∨ c = 2 ∨ c = 3 ∨ c = 4 ∨ c = 5 by omega) with rfl | rfl | rfl | rfl | rfl
  · by_cases e : fe_ D i j 0 = 0
    · simp (config := {decide := true}) only [a0, if_true, if_false, e]
    · simp (config := {decide := true}) only [a0, if_true, if_false, e, nI_ne0 (Nat.pos_of_ne_zero e) (show fe_ D i j 0 < 2 ^ 31 by omega)]
  · simp (config := {decide := true}) only [a0, if_true, if_false, Option.bind_some]
    unfold ff_X8_greater
    rw [gm_]
  · simp (config := {decide := true}) only [a0, if_true, if_false, Option.bind_some]
  · simp (config := {decide := true}) only [a0, if_true, if_false, Option.bind_some]
  · by_cases e : mid_ D t i j 0 = 3
    · simp (config := {decide := true}) only [a0, if_true, if_false, Option.bind_some, e]
    · have e3 : ¬ nI (mid_ D t i j 0) = 3 := fun q => e ((nI_eq (b := 3) (by omega) (by omega)).mp q)
      simp (config := {decide := true}) only [a0, if_true, if_false, Option.bind_some, e, e3]
theorem mk32 {t i c : Nat} {h : hh_} {D : od_} {KK : Int32 → Int32 → Option Int32} (K : oK_ D) (M : oM_ h D) (ht : t < d_t D) (hi : i < d_m D) (hc : c < 6) (h0 : 0 < c) : ∀ (d j m : Nat) (x : Int32) (b : Bool), j + d = 4 → ff_X8_marked_32 (nI t) (nI c) (nI i) (nI (d_T D t 2)) h KK (m + d + 1) x (bI_ b) (nI j) = KK (fld_ (mks_ c D t i) d j x) (bI_ (b && all_ (wsh_ D t i) d j)) := by
  have b2 := (K.2.2.2.2.2.1 t ht).2.2
  intro d
  induction d with
  | zero =>
    intro j m x b e
    have e : j = 4 := by omega
    subst e
    rw [ff_X8_marked_32, if_pos (by decide), all_, Bool.and_true]; rfl
  | succ d ih =>
    intro j m x b e
    have hj : j < 4 := by omega
    have l1 := lst_le K (t := t) (x := 0) hi hj
    have l2 := lst_le K (t := t) (x := 0) hi (show d_T D t 2 < 4 by omega)
    rw [show m + (d + 1) + 1 = (m + d + 1) + 1 by omega, ff_X8_marked_32, if_neg (show ¬ (4 : Int32) ≤ nI j from nI_ge (b := 4) hj (by omega))]
    unfold ff_X8_marked_75 ff_X8_marked_71
    dsimp only
    rw [mk76 K M ht hi hj hc h0, mk76 K M ht hi hj hc h0, fld_, all_]
    cases b with
    | false =>
      rw [if_pos (show bI_ false = 0 from rfl), Bool.false_and]
      exact (ih (j + 1) m _ false (by omega)).trans (by rw [Bool.false_and])
    | true =>
      rw [if_neg (show ¬ bI_ true = 0 by decide), Bool.true_and]
      unfold wsh_
      by_cases e2 : j = d_T D t 2
      · rw [if_pos (by rw [← e2]), decide_eq_true e2, Bool.true_or, Bool.true_and]
        exact (ih (j + 1) m _ true (by omega)).trans (by rw [Bool.true_and]; rfl)
      · rw [if_neg (fun q => e2 ((nI_eq (by omega) (by omega)).mp q)), ls_M K M ht hi (show d_T D t 2 < 4 by omega), Option.bind_some, ls_M K M ht hi hj, Option.bind_some, decide_eq_false e2, Bool.false_or]
        by_cases e3 : lst_ D t i j 0 < lst_ D t i (d_T D t 2) 0
        · rw [if_neg (nI_ge e3 (by omega)), decide_eq_true e3, Bool.true_and]
          exact (ih (j + 1) m _ true (by omega)).trans (by rw [Bool.true_and]; rfl)
        · rw [if_pos (nI_le (by omega) (by omega)), decide_eq_false e3, Bool.false_and]
          exact (ih (j + 1) m _ false (by omega)).trans (by rw [Bool.false_and])
theorem f3_ {D : od_} {t i : Nat} : ∀ (d j : Nat) (x : Int32), fld_ (mks_ 3 D t i) d j x = x := by
  intro d
  induction d with
  | zero => intro j x; rfl
  | succ d ih => intro j x; rw [fld_, ih]; rfl
theorem mk5 {t c : Nat} {h : hh_} {D : od_} (K : oK_ D) (M : oM_ h D) (ht : t < d_t D) (hc : c < 6) (h0 : 0 < c) : ∀ (d i m : Nat) (x : Int32), i + d = d_m D → ff_X8_marked_5 (nI t) (nI c) h (m + d + 1) x (nI i) = some (fld_ (mko_ c D t) d i x) := by
  have k1 := K.1
  have k2 := K.2.1
  obtain ⟨q, hq⟩ := fu_ 4 (by decide)
  intro d
  induction d with
  | zero =>
    intro i m x e
    rw [ff_X8_marked_5, M.1, if_pos (nI_le (by omega) (by omega))]; rfl
  | succ d ih =>
    intro i m x e
    rw [show m + (d + 1) + 1 = (m + d + 1) + 1 by omega, ff_X8_marked_5, M.1, if_neg (nI_ge (by omega) (by omega)), show (3 : Int32) * nI t + 2 = nI (3 * t + 2) from by rw [show (3 : Int32) = nI 3 from rfl, pk_mul]; exact nI_add _ 2, gd_n (by omega) (by decide), nI_clamp (by omega), M.2.2.2.2.1 t ht 2 (by decide), hq]
    refine (mk32 K M ht (by omega) hc h0 4 0 q x true rfl).trans ?_
    rw [Bool.true_and, nI_1, a0, ih _ _ _ (by omega), ih _ _ _ (by omega), fld_s (f := mko_ c D t)]
    by_cases e3 : c = 3
    · subst e3
      rw [if_pos (show nI 3 = 3 from rfl), f3_, show mko_ 3 D t i x = if all_ (wsh_ D t i) 4 0 = true then x + 1 else x from rfl]
      cases all_ (wsh_ D t i) 4 0 <;> rfl
    · rw [if_neg (show ¬ nI c = 3 from fun w => e3 ((nI_eq (b := 3) (by omega) (by omega)).mp w)), mko_n e3]
/-- 13: mark -/
theorem st_13 : sp_13 inv_ := by
  intro h a1 a2 H
  obtain ⟨hn, D, F, ds, n, K, C, M, -⟩ := H.2.2.2
  have k1 := K.1
  have B := H.2.2.2.nwB
  obtain ⟨q, hq⟩ := fu_ (d_m D) (by omega)
  rcases hs_1 a1 K C M with ⟨t, ht, rfl, c1, m1⟩ | ⟨c1, m1⟩
  · have key : (∃ c, c < 6 ∧ 0 < c ∧ a2 = nI c ∧ ¬ a2 < 1 ∧ a2 < 6 ∧ ff_X8_in a2 1 5 = 1) ∨ ((a2 < 1 ∨ (¬ a2 < 1 ∧ ¬ a2 < 6)) ∧ ff_X8_in a2 1 5 = 0) := by
      by_cases e1 : a2 < 1
      · exact Or.inr ⟨Or.inl e1, in_f (lo := 1) (hi := 5) (Or.inl e1)⟩
      · by_cases e2 : a2 < 6
        · rw [Int32.lt_iff_toInt_lt, show (1 : Int32).toInt = 1 from rfl] at e1
          obtain ⟨c, hc, rfl⟩ := nI_of (x := a2) (by rw [Int32.lt_iff_toInt_lt, ti_0]; omega)
          rw [nI_toInt hc] at e1
          have e3 := (nI_ltI (b := 6) hc (by omega)).mp e2
          exact Or.inl ⟨c, e3, by omega, rfl, by rw [Int32.lt_iff_toInt_lt, nI_toInt hc, show (1 : Int32).toInt = 1 from rfl]; omega, e2, in_t (lo := 1) (hi := 5) (by omega) (by omega) (by decide)⟩
        · refine Or.inr ⟨Or.inr ⟨e1, e2⟩, in_f (lo := 1) (hi := 5) (Or.inr ?_)⟩
          rw [Int32.lt_iff_toInt_lt, show (6 : Int32).toInt = 6 from rfl] at e2
          rw [Int32.lt_iff_toInt_lt, show (nI 5).toInt = 5 from rfl]
          omega
    rcases key with ⟨c, hc, h0, rfl, w1, w2, w3⟩ | ⟨w1, w3⟩
    · by_cases e4 : isa_ (d_T D t 0) c = true
      · refine rd_ H 0 (mkd_ c D t) 0 (by decide) ?_ (fun h' S => ?_)
        · unfold ff_X7_mark ff_X1_heavy ff_X1_light ff_X1_wishing ff_X1_clerk ff_X1_dull
          rw [gd_t B, c1, Option.bind_some, if_neg n10, if_neg w1, if_pos w2, io_C K C ht hc h0, Option.bind_some, e4, if_neg (show ¬ bI_ true = 0 by decide), hq, show (0 : Int32) = nI 0 from rfl, hv_C (t := t) K C (d_m D) 0 q _ (by omega), lt_C K C ht (d_m D) 0 q _ (by omega), wi_C K C ht (d_m D) 0 q _ (by omega), cl_C K C ht (d_m D) 0 q _ (by omega), du_C K C ht (d_m D) 0 q _ (by omega)]
          rcases (show c = 1 ∨ c = 2 ∨ c = 3 ∨ c = 4 ∨ c = 5 by omega) with rfl | rfl | rfl | rfl | rfl <;> rfl
        · unfold ff_X8_mark ff_X8_marked
          rw [S.iT (D := D) m1, if_neg n10, w3, if_neg n10, io_M K (S.oM M) ht hc h0, Option.bind_some, e4, if_neg (show ¬ bI_ true = 0 by decide), hq, show (0 : Int32) = nI 0 from rfl, mk5 K (S.oM M) ht hc h0 (d_m D) 0 q _ (by omega)]; rfl
      · have e5 : isa_ (d_T D t 0) c = false := Bool.eq_false_iff.mpr e4
        refine rd_ H 5 0 0 (by decide) ?_ (fun h' S => ?_)
        · unfold ff_X7_mark
          rw [gd_t B, c1, Option.bind_some, if_neg n10, if_neg w1, if_pos w2, io_C K C ht hc h0, Option.bind_some, e5, if_pos (show bI_ false = 0 from rfl)]
          exact rfC (f := 3) (by decide)
        · unfold ff_X8_mark
          rw [S.iT (D := D) m1, if_neg n10, w3, if_neg n10, io_M K (S.oM M) ht hc h0, Option.bind_some, e5, if_pos (show bI_ false = 0 from rfl)]
          exact rfM (f := 3) (by decide)
    · refine rd_ H 0 (-1) 0 (by decide) ?_ (fun h' S => ?_)
      · unfold ff_X7_mark
        rw [gd_t B, c1, Option.bind_some, if_neg n10]
        rcases w1 with w | ⟨w, w2⟩
        · rw [if_pos w]; rfl
        · rw [if_neg w, if_neg w2]; rfl
      · unfold ff_X8_mark
        rw [S.iT (D := D) m1, if_neg n10, w3, if_pos rfl]; rfl
  · refine rd_ H 0 (-1) 0 (by decide) ?_ (fun h' S => ?_)
    · unfold ff_X7_mark
      rw [gd_t B, c1, Option.bind_some, if_pos rfl]; rfl
    · unfold ff_X8_mark
      rw [S.iT (D := D) m1, if_pos rfl]; rfl
end
section
/-! ===== DEEDS ===== -/
def inc_ (v : Int32) : Int32 := if v + 1 < 5 then v + 1 else 5
theorem inc_n {v : Nat} (hv : v < 2 ^ 30) : inc_ (nI v) = nI (min 5 (v + 1)) := by
  unfold inc_
  rw [nI_1]
  by_cases e : v + 1 < 5
  · rw [if_pos (show nI (v + 1) < 5 from nI_lt (b := 5) e (by omega)), Nat.min_eq_right (by omega)]
  · rw [if_neg (show ¬ nI (v + 1) < 5 from nI_nlt (b := 5) (by omega) (by omega)), Nat.min_eq_left (by omega)]; rfl
def inq_ (h : hh_) (a x j0 : Nat) : hh_ := (fun k j => if k = a ∧ j0 ≤ j ∧ j < 4 ∧ (x = 4 ∨ x = j) then inc_ (h.1 k j) else h.1 k j, h.2)
theorem inq_v {h : hh_} {a x j0 k j : Nat} : (inq_ h a x j0).1 k j = if k = a ∧ j0 ≤ j ∧ j < 4 ∧ (x = 4 ∨ x = j) then inc_ (h.1 k j) else h.1 k j := rfl
theorem inq_s {h : hh_} {a x j : Nat} (hj : j < 4) (hx : x = 4 ∨ x = j) : inq_ (hh_sI h a j (inc_ (h.1 a j))) a x (j + 1) = inq_ h a x j := by
  refine hh_ext (fun k y => ?_) (fun _ _ => rfl) rfl
  rw [inq_v, inq_v]
  by_cases e : k = a
  · subst e
    by_cases e2 : y = j
    · subst e2
      rw [if_neg (by omega), if_pos ⟨rfl, Nat.le_refl _, hj, hx⟩, sI_eq]
    · rw [sI_nj e2]
      by_cases e3 : k = k ∧ j + 1 ≤ y ∧ y < 4 ∧ (x = 4 ∨ x = y)
      · rw [if_pos e3, if_pos (by omega)]
      · rw [if_neg e3, if_neg (by omega)]
  · rw [if_neg (fun q => e q.1), if_neg (fun q => e q.1), sI_ne e]
theorem inq_n {h : hh_} {a x j : Nat} (hx : ¬ (x = 4 ∨ x = j)) : inq_ h a x (j + 1) = inq_ h a x j := by
  refine hh_ext (fun k y => ?_) (fun _ _ => rfl) rfl
  rw [inq_v, inq_v]
  by_cases e3 : k = a ∧ j + 1 ≤ y ∧ y < 4 ∧ (x = 4 ∨ x = y)
  · rw [if_pos e3, if_pos (by omega)]
  · rw [if_neg e3, if_neg]
    intro q
    apply e3
    refine ⟨q.1, ?_, q.2.2⟩
    by_cases e4 : y = j
    · subst e4
      exact absurd q.2.2.2 hx
    · omega
theorem inq_loop {a x : Nat} (hx : x < 5) : ∀ (d j m : Nat) (h : hh_), j + d = 4 → ff_X2_repeat_30 a (nI x) (m + d + 1) (nI j) h = some (inq_ h a x j) := by
  intro d
  induction d with
  | zero =>
    intro j m h e
    have e : j = 4 := by omega
    subst e
    rw [ff_X2_repeat_30, if_pos (by decide)]
    refine congrArg some (hh_ext (fun k y => ?_) (fun _ _ => rfl) rfl)
    rw [inq_v, if_neg (by omega)]
  | succ d ih =>
    intro j m h e
    have hj : j < 4 := by omega
    rw [show m + (d + 1) + 1 = (m + d + 1) + 1 by omega, ff_X2_repeat_30, if_neg (show ¬ (4 : Int32) ≤ nI j from nI_ge (b := 4) hj (by omega))]
    unfold ff_X2_repeat_47
    rw [gd_n (by omega) (by decide), nI_clamp (by omega), nI_1]
    dsimp only
    rw [ih _ _ _ (by omega), ih _ _ _ (by omega)]
    by_cases e2 : x = 4
    · rw [if_pos (show nI x = 4 by rw [e2]; rfl)]
      exact congrArg some (inq_s hj (Or.inl e2))
    · rw [if_neg (show ¬ nI x = 4 from fun q => e2 ((nI_eq (b := 4) (by omega) (by omega)).mp q))]
      by_cases e3 : x = j
      · rw [if_pos (by rw [e3])]
        exact congrArg some (inq_s hj (Or.inr e3))
      · rw [if_neg (fun q => e3 ((nI_eq (by omega) (by omega)).mp q)), inq_n (by omega)]
def rp1_ (h : hh_) (o c : Nat) : hh_ := if c % 8 < 5 then inq_ h (o + 8 + c / 8) (c % 8) 0 else hh_sI h (o + 8 + c / 8) 4 (nI (c % 8 - 5))
theorem rep_C {o c : Nat} {h : hh_} (hc : c < 40) : ff_X2_repeat o (nI c) h = some (rp1_ h o c) := by
  unfold ff_X2_repeat rp1_
  rw [show (8 : Int32) = nI 8 from rfl, pk_rem (by omega) (by omega) (by omega), pk_div (by omega) (by omega) (by omega), gd_n (by omega) (by decide), nI_clamp (by omega)]
  obtain ⟨k, hk⟩ := fu_ 4 (by decide)
  by_cases e : c % 8 < 5
  · rw [if_pos (show nI (c % 8) < 5 from nI_lt (b := 5) e (by omega)), if_pos e, hk]
    exact inq_loop e 4 0 k h rfl
  · rw [if_neg (show ¬ nI (c % 8) < 5 from nI_nlt (b := 5) (by omega) (by omega)), if_neg e, show nI (c % 8) - 5 = nI (c % 8 - 5) from pk_sub (b := 5) (by omega)]; rfl
theorem rp1_2 {h : hh_} {o c : Nat} : (rp1_ h o c).2 = h.2 := by
  unfold rp1_
  split <;> rfl
theorem rp1_ne {h : hh_} {o c k j : Nat} (e : k ≠ o + 8 + c / 8) : (rp1_ h o c).1 k j = h.1 k j := by
  unfold rp1_
  split
  · rw [inq_v, if_neg (fun q => e q.1)]
  · rw [sI_ne e]
theorem rp1_H {h : hh_} {o c m : Nat} {H : Nat → Nat → Nat} (hb : ∀ i, i < m → ∀ j, j < 5 → H i j < 2 ^ 30) (hH : ∀ i, i < m → ∀ j, j < 5 → h.1 (o + 8 + i) j = nI (H i j)) : ∀ i, i < m → ∀ j, j < 5 → (rp1_ h o c).1 (o + 8 + i) j = nI (ap_ c H i j) := by
  intro i hi j hj
  unfold ap_
  by_cases e : i = c / 8
  · rw [if_pos e]
    unfold rp1_
    by_cases e2 : c % 8 < 5
    · rw [if_pos e2, if_neg (show ¬ 5 ≤ c % 8 by omega), inq_v, hH i hi j hj]
      by_cases e3 : j < 4 ∧ (c % 8 = 4 ∨ c % 8 = j)
      · rw [if_pos e3, if_pos (by omega), inc_n (hb i hi j hj)]
      · rw [if_neg e3, if_neg (by omega)]
    · rw [if_neg e2, if_pos (show 5 ≤ c % 8 by omega), ← e, sI_if, hH i hi j hj]
      by_cases e3 : j = 4
      · rw [if_pos e3, if_pos e3]
      · rw [if_neg e3, if_neg e3]
  · rw [if_neg e, rp1_ne (by omega), hH i hi j hj]
theorem ap_b {c i : Nat} {H : Nat → Nat → Nat} (hb : (∀ j, j < 4 → H i j ≤ 5) ∧ H i 4 ≤ 3) : (∀ j, j < 4 → ap_ c H i j ≤ 5) ∧ ap_ c H i 4 ≤ 3 := by
  have h1 := hb.2
  constructor
  · intro j hj
    have h2 := hb.1 j hj
    unfold ap_
    repeat' split
    all_goals omega
  · unfold ap_
    repeat' split
    all_goals omega
theorem ap_c {c m : Nat} {H H' : Nat → Nat → Nat} (e : ∀ i, i < m → ∀ j, j < 5 → H i j = H' i j) : ∀ i, i < m → ∀ j, j < 5 → ap_ c H i j = ap_ c H' i j := by
  intro i hi j hj
  unfold ap_
  rw [e i hi j hj]
theorem rp_c {F : Nat → Nat → Nat} {ds ds' : Nat → Nat} : ∀ (n : Nat), (∀ d, d < n → ds d = ds' d) → rp_ F ds n = rp_ F ds' n := by
  intro n
  induction n with
  | zero => intro _; rfl
  | succ n ih =>
    intro e
    rw [rp_, rp_, e n (by omega), ih (fun d hd => e d (by omega))]
/-- a new DEED keeps the invariant -/
theorem act_I {h h2 : hh_} {D : od_} {F : Nat → Nat → Nat} {ds : Nat → Nat} {n c : Nat} (H : inv_ h) (K : oK_ D) (C : oC_ h.2.2.1 h D) (M : oM_ h D) (k6 : dd2_ h (d_m D) F ds n (h.2.2.1 + 24) 109 0) (k7 : ∀ i, i < d_m D → ∀ j, j < 5 → h.1 (h.2.2.1 + 2 + i) j = nI (F i j)) (k8 : ∀ i, i < d_m D → (∀ j, j < 4 → F i j ≤ 5) ∧ F i 4 ≤ 3) (k9 : ∀ i, i < d_m D → ∀ j, j < 5 → d_H D i j = rp_ F ds n i j) (k11 : ∀ k, k < 3 → kp_ h (d_m D) (d_t D) F k) (hc : c < 40) (hm : c / 8 < d_m D) (hn : n < 40) (e1 : ∀ k j, ¬ (k = h.2.2.1 ∧ j = 6) → ¬ (h.2.2.1 + 8 ≤ k ∧ k < h.2.2.1 + 13) → k ≠ h.2.2.1 + 24 → k ≠ 105 → k ≠ 109 → ¬ (k = 98 ∧ j = 21) → h2.1 k j = h.1 k j) (e2 : h2.2 = h.2) (e3 : h2.1 h.2.2.1 6 = nI (n + 1)) (e4 : h2.1 98 21 = nI (n + 1)) (e5 : ∀ i, i < d_m D → ∀ j, j < 5 → h2.1 (h.2.2.1 + 8 + i) j = nI (ap_ c (d_H D) i j)) (e6 : ∀ i, i < d_m D → ∀ j, j < 5 → h2.1 105 (5 * i + j) = nI (ap_ c (d_H D) i j)) (e7 : ∀ d, h2.1 (h.2.2.1 + 24) d = if d = n then nI c else h.1 (h.2.2.1 + 24) d) (e8 : ∀ x, x < 25 * n → h2.1 109 x = h.1 109 x) (e9 : ∀ x, x < 25 → h2.1 109 (25 * n + x) = h.1 105 x) : inv_ h2 := by
  have nw := H.2.2.2.nw
  have hn0 := H.2.2.2.1
  obtain ⟨hT, hR, hX, hO⟩ := H
  have m5 := K.1
  have t4 := K.2.1
  have p4 := K.2.2.1
  refine ⟨hT.fr (fun k j q => e1 _ _ (by omega) (by omega) (by omega) (by omega) (by omega) (by omega)) (fun k j q => by rw [e2]), hR.fr (fun k j q => e1 _ _ (by omega) (by omega) (by omega) (by omega) (by omega) (by omega)), hX.fr (fun k j q => e1 _ _ (by omega) (by omega) (by omega) (by omega) (by omega) (by omega)), ?_⟩
  have hr : ∀ d, d ≤ n → rp_ F (fun d => if d = n then c else ds d) d = rp_ F ds d := fun d hd => rp_c d (fun x hx => if_neg (by omega))
  unfold iO_
  rw [e2]
  refine ⟨hn0, (D.1, D.2.1, D.2.2.1, ap_ c (d_H D), D.2.2.2.2), F, (fun d => if d = n then c else ds d), n + 1, ?_, ?_, ?_, e3, e4, ⟨by omega, fun d hd => ?_, fun d hd i hi j hj => ?_⟩, fun i hi j hj => ?_, k8, fun i hi j hj => ?_, fun q => absurd hm (by have : d_m D = 0 := q; omega), fun k hk => ?_⟩
  · exact ⟨K.1, K.2.1, K.2.2.1, K.2.2.2.1, fun i hi => ap_b (K.2.2.2.2.1 i hi), K.2.2.2.2.2.1, K.2.2.2.2.2.2⟩
  · refine ⟨?_, ?_, ?_, e5, fun t ht j hj => ?_, fun p hp j hj => ?_⟩
    · rw [e1 _ _ (by omega) (by omega) (by omega) (by omega) (by omega) (by omega)]; exact C.1
    · rw [e1 _ _ (by omega) (by omega) (by omega) (by omega) (by omega) (by omega)]; exact C.2.1
    · rw [e1 _ _ (by omega) (by omega) (by omega) (by omega) (by omega) (by omega)]; exact C.2.2.1
    · have ht : t < d_t D := ht
      rw [e1 _ _ (by omega) (by omega) (by omega) (by omega) (by omega) (by omega)]; exact C.2.2.2.2.1 t ht j hj
    · have hp : p < d_p D := hp
      rw [e1 _ _ (by omega) (by omega) (by omega) (by omega) (by omega) (by omega)]; exact C.2.2.2.2.2 p hp j hj
  · refine ⟨?_, ?_, ?_, e6, fun t ht j hj => ?_, fun p hp j hj => ?_⟩
    · rw [e1 _ _ (by omega) (by omega) (by omega) (by omega) (by omega) (by omega)]; exact M.1
    · rw [e1 _ _ (by omega) (by omega) (by omega) (by omega) (by omega) (by omega)]; exact M.2.1
    · rw [e1 _ _ (by omega) (by omega) (by omega) (by omega) (by omega) (by omega)]; exact M.2.2.1
    · rw [e1 _ _ (by omega) (by omega) (by omega) (by omega) (by omega) (by omega)]; exact M.2.2.2.2.1 t ht j hj
    · rw [e1 _ _ (by omega) (by omega) (by omega) (by omega) (by omega) (by omega)]; exact M.2.2.2.2.2 p hp j hj
  · rw [e7]
    dsimp only
    by_cases e : d = n
    · rw [if_pos e, if_pos e]; exact ⟨rfl, hm, hc⟩
    · rw [if_neg e, if_neg e]; exact k6.2.1 d (by omega)
  · have hi : i < d_m D := hi
    rw [hr d (by omega), Nat.zero_add]
    by_cases e : d = n
    · subst e
      rw [e9 _ (by omega), M.2.2.2.1 i hi j hj, k9 i hi j hj]
    · rw [e8 _ (by omega)]
      have w := k6.2.2 d (by omega) i hi j hj
      rw [Nat.zero_add] at w
      exact w
  · have hi : i < d_m D := hi
    rw [e1 _ _ (by omega) (by omega) (by omega) (by omega) (by omega) (by omega)]; exact k7 i hi j hj
  · show ap_ c (d_H D) i j = rp_ F (fun d => if d = n then c else ds d) (n + 1) i j
    rw [rp_, hr n (Nat.le_refl _), if_pos rfl]
    exact ap_c k9 i hi j hj
  · exact (k11 k hk).fr hk (fun x j q => e1 _ _ (by omega) (by omega) (by omega) (by omega) (by omega) (by omega))
/-- the class's part -/
def acC_ (h : hh_) (o n c : Nat) : hh_ := hh_sI (rp1_ (hh_sI h (o + 24) n (nI c)) o c) o 6 (nI (n + 1))
theorem act_C {o i x n : Nat} {h : hh_} (hi : i < 5) (hx : x < 8) (hn : n < 40) (e : h.1 o 6 = nI n) : ff_X2_act o (nI i) (nI x) h = some (acC_ h o n (i * 8 + x)) := by
  unfold ff_X2_act acC_
  rw [show (8 : Int32) = nI 8 from rfl, pk_mul, nI_add, e, gd_n hn (by decide), nI_clamp (by omega), sI_ne (by omega), e, gd_n hn (by decide), nI_clamp (by omega), sI_eq, rep_C (by omega), Option.bind_some, rp1_ne (by omega), sI_ne (by omega), e, nI_1]
theorem acC_2 {h : hh_} {o n c : Nat} : (acC_ h o n c).2 = h.2 := rp1_2 (h := hh_sI h (o + 24) n (nI c))
theorem acC_ne {h : hh_} {o n c k j : Nat} (q1 : ¬ (k = o ∧ j = 6)) (q2 : k ≠ o + 8 + c / 8) (q3 : k ≠ o + 24) : (acC_ h o n c).1 k j = h.1 k j := by
  unfold acC_
  by_cases e : k = o
  · rw [e, sI_nj (by omega), rp1_ne (by omega), sI_ne (by omega)]
  · rw [sI_ne e, rp1_ne q2, sI_ne q3]
/-- the reference's note -/
theorem wr_loop {a b N : Nat} (ha : a ≠ 105) (sh : sh_ a = (1, N)) (hb : b + 25 ≤ N) (hN : N < 2 ^ 31) (g : Nat → Int32) : ∀ (d x m : Nat) (h : hh_), x + d = 25 → (∀ y, y < 25 → h.1 105 y = g y) → ff_X8_write_2 a (nI b) (m + d + 1) (nI x) h = some (fg_ h a b x 25 g) := by
  intro d
  induction d with
  | zero =>
    intro x m h e eg
    have e : x = 25 := by omega
    subst e
    rw [ff_X8_write_2, if_pos (by decide), fg_0]
  | succ d ih =>
    intro x m h e eg
    have bp : bp_ a (nI (b + x)) = true := by
      unfold bp_
      rw [sh]
      exact bi_t (by omega) hN
    rw [show m + (d + 1) + 1 = (m + d + 1) + 1 by omega, ff_X8_write_2, if_neg (show ¬ (25 : Int32) ≤ nI x from nI_ge (b := 25) (by omega) (by omega)), gd_n (by omega) (by decide), nI_add, gd_t bp, nI_clamp (show b + x < 2 ^ 31 by omega), nI_clamp (show x < 2 ^ 31 by omega), eg x (by omega), nI_1, ih (x + 1) m _ (by omega) (fun y hy => by rw [sI_ne (fun q => ha q.symm)]; exact eg y hy), fg_s (by omega)]
theorem wr_M {a b N : Nat} {h : hh_} (ha : a ≠ 105) (sh : sh_ a = (1, N)) (hb : b + 25 ≤ N) (hN : N < 2 ^ 31) : ff_X8_write a (nI b) h = some (fg_ h a b 0 25 (fun y => h.1 105 y)) := by
  unfold ff_X8_write
  obtain ⟨k, hk⟩ := fu_ 25 (by decide)
  rw [hk]
  exact wr_loop ha sh hb hN _ 25 0 k h rfl (fun y hy => rfl)
theorem sh109 : sh_ 109 = (1, 1000) := by decide +kernel
theorem sh110 : sh_ 110 = (1, 3090) := by decide +kernel
def nt_ (h : hh_) (n : Nat) : hh_ := hh_sI (fg_ h 109 (25 * n) 0 25 (fun y => h.1 105 y)) 98 21 (nI (n + 1))
theorem nt_M {n : Nat} {h : hh_} (hn : n < 40) (e : h.1 98 21 = nI n) : ff_X8_note h = some (nt_ h n) := by
  unfold ff_X8_note nt_
  rw [e, show (25 : Int32) = nI 25 from rfl, pk_mul, wr_M (by decide) sh109 (by omega) (by decide), Option.bind_some, fg_ne (by decide), e, nI_1]
theorem nt_ne {h : hh_} {n k j : Nat} (q1 : k ≠ 109) (q2 : ¬ (k = 98 ∧ j = 21)) : (nt_ h n).1 k j = h.1 k j := by
  unfold nt_
  by_cases e : k = 98
  · rw [e, sI_nj (by omega), fg_ne (by decide)]
  · rw [sI_ne e, fg_ne q1]
theorem nt_old {h : hh_} {n x : Nat} (hx : x < 25 * n) : (nt_ h n).1 109 x = h.1 109 x := by
  unfold nt_
  rw [sI_ne (by decide), fg_out (by omega)]
theorem nt_new {h : hh_} {n x : Nat} (hx : x < 25) : (nt_ h n).1 109 (25 * n + x) = h.1 105 x := by
  unfold nt_
  rw [sI_ne (by decide), fg_in (by omega) hx]
end
section
/-! ===== pad, grow, cut, error ===== -/
theorem ap_pad {H : Nat → Nat → Nat} {i j a b : Nat} (hj : j < 4) (hb : H i j < 5) : ap_ (i * 8 + j) H a b = if a = i ∧ b = j then H i j + 1 else H a b := by
  unfold ap_
  rw [show (i * 8 + j) / 8 = i by omega, show (i * 8 + j) % 8 = j by omega]
  by_cases e : a = i
  · subst e
    rw [if_pos rfl, if_neg (by omega)]
    by_cases e2 : b = j
    · subst e2
      rw [if_pos (by omega), if_pos ⟨rfl, rfl⟩, Nat.min_eq_right (by omega)]
    · rw [if_neg (by omega), if_neg (by omega)]
  · rw [if_neg e, if_neg (fun q => e q.1)]
theorem ap_grow {H : Nat → Nat → Nat} {i a b : Nat} : ap_ (i * 8 + 4) H a b = if a = i ∧ b < 4 then min 5 (H a b + 1) else H a b := by
  unfold ap_
  rw [show (i * 8 + 4) / 8 = i by omega, show (i * 8 + 4) % 8 = 4 by omega]
  by_cases e : a = i
  · subst e
    rw [if_pos rfl, if_neg (by omega)]
    by_cases e2 : b < 4
    · rw [if_pos (by omega), if_pos ⟨rfl, e2⟩]
    · rw [if_neg (by omega), if_neg (by omega)]
  · rw [if_neg e, if_neg (fun q => e q.1)]
theorem ap_cut {H : Nat → Nat → Nat} {i x a b : Nat} (hx : x < 3) : ap_ (i * 8 + (5 + x)) H a b = if a = i ∧ b = 4 then x else H a b := by
  unfold ap_
  rw [show (i * 8 + (5 + x)) / 8 = i by omega, show (i * 8 + (5 + x)) % 8 = 5 + x by omega]
  by_cases e : a = i
  · subst e
    rw [if_pos rfl, if_pos (by omega)]
    by_cases e2 : b = 4
    · rw [if_pos e2, if_pos ⟨rfl, e2⟩]; omega
    · rw [if_neg e2, if_neg (by omega)]
  · rw [if_neg e, if_neg (fun q => e q.1)]
/-- both parts together: g the new numbers in the reference's cell 105 -/
theorem act_J {h h2 : hh_} {D : od_} {F : Nat → Nat → Nat} {ds : Nat → Nat} {n c : Nat} (H : inv_ h) (K : oK_ D) (C : oC_ h.2.2.1 h D) (M : oM_ h D) (k6 : dd2_ h (d_m D) F ds n (h.2.2.1 + 24) 109 0) (k7 : ∀ i, i < d_m D → ∀ j, j < 5 → h.1 (h.2.2.1 + 2 + i) j = nI (F i j)) (k8 : ∀ i, i < d_m D → (∀ j, j < 4 → F i j ≤ 5) ∧ F i 4 ≤ 3) (k9 : ∀ i, i < d_m D → ∀ j, j < 5 → d_H D i j = rp_ F ds n i j) (k11 : ∀ k, k < 3 → kp_ h (d_m D) (d_t D) F k) (hc : c < 40) (hm : c / 8 < d_m D) (hn : n < 40) (e1 : ∀ k j, k ≠ 105 → h2.1 k j = (nt_ (acC_ h h.2.2.1 n c) n).1 k j) (e2 : h2.2 = h.2) (e6 : ∀ i, i < d_m D → ∀ j, j < 5 → h2.1 105 (5 * i + j) = nI (ap_ c (d_H D) i j)) : inv_ h2 := by
  have nw := H.2.2.2.nw
  have m5 := K.1
  have bd : ∀ i, i < d_m D → ∀ j, j < 5 → d_H D i j < 2 ^ 30 := by
    intro i hi j hj
    have b := K.2.2.2.2.1 i hi
    by_cases e : j = 4
    · subst e
      have := b.2
      omega
    · have := b.1 j (by omega)
      omega
  refine act_I H K C M k6 k7 k8 k9 k11 hc hm hn (fun k j q1 q2 q3 q4 q5 q6 => ?_) e2 ?_ ?_ (fun i hi j hj => ?_) e6 (fun d => ?_) (fun x hx => ?_) (fun x hx => ?_)
  · rw [e1 _ _ q4, nt_ne q5 q6, acC_ne q1 (by omega) q3]
  · rw [e1 _ _ (by omega), nt_ne (by omega) (by omega)]
    unfold acC_
    rw [sI_eq]
  · rw [e1 _ _ (by omega)]
    unfold nt_
    rw [sI_eq]
  · rw [e1 _ _ (by omega), nt_ne (by omega) (by omega)]
    unfold acC_
    rw [sI_ne (by omega)]
    exact rp1_H bd (fun i hi j hj => by rw [sI_ne (by omega)]; exact C.2.2.2.1 i hi j hj) i hi j hj
  · rw [e1 _ _ (by omega), nt_ne (by omega) (by omega)]
    unfold acC_
    rw [sI_ne (by omega), rp1_ne (by omega), sI_if]
  · rw [e1 _ _ (by decide), nt_old hx, acC_ne (by omega) (by omega) (by omega)]
  · rw [e1 _ _ (by decide), nt_new hx, acC_ne (by omega) (by omega) (by omega)]
theorem acC_H {h : hh_} {D : od_} {o n c : Nat} (K : oK_ D) (C : oC_ o h D) (ho : o = 39 ∨ o = 64) : ∀ i, i < d_m D → ∀ j, j < 5 → (acC_ h o n c).1 (o + 8 + i) j = nI (ap_ c (d_H D) i j) := by
  intro i hi j hj
  have m5 := K.1
  unfold acC_
  rw [sI_ne (by omega)]
  refine rp1_H (fun i hi j hj => ?_) (fun i hi j hj => by rw [sI_ne (by omega)]; exact C.2.2.2.1 i hi j hj) i hi j hj
  have b := K.2.2.2.2.1 i hi
  by_cases e : j = 4
  · subst e
    have := b.2
    omega
  · have := b.1 j (by omega)
    omega
theorem n40 {n : Nat} (hn : n ≤ 40) : (nI n < (40 : Int32) ↔ n < 40) ∧ (nI n = (40 : Int32) ↔ ¬ n < 40) := by
  constructor
  · exact nI_ltI (b := 40) (by omega) (by omega)
  · refine (nI_eq (b := 40) (by omega) (by omega)).trans ⟨fun q => by omega, fun q => by omega⟩
theorem acM {h : hh_} {D : od_} {o n c : Nat} (ho : o = 39 ∨ o = 64) (hc : c < 40) (M : oM_ h D) : oM_ (acC_ h o n c) D := M.fr (fun k j q => acC_ne (by omega) (by omega) (by omega))
theorem ntM {h : hh_} {D : od_} {n : Nat} (M : oM_ h D) : oM_ (nt_ h n) D := M.fr (fun k j q => nt_ne (by omega) (by omega))
theorem gq_loop {i : Nat} {D : od_} (K : oK_ D) (hi : i < d_m D) : ∀ (d j m : Nat) (h : hh_), j + d = 4 → (∀ x, j ≤ x → x < 4 → h.1 105 (5 * i + x) = nI (d_H D i x)) → ff_X8_grow_28 (nI i) (m + d + 1) (nI j) h = (ff_X8_bumps (nI i) (fg_ h 105 (5 * i) j 4 (fun x => nI (min 5 (d_H D i x + 1))))).bind fun v => some (v, fg_ h 105 (5 * i) j 4 (fun x => nI (min 5 (d_H D i x + 1)))) := by
  have k1 := K.1
  intro d
  induction d with
  | zero =>
    intro j m h e eg
    have e : j = 4 := by omega
    subst e
    rw [ff_X8_grow_28, if_pos (by decide), fg_0]
  | succ d ih =>
    intro j m h e eg
    have hj : j < 4 := by omega
    have b := (K.2.2.2.2.1 i hi).1 j hj
    have eb : ff_X8_bump (nI i) (nI j) h = some (nI (d_H D i j)) := by
      unfold ff_X8_bump
      rw [show (5 : Int32) = nI 5 from rfl, pk_mul, nI_add, gd_n (by omega) (by decide), nI_clamp (by omega), eg j (Nat.le_refl _) hj]
    have el : ff_X8_lesser 5 (nI (d_H D i j) + 1) = nI (min 5 (d_H D i j + 1)) := by
      unfold ff_X8_lesser
      rw [nI_1]
      by_cases e2 : d_H D i j + 1 ≤ 5
      · rw [if_pos (show nI (d_H D i j + 1) ≤ 5 from nI_le (b := 5) e2 (by omega)), Nat.min_eq_right e2]
      · rw [if_neg (show ¬ nI (d_H D i j + 1) ≤ 5 from nI_ge (a := 5) (by omega) (by omega)), Nat.min_eq_left (by omega)]; rfl
    rw [show m + (d + 1) + 1 = (m + d + 1) + 1 by omega, ff_X8_grow_28, if_neg (show ¬ (4 : Int32) ≤ nI j from nI_ge (b := 4) hj (by omega)), eb, Option.bind_some, el, show (5 : Int32) * nI i + nI j = nI (5 * i + j) from by rw [show (5 : Int32) = nI 5 from rfl, pk_mul, nI_add], gd_n (by omega) (by decide), nI_clamp (by omega), nI_1, ih (j + 1) m _ (by omega) (fun x h1 h2 => by rw [sI_nj (by omega)]; exact eg x (by omega) h2)]
    have w := fg_s (h := h) (k := 105) (b := 5 * i) (a := j) (n := 4) (g := fun x => nI (min 5 (d_H D i x + 1))) hj
    rw [w]
/-- 15: pad -/
theorem st_15 : sp_15 inv_ := by
  intro h a1 a2 H
  obtain ⟨hn, D, F, ds, n, K, C, M, k4, k5, k6, k7, k8, k9, k10, k11⟩ := H.2.2.2
  have k1 := K.1
  have nw := H.2.2.2.nw
  have B := H.2.2.2.nwB
  have h40 := n40 k6.1
  rcases hs_0 a1 K C M with ⟨i, hi, rfl, c1, m1⟩ | ⟨c1, m1⟩
  · rcases pl_ a2 with ⟨j, hj, rfl, c2, m2⟩ | ⟨c2, m2⟩
    · have l5 := (K.2.2.2.2.1 i hi).1 j hj
      by_cases e5 : d_H D i j < 5
      · have e5' : nI (d_H D i j) < 5 := nI_lt (b := 5) e5 (by omega)
        have e5M : ¬ nI (d_H D i j) = 5 := fun w => by have := (nI_eq (b := 5) (by omega) (by omega)).mp w; omega
        by_cases e4 : n < 40
        · have M1 := acM (n := n) (c := i * 8 + j) nw (by omega) M
          have e21 : (acC_ h h.2.2.1 n (i * 8 + j)).1 98 21 = nI n := by rw [acC_ne (by omega) (by omega) (by omega)]; exact k5
          have M2 := ntM (n := n) M1
          have K3 := up_K K (i := i) (j := j) (v := d_H D i j + 1) hj (by omega)
          have M3 := up_M M2 (i := i) (j := j) (v := d_H D i j + 1) (by omega)
          refine ⟨nI (d_H D i j + 1), acC_ h h.2.2.1 n (i * 8 + j), hh_sI (nt_ (acC_ h h.2.2.1 n (i * 8 + j)) n) 105 (5 * i + j) (nI (d_H D i j + 1)), ?_, ?_, ?_⟩
          · unfold ff_X7_pad
            rw [gd_t B, c1, Option.bind_some, if_neg n10, c2, if_neg n10, gd_n (by omega) (by decide), gd_n (by omega) (by decide), nI_clamp (by omega), nI_clamp (by omega), C.2.2.2.1 i hi j (by omega), if_pos e5', k4, if_pos (h40.1.mpr e4), act_C (by omega) (by omega) e4 k4, Option.bind_some, acC_2, gd_t B, acC_H K C nw i hi j (by omega), ap_pad hj e5, if_pos ⟨rfl, rfl⟩]
          · unfold ff_X8_pad
            have q1 : ff_X8_isHead (nI i) (acC_ h h.2.2.1 n (i * 8 + j)) = 1 := by unfold ff_X8_isHead at m1 ⊢; rw [M1.1]; rw [M.1] at m1; exact m1
            rw [q1, if_neg n10, m2, if_neg n10, bu_M K M1 hi (by omega), Option.bind_some, if_neg e5M, e21, if_neg (fun w => h40.2.mp w e4), nt_M e4 e21, Option.bind_some, show (5 : Int32) * nI i + nI j = nI (5 * i + j) from by rw [show (5 : Int32) = nI 5 from rfl, pk_mul, nI_add], gd_n (by omega) (by decide), nI_clamp (by omega), M2.2.2.2.1 i hi j (by omega), nI_1, bu_M K3 M3 hi (by omega), Option.bind_some, up_H, if_pos ⟨rfl, rfl⟩]
          · refine act_J H K C M k6 k7 k8 k9 k11 (c := i * 8 + j) (by omega) (by omega) e4 (fun k x q => sI_ne q) acC_2 (fun a ha b hb => ?_)
            rw [M3.2.2.2.1 a ha b hb, up_H, ap_pad hj e5]
        · refine ⟨-2, h, h, ?_, ?_, H⟩
          · unfold ff_X7_pad
            rw [gd_t B, c1, Option.bind_some, if_neg n10, c2, if_neg n10, gd_n (by omega) (by decide), gd_n (by omega) (by decide), nI_clamp (by omega), nI_clamp (by omega), C.2.2.2.1 i hi j (by omega), if_pos e5', k4, if_neg (fun w => e4 (h40.1.mp w))]
          · unfold ff_X8_pad
            rw [m1, if_neg n10, m2, if_neg n10, bu_M K M hi (by omega), Option.bind_some, if_neg e5M, k5, if_pos (h40.2.mpr e4)]
      · refine ⟨-4, h, h, ?_, ?_, H⟩
        · unfold ff_X7_pad
          rw [gd_t B, c1, Option.bind_some, if_neg n10, c2, if_neg n10, gd_n (by omega) (by decide), gd_n (by omega) (by decide), nI_clamp (by omega), nI_clamp (by omega), C.2.2.2.1 i hi j (by omega), if_neg (show ¬ nI (d_H D i j) < 5 from nI_nlt (b := 5) (by omega) (by omega))]
        · unfold ff_X8_pad
          rw [m1, if_neg n10, m2, if_neg n10, bu_M K M hi (by omega), Option.bind_some, if_pos (show nI (d_H D i j) = 5 from by rw [show d_H D i j = 5 by omega]; rfl)]
    · exact ⟨-1, h, h, by unfold ff_X7_pad; rw [gd_t B, c1, Option.bind_some, if_neg n10, c2, if_pos rfl], by unfold ff_X8_pad; rw [m1, if_neg n10, m2, if_pos rfl], H⟩
  · exact ⟨-1, h, h, by unfold ff_X7_pad; rw [gd_t B, c1, Option.bind_some, if_pos rfl], by unfold ff_X8_pad; rw [m1, if_pos rfl], H⟩
/-- 16: grow -/
theorem st_16 : sp_16 inv_ := by
  intro h a1 H
  obtain ⟨hn, D, F, ds, n, K, C, M, k4, k5, k6, k7, k8, k9, k10, k11⟩ := H.2.2.2
  have k1 := K.1
  have nw := H.2.2.2.nw
  have B := H.2.2.2.nwB
  have h40 := n40 k6.1
  rcases hs_0 a1 K C M with ⟨i, hi, rfl, c1, m1⟩ | ⟨c1, m1⟩
  · by_cases e4 : n < 40
    · have M1 := acM (n := n) (c := i * 8 + 4) nw (by omega) M
      have e21 : (acC_ h h.2.2.1 n (i * 8 + 4)).1 98 21 = nI n := by rw [acC_ne (by omega) (by omega) (by omega)]; exact k5
      have M2 := ntM (n := n) M1
      have K3 : oK_ (D.1, D.2.1, D.2.2.1, ap_ (i * 8 + 4) (d_H D), D.2.2.2.2) := ⟨K.1, K.2.1, K.2.2.1, K.2.2.2.1, fun a ha => ap_b (K.2.2.2.2.1 a ha), K.2.2.2.2.2.1, K.2.2.2.2.2.2⟩
      have M3 : oM_ (fg_ (nt_ (acC_ h h.2.2.1 n (i * 8 + 4)) n) 105 (5 * i) 0 4 (fun x => nI (min 5 (d_H D i x + 1)))) (D.1, D.2.1, D.2.2.1, ap_ (i * 8 + 4) (d_H D), D.2.2.2.2) := by
        refine ⟨by rw [fg_ne (by decide)]; exact M2.1, by rw [fg_ne (by decide)]; exact M2.2.1, by rw [fg_ne (by decide)]; exact M2.2.2.1, fun a ha b hb => ?_, fun t ht b hb => by rw [fg_ne (by decide)]; exact M2.2.2.2.2.1 t ht b hb, fun p hp b hb => by rw [fg_ne (by decide)]; exact M2.2.2.2.2.2 p hp b hb⟩
        show _ = nI (ap_ (i * 8 + 4) (d_H D) a b)
        rw [ap_grow]
        by_cases e : a = i ∧ b < 4
        · rw [if_pos e, e.1, fg_in (by omega) e.2]
        · rw [if_neg e, fg_out (by omega)]
          exact M2.2.2.2.1 a ha b hb
      have C3 : oC_ h.2.2.1 (acC_ h h.2.2.1 n (i * 8 + 4)) (D.1, D.2.1, D.2.2.1, ap_ (i * 8 + 4) (d_H D), D.2.2.2.2) := by
        have t4 := K.2.1
        have p4 := K.2.2.1
        refine ⟨by rw [acC_ne (by omega) (by omega) (by omega)]; exact C.1, by rw [acC_ne (by omega) (by omega) (by omega)]; exact C.2.1, by rw [acC_ne (by omega) (by omega) (by omega)]; exact C.2.2.1, acC_H K C nw, fun t ht b hb => ?_, fun p hp b hb => ?_⟩
        · have ht : t < d_t D := ht
          rw [acC_ne (by omega) (by omega) (by omega)]; exact C.2.2.2.2.1 t ht b hb
        · have hp : p < d_p D := hp
          rw [acC_ne (by omega) (by omega) (by omega)]; exact C.2.2.2.2.2 p hp b hb
      refine ⟨nI (bt_ (D.1, D.2.1, D.2.2.1, ap_ (i * 8 + 4) (d_H D), D.2.2.2.2) i), acC_ h h.2.2.1 n (i * 8 + 4), fg_ (nt_ (acC_ h h.2.2.1 n (i * 8 + 4)) n) 105 (5 * i) 0 4 (fun x => nI (min 5 (d_H D i x + 1))), ?_, ?_, ?_⟩
      · unfold ff_X7_grow
        rw [gd_t B, c1, Option.bind_some, if_neg n10, k4, if_pos (h40.1.mpr e4), show (4 : Int32) = nI 4 from rfl, act_C (by omega) (by omega) e4 k4, Option.bind_some, acC_2, gd_t B, tg_C K3 C3 hi]; rfl
      · unfold ff_X8_grow
        have q1 : ff_X8_isHead (nI i) (acC_ h h.2.2.1 n (i * 8 + 4)) = 1 := by unfold ff_X8_isHead at m1 ⊢; rw [M1.1]; rw [M.1] at m1; exact m1
        obtain ⟨k, hk⟩ := fu_ 4 (by decide)
        rw [q1, if_neg n10, e21, if_neg (fun w => h40.2.mp w e4), nt_M e4 e21, Option.bind_some, hk]
        refine (gq_loop K hi 4 0 k _ rfl (fun x _ hx => M2.2.2.2.1 i hi x (by omega))).trans ?_
        rw [bs_M K3 M3 hi]; rfl
      · exact act_J H K C M k6 k7 k8 k9 k11 (c := i * 8 + 4) (by omega) (by omega) e4 (fun k x q => fg_ne q) acC_2 M3.2.2.2.1
    · refine ⟨-2, h, h, ?_, ?_, H⟩
      · unfold ff_X7_grow
        rw [gd_t B, c1, Option.bind_some, if_neg n10, k4, if_neg (fun w => e4 (h40.1.mp w))]
      · unfold ff_X8_grow
        rw [m1, if_neg n10, k5, if_pos (h40.2.mpr e4)]
  · exact ⟨-1, h, h, by unfold ff_X7_grow; rw [gd_t B, c1, Option.bind_some, if_pos rfl], by unfold ff_X8_grow; rw [m1, if_pos rfl], H⟩
/-- 17: cut -/
theorem st_17 : sp_17 inv_ := by
  intro h a1 a2 H
  obtain ⟨hn, D, F, ds, n, K, C, M, k4, k5, k6, k7, k8, k9, k10, k11⟩ := H.2.2.2
  have k1 := K.1
  have nw := H.2.2.2.nw
  have B := H.2.2.2.nwB
  have h40 := n40 k6.1
  rcases hs_0 a1 K C M with ⟨i, hi, rfl, c1, m1⟩ | ⟨c1, m1⟩
  · rcases rg_ a2 2 (by decide) with ⟨x, hx, rfl, q1, q2, q3⟩ | ⟨q1, q3⟩
    · have l5 := (K.2.2.2.2.1 i hi).2
      have e54 : (5 : Int32) * nI i + 4 = nI (5 * i + 4) := by rw [show (5 : Int32) = nI 5 from rfl, pk_mul]; exact nI_add _ 4
      by_cases e5 : x < d_H D i 4
      · have e5' : nI x < nI (d_H D i 4) := nI_lt e5 (by omega)
        by_cases e4 : n < 40
        · have M1 := acM (n := n) (c := i * 8 + (5 + x)) nw (by omega) M
          have e21 : (acC_ h h.2.2.1 n (i * 8 + (5 + x))).1 98 21 = nI n := by rw [acC_ne (by omega) (by omega) (by omega)]; exact k5
          have M2 := ntM (n := n) M1
          have M3 := up_M M2 (i := i) (j := 4) (v := x) (by omega)
          refine ⟨nI (d_H D i 4), acC_ h h.2.2.1 n (i * 8 + (5 + x)), hh_sI (nt_ (acC_ h h.2.2.1 n (i * 8 + (5 + x))) n) 105 (5 * i + 4) (nI x), ?_, ?_, ?_⟩
          · unfold ff_X7_cut
            rw [gd_t B, c1, Option.bind_some, if_neg n10, if_neg q1, if_pos (show nI x ≤ 2 from q2), gd_n (by omega) (by decide), nI_clamp (by omega), show Int32.toNatClampNeg 4 = 4 from rfl, C.2.2.2.1 i hi 4 (by omega), if_pos e5', k4, if_pos (h40.1.mpr e4), show (5 : Int32) + nI x = nI (5 + x) from nI_add 5 x, act_C (by omega) (by omega) e4 k4]; rfl
          · unfold ff_X8_cut
            have w1 : ff_X8_isHead (nI i) (acC_ h h.2.2.1 n (i * 8 + (5 + x))) = 1 := by unfold ff_X8_isHead at m1 ⊢; rw [M1.1]; rw [M.1] at m1; exact m1
            rw [w1, if_neg n10, show (2 : Int32) = nI 2 from rfl, q3, if_neg n10, e54, gd_n (by omega) (by decide), nI_clamp (by omega), M1.2.2.2.1 i hi 4 (by omega), if_pos e5', e21, if_neg (fun w => h40.2.mp w e4), nt_M e4 e21]; rfl
          · refine act_J H K C M k6 k7 k8 k9 k11 (c := i * 8 + (5 + x)) (by omega) (by omega) e4 (fun k y q => sI_ne q) acC_2 (fun a ha b hb => ?_)
            rw [M3.2.2.2.1 a ha b hb, up_H, ap_cut (by omega)]
        · refine ⟨-2, h, h, ?_, ?_, H⟩
          · unfold ff_X7_cut
            rw [gd_t B, c1, Option.bind_some, if_neg n10, if_neg q1, if_pos (show nI x ≤ 2 from q2), gd_n (by omega) (by decide), nI_clamp (by omega), show Int32.toNatClampNeg 4 = 4 from rfl, C.2.2.2.1 i hi 4 (by omega), if_pos e5', k4, if_neg (fun w => e4 (h40.1.mp w))]
          · unfold ff_X8_cut
            rw [m1, if_neg n10, show (2 : Int32) = nI 2 from rfl, q3, if_neg n10, e54, gd_n (by omega) (by decide), nI_clamp (by omega), M.2.2.2.1 i hi 4 (by omega), if_pos e5', k5, if_pos (h40.2.mpr e4)]
      · refine ⟨-4, h, h, ?_, ?_, H⟩
        · unfold ff_X7_cut
          rw [gd_t B, c1, Option.bind_some, if_neg n10, if_neg q1, if_pos (show nI x ≤ 2 from q2), gd_n (by omega) (by decide), nI_clamp (by omega), show Int32.toNatClampNeg 4 = 4 from rfl, C.2.2.2.1 i hi 4 (by omega), if_neg (nI_nlt (by omega) (by omega))]
        · unfold ff_X8_cut
          rw [m1, if_neg n10, show (2 : Int32) = nI 2 from rfl, q3, if_neg n10, e54, gd_n (by omega) (by decide), nI_clamp (by omega), M.2.2.2.1 i hi 4 (by omega), if_neg (nI_nlt (by omega) (by omega))]
    · refine ⟨-1, h, h, ?_, by unfold ff_X8_cut; rw [m1, if_neg n10, show (2 : Int32) = nI 2 from rfl, q3, if_pos rfl], H⟩
      unfold ff_X7_cut
      rw [gd_t B, c1, Option.bind_some, if_neg n10]
      rcases q1 with q | ⟨q, q2⟩
      · rw [if_pos q]
      · rw [if_neg q, if_neg (show ¬ a2 ≤ 2 from q2)]
  · exact ⟨-1, h, h, by unfold ff_X7_cut; rw [gd_t B, c1, Option.bind_some, if_pos rfl], by unfold ff_X8_cut; rw [m1, if_pos rfl], H⟩
/-- 14: error -/
theorem st_14 : sp_14 inv_ := by
  intro h a1 a2 H
  have nw := H.2.2.2.nw
  have B := H.2.2.2.nwB
  have hn0 := H.2.2.2.1
  obtain ⟨hT, hR, hX, hn, D, F, ds, n, K, C, M, k4, k5, k6, k7, k8, k9, k10, k11⟩ := id H
  have m5 := K.1
  have t4 := K.2.1
  have p4 := K.2.2.1
  rcases hs_1 a1 K C M with ⟨t, ht, rfl, c1, m1⟩ | ⟨c1, m1⟩
  · rcases rg_ a2 2 (by decide) with ⟨x, hx, rfl, q1, q2, q3⟩ | ⟨q1, q3⟩
    · have e31 : (3 : Int32) * nI t + 1 = nI (3 * t + 1) := by rw [show (3 : Int32) = nI 3 from rfl, pk_mul]; exact nI_add _ 1
      refine ⟨nI (d_T D t 1), hh_sI h (h.2.2.1 + 14 + t) 1 (nI x), hh_sI (hh_sI h (h.2.2.1 + 14 + t) 1 (nI x)) 106 (3 * t + 1) (nI x), ?_, ?_, ?_⟩
      · unfold ff_X7_error
        rw [gd_t B, c1, Option.bind_some, if_neg n10, if_neg q1, if_pos (show nI x ≤ 2 from q2), gd_n (by omega) (by decide), nI_clamp (by omega), show Int32.toNatClampNeg 1 = 1 from rfl, C.2.2.2.2.1 t ht 1 (by omega)]
      · unfold ff_X8_error
        have w1 : ff_X8_isThumb (nI t) (hh_sI h (h.2.2.1 + 14 + t) 1 (nI x)) = 1 := by unfold ff_X8_isThumb at m1 ⊢; rw [sI_ne (by omega)]; exact m1
        rw [w1, if_neg n10, show (2 : Int32) = nI 2 from rfl, q3, if_neg n10, e31, gd_n (by omega) (by decide), nI_clamp (by omega), sI_ne (by omega), M.2.2.2.2.1 t ht 1 (by omega)]
      · have g0 : ∀ k j, ¬ (k = h.2.2.1 + 14 + t ∧ j = 1) → ¬ (k = 106 ∧ j = 3 * t + 1) → (hh_sI (hh_sI h (h.2.2.1 + 14 + t) 1 (nI x)) 106 (3 * t + 1) (nI x)).1 k j = h.1 k j := by
          intro k j w1 w2
          by_cases e : k = 106
          · subst e
            rw [sI_nj (by omega), sI_ne (by omega)]
          · rw [sI_ne e]
            by_cases e2 : k = h.2.2.1 + 14 + t
            · rw [e2, sI_nj (by omega)]
            · rw [sI_ne e2]
        refine ⟨hT.fr (fun k j q => g0 _ _ (by omega) (by omega)) (fun _ _ _ => rfl), hR.fr (fun k j q => g0 _ _ (by omega) (by omega)), hX.fr (fun k j q => g0 _ _ (by omega) (by omega)), hn0, (D.1, D.2.1, D.2.2.1, D.2.2.2.1, (fun a b => if a = t ∧ b = 1 then x else d_T D a b), D.2.2.2.2.2), F, ds, n, ?_, ?_, ?_, ?_, ?_, ?_, fun i hi j hj => ?_, k8, k9, k10, fun k hk => (k11 k hk).fr hk (fun c j q => g0 _ _ (by omega) (by omega))⟩
        · refine ⟨K.1, K.2.1, K.2.2.1, K.2.2.2.1, K.2.2.2.2.1, fun a ha => ?_, K.2.2.2.2.2.2⟩
          have w := K.2.2.2.2.2.1 a ha
          refine ⟨?_, ?_, ?_⟩
          · show (if a = t ∧ 0 = 1 then x else d_T D a 0) ≤ 5
            rw [if_neg (by omega)]; exact w.1
          · show (if a = t ∧ 1 = 1 then x else d_T D a 1) ≤ 2
            split
            · exact hx
            · exact w.2.1
          · show (if a = t ∧ 2 = 1 then x else d_T D a 2) ≤ 3
            rw [if_neg (by omega)]; exact w.2.2
        · show oC_ h.2.2.1 (hh_sI (hh_sI h (h.2.2.1 + 14 + t) 1 (nI x)) 106 (3 * t + 1) (nI x)) _
          refine ⟨by rw [g0 _ _ (by omega) (by omega)]; exact C.1, by rw [g0 _ _ (by omega) (by omega)]; exact C.2.1, by rw [g0 _ _ (by omega) (by omega)]; exact C.2.2.1, fun i hi j hj => ?_, fun a ha b hb => ?_, fun p hp b hb => ?_⟩
          · have hi : i < d_m D := hi
            rw [g0 _ _ (by omega) (by omega)]; exact C.2.2.2.1 i hi j hj
          · have ha : a < d_t D := ha
            show _ = nI (if a = t ∧ b = 1 then x else d_T D a b)
            by_cases e : a = t ∧ b = 1
            · rw [if_pos e, e.1, e.2, sI_ne (by omega), sI_eq]
            · rw [if_neg e, g0 _ _ (by omega) (by omega)]; exact C.2.2.2.2.1 a ha b hb
          · have hp : p < d_p D := hp
            rw [g0 _ _ (by omega) (by omega)]; exact C.2.2.2.2.2 p hp b hb
        · refine ⟨by rw [g0 _ _ (by omega) (by omega)]; exact M.1, by rw [g0 _ _ (by omega) (by omega)]; exact M.2.1, by rw [g0 _ _ (by omega) (by omega)]; exact M.2.2.1, fun i hi j hj => by rw [g0 _ _ (by omega) (by omega)]; exact M.2.2.2.1 i hi j hj, fun a ha b hb => ?_, fun p hp b hb => by rw [g0 _ _ (by omega) (by omega)]; exact M.2.2.2.2.2 p hp b hb⟩
          show _ = nI (if a = t ∧ b = 1 then x else d_T D a b)
          by_cases e : a = t ∧ b = 1
          · rw [if_pos e, e.1, e.2, sI_eq]
          · rw [if_neg e, g0 _ _ (by omega) (by omega)]; exact M.2.2.2.2.1 a ha b hb
        · show (hh_sI (hh_sI h (h.2.2.1 + 14 + t) 1 (nI x)) 106 (3 * t + 1) (nI x)).1 h.2.2.1 6 = _
          rw [g0 _ _ (by omega) (by omega)]; exact k4
        · rw [g0 _ _ (by omega) (by omega)]; exact k5
        · exact k6.fr (fun j => g0 _ _ (show ¬ (h.2.2.1 + 24 = h.2.2.1 + 14 + t ∧ j = 1) by omega) (show ¬ (h.2.2.1 + 24 = 106 ∧ j = 3 * t + 1) by omega)) (fun j => g0 _ _ (by omega) (by omega))
        · have hi : i < d_m D := hi
          show (hh_sI (hh_sI h (h.2.2.1 + 14 + t) 1 (nI x)) 106 (3 * t + 1) (nI x)).1 (h.2.2.1 + 2 + i) j = _
          rw [g0 _ _ (by omega) (by omega)]; exact k7 i hi j hj
    · refine ⟨-1, h, h, ?_, by unfold ff_X8_error; rw [m1, if_neg n10, show (2 : Int32) = nI 2 from rfl, q3, if_pos rfl], H⟩
      unfold ff_X7_error
      rw [gd_t B, c1, Option.bind_some, if_neg n10]
      rcases q1 with q | ⟨q, q2⟩
      · rw [if_pos q]
      · rw [if_neg q, if_neg (show ¬ a2 ≤ 2 from q2)]
  · exact ⟨-1, h, h, by unfold ff_X7_error; rw [gd_t B, c1, Option.bind_some, if_pos rfl], by unfold ff_X8_error; rw [m1, if_pos rfl], H⟩
end
section
/-! ===== undo, keep, on ===== -/
theorem gb_1 {o a1 mm : Nat} {KK : hh_ → Option hh_} (hm : mm ≤ 5) : ∀ (d i m : Nat) (h : hh_), i + d = mm → h.1 (o + 23) 0 = nI mm → ∃ h1, ff_X2_goBack_2 o (nI a1) KK (m + d + 1) (nI i) h = KK h1 ∧ h1.2 = h.2 ∧ (∀ k j, ¬ (o + 8 ≤ k ∧ k < o + 13) → h1.1 k j = h.1 k j) ∧ (∀ x, i ≤ x → x < mm → ∀ j, j < 5 → h1.1 (o + 8 + x) j = h.1 (o + 2 + x) j) ∧ (∀ x, x < i → ∀ j, h1.1 (o + 8 + x) j = h.1 (o + 8 + x) j) := by
  intro d
  induction d with
  | zero =>
    intro i m h e e0
    refine ⟨h, ?_, rfl, fun _ _ _ => rfl, fun x h1 h2 => by omega, fun _ _ _ => rfl⟩
    rw [ff_X2_goBack_2, show Int32.toNatClampNeg 0 = 0 from rfl, e0, if_pos (nI_le (by omega) (by omega))]
  | succ d ih =>
    intro i m h e e0
    have g0 : ∀ c j, c ≠ o + 8 + i → (hh_cp h (o + 2 + i) (o + 8 + i) 0 0 5).1 c j = h.1 c j := fun c j q => if_neg q
    have g1 : ∀ j, (hh_cp h (o + 2 + i) (o + 8 + i) 0 0 5).1 (o + 8 + i) j = va_cpy (h.1 (o + 2 + i)) (h.1 (o + 8 + i)) 0 0 5 j := fun j => if_pos rfl
    obtain ⟨h1, w1, w2, w3, w4, w5⟩ := ih (i + 1) m (hh_cp h (o + 2 + i) (o + 8 + i) 0 0 5) (by omega) (by rw [g0 _ _ (by omega)]; exact e0)
    refine ⟨h1, ?_, w2, fun k j q => ?_, fun x q1 q2 j hj => ?_, fun x q1 j => ?_⟩
    · rw [show m + (d + 1) + 1 = (m + d + 1) + 1 by omega, ff_X2_goBack_2, show Int32.toNatClampNeg 0 = 0 from rfl, e0, if_neg (nI_ge (by omega) (by omega)), gd_n (by omega) (by decide), gd_t (show bc_ 0 0 5 5 5 = true from rfl), nI_clamp (by omega), nI_1]
      exact w1
    · rw [w3 k j q, g0 _ _ (by omega)]
    · by_cases e2 : x = i
      · subst e2
        rw [w5 x (by omega), g1, pk_cpy_in (by omega) (by omega), Nat.zero_add, Nat.sub_zero]
      · rw [w4 x (by omega) q2 j hj, g0 _ _ (by omega)]
    · rw [w5 x (by omega), g0 _ _ (by omega)]
theorem rp_b {F : Nat → Nat → Nat} {ds : Nat → Nat} {m : Nat} (k8 : ∀ i, i < m → (∀ j, j < 4 → F i j ≤ 5) ∧ F i 4 ≤ 3) : ∀ n i, i < m → (∀ j, j < 4 → rp_ F ds n i j ≤ 5) ∧ rp_ F ds n i 4 ≤ 3 := by
  intro n
  induction n with
  | zero => intro i hi; exact k8 i hi
  | succ n ih => intro i hi; exact ap_b (ih i hi)
theorem b30 {H : Nat → Nat → Nat} {i : Nat} (b : (∀ j, j < 4 → H i j ≤ 5) ∧ H i 4 ≤ 3) : ∀ j, j < 5 → H i j < 2 ^ 30 := by
  intro j hj
  by_cases e : j = 4
  · subst e
    have := b.2
    omega
  · have := b.1 j (by omega)
    omega
theorem gb_2 {o a mm : Nat} {F : Nat → Nat → Nat} {ds : Nat → Nat} (hm : mm ≤ 5) (ha : a ≤ 40) (k8 : ∀ i, i < mm → (∀ j, j < 4 → F i j ≤ 5) ∧ F i 4 ≤ 3) (hd : ∀ d, d < a → ds d / 8 < mm ∧ ds d < 40) : ∀ (d x m : Nat) (h : hh_), x + d = a → (∀ y, y < a → h.1 (o + 24) y = nI (ds y)) → (∀ i, i < mm → ∀ j, j < 5 → h.1 (o + 8 + i) j = nI (rp_ F ds x i j)) → ∃ h2, ff_X2_goBack_38 o (nI a) (m + d + 1) (nI x) h = some h2 ∧ h2.2 = h.2 ∧ (∀ k j, ¬ (o + 8 ≤ k ∧ k < o + 13) → ¬ (k = o ∧ j = 6) → h2.1 k j = h.1 k j) ∧ h2.1 o 6 = nI a ∧ ∀ i, i < mm → ∀ j, j < 5 → h2.1 (o + 8 + i) j = nI (rp_ F ds a i j) := by
  intro d
  induction d with
  | zero =>
    intro x m h e e1 e2
    have e : x = a := by omega
    subst e
    refine ⟨hh_sI h o 6 (nI x), ?_, rfl, fun k j q1 q2 => ?_, sI_eq, fun i hi j hj => ?_⟩
    · rw [ff_X2_goBack_38, if_pos (nI_le (by omega) (by omega))]
    · by_cases e3 : k = o
      · rw [e3, sI_nj (by omega)]
      · rw [sI_ne e3]
    · rw [sI_ne (by omega)]; exact e2 i hi j hj
  | succ d ih =>
    intro x m h e e1 e2
    have hx := hd x (by omega)
    obtain ⟨h2, w1, w2, w3, w4, w5⟩ := ih (x + 1) m (rp1_ h o (ds x)) (by omega) (fun y hy => by rw [rp1_ne (by omega)]; exact e1 y hy) (fun i hi j hj => rp1_H (fun i hi j hj => b30 (rp_b k8 x i hi) j hj) e2 i hi j hj)
    refine ⟨h2, ?_, w2.trans rp1_2, fun k j q1 q2 => ?_, w4, w5⟩
    · rw [show m + (d + 1) + 1 = (m + d + 1) + 1 by omega, ff_X2_goBack_38, if_neg (nI_ge (by omega) (by omega)), gd_n (by omega) (by decide), nI_clamp (by omega), e1 x (by omega), rep_C hx.2, Option.bind_some, nI_1]
      exact w1
    · rw [w3 k j q1 q2, rp1_ne (by omega)]
theorem gb_C {o a mm : Nat} {h : hh_} {F : Nat → Nat → Nat} {ds : Nat → Nat} (hm : mm ≤ 5) (ha : a ≤ 40) (k8 : ∀ i, i < mm → (∀ j, j < 4 → F i j ≤ 5) ∧ F i 4 ≤ 3) (hd : ∀ d, d < a → ds d / 8 < mm ∧ ds d < 40) (e0 : h.1 (o + 23) 0 = nI mm) (e1 : ∀ y, y < a → h.1 (o + 24) y = nI (ds y)) (k7 : ∀ i, i < mm → ∀ j, j < 5 → h.1 (o + 2 + i) j = nI (F i j)) : ∃ h2, ff_X2_goBack o (nI a) h = some h2 ∧ h2.2 = h.2 ∧ (∀ k j, ¬ (o + 8 ≤ k ∧ k < o + 13) → ¬ (k = o ∧ j = 6) → h2.1 k j = h.1 k j) ∧ h2.1 o 6 = nI a ∧ ∀ i, i < mm → ∀ j, j < 5 → h2.1 (o + 8 + i) j = nI (rp_ F ds a i j) := by
  obtain ⟨k, hk⟩ := fu_ mm (by omega)
  obtain ⟨k', hk'⟩ := fu_ a (by omega)
  obtain ⟨h1, w1, w2, w3, w4, w5⟩ := gb_1 (a1 := a) (KK := fun k3 => ff_X2_goBack_38 o (nI a) FU_ 0 k3) hm mm 0 k h (by omega) e0
  obtain ⟨h2, v1, v2, v3, v4, v5⟩ := gb_2 (o := o) hm ha k8 hd a 0 k' h1 (by omega) (fun y hy => by rw [w3 _ _ (by omega)]; exact e1 y hy) (fun i hi j hj => by rw [w4 i (by omega) hi j hj]; exact k7 i hi j hj)
  refine ⟨h2, ?_, v2.trans w2, fun k j q1 q2 => by rw [v3 k j q1 q2, w3 k j q1], v4, v5⟩
  unfold ff_X2_goBack
  rw [← hk] at w1
  rw [← hk'] at v1
  exact w1.trans v1
theorem rb_loop {a b N : Nat} (ha : a ≠ 105) (sh : sh_ a = (1, N)) (hb : b + 25 ≤ N) (hN : N < 2 ^ 31) (g : Nat → Int32) : ∀ (d x m : Nat) (h : hh_), x + d = 25 → (∀ y, y < 25 → h.1 a (b + y) = g y) → ff_X8_readBack_2 a (nI b) (m + d + 1) (nI x) h = some (fg_ h 105 0 x 25 g) := by
  intro d
  induction d with
  | zero =>
    intro x m h e eg
    have e : x = 25 := by omega
    subst e
    rw [ff_X8_readBack_2, if_pos (by decide), fg_0]
  | succ d ih =>
    intro x m h e eg
    have bp : bp_ a (nI (b + x)) = true := by
      unfold bp_
      rw [sh]
      exact bi_t (by omega) hN
    rw [show m + (d + 1) + 1 = (m + d + 1) + 1 by omega, ff_X8_readBack_2, if_neg (show ¬ (25 : Int32) ≤ nI x from nI_ge (b := 25) (by omega) (by omega)), nI_add, gd_t bp, gd_n (by omega) (by decide), nI_clamp (show b + x < 2 ^ 31 by omega), nI_clamp (show x < 2 ^ 31 by omega), eg x (by omega), nI_1, ih (x + 1) m _ (by omega) (fun y hy => by rw [sI_ne ha]; exact eg y hy)]
    have w := fg_s (h := h) (k := 105) (b := 0) (a := x) (n := 25) (g := g) (by omega)
    rw [Nat.zero_add] at w
    rw [w]
theorem rb_M {a b N : Nat} {h : hh_} (ha : a ≠ 105) (sh : sh_ a = (1, N)) (hb : b + 25 ≤ N) (hN : N < 2 ^ 31) : ff_X8_readBack a (nI b) h = some (fg_ h 105 0 0 25 (fun y => h.1 a (b + y))) := by
  unfold ff_X8_readBack
  obtain ⟨k, hk⟩ := fu_ 25 (by decide)
  rw [hk]
  exact rb_loop ha sh hb hN _ 25 0 k h rfl (fun y hy => rfl)
theorem fg_in0 {h : hh_} {k a n j : Nat} {g : Nat → Int32} (h1 : a ≤ j) (h2 : j < n) : (fg_ h k 0 a n g).1 k j = g j := by
  have w := fg_in (h := h) (k := k) (b := 0) (g := g) h1 h2
  rw [Nat.zero_add] at w
  exact w
/-- 18: undo -/
theorem st_18 : sp_18 inv_ := by
  intro h a1 H
  have nw := H.2.2.2.nw
  have B := H.2.2.2.nwB
  have hn0 := H.2.2.2.1
  obtain ⟨hT, hR, hX, hn, D, F, ds, n, K, C, M, k4, k5, k6, k7, k8, k9, k10, k11⟩ := id H
  have m5 := K.1
  have t4 := K.2.1
  have p4 := K.2.2.1
  have n40 := k6.1
  rcases rg_ a1 n (by omega) with ⟨a, ha, rfl, q1, q2, q3⟩ | ⟨q1, q3⟩
  · obtain ⟨h1, w1, w2, w3, w4, w5⟩ := gb_C (o := h.2.2.1) (a := a) m5 (by omega) k8 (fun d hd => (k6.2.1 d (by omega)).2) C.1 (fun y hy => (k6.2.1 y (by omega)).1) k7
    have b21 : h1.1 98 21 = nI n := by rw [w3 _ _ (by omega) (by omega)]; exact k5
    have key : ∀ h2 : hh_, (∀ k j, k ≠ 105 → ¬ (k = 98 ∧ j = 21) → h2.1 k j = h1.1 k j) → h2.2 = h.2 → h2.1 98 21 = nI a → (∀ i, i < d_m D → ∀ j, j < 5 → h2.1 105 (5 * i + j) = nI (rp_ F ds a i j)) → inv_ h2 := by
      intro h2 e1 e2 e3 e4
      have g0 : ∀ k j, k ≠ 105 → ¬ (k = 98 ∧ j = 21) → ¬ (h.2.2.1 + 8 ≤ k ∧ k < h.2.2.1 + 13) → ¬ (k = h.2.2.1 ∧ j = 6) → h2.1 k j = h.1 k j := fun k j v1 v2 v3 v4 => by rw [e1 k j v1 v2, w3 k j v3 v4]
      refine ⟨hT.fr (fun k j q => g0 _ _ (by omega) (by omega) (by omega) (by omega)) (fun k j q => by rw [e2]), hR.fr (fun k j q => g0 _ _ (by omega) (by omega) (by omega) (by omega)), hX.fr (fun k j q => g0 _ _ (by omega) (by omega) (by omega) (by omega)), ?_⟩
      unfold iO_
      rw [e2]
      refine ⟨hn0, (D.1, D.2.1, D.2.2.1, rp_ F ds a, D.2.2.2.2), F, ds, a, ⟨K.1, K.2.1, K.2.2.1, K.2.2.2.1, fun i hi => rp_b k8 a i hi, K.2.2.2.2.2.1, K.2.2.2.2.2.2⟩, ⟨?_, ?_, ?_, fun i hi j hj => ?_, fun t ht j hj => ?_, fun p hp j hj => ?_⟩, ⟨?_, ?_, ?_, e4, fun t ht j hj => ?_, fun p hp j hj => ?_⟩, ?_, e3, ⟨by omega, fun d hd => ?_, fun d hd i hi j hj => ?_⟩, fun i hi j hj => ?_, k8, fun _ _ _ _ => rfl, fun q => by have := k10 q; omega, fun k hk => (k11 k hk).fr hk (fun c j q => g0 _ _ (by omega) (by omega) (by omega) (by omega))⟩
      · rw [g0 _ _ (by omega) (by omega) (by omega) (by omega)]; exact C.1
      · rw [g0 _ _ (by omega) (by omega) (by omega) (by omega)]; exact C.2.1
      · rw [g0 _ _ (by omega) (by omega) (by omega) (by omega)]; exact C.2.2.1
      · have hi : i < d_m D := hi
        rw [e1 _ _ (by omega) (by omega)]; exact w5 i hi j hj
      · have ht : t < d_t D := ht
        rw [g0 _ _ (by omega) (by omega) (by omega) (by omega)]; exact C.2.2.2.2.1 t ht j hj
      · have hp : p < d_p D := hp
        rw [g0 _ _ (by omega) (by omega) (by omega) (by omega)]; exact C.2.2.2.2.2 p hp j hj
      · rw [g0 _ _ (by omega) (by omega) (by omega) (by omega)]; exact M.1
      · rw [g0 _ _ (by omega) (by omega) (by omega) (by omega)]; exact M.2.1
      · rw [g0 _ _ (by omega) (by omega) (by omega) (by omega)]; exact M.2.2.1
      · rw [g0 _ _ (by omega) (by omega) (by omega) (by omega)]; exact M.2.2.2.2.1 t ht j hj
      · rw [g0 _ _ (by omega) (by omega) (by omega) (by omega)]; exact M.2.2.2.2.2 p hp j hj
      · rw [e1 _ _ (by omega) (by omega)]; exact w4
      · rw [g0 _ _ (by omega) (by omega) (by omega) (by omega)]; exact k6.2.1 d (by omega)
      · rw [g0 _ _ (by omega) (by omega) (by omega) (by omega)]; exact k6.2.2 d (by omega) i hi j hj
      · have hi : i < d_m D := hi
        rw [g0 _ _ (by omega) (by omega) (by omega) (by omega)]; exact k7 i hi j hj
    have eC : ff_X7_undo (nI a) h = some (nI (n - a), h1) := by
      unfold ff_X7_undo
      rw [if_neg q1, gd_t B, k4, if_pos q2, w1, Option.bind_some, pk_sub ha]
    by_cases e : a = n
    · subst e
      refine ⟨nI (a - a), h1, h1, eC, ?_, key h1 (fun _ _ _ _ => rfl) w2 b21 (fun i hi j hj => ?_)⟩
      · unfold ff_X8_undo
        rw [b21, q3, if_neg n10, pk_sub ha, Nat.sub_self, if_pos (by decide)]
      · rw [w3 _ _ (by omega) (by omega), M.2.2.2.1 i hi j hj, k9 i hi j hj]
    · refine ⟨nI (n - a), h1, hh_sI (fg_ h1 105 0 0 25 (fun y => h1.1 109 (25 * a + y))) 98 21 (nI a), eC, ?_, key _ (fun k j v1 v2 => ?_) w2 sI_eq (fun i hi j hj => ?_)⟩
      · unfold ff_X8_undo
        rw [b21, q3, if_neg n10, pk_sub ha, if_neg (nI_nle (by omega) (by omega)), show (25 : Int32) = nI 25 from rfl, pk_mul, rb_M (by decide) sh109 (by omega) (by decide)]; rfl
      · by_cases e98 : k = 98
        · rw [e98, sI_nj (by omega), fg_ne (by decide)]
        · rw [sI_ne e98, fg_ne v1]
      · rw [sI_ne (by decide), fg_in0 (by omega) (by omega), w3 _ _ (by omega) (by omega)]
        have w := k6.2.2 a (by omega) i hi j hj
        rw [Nat.zero_add] at w
        exact w
  · refine ⟨-1, h, h, ?_, by unfold ff_X8_undo; rw [k5, q3, if_pos rfl], H⟩
    unfold ff_X7_undo
    rcases q1 with q | ⟨q, q2⟩
    · rw [if_pos q]
    · rw [if_neg q, gd_t B, k4, if_neg q2]
end
section
/-! ===== keep, on ===== -/
theorem kpl_ (a : Int32) : (∃ j, j < 3 ∧ a = nI j ∧ ff_X7_isKeptPlace a = 1 ∧ ff_X8_in a 0 2 = 1) ∨ (ff_X7_isKeptPlace a = 0 ∧ ff_X8_in a 0 2 = 0) := by
  unfold ff_X7_isKeptPlace
  rcases ix_cases a (N := 3) (by decide) (by decide) with ⟨j, hj, e, n1, n2, n3⟩ | ⟨n1, n3⟩
  · exact Or.inl ⟨j, hj, e, by rw [if_neg n1, if_neg (show ¬ (3 : Int32) ≤ a from n2)], n3⟩
  · refine Or.inr ⟨?_, n3⟩
    rcases n1 with n | ⟨n, n2⟩
    · rw [if_pos n]
    · rw [if_neg n, if_pos (show (3 : Int32) ≤ a from n2)]
theorem kp_.fr2 {h h' : hh_} {m t k : Nat} {F : Nat → Nat → Nat} (hm : m ≤ 5) (ht : t ≤ 4) (e1 : ∀ c j, 89 + 3 * k ≤ c → c ≤ 91 + 3 * k → h'.1 c j = h.1 c j) (e2 : ∀ j, 1030 * k ≤ j → j < 1030 * k + 1030 → h'.1 110 j = h.1 110 j) (H : kp_ h m t F k) : kp_ h' m t F k := by
  rcases H with ⟨a, b⟩ | ⟨n, ds, a, b, c, d, f⟩
  · exact Or.inl ⟨by rw [e1 _ _ (by omega) (by omega)]; exact a, by rw [e2 _ (by omega) (by omega)]; exact b⟩
  · have n40 := c.1
    refine Or.inr ⟨n, ds, by rw [e1 _ _ (by omega) (by omega)]; exact a, by rw [e2 _ (by omega) (by omega)]; exact b, ⟨n40, fun x hx => by rw [e1 _ _ (by omega) (by omega)]; exact c.2.1 x hx, fun x hx i hi j hj => by rw [e2 _ (by omega) (by omega)]; exact c.2.2 x hx i hi j hj⟩, fun i hi j hj => by rw [e2 _ (by omega) (by omega)]; exact d i hi j hj, fun x hx => ?_⟩
    obtain ⟨q, hq, h1, h2⟩ := f x hx
    exact ⟨q, hq, by rw [e1 _ _ (by omega) (by omega)]; exact h1, by rw [e2 _ (by omega) (by omega)]; exact h2⟩
theorem tk_loop {o' o : Nat} (ho : ∀ x, x < 4 → o + 14 + x ≠ o' + 2) (g : Nat → Int32) : ∀ (d x m : Nat) (h : hh_), x + d = 4 → (∀ y, y < 4 → h.1 (o + 14 + y) 1 = g y) → ff_X0_take_25 o' o (m + d + 1) (nI x) h = some (fg_ h (o' + 2) 0 x 4 g) := by
  intro d
  induction d with
  | zero =>
    intro x m h e eg
    have e : x = 4 := by omega
    subst e
    rw [ff_X0_take_25, if_pos (by decide), fg_0]
  | succ d ih =>
    intro x m h e eg
    have hx : x < 4 := by omega
    rw [show m + (d + 1) + 1 = (m + d + 1) + 1 by omega, ff_X0_take_25, if_neg (show ¬ (4 : Int32) ≤ nI x from nI_ge (b := 4) hx (by omega)), gd_n hx (by decide), nI_clamp (by omega), show Int32.toNatClampNeg 1 = 1 from rfl, eg x hx, nI_1, ih (x + 1) m _ (by omega) (fun y hy => by rw [sI_ne (ho y hy)]; exact eg y hy)]
    have w := fg_s (h := h) (k := o' + 2) (b := 0) (a := x) (n := 4) (g := g) hx
    rw [Nat.zero_add] at w
    rw [w]
theorem k39_loop {b : Nat} {KK : hh_ → Option (Int32 × hh_)} (hb : b + 30 < 3090) (g : Nat → Int32) : ∀ (d x m : Nat) (h : hh_), x + d = 4 → (∀ y, y < 4 → h.1 106 (3 * y + 1) = g y) → ff_X8_keep_39 (nI b) KK (m + d + 1) (nI x) h = KK (fg_ h 110 (b + 1) x 4 g) := by
  intro d
  induction d with
  | zero =>
    intro x m h e eg
    have e : x = 4 := by omega
    subst e
    rw [ff_X8_keep_39, if_pos (by decide), fg_0]
  | succ d ih =>
    intro x m h e eg
    have hx : x < 4 := by omega
    have e31 : (3 : Int32) * nI x + 1 = nI (3 * x + 1) := by rw [show (3 : Int32) = nI 3 from rfl, pk_mul]; exact nI_add _ 1
    have e1 : nI b + 1 + nI x = nI (b + 1 + x) := by rw [nI_1, nI_add]
    rw [show m + (d + 1) + 1 = (m + d + 1) + 1 by omega, ff_X8_keep_39, if_neg (show ¬ (4 : Int32) ≤ nI x from nI_ge (b := 4) hx (by omega)), e31, e1, gd_n (by omega) (by decide), gd_n (by omega) (by decide), nI_clamp (show b + 1 + x < 2 ^ 31 by omega), nI_clamp (show 3 * x + 1 < 2 ^ 31 by omega), eg x hx, nI_1, ih (x + 1) m _ (by omega) (fun y hy => by rw [sI_ne (by decide)]; exact eg y hy), fg_s hx]
theorem k83_loop {b : Nat} (hb : b + 1030 ≤ 3090) (g : Nat → Int32) : ∀ (d x m : Nat) (h : hh_), x + d = 1000 → (∀ y, y < 1000 → h.1 109 y = g y) → ff_X8_keep_83 (nI b) (m + d + 1) (nI x) h = some (h.1 98 21, fg_ h 110 (b + 30) x 1000 g) := by
  intro d
  induction d with
  | zero =>
    intro x m h e eg
    have e : x = 1000 := by omega
    subst e
    rw [ff_X8_keep_83, if_pos (by decide), fg_0]
  | succ d ih =>
    intro x m h e eg
    have e1 : nI b + 30 + nI x = nI (b + 30 + x) := by rw [show nI b + 30 = nI (b + 30) from nI_add b 30, nI_add]
    rw [show m + (d + 1) + 1 = (m + d + 1) + 1 by omega, ff_X8_keep_83, if_neg (show ¬ (1000 : Int32) ≤ nI x from nI_ge (b := 1000) (by omega) (by omega)), gd_n (by omega) (by decide), e1, gd_n (by omega) (by decide), nI_clamp (show b + 30 + x < 2 ^ 31 by omega), nI_clamp (show x < 2 ^ 31 by omega), eg x (by omega), nI_1, ih (x + 1) m _ (by omega) (fun y hy => by rw [sI_ne (by decide)]; exact eg y hy), fg_s (by omega), sI_ne (by decide)]
def tkC_ (h : hh_) (o k n : Nat) : hh_ := fg_ (hh_cp (hh_sI h (89 + 3 * k) 2 (nI n)) (o + 24) (89 + 3 * k + 1) 0 0 40) (89 + 3 * k + 2) 0 0 4 (fun y => h.1 (o + 14 + y) 1)
theorem tk_C {h : hh_} {o k n : Nat} (ho : o = 39 ∨ o = 64) (hk : k < 3) (e : h.1 o 6 = nI n) : ff_X0_take (89 + 3 * k) o h = some (tkC_ h o k n) := by
  unfold ff_X0_take tkC_
  obtain ⟨q, hq⟩ := fu_ 4 (by decide)
  rw [gd_t (show bc_ 0 0 40 40 40 = true from rfl), e, hq]
  refine tk_loop (fun x hx => by omega) _ 4 0 q _ rfl (fun y hy => ?_)
  show (hh_cp (hh_sI h (89 + 3 * k) 2 (nI n)) (o + 24) (89 + 3 * k + 1) 0 0 40).1 (o + 14 + y) 1 = _
  unfold hh_cp
  dsimp only
  rw [if_neg (by omega), sI_ne (by omega)]
theorem tkC_v {h : hh_} {o k n c j : Nat} : (tkC_ h o k n).1 c j = if c = 91 + 3 * k ∧ j < 4 then h.1 (o + 14 + j) 1 else if c = 90 + 3 * k then va_cpy ((hh_sI h (89 + 3 * k) 2 (nI n)).1 (o + 24)) ((hh_sI h (89 + 3 * k) 2 (nI n)).1 (90 + 3 * k)) 0 0 40 j else (hh_sI h (89 + 3 * k) 2 (nI n)).1 c j := by
  unfold tkC_ fg_ hh_cp
  dsimp only
  rw [show 89 + 3 * k + 2 = 91 + 3 * k by omega, show 89 + 3 * k + 1 = 90 + 3 * k by omega, Nat.sub_zero]
  by_cases e : c = 91 + 3 * k ∧ j < 4
  · rw [if_pos e, if_pos ⟨e.1, by omega, by omega⟩]
  · rw [if_neg e, if_neg (by omega)]
theorem tkC_ne {h : hh_} {o k n c j : Nat} (q : c < 89 + 3 * k ∨ 91 + 3 * k < c) : (tkC_ h o k n).1 c j = h.1 c j := by
  rw [tkC_v, if_neg (by omega), if_neg (by omega), sI_ne (by omega)]
/-- the reference's part -/
def tkM_ (h : hh_) (k n : Nat) : hh_ := fg_ (fg_ (fg_ (hh_sI h 110 (1030 * k) (nI n)) 110 (1030 * k + 1) 0 4 (fun y => h.1 106 (3 * y + 1))) 110 (1030 * k + 5) 0 25 (fun y => h.1 105 y)) 110 (1030 * k + 30) 0 1000 (fun y => h.1 109 y)
theorem tk_M {h : hh_} {k n : Nat} (hk : k < 3) (h0 : ¬ h.1 98 10 = 0) (e : h.1 98 21 = nI n) (hin : ff_X8_in (nI k) 0 2 = 1) : ff_X8_keep (nI k) h = some (nI n, tkM_ h k n) := by
  unfold ff_X8_keep
  obtain ⟨q, hq⟩ := fu_ 4 (by decide)
  obtain ⟨q2, hq2⟩ := fu_ 1000 (by decide)
  have e1 : (1030 : Int32) * nI k = nI (1030 * k) := by rw [show (1030 : Int32) = nI 1030 from rfl, pk_mul]
  rw [hin, if_neg n10, if_neg h0, e1, gd_n (by omega) (by decide), nI_clamp (by omega), e, show nI (1030 * k) + 5 = nI (1030 * k + 5) from nI_add _ 5]
  have w := k39_loop (b := 1030 * k) (KK := fun k4 => (ff_X8_write 110 (nI (1030 * k + 5)) k4).bind fun v5 => ff_X8_keep_83 (nI (1030 * k)) FU_ 0 v5) (by omega) (fun y => h.1 106 (3 * y + 1)) 4 0 q (hh_sI h 110 (1030 * k) (nI n)) rfl (fun y hy => by rw [sI_ne (by decide)])
  rw [← hq] at w
  refine w.trans ?_
  rw [wr_M (by decide) sh110 (by omega) (by decide), Option.bind_some, hq2]
  have w2 := k83_loop (b := 1030 * k) (by omega) (fun y => h.1 109 y) 1000 0 q2 (fg_ (fg_ (hh_sI h 110 (1030 * k) (nI n)) 110 (1030 * k + 1) 0 4 (fun y => h.1 106 (3 * y + 1))) 110 (1030 * k + 5) 0 25 (fun y => (fg_ (hh_sI h 110 (1030 * k) (nI n)) 110 (1030 * k + 1) 0 4 (fun y => h.1 106 (3 * y + 1))).1 105 y)) rfl (fun y hy => by rw [fg_ne (by decide), fg_ne (by decide), sI_ne (by decide)])
  refine w2.trans ?_
  rw [fg_ne (by decide), fg_ne (by decide), sI_ne (by decide), e]
  unfold tkM_
  rw [show (fun y => (fg_ (hh_sI h 110 (1030 * k) (nI n)) 110 (1030 * k + 1) 0 4 (fun y => h.1 106 (3 * y + 1))).1 105 y) = fun y => h.1 105 y from funext fun y => by rw [fg_ne (by decide), sI_ne (by decide)]]
theorem tkM_ne {h : hh_} {k n c j : Nat} (q : c ≠ 110 ∨ j < 1030 * k ∨ 1030 * k + 1030 ≤ j) : (tkM_ h k n).1 c j = h.1 c j := by
  unfold tkM_
  by_cases e : c = 110
  · subst e
    rw [fg_out (by omega), fg_out (by omega), fg_out (by omega), sI_nj (by omega)]
  · rw [fg_ne e, fg_ne e, fg_ne e, sI_ne e]
/-- 19: keep -/
theorem st_19 : sp_19 inv_ := by
  intro h a1 H
  have nw := H.2.2.2.nw
  have B := H.2.2.2.nwB
  have hn0 := H.2.2.2.1
  obtain ⟨hT, hR, hX, hn, D, F, ds, n, K, C, M, k4, k5, k6, k7, k8, k9, k10, k11⟩ := id H
  have m5 := K.1
  have t4 := K.2.1
  have p4 := K.2.2.1
  have n40 := k6.1
  rcases kpl_ a1 with ⟨k, hk, rfl, c1, m1⟩ | ⟨c1, m1⟩
  · by_cases e0 : d_m D = 0
    · refine ⟨-4, h, h, ?_, ?_, H⟩
      · unfold ff_X7_keep
        rw [c1, if_neg n10, gd_t B, show Int32.toNatClampNeg 0 = 0 from rfl, C.1, e0, if_pos (show nI 0 = 0 from rfl)]
      · unfold ff_X8_keep
        rw [m1, if_neg n10, M.1, e0, if_pos (show nI 0 = 0 from rfl)]
    · have g21 : (tkC_ h h.2.2.1 k n).1 98 21 = nI n := by rw [tkC_ne (by omega)]; exact k5
      refine ⟨nI n, tkC_ h h.2.2.1 k n, tkM_ (tkC_ h h.2.2.1 k n) k n, ?_, tk_M hk (by rw [tkC_ne (by omega), M.1]; exact nI_ne0 (by omega) (by omega)) g21 m1, ?_⟩
      · unfold ff_X7_keep
        rw [c1, if_neg n10, gd_t B, show Int32.toNatClampNeg 0 = 0 from rfl, C.1, if_neg (nI_ne0 (by omega) (by omega)), gd_n hk (by decide), nI_clamp (by omega), tk_C nw hk k4, Option.bind_some, show (tkC_ h h.2.2.1 k n).2.2.1 = h.2.2.1 from rfl, gd_t B, tkC_ne (by omega), k4]
      · have g0 : ∀ c j, (c < 89 + 3 * k ∨ 91 + 3 * k < c) → (c ≠ 110 ∨ j < 1030 * k ∨ 1030 * k + 1030 ≤ j) → (tkM_ (tkC_ h h.2.2.1 k n) k n).1 c j = h.1 c j := fun c j v1 v2 => by rw [tkM_ne v2, tkC_ne v1]
        refine ⟨hT.fr (fun c j q => g0 _ _ (by omega) (by omega)) (fun _ _ _ => rfl), hR.fr (fun c j q => g0 _ _ (by omega) (by omega)), hX.fr (fun c j q => g0 _ _ (by omega) (by omega)), hn0, D, F, ds, n, K, (show oC_ h.2.2.1 _ D from C.fr K (fun c j q => g0 _ _ (by omega) (by omega))), M.fr (fun c j q => g0 _ _ (by omega) (by omega)), ?_, by rw [g0 _ _ (by omega) (by omega)]; exact k5, k6.fr (fun j => g0 _ _ ?_ ?_) (fun j => g0 _ _ (by omega) (by omega)), fun i hi j hj => ?_, k8, k9, k10, fun k' hk' => ?_⟩
        · show (tkM_ (tkC_ h h.2.2.1 k n) k n).1 h.2.2.1 6 = _
          rw [g0 _ _ (by omega) (by omega)]; exact k4
        · show h.2.2.1 + 24 < 89 + 3 * k ∨ _
          omega
        · show h.2.2.1 + 24 ≠ 110 ∨ _
          omega
        · show (tkM_ (tkC_ h h.2.2.1 k n) k n).1 (h.2.2.1 + 2 + i) j = _
          rw [g0 _ _ (by omega) (by omega)]; exact k7 i hi j hj
        · by_cases e : k' = k
          · subst e
            have cc : ∀ c j, c < 98 → (tkM_ (tkC_ h h.2.2.1 k' n) k' n).1 c j = (tkC_ h h.2.2.1 k' n).1 c j := fun c j q => tkM_ne (by omega)
            refine Or.inr ⟨n, ds, ?_, ?_, ⟨n40, fun d hd => ?_, fun d hd i hi j hj => ?_⟩, fun i hi j hj => ?_, fun x hx => ⟨d_T D x 1, (K.2.2.2.2.2.1 x hx).2.1, ?_, ?_⟩⟩
            · rw [cc _ _ (by omega), tkC_v, if_neg (by omega), if_neg (by omega), sI_eq]
            · unfold tkM_
              rw [fg_out (by omega), fg_out (by omega), fg_out (by omega), sI_eq]
            · rw [cc _ _ (by omega), tkC_v, if_neg (by omega), if_pos rfl, pk_cpy_in (by omega) (by omega), sI_ne (by omega), Nat.zero_add, Nat.sub_zero]
              exact k6.2.1 d hd
            · unfold tkM_
              rw [fg_in (by omega) (by omega), tkC_ne (by omega)]
              have w := k6.2.2 d hd i hi j hj
              rw [Nat.zero_add] at w
              exact w
            · unfold tkM_
              rw [fg_out (by omega), fg_in (by omega) (by omega), tkC_ne (by omega), M.2.2.2.1 i hi j hj, k9 i hi j hj]
            · rw [cc _ _ (by omega), tkC_v, if_pos ⟨by omega, by omega⟩]
              exact C.2.2.2.2.1 x hx 1 (by omega)
            · unfold tkM_
              rw [fg_out (by omega), fg_out (by omega), fg_in (by omega) (by omega), tkC_ne (by omega)]
              exact M.2.2.2.2.1 x hx 1 (by omega)
          · exact (k11 k' hk').fr2 m5 t4 (fun c j v1 v2 => g0 _ _ (by omega) (by omega)) (fun j v1 v2 => g0 _ _ (by omega) (by omega))
  · exact ⟨-1, h, h, by unfold ff_X7_keep; rw [c1, if_pos rfl], by unfold ff_X8_keep; rw [m1, if_pos rfl], H⟩
end
section
/-! ===== on ===== -/
theorem gt_loop {o' o : Nat} (ho : o' + 2 < o + 14 ∨ o + 18 ≤ o' + 2) : ∀ (d x m : Nat) (h : hh_), x + d = 4 → ∃ h1, ff_X0_giveTo_17 o' o (m + d + 1) (nI x) h = ((ff_X2_goBack o (h1.1 o' 2) h1).bind fun v => some v) ∧ h1.2 = h.2 ∧ (∀ k j, ¬ (o + 14 ≤ k ∧ k < o + 18 ∧ j = 1) → h1.1 k j = h.1 k j) ∧ (∀ y, x ≤ y → y < 4 → h1.1 (o + 14 + y) 1 = h.1 (o' + 2) y) ∧ (∀ y, y < x → h1.1 (o + 14 + y) 1 = h.1 (o + 14 + y) 1) := by
  intro d
  induction d with
  | zero =>
    intro x m h e
    have e : x = 4 := by omega
    subst e
    refine ⟨h, ?_, rfl, fun _ _ _ => rfl, fun y h1 h2 => by omega, fun _ _ => rfl⟩
    rw [ff_X0_giveTo_17, if_pos (by decide)]
  | succ d ih =>
    intro x m h e
    have hx : x < 4 := by omega
    obtain ⟨h1, w1, w2, w3, w4, w5⟩ := ih (x + 1) m (hh_sI h (o + 14 + x) 1 (h.1 (o' + 2) x)) (by omega)
    refine ⟨h1, ?_, w2, fun k j q => ?_, fun y q1 q2 => ?_, fun y q1 => ?_⟩
    · rw [show m + (d + 1) + 1 = (m + d + 1) + 1 by omega, ff_X0_giveTo_17, if_neg (show ¬ (4 : Int32) ≤ nI x from nI_ge (b := 4) hx (by omega)), gd_n hx (by decide), nI_clamp (by omega), show Int32.toNatClampNeg 1 = 1 from rfl, nI_1]
      exact w1
    · rw [w3 k j q]
      by_cases e2 : k = o + 14 + x
      · rw [e2, sI_nj (by omega)]
      · rw [sI_ne e2]
    · by_cases e2 : y = x
      · subst e2
        rw [w5 y (by omega), sI_eq]
      · rw [w4 y (by omega) q2, sI_ne (by omega)]
    · rw [w5 y (by omega), sI_ne (by omega)]
theorem o46_loop {b : Nat} {KK : hh_ → Option (Int32 × hh_)} (hb : b + 1030 ≤ 3090) : ∀ (d x m : Nat) (h : hh_), x + d = 4 → ∃ h1, ff_X8_on_46 (nI b) KK (m + d + 1) (nI x) h = KK h1 ∧ h1.2 = h.2 ∧ (∀ k j, (k = 106 → j % 3 ≠ 1) → h1.1 k j = h.1 k j) ∧ (∀ y, x ≤ y → y < 4 → h1.1 106 (3 * y + 1) = h.1 110 (b + 1 + y)) ∧ (∀ y, y < x → h1.1 106 (3 * y + 1) = h.1 106 (3 * y + 1)) := by
  intro d
  induction d with
  | zero =>
    intro x m h e
    have e : x = 4 := by omega
    subst e
    refine ⟨h, ?_, rfl, fun _ _ _ => rfl, fun y h1 h2 => by omega, fun _ _ => rfl⟩
    rw [ff_X8_on_46, if_pos (by decide)]
  | succ d ih =>
    intro x m h e
    have hx : x < 4 := by omega
    have e31 : (3 : Int32) * nI x + 1 = nI (3 * x + 1) := by rw [show (3 : Int32) = nI 3 from rfl, pk_mul]; exact nI_add _ 1
    have e1 : nI b + 1 + nI x = nI (b + 1 + x) := by rw [nI_1, nI_add]
    obtain ⟨h1, w1, w2, w3, w4, w5⟩ := ih (x + 1) m (hh_sI h 106 (3 * x + 1) (h.1 110 (b + 1 + x))) (by omega)
    refine ⟨h1, ?_, w2, fun k j q => ?_, fun y q1 q2 => ?_, fun y q1 => ?_⟩
    · rw [show m + (d + 1) + 1 = (m + d + 1) + 1 by omega, ff_X8_on_46, if_neg (show ¬ (4 : Int32) ≤ nI x from nI_ge (b := 4) hx (by omega)), e31, e1, gd_n (by omega) (by decide), gd_n (by omega) (by decide), nI_clamp (show b + 1 + x < 2 ^ 31 by omega), nI_clamp (show 3 * x + 1 < 2 ^ 31 by omega), nI_1]
      exact w1
    · rw [w3 k j q]
      by_cases e2 : k = 106
      · have := q e2
        rw [e2, sI_nj (by omega)]
      · rw [sI_ne e2]
    · by_cases e2 : y = x
      · subst e2
        rw [w5 y (by omega), sI_eq]
      · rw [w4 y (by omega) q2, sI_ne (by omega)]
    · rw [w5 y (by omega), sI_nj (by omega)]
theorem o90_loop {b : Nat} (hb : b + 1030 ≤ 3090) (g : Nat → Int32) : ∀ (d x m : Nat) (h : hh_), x + d = 1000 → (∀ y, y < 1000 → h.1 110 (b + 30 + y) = g y) → ff_X8_on_90 (nI b) (m + d + 1) (nI x) h = some (h.1 98 21, fg_ h 109 0 x 1000 g) := by
  intro d
  induction d with
  | zero =>
    intro x m h e eg
    have e : x = 1000 := by omega
    subst e
    rw [ff_X8_on_90, if_pos (by decide), fg_0]
  | succ d ih =>
    intro x m h e eg
    have e1 : nI b + 30 + nI x = nI (b + 30 + x) := by rw [show nI b + 30 = nI (b + 30) from nI_add b 30, nI_add]
    rw [show m + (d + 1) + 1 = (m + d + 1) + 1 by omega, ff_X8_on_90, if_neg (show ¬ (1000 : Int32) ≤ nI x from nI_ge (b := 1000) (by omega) (by omega)), e1, gd_n (by omega) (by decide), gd_n (by omega) (by decide), nI_clamp (show b + 30 + x < 2 ^ 31 by omega), nI_clamp (show x < 2 ^ 31 by omega), eg x (by omega), nI_1, ih (x + 1) m _ (by omega) (fun y hy => by rw [sI_ne (by decide)]; exact eg y hy), sI_ne (by decide)]
    have w := fg_s (h := h) (k := 109) (b := 0) (a := x) (n := 1000) (g := g) (by omega)
    rw [Nat.zero_add] at w
    rw [w]
theorem on_M {h : hh_} {k n : Nat} (hk : k < 3) (hn : n ≤ 40) (e : h.1 110 (1030 * k) = nI n) (hin : ff_X8_in (nI k) 0 2 = 1) : ∃ h2, ff_X8_on (nI k) h = some (nI n, h2) ∧ h2.2 = h.2 ∧ (∀ c j, c ≠ 105 → (c = 106 → j % 3 ≠ 1) → c ≠ 109 → ¬ (c = 98 ∧ j = 21) → h2.1 c j = h.1 c j) ∧ h2.1 98 21 = nI n ∧ (∀ y, y < 25 → h2.1 105 y = h.1 110 (1030 * k + 5 + y)) ∧ (∀ y, y < 4 → h2.1 106 (3 * y + 1) = h.1 110 (1030 * k + 1 + y)) ∧ ∀ y, y < 1000 → h2.1 109 y = h.1 110 (1030 * k + 30 + y) := by
  obtain ⟨q, hq⟩ := fu_ 4 (by decide)
  obtain ⟨q2, hq2⟩ := fu_ 1000 (by decide)
  have e1 : (1030 : Int32) * nI k = nI (1030 * k) := by rw [show (1030 : Int32) = nI 1030 from rfl, pk_mul]
  have e9 : ¬ nI n = -9 := fun w => by
    have w2 := congrArg Int32.toInt w
    rw [nI_toInt (by omega), show (-9 : Int32).toInt = -9 from rfl] at w2
    omega
  obtain ⟨h1, w1, w2, w3, w4, w5⟩ := o46_loop (b := 1030 * k) (KK := fun k4 => (ff_X8_readBack 110 (nI (1030 * k + 5)) k4).bind fun v5 => ff_X8_on_90 (nI (1030 * k)) FU_ 0 v5) (by omega) 4 0 q (hh_sI h 98 21 (nI n)) rfl
  have g0 : ∀ c j, (c = 106 → j % 3 ≠ 1) → ¬ (c = 98 ∧ j = 21) → h1.1 c j = h.1 c j := by
    intro c j v1 v2
    rw [w3 c j v1]
    by_cases e2 : c = 98
    · rw [e2, sI_nj (by omega)]
    · rw [sI_ne e2]
  have g21 : h1.1 98 21 = nI n := by rw [w3 _ _ (by omega), sI_eq]
  have w6 := o90_loop (b := 1030 * k) (by omega) (fun y => h.1 110 (1030 * k + 30 + y)) 1000 0 q2 (fg_ h1 105 0 0 25 (fun y => h1.1 110 (1030 * k + 5 + y))) rfl (fun y hy => by rw [fg_ne (by decide), g0 _ _ (by omega) (by omega)])
  refine ⟨fg_ (fg_ h1 105 0 0 25 (fun y => h1.1 110 (1030 * k + 5 + y))) 109 0 0 1000 (fun y => h.1 110 (1030 * k + 30 + y)), ?_, w2, fun c j v1 v2 v3 v4 => ?_, ?_, fun y hy => ?_, fun y hy => ?_, fun y hy => ?_⟩
  · unfold ff_X8_on
    rw [hin, if_neg n10, e1, gd_n (by omega) (by decide), nI_clamp (by omega), e, if_neg e9, show nI (1030 * k) + 5 = nI (1030 * k + 5) from nI_add _ 5]
    rw [← hq] at w1
    refine w1.trans ?_
    rw [rb_M (by decide) sh110 (by omega) (by decide), Option.bind_some, hq2]
    refine w6.trans ?_
    rw [fg_ne (by decide), g21]
  · rw [fg_ne v3, fg_ne v1, g0 _ _ v2 v4]
  · rw [fg_ne (by decide), fg_ne (by decide)]; exact g21
  · rw [fg_ne (by decide), fg_in0 (by omega) hy, g0 _ _ (by omega) (by omega)]
  · rw [fg_ne (by decide), fg_ne (by decide), w4 y (by omega) hy, sI_ne (by decide)]
  · rw [fg_in0 (by omega) hy]
/-- 20: on -/
theorem st_20 : sp_20 inv_ := by
  intro h a1 H
  have nw := H.2.2.2.nw
  have B := H.2.2.2.nwB
  have hn0 := H.2.2.2.1
  obtain ⟨hT, hR, hX, hn, D, F, ds, n, K, C, M, k4, k5, k6, k7, k8, k9, k10, k11⟩ := id H
  have m5 := K.1
  have t4 := K.2.1
  have p4 := K.2.2.1
  rcases kpl_ a1 with ⟨k, hk, rfl, c1, m1⟩ | ⟨c1, m1⟩
  · rcases k11 k hk with ⟨a, b⟩ | ⟨n', ds', a, b, c, d, f⟩
    · refine rd_ H 3 0 0 (by decide) ?_ (fun h' S => ?_)
      · unfold ff_X7_on
        rw [c1, if_neg n10, gd_n hk (by decide), nI_clamp (by omega), a, if_pos rfl]
        exact rfC (f := 1) (by decide)
      · unfold ff_X8_on
        rw [m1, if_neg n10, show (1030 : Int32) * nI k = nI (1030 * k) from by rw [show (1030 : Int32) = nI 1030 from rfl, pk_mul], gd_n (by omega) (by decide), nI_clamp (by omega), S _ _ (by decide) (by decide), b, if_pos rfl]
        exact rfM (f := 1) (by decide)
    · have n40 := c.1
      obtain ⟨q, hq⟩ := fu_ 4 (by decide)
      have g0 : ∀ x j, x ≠ h.2.2.1 + 24 → (hh_cp h (90 + 3 * k) (h.2.2.1 + 24) 0 0 40).1 x j = h.1 x j := fun x j v => if_neg v
      have g1 : ∀ j, (hh_cp h (90 + 3 * k) (h.2.2.1 + 24) 0 0 40).1 (h.2.2.1 + 24) j = va_cpy (h.1 (90 + 3 * k)) (h.1 (h.2.2.1 + 24)) 0 0 40 j := fun j => if_pos rfl
      obtain ⟨h1, w1, w2, w3, w4, w5⟩ := gt_loop (o' := 89 + 3 * k) (o := h.2.2.1) (by omega) 4 0 q (hh_cp h (90 + 3 * k) (h.2.2.1 + 24) 0 0 40) rfl
      have ed : ∀ y, y < n' → h1.1 (h.2.2.1 + 24) y = nI (ds' y) := fun y hy => by
        rw [w3 _ _ (by omega), g1, pk_cpy_in (by omega) (by omega), Nat.zero_add, Nat.sub_zero]
        exact (c.2.1 y hy).1
      obtain ⟨h2, v1, v2, v3, v4, v5⟩ := gb_C (o := h.2.2.1) (h := h1) (a := n') m5 n40 k8 (fun d hd => (c.2.1 d hd).2) (by rw [w3 _ _ (by omega), g0 _ _ (by omega)]; exact C.1) ed (fun i hi j hj => by rw [w3 _ _ (by omega), g0 _ _ (by omega)]; exact k7 i hi j hj)
      have e2r : h2.2 = h.2 := v2.trans w2
      have f0 : ∀ x j, x ≠ h.2.2.1 + 24 → ¬ (h.2.2.1 + 8 ≤ x ∧ x < h.2.2.1 + 13) → ¬ (h.2.2.1 + 14 ≤ x ∧ x < h.2.2.1 + 18 ∧ j = 1) → ¬ (x = h.2.2.1 ∧ j = 6) → h2.1 x j = h.1 x j := fun x j u1 u2 u3 u4 => by rw [v3 x j u2 u4, w3 x j u3, g0 x j u1]
      obtain ⟨h3, z1, z2, z3, z4, z5, z6, z7⟩ := on_M (h := h2) hk n40 (by rw [f0 _ _ (by omega) (by omega) (by omega) (by omega)]; exact b) m1
      refine ⟨nI n', h2, h3, ?_, z1, ?_⟩
      · unfold ff_X7_on ff_X0_giveTo
        rw [c1, if_neg n10, gd_n hk (by decide), nI_clamp (by omega), a, if_neg (nI_m1 (by omega)), gd_t B, gd_t (show bc_ 0 0 40 40 40 = true from rfl), hq, show 89 + 3 * k + 1 = 90 + 3 * k by omega]
        have e5 : ff_X0_giveTo_17 (89 + 3 * k) h.2.2.1 (q + 4 + 1) 0 (hh_cp h (90 + 3 * k) (h.2.2.1 + 24) (Int32.toNatClampNeg 0) (Int32.toNatClampNeg 0) (Int32.toNatClampNeg 40)) = some h2 := by
          refine w1.trans ?_
          rw [w3 _ _ (by omega), g0 _ _ (by omega), a, v1]; rfl
        rw [e5, Option.bind_some, e2r, gd_t B, v4]
      · have G : ∀ x j, x ≠ 105 → (x = 106 → j % 3 ≠ 1) → x ≠ 109 → ¬ (x = 98 ∧ j = 21) → x ≠ h.2.2.1 + 24 → ¬ (h.2.2.1 + 8 ≤ x ∧ x < h.2.2.1 + 13) → ¬ (h.2.2.1 + 14 ≤ x ∧ x < h.2.2.1 + 18 ∧ j = 1) → ¬ (x = h.2.2.1 ∧ j = 6) → h3.1 x j = h.1 x j := fun x j u1 u2 u3 u4 u5 u6 u7 u8 => by rw [z3 x j u1 u2 u3 u4, f0 x j u5 u6 u7 u8]
        have e3r : h3.2 = h.2 := z2.trans e2r
        have eE : ∀ x, x < d_t D → Int32.toNatClampNeg (h.1 (91 + 3 * k) x) ≤ 2 ∧ h.1 (91 + 3 * k) x = nI (Int32.toNatClampNeg (h.1 (91 + 3 * k) x)) ∧ h.1 110 (1030 * k + 1 + x) = nI (Int32.toNatClampNeg (h.1 (91 + 3 * k) x)) := by
          intro x hx
          obtain ⟨e, he, u1, u2⟩ := f x hx
          rw [u1, nI_clamp (by omega)]
          exact ⟨he, rfl, u2⟩
        refine ⟨hT.fr (fun x j u => G _ _ (by omega) (by omega) (by omega) (by omega) (by omega) (by omega) (by omega) (by omega)) (fun x j u => by rw [e3r]), hR.fr (fun x j u => G _ _ (by omega) (by omega) (by omega) (by omega) (by omega) (by omega) (by omega) (by omega)), hX.fr (fun x j u => G _ _ (by omega) (by omega) (by omega) (by omega) (by omega) (by omega) (by omega) (by omega)), ?_⟩
        unfold iO_
        rw [e3r]
        refine ⟨hn0, (D.1, D.2.1, D.2.2.1, rp_ F ds' n', (fun x y => if y = 1 then Int32.toNatClampNeg (h.1 (91 + 3 * k) x) else d_T D x y), D.2.2.2.2.2), F, ds', n', ⟨K.1, K.2.1, K.2.2.1, K.2.2.2.1, fun i hi => rp_b k8 n' i hi, fun x hx => ?_, K.2.2.2.2.2.2⟩, ⟨?_, ?_, ?_, fun i hi j hj => ?_, fun t ht j hj => ?_, fun p hp j hj => ?_⟩, ⟨?_, ?_, ?_, fun i hi j hj => ?_, fun t ht j hj => ?_, fun p hp j hj => ?_⟩, ?_, z4, ⟨n40, fun x hx => ?_, fun x hx i hi j hj => ?_⟩, fun i hi j hj => ?_, k8, fun _ _ _ _ => rfl, fun u => ?_, fun k' hk' => (k11 k' hk').fr hk' (fun x j u => G _ _ (by omega) (by omega) (by omega) (by omega) (by omega) (by omega) (by omega) (by omega))⟩
        · have hx : x < d_t D := hx
          have w := K.2.2.2.2.2.1 x hx
          refine ⟨?_, ?_, ?_⟩
          · show (if 0 = 1 then Int32.toNatClampNeg (h.1 (91 + 3 * k) x) else d_T D x 0) ≤ 5
            rw [if_neg (by decide)]; exact w.1
          · show (if 1 = 1 then Int32.toNatClampNeg (h.1 (91 + 3 * k) x) else d_T D x 1) ≤ 2
            rw [if_pos rfl]; exact (eE x hx).1
          · show (if 2 = 1 then Int32.toNatClampNeg (h.1 (91 + 3 * k) x) else d_T D x 2) ≤ 3
            rw [if_neg (by decide)]; exact w.2.2
        · rw [G _ _ (by omega) (by omega) (by omega) (by omega) (by omega) (by omega) (by omega) (by omega)]; exact C.1
        · rw [G _ _ (by omega) (by omega) (by omega) (by omega) (by omega) (by omega) (by omega) (by omega)]; exact C.2.1
        · rw [G _ _ (by omega) (by omega) (by omega) (by omega) (by omega) (by omega) (by omega) (by omega)]; exact C.2.2.1
        · have hi : i < d_m D := hi
          rw [z3 _ _ (by omega) (by omega) (by omega) (by omega)]; exact v5 i hi j hj
        · have ht : t < d_t D := ht
          show _ = nI (if j = 1 then Int32.toNatClampNeg (h.1 (91 + 3 * k) t) else d_T D t j)
          by_cases e : j = 1
          · subst e
            rw [if_pos rfl, z3 _ _ (by omega) (by omega) (by omega) (by omega), v3 _ _ (by omega) (by omega), w4 t (by omega) (by omega), g0 _ _ (by omega), show 89 + 3 * k + 2 = 91 + 3 * k by omega]
            exact (eE t ht).2.1
          · rw [if_neg e, G _ _ (by omega) (by omega) (by omega) (by omega) (by omega) (by omega) (by omega) (by omega)]; exact C.2.2.2.2.1 t ht j hj
        · have hp : p < d_p D := hp
          rw [G _ _ (by omega) (by omega) (by omega) (by omega) (by omega) (by omega) (by omega) (by omega)]; exact C.2.2.2.2.2 p hp j hj
        · rw [G _ _ (by omega) (by omega) (by omega) (by omega) (by omega) (by omega) (by omega) (by omega)]; exact M.1
        · rw [G _ _ (by omega) (by omega) (by omega) (by omega) (by omega) (by omega) (by omega) (by omega)]; exact M.2.1
        · rw [G _ _ (by omega) (by omega) (by omega) (by omega) (by omega) (by omega) (by omega) (by omega)]; exact M.2.2.1
        · have hi : i < d_m D := hi
          rw [z5 _ (by omega), f0 _ _ (by omega) (by omega) (by omega) (by omega)]; exact d i hi j hj
        · have ht : t < d_t D := ht
          show _ = nI (if j = 1 then Int32.toNatClampNeg (h.1 (91 + 3 * k) t) else d_T D t j)
          by_cases e : j = 1
          · subst e
            rw [if_pos rfl, z6 t (by omega), f0 _ _ (by omega) (by omega) (by omega) (by omega)]
            exact (eE t ht).2.2
          · rw [if_neg e, G _ _ (by omega) (by omega) (by omega) (by omega) (by omega) (by omega) (by omega) (by omega)]; exact M.2.2.2.2.1 t ht j hj
        · rw [G _ _ (by omega) (by omega) (by omega) (by omega) (by omega) (by omega) (by omega) (by omega)]; exact M.2.2.2.2.2 p hp j hj
        · rw [z3 _ _ (by omega) (by omega) (by omega) (by omega)]; exact v4
        · rw [z3 _ _ (by omega) (by omega) (by omega) (by omega), v3 _ _ (by omega) (by omega)]
          exact ⟨ed x hx, (c.2.1 x hx).2⟩
        · have hi : i < d_m D := hi
          rw [Nat.zero_add, z7 _ (by omega), f0 _ _ (by omega) (by omega) (by omega) (by omega)]; exact c.2.2 x hx i hi j hj
        · have hi : i < d_m D := hi
          rw [G _ _ (by omega) (by omega) (by omega) (by omega) (by omega) (by omega) (by omega) (by omega)]; exact k7 i hi j hj
        · have u : d_m D = 0 := u
          by_cases e : n' = 0
          · exact e
          · have := (c.2.1 0 (by omega)).2.1
            omega
  · exact ⟨-1, h, h, by unfold ff_X7_on; rw [c1, if_pos rfl], by unfold ff_X8_on; rw [m1, if_pos rfl], H⟩
end
section
/-! ===== count ===== -/
theorem fld_id {f : Nat → Int32 → Int32} : ∀ (d j : Nat) (x : Int32), (∀ i y, j ≤ i → f i y = y) → fld_ f d j x = x := by
  intro d
  induction d with
  | zero => intro j x _; rfl
  | succ d ih =>
    intro j x e
    rw [fld_s, e j x (Nat.le_refl _), ih _ _ (fun i y hi => e i y (by omega))]
theorem fld_a {f : Nat → Int32 → Int32} : ∀ (d e j : Nat) (x : Int32), fld_ f (d + e) j x = fld_ f e (j + d) (fld_ f d j x) := by
  intro d
  induction d with
  | zero => intro e j x; rw [Nat.zero_add]; rfl
  | succ d ih =>
    intro e j x
    rw [show d + 1 + e = (d + e) + 1 by omega, fld_s, ih, fld_s, show j + 1 + d = j + (d + 1) by omega]
theorem fld_c {f g : Nat → Int32 → Int32} : ∀ (d j : Nat) (x : Int32), (∀ i y, j ≤ i → i < j + d → f i y = g i y) → fld_ f d j x = fld_ g d j x := by
  intro d
  induction d with
  | zero => intro j x _; rfl
  | succ d ih =>
    intro j x e
    rw [fld_s, fld_s, e j x (Nat.le_refl _) (by omega), ih _ _ (fun i y h1 h2 => e i y (by omega) (by omega))]
/-- to the end, or only as far as something happens -/
theorem fld_to {f g : Nat → Int32 → Int32} {m N : Nat} (hm : m ≤ N) (x : Int32) (e1 : ∀ i y, i < m → f i y = g i y) (e2 : ∀ i y, m ≤ i → f i y = y) : fld_ f N 0 x = fld_ g m 0 x := by
  rw [show N = m + (N - m) by omega, fld_a, fld_id _ _ _ (fun i y hi => e2 i y (by omega))]
  exact fld_c _ _ _ (fun i y _ hi => e1 i y (by omega))
def tp_ (h : hh_) (D : od_) (c x : Nat) : Bool := if c = 5 then decide (x < d_t D) && isa_ (d_T D x 0) 3 else if c = 6 then decide (0 ≤ h.1 100 x) else if c = 7 then decide (x < 4) && decide (0 ≤ h.1 103 x) else if c = 8 then decide (x < 3) && !decide (h.1 110 (1030 * x) = -9) else false
def tq_ (h : hh_) (D : od_) (c x : Nat) (y : Int32) : Int32 := if tp_ h D c x = true then y + 1 else y
def tb_ (D : od_) (x : Nat) (y : Int32) : Int32 := if x < d_m D then y + nI (bt_ D x) else y
theorem to34 {c x : Nat} {x2 y0 y1 : Int32} {h : hh_} {D : od_} {KK : Int32 → Int32 → Int32 → Option Int32} (K : oK_ D) (M : oM_ h D) (hc : c < 9) (hx : x < 6) : ff_X8_tellsOf_34 (nI c) x2 (nI x) y0 y1 h KK = KK (tq_ h D c x x2) (y0 + y1) (nI (x + 1)) := by
  have t4 := K.2.1
  have e1 : (1030 : Int32) * nI x = nI (1030 * x) := by rw [show (1030 : Int32) = nI 1030 from rfl, pk_mul]
  unfold ff_X8_tellsOf_34 ff_X8_tellsOf_61 ff_X8_tellsOf_77 ff_X8_tellsOf_99 tq_ tp_
  rw [nI_1, e1, M.2.1]
  rcases (show c = 0 ∨ c = 1 ∨ c = 2 ∨ c = 3 ∨ c = 4 ∨ c = 5 ∨ c = 6 ∨ c = 7 ∨ c = 8 by omega) with rfl | rfl | rfl | rfl | rfl | rfl | rfl | rfl | rfl
  · simp (config := {decide := true}) only [a0, if_true, if_false]
  · simp (config := {decide := true}) only [a0, if_true, if_false]
  · simp (config := {decide := true}) only [a0, if_true, if_false]
  · simp (config := {decide := true}) only [a0, if_true, if_false]
  · simp (config := {decide := true}) only [a0, if_true, if_false]
  · by_cases e : x < d_t D
    · have w : ff_X8_isA (nI x) 3 h = some (bI_ (isa_ (d_T D x 0) 3)) := io_M K M e (by decide) (by decide)
      simp (config := {decide := true}) only [a0, if_true, if_false, w, Option.bind_some, nI_ge e (show d_t D < 2 ^ 31 by omega), e, decide_true, Bool.true_and]
      cases isa_ (d_T D x 0) 3 <;> rfl
    · simp (config := {decide := true}) only [a0, if_true, if_false, nI_le (show d_t D ≤ x by omega) (show x < 2 ^ 31 by omega), e, decide_false, Bool.false_and]
  · simp (config := {decide := true}) only [a0, if_true, if_false, gd_n hx (show 6 < 2 ^ 31 by decide), nI_clamp (show x < 2 ^ 31 by omega)]
    by_cases e : 0 ≤ h.1 100 x
    · rw [if_pos e, decide_eq_true e]; rfl
    · rw [if_neg e, decide_eq_false e]; rfl
  · by_cases e4 : x < 4
    · simp (config := {decide := true}) only [a0, if_true, if_false, gd_n e4 (show 4 < 2 ^ 31 by decide), nI_clamp (show x < 2 ^ 31 by omega), show ¬ (4 : Int32) ≤ nI x from nI_ge (b := 4) e4 (by omega), e4, decide_true, Bool.true_and]
      by_cases e : 0 ≤ h.1 103 x
      · rw [if_pos e, decide_eq_true e]; rfl
      · rw [if_neg e, decide_eq_false e]; rfl
    · simp (config := {decide := true}) only [a0, if_true, if_false, show (4 : Int32) ≤ nI x from nI_le (a := 4) (by omega) (by omega), e4, decide_false, Bool.false_and]
  · by_cases e4 : x < 3
    · simp (config := {decide := true}) only [a0, if_true, if_false, gd_n (show 1030 * x < 3090 by omega) (show 3090 < 2 ^ 31 by decide), nI_clamp (show 1030 * x < 2 ^ 31 by omega), show ¬ (3 : Int32) ≤ nI x from nI_ge (b := 3) e4 (by omega), e4, decide_true, Bool.true_and]
      by_cases e : h.1 110 (1030 * x) = -9
      · rw [if_pos e, decide_eq_true e]; rfl
      · rw [if_neg e, decide_eq_false e]; rfl
    · simp (config := {decide := true}) only [a0, if_true, if_false, show (3 : Int32) ≤ nI x from nI_le (a := 3) (by omega) (by omega), e4, decide_false, Bool.false_and]
theorem to7 {c : Nat} {h : hh_} {D : od_} {KK : Int32 → Int32 → Option Int32} (K : oK_ D) (M : oM_ h D) (hc : c < 9) : ∀ (d x m : Nat) (y z : Int32), x + d = 6 → ff_X8_tellsOf_7 (nI c) h KK (m + d + 1) y z (nI x) = KK (fld_ (tq_ h D c) d x y) (fld_ (tb_ D) d x z) := by
  have m5 := K.1
  intro d
  induction d with
  | zero =>
    intro x m y z e
    have e : x = 6 := by omega
    subst e
    rw [ff_X8_tellsOf_7, if_pos (by decide)]; rfl
  | succ d ih =>
    intro x m y z e
    rw [show m + (d + 1) + 1 = (m + d + 1) + 1 by omega, ff_X8_tellsOf_7, if_neg (show ¬ (6 : Int32) ≤ nI x from nI_ge (b := 6) (by omega) (by omega)), M.1, fld_s, fld_s]
    by_cases e2 : x < d_m D
    · rw [if_neg (nI_ge e2 (by omega)), bs_M K M e2, Option.bind_some, to34 K M hc (by omega), show tb_ D x z = z + nI (bt_ D x) from if_pos e2]
      exact ih _ _ _ _ (by omega)
    · rw [if_pos (nI_le (by omega) (by omega)), to34 K M hc (by omega), a0, show tb_ D x z = z from if_neg e2]
      exact ih _ _ _ _ (by omega)
def ct_ (h : hh_) (D : od_) (n c : Nat) : Int32 := if c = 0 then nI (d_m D) else if c = 1 then nI (d_t D) else if c = 2 then nI (d_p D) else if c = 3 then nI n else if c = 4 then fld_ (tb_ D) 6 0 0 else fld_ (tq_ h D c) 6 0 0
theorem ct_M {c n : Nat} {h : hh_} {D : od_} (K : oK_ D) (M : oM_ h D) (k5 : h.1 98 21 = nI n) (hc : c < 9) : ff_X8_tellsOf (nI c) h = some (ct_ h D n c) := by
  unfold ff_X8_tellsOf ct_
  obtain ⟨q, hq⟩ := fu_ 6 (by decide)
  rw [hq]
  refine (to7 K M hc 6 0 q 0 0 rfl).trans ?_
  rw [M.1, M.2.1, M.2.2.1, k5]
  rcases (show c = 0 ∨ c = 1 ∨ c = 2 ∨ c = 3 ∨ c = 4 ∨ c = 5 ∨ c = 6 ∨ c = 7 ∨ c = 8 by omega) with rfl | rfl | rfl | rfl | rfl | rfl | rfl | rfl | rfl
  · rw [if_pos (by decide), if_pos rfl]
  · rw [if_neg (by decide), if_pos (by decide), if_neg (by decide), if_pos rfl]
  · rw [if_neg (by decide), if_neg (by decide), if_pos (by decide), if_neg (by decide), if_neg (by decide), if_pos rfl]
  · rw [if_neg (by decide), if_neg (by decide), if_neg (by decide), if_pos (by decide), if_neg (by decide), if_neg (by decide), if_neg (by decide), if_pos rfl]
  · rw [if_neg (by decide), if_neg (by decide), if_neg (by decide), if_neg (by decide), if_pos (by decide), if_neg (by decide), if_neg (by decide), if_neg (by decide), if_neg (by decide), if_pos rfl]
  all_goals
    rw [if_neg (by decide), if_neg (by decide), if_neg (by decide), if_neg (by decide), if_neg (by decide), if_neg (by decide), if_neg (by decide), if_neg (by decide), if_neg (by decide), if_neg (by decide)]
/-! the class -/
theorem at_loop {o : Nat} {h : hh_} {D : od_} (K : oK_ D) (C : oC_ o h D) : ∀ (d x m : Nat) (y : Int32), x + d = d_m D → ff_X2_allTogether_4 o h (m + d + 1) y (nI x) = some (fld_ (fun x y => y + nI (bt_ D x)) d x y) := by
  have m5 := K.1
  intro d
  induction d with
  | zero =>
    intro x m y e
    rw [ff_X2_allTogether_4, show Int32.toNatClampNeg 0 = 0 from rfl, C.1, if_pos (nI_le (by omega) (by omega))]; rfl
  | succ d ih =>
    intro x m y e
    rw [show m + (d + 1) + 1 = (m + d + 1) + 1 by omega, ff_X2_allTogether_4, show Int32.toNatClampNeg 0 = 0 from rfl, C.1, if_neg (nI_ge (by omega) (by omega)), tg_C K C (by omega), Option.bind_some, nI_1, ih _ _ _ (by omega), fld_s]
theorem wo_loop {o : Nat} {h : hh_} {D : od_} (K : oK_ D) (C : oC_ o h D) : ∀ (d x m : Nat) (y : Int32), x + d = d_t D → ff_X2_wishingOnes_4 o h (m + d + 1) y (nI x) = some (fld_ (fun x y => if isa_ (d_T D x 0) 3 = true then y + 1 else y) d x y) := by
  have t4 := K.2.1
  intro d
  induction d with
  | zero =>
    intro x m y e
    rw [ff_X2_wishingOnes_4, show Int32.toNatClampNeg 1 = 1 from rfl, C.2.1, if_pos (nI_le (by omega) (by omega))]; rfl
  | succ d ih =>
    intro x m y e
    have w : ff_X2_isOf o (nI x) 3 h = some (bI_ (isa_ (d_T D x 0) 3)) := io_C K C (by omega) (by decide) (by decide)
    rw [show m + (d + 1) + 1 = (m + d + 1) + 1 by omega, ff_X2_wishingOnes_4, show Int32.toNatClampNeg 1 = 1 from rfl, C.2.1, if_neg (nI_ge (by omega) (by omega)), w, Option.bind_some, nI_1, a0, ih _ _ _ (by omega), ih _ _ _ (by omega), fld_s]
    cases isa_ (d_T D x 0) 3 <;> rfl
theorem rwp_ {h : hh_} {r : Nat} (hr : r < 6) (Q : rw_ h 10 4 100 101 40 r) : ff_X5r_lacks (nI r) h = some (bI_ (!decide (0 ≤ h.1 100 r))) := by
  rcases lk_r hr Q with ⟨l0, l1⟩ | ⟨n, hn, l0, l1, l2, l3⟩
  · rw [l0, l1]; rfl
  · rw [l0, l2, decide_eq_true (nI_pos' (by omega))]; rfl
theorem txp_ {h : hh_} {r : Nat} (hr : r < 4) (Q : rw_ h 17 13 103 104 80 r) : ff_X5t_lacks (nI r) h = some (bI_ (!decide (0 ≤ h.1 103 r))) := by
  rcases lk_t hr Q with ⟨l0, l1⟩ | ⟨n, hn, l0, l1, l2, l3⟩
  · rw [l0, l1]; rfl
  · rw [l0, l2, decide_eq_true (nI_pos' (by omega))]; rfl
theorem pr_loop {h : hh_} (R : iR_ h) : ∀ (d x m : Nat) (y : Int32), x + d = 6 → ff_X5r_present_4 h (m + d + 1) y (nI x) = some (fld_ (fun x y => if decide (0 ≤ h.1 100 x) = true then y + 1 else y) d x y) := by
  intro d
  induction d with
  | zero =>
    intro x m y e
    have e : x = 6 := by omega
    subst e
    rw [ff_X5r_present_4, if_pos (by decide)]; rfl
  | succ d ih =>
    intro x m y e
    rw [show m + (d + 1) + 1 = (m + d + 1) + 1 by omega, ff_X5r_present_4, if_neg (show ¬ (6 : Int32) ≤ nI x from nI_ge (b := 6) (by omega) (by omega)), rwp_ (by omega) (R x (by omega)), Option.bind_some, nI_1, a0, ih _ _ _ (by omega), ih _ _ _ (by omega), fld_s]
    cases decide (0 ≤ h.1 100 x) <;> rfl
theorem pt_loop {h : hh_} (X : iX_ h) : ∀ (d x m : Nat) (y : Int32), x + d = 4 → ff_X5t_present_4 h (m + d + 1) y (nI x) = some (fld_ (fun x y => if decide (0 ≤ h.1 103 x) = true then y + 1 else y) d x y) := by
  intro d
  induction d with
  | zero =>
    intro x m y e
    have e : x = 4 := by omega
    subst e
    rw [ff_X5t_present_4, if_pos (by decide)]; rfl
  | succ d ih =>
    intro x m y e
    rw [show m + (d + 1) + 1 = (m + d + 1) + 1 by omega, ff_X5t_present_4, if_neg (show ¬ (4 : Int32) ≤ nI x from nI_ge (b := 4) (by omega) (by omega)), txp_ (by omega) (X x (by omega)), Option.bind_some, nI_1, a0, ih _ _ _ (by omega), ih _ _ _ (by omega), fld_s]
    cases decide (0 ≤ h.1 103 x) <;> rfl
theorem kpp_ {h : hh_} {m t k : Nat} {F : Nat → Nat → Nat} (Q : kp_ h m t F k) : (h.1 (89 + 3 * k) 2 = -1 ∧ h.1 110 (1030 * k) = -9) ∨ ∃ n, n ≤ 40 ∧ h.1 (89 + 3 * k) 2 = nI n ∧ h.1 110 (1030 * k) = nI n ∧ ¬ nI n = -9 ∧ ¬ nI n = -1 := by
  rcases Q with ⟨a, b⟩ | ⟨n, ds, a, b, c, -⟩
  · exact Or.inl ⟨a, b⟩
  · have n40 := c.1
    refine Or.inr ⟨n, n40, a, b, fun w => ?_, nI_m1 (by omega)⟩
    have w2 := congrArg Int32.toInt w
    rw [nI_toInt (by omega), show (-9 : Int32).toInt = -9 from rfl] at w2
    omega
theorem po_loop {h : hh_} {m' t : Nat} {F : Nat → Nat → Nat} (k11 : ∀ k, k < 3 → kp_ h m' t F k) : ∀ (d x m : Nat) (y : Int32), x + d = 3 → ff_X7_presentOffices_4 h (m + d + 1) y (nI x) = some (fld_ (fun x y => if (!decide (h.1 110 (1030 * x) = -9)) = true then y + 1 else y) d x y) := by
  intro d
  induction d with
  | zero =>
    intro x m y e
    have e : x = 3 := by omega
    subst e
    rw [ff_X7_presentOffices_4, if_pos (by decide)]; rfl
  | succ d ih =>
    intro x m y e
    rw [show m + (d + 1) + 1 = (m + d + 1) + 1 by omega, ff_X7_presentOffices_4, if_neg (show ¬ (3 : Int32) ≤ nI x from nI_ge (b := 3) (by omega) (by omega)), gd_n (by omega) (by decide), nI_clamp (by omega), nI_1, a0, ih _ _ _ (by omega), ih _ _ _ (by omega), fld_s]
    rcases kpp_ (k11 x (by omega)) with ⟨u1, u2⟩ | ⟨n, hn, u1, u2, u3, u4⟩
    · rw [u1, u2]; rfl
    · rw [u1, u2, if_neg u4, decide_eq_false u3]; rfl
theorem ct_C {c n : Nat} {h : hh_} {D : od_} {F : Nat → Nat → Nat} (H : inv_ h) (K : oK_ D) (C : oC_ h.2.2.1 h D) (k4 : h.1 h.2.2.1 6 = nI n) (k11 : ∀ k, k < 3 → kp_ h (d_m D) (d_t D) F k) (hc : c < 9) : ff_X7_count (nI c) h = some (ct_ h D n c) := by
  have B := H.2.2.2.nwB
  have m5 := K.1
  have t4 := K.2.1
  obtain ⟨q1, hq1⟩ := fu_ (d_m D) (by omega)
  obtain ⟨q2, hq2⟩ := fu_ (d_t D) (by omega)
  obtain ⟨q3, hq3⟩ := fu_ 6 (by decide)
  obtain ⟨q4, hq4⟩ := fu_ 4 (by decide)
  obtain ⟨q5, hq5⟩ := fu_ 3 (by decide)
  have f4 : ff_X2_allTogether h.2.2.1 h = some (fld_ (tb_ D) 6 0 0) := by
    unfold ff_X2_allTogether
    rw [hq1, fld_to (f := tb_ D) (g := fun x y => y + nI (bt_ D x)) (m := d_m D) (by omega) 0 (fun i y hi => if_pos hi) (fun i y hi => if_neg (by omega))]
    exact at_loop K C _ 0 q1 0 (by omega)
  have f5 : ff_X2_wishingOnes h.2.2.1 h = some (fld_ (tq_ h D 5) 6 0 0) := by
    unfold ff_X2_wishingOnes
    rw [hq2, fld_to (f := tq_ h D 5) (g := fun x y => if isa_ (d_T D x 0) 3 = true then y + 1 else y) (m := d_t D) (by omega) 0 (fun i y hi => by
      unfold tq_ tp_
      rw [if_pos rfl, decide_eq_true hi, Bool.true_and]) (fun i y hi => by
      unfold tq_ tp_
      rw [if_pos rfl, decide_eq_false (by omega), Bool.false_and, if_neg (by decide)])]
    exact wo_loop K C _ 0 q2 0 (by omega)
  have f6 : ff_X5r_present h = some (fld_ (tq_ h D 6) 6 0 0) := by
    unfold ff_X5r_present
    rw [hq3]
    exact pr_loop H.2.1 6 0 q3 0 rfl
  have f7 : ff_X5t_present h = some (fld_ (tq_ h D 7) 6 0 0) := by
    unfold ff_X5t_present
    rw [hq4, fld_to (f := tq_ h D 7) (g := fun x y => if decide (0 ≤ h.1 103 x) = true then y + 1 else y) (m := 4) (by omega) 0 (fun i y hi => by
      unfold tq_ tp_
      rw [if_neg (show ¬ 7 = 5 by decide), if_neg (show ¬ 7 = 6 by decide), if_pos rfl, decide_eq_true hi, Bool.true_and]) (fun i y hi => by
      unfold tq_ tp_
      rw [if_neg (show ¬ 7 = 5 by decide), if_neg (show ¬ 7 = 6 by decide), if_pos rfl, decide_eq_false (by omega), Bool.false_and, if_neg (by decide)])]
    exact pt_loop H.2.2.1 4 0 q4 0 rfl
  have f8 : ff_X7_presentOffices h = some (fld_ (tq_ h D 8) 6 0 0) := by
    unfold ff_X7_presentOffices
    rw [hq5, fld_to (f := tq_ h D 8) (g := fun x y => if (!decide (h.1 110 (1030 * x) = -9)) = true then y + 1 else y) (m := 3) (by omega) 0 (fun i y hi => by
      unfold tq_ tp_
      rw [if_neg (show ¬ 8 = 5 by decide), if_neg (show ¬ 8 = 6 by decide), if_neg (show ¬ 8 = 7 by decide), if_pos rfl, decide_eq_true hi, Bool.true_and]) (fun i y hi => by
      unfold tq_ tp_
      rw [if_neg (show ¬ 8 = 5 by decide), if_neg (show ¬ 8 = 6 by decide), if_neg (show ¬ 8 = 7 by decide), if_pos rfl, decide_eq_false (by omega), Bool.false_and, if_neg (by decide)])]
    exact po_loop k11 3 0 q5 0 rfl
  unfold ff_X7_count ct_
  rw [f4, f5, f6, f7, f8, k4, gd_t B, gd_t B, gd_t B, gd_t B, gd_t B, gd_t B, show Int32.toNatClampNeg 0 = 0 from rfl, show Int32.toNatClampNeg 1 = 1 from rfl, show Int32.toNatClampNeg 2 = 2 from rfl, C.1, C.2.1, C.2.2.1]
  rcases (show c = 0 ∨ c = 1 ∨ c = 2 ∨ c = 3 ∨ c = 4 ∨ c = 5 ∨ c = 6 ∨ c = 7 ∨ c = 8 by omega) with rfl | rfl | rfl | rfl | rfl | rfl | rfl | rfl | rfl
  all_goals
    simp (config := {decide := true}) only [if_true, if_false, Option.bind_some]
/-- 44: count -/
theorem st_44 : sp_44 inv_ := by
  intro h a1 H
  obtain ⟨hn, D, F, ds, n, K, C, M, k4, k5, k6, k7, k8, k9, k10, k11⟩ := H.2.2.2
  rcases rg_ a1 8 (by decide) with ⟨c, hc, rfl, q1, q2, q3⟩ | ⟨q1, q3⟩
  · refine ⟨ct_ h D n c, ct_C H K C k4 k11 (by omega), ?_, H⟩
    unfold ff_X8_count
    rw [show (8 : Int32) = nI 8 from rfl, q3, if_neg n10, ct_M K M k5 (by omega)]; rfl
  · refine ⟨-1, ?_, by unfold ff_X8_count; rw [show (8 : Int32) = nI 8 from rfl, q3, if_pos rfl], H⟩
    have e : ∀ c, c < 9 → ¬ a1 = nI c := by
      intro c hc w
      subst w
      rcases q1 with q | ⟨q, q2⟩
      · exact nI_pos (by omega) q
      · exact q2 (nI_le (by omega) (by omega))
    unfold ff_X7_count
    rw [if_neg (show ¬ a1 = 0 from e 0 (by decide)), if_neg (show ¬ a1 = 1 from e 1 (by decide)), if_neg (show ¬ a1 = 2 from e 2 (by decide)), if_neg (show ¬ a1 = 3 from e 3 (by decide)), if_neg (show ¬ a1 = 4 from e 4 (by decide)), if_neg (show ¬ a1 = 5 from e 5 (by decide)), if_neg (show ¬ a1 = 6 from e 6 (by decide)), if_neg (show ¬ a1 = 7 from e 7 (by decide)), if_neg (show ¬ a1 = 8 from e 8 (by decide))]
end
section
/-! ===== digest ===== -/
def mx64_ (g : Nat → Int32) : Nat → Nat → Int64 → Int64
  | 0, _, x => x
  | d + 1, j, x => mx64_ g d (j + 1) (31 * x + Int32.toInt64 (g j))
def mo64_ (G : Nat → Nat → Int32) (w : Nat) : Nat → Nat → Int64 → Int64
  | 0, _, x => x
  | d + 1, i, x => mo64_ G w d (i + 1) (mx64_ (G i) w 0 x)
theorem mx_a {g : Nat → Int32} : ∀ (d e j : Nat) (x : Int64), mx64_ g (d + e) j x = mx64_ g e (j + d) (mx64_ g d j x) := by
  intro d
  induction d with
  | zero => intro e j x; rw [Nat.zero_add]; rfl
  | succ d ih =>
    intro e j x
    rw [show d + 1 + e = (d + e) + 1 by omega, mx64_, ih, mx64_, show j + 1 + d = j + (d + 1) by omega]
theorem mx_c {g g' : Nat → Int32} : ∀ (d j j' : Nat) (x : Int64), (∀ i, i < d → g (j + i) = g' (j' + i)) → mx64_ g d j x = mx64_ g' d j' x := by
  intro d
  induction d with
  | zero => intro j j' x _; rfl
  | succ d ih =>
    intro j j' x e
    have e0 := e 0 (by omega)
    rw [Nat.add_zero, Nat.add_zero] at e0
    rw [mx64_, mx64_, e0]
    exact ih _ _ _ (fun i hi => by rw [show j + 1 + i = j + (i + 1) by omega, show j' + 1 + i = j' + (i + 1) by omega]; exact e (i + 1) (by omega))
theorem mx_lin {g : Nat → Int32} {G : Nat → Nat → Int32} {w N : Nat} (e : ∀ i, i < N → ∀ j, j < w → g (w * i + j) = G i j) : ∀ (d i : Nat) (x : Int64), i + d = N → mx64_ g (w * d) (w * i) x = mo64_ G w d i x := by
  intro d
  induction d with
  | zero => intro i x _; rfl
  | succ d ih =>
    intro i x q
    rw [Nat.mul_succ, Nat.add_comm (w * d) w, mx_a, mo64_, ← Nat.mul_succ, ih (i + 1) _ (by omega), mx_c w (w * i) 0 x (g' := G i) (fun y hy => by rw [Nat.zero_add]; exact e i (by omega) y hy)]
def hL_ (h : hh_) (v : Int64) : hh_ := hh_sL h 98 30 v
theorem hL_m {h : hh_} {v : Int64} {a : Int32} : ff_X8_mix a (hL_ h v) = hL_ h (31 * v + Int32.toInt64 a) := by
  unfold ff_X8_mix hL_
  rw [sL_eq]
  refine hh_ext (fun _ _ => rfl) (fun k j => ?_) rfl
  by_cases e : k = 98
  · subst e
    by_cases e2 : j = 30
    · subst e2
      rw [sL_eq, sL_eq]
    · rw [sL_nj e2, sL_nj e2, sL_nj e2]
  · rw [sL_ne e, sL_ne e, sL_ne e]
def gH_ (D : od_) (i j : Nat) : Int32 := nI (if j = 5 then bt_ D i else d_H D i j)
def gT_ (D : od_) (i j : Nat) : Int32 := nI (d_T D i j)
def gP_ (D : od_) (i j : Nat) : Int32 := nI (d_P D i j)
def gR_ (h : hh_) (r : Nat) (x : Int64) : Int64 := mx64_ (fun i => h.1 (4 + r) i) (Int32.toNatClampNeg (h.1 10 r)) 0 (31 * x + Int32.toInt64 (h.1 10 r))
def gX_ (h : hh_) (r : Nat) (x : Int64) : Int64 := mx64_ (fun i => h.1 (13 + r) i) (Int32.toNatClampNeg (h.1 17 r)) 0 (31 * x + Int32.toInt64 (h.1 17 r))
def f64_ (f : Nat → Int64 → Int64) : Nat → Nat → Int64 → Int64
  | 0, _, x => x
  | d + 1, j, x => f64_ f d (j + 1) (f j x)
/-! the class -/
theorem dC6 {h : hh_} {KK : Int64 → Option Int64} {g : Nat → Int32} (e : ∀ c, c < 9 → ff_X7_count (nI c) h = some (g c)) : ∀ (d j m : Nat) (x : Int64), j + d = 9 → ff_X7_digest_6 h KK (m + d + 1) x (nI j) = KK (mx64_ g d j x) := by
  intro d
  induction d with
  | zero =>
    intro j m x q
    have q : j = 9 := by omega
    subst q
    rw [ff_X7_digest_6, if_pos (by decide)]; rfl
  | succ d ih =>
    intro j m x q
    rw [show m + (d + 1) + 1 = (m + d + 1) + 1 by omega, ff_X7_digest_6, if_neg (show ¬ (8 : Int32) < nI j from nI_nlt (a := 8) (by omega) (by omega)), e j (by omega), Option.bind_some, nI_1, ih _ _ _ (by omega)]; rfl
theorem dC15 {o i : Nat} {h : hh_} {D : od_} {KK : Int64 → Option Int64} (K : oK_ D) (C : oC_ o h D) (hi : i < d_m D) : ∀ (d j m : Nat) (x : Int64), j + d = 6 → ff_X2_mix_15 o (nI i) h KK (m + d + 1) x (nI j) = KK (mx64_ (gH_ D i) d j x) := by
  intro d
  induction d with
  | zero =>
    intro j m x q
    have q : j = 6 := by omega
    subst q
    rw [ff_X2_mix_15, if_pos (by decide)]; rfl
  | succ d ih =>
    intro j m x q
    rw [show m + (d + 1) + 1 = (m + d + 1) + 1 by omega, ff_X2_mix_15, if_neg (show ¬ (5 : Int32) < nI j from nI_nlt (a := 5) (by omega) (by omega)), oh_C K C hi (by omega), Option.bind_some, nI_1, ih _ _ _ (by omega)]; rfl
theorem dC2 {o : Nat} {h : hh_} {D : od_} {KK : Int64 → Option Int64} (K : oK_ D) (C : oC_ o h D) : ∀ (d i m : Nat) (x : Int64), i + d = d_m D → ff_X2_mix_2 o h KK (m + d + 1) x (nI i) = KK (mo64_ (gH_ D) 6 d i x) := by
  have m5 := K.1
  obtain ⟨k, hk⟩ := fu_ 6 (by decide)
  intro d
  induction d with
  | zero =>
    intro i m x q
    rw [ff_X2_mix_2, show Int32.toNatClampNeg 0 = 0 from rfl, C.1, if_pos (nI_le (by omega) (by omega))]; rfl
  | succ d ih =>
    intro i m x q
    rw [show m + (d + 1) + 1 = (m + d + 1) + 1 by omega, ff_X2_mix_2, show Int32.toNatClampNeg 0 = 0 from rfl, C.1, if_neg (nI_ge (by omega) (by omega)), hk]
    refine (dC15 K C (by omega) 6 0 k x rfl).trans ?_
    rw [nI_1, ih _ _ _ (by omega), mo64_]
theorem dC63 {o i : Nat} {h : hh_} {D : od_} {KK : Int64 → Option Int64} (K : oK_ D) (C : oC_ o h D) (hi : i < d_t D) : ∀ (d j m : Nat) (x : Int64), j + d = 3 → ff_X2_mix_63 o (nI i) h KK (m + d + 1) x (nI j) = KK (mx64_ (gT_ D i) d j x) := by
  have t4 := K.2.1
  intro d
  induction d with
  | zero =>
    intro j m x q
    have q : j = 3 := by omega
    subst q
    rw [ff_X2_mix_63, if_pos (by decide)]; rfl
  | succ d ih =>
    intro j m x q
    rw [show m + (d + 1) + 1 = (m + d + 1) + 1 by omega, ff_X2_mix_63, if_neg (show ¬ (2 : Int32) < nI j from nI_nlt (a := 2) (by omega) (by omega)), gd_n (by omega) (by decide), gd_n (by omega) (by decide), nI_clamp (show i < 2 ^ 31 by omega), nI_clamp (show j < 2 ^ 31 by omega), C.2.2.2.2.1 i hi j (by omega), nI_1, ih _ _ _ (by omega)]; rfl
theorem dC50 {o : Nat} {h : hh_} {D : od_} {KK : Int64 → Option Int64} (K : oK_ D) (C : oC_ o h D) : ∀ (d i m : Nat) (x : Int64), i + d = d_t D → ff_X2_mix_50 o h KK (m + d + 1) x (nI i) = KK (mo64_ (gT_ D) 3 d i x) := by
  have t4 := K.2.1
  obtain ⟨k, hk⟩ := fu_ 3 (by decide)
  intro d
  induction d with
  | zero =>
    intro i m x q
    rw [ff_X2_mix_50, show Int32.toNatClampNeg 1 = 1 from rfl, C.2.1, if_pos (nI_le (by omega) (by omega))]; rfl
  | succ d ih =>
    intro i m x q
    rw [show m + (d + 1) + 1 = (m + d + 1) + 1 by omega, ff_X2_mix_50, show Int32.toNatClampNeg 1 = 1 from rfl, C.2.1, if_neg (nI_ge (by omega) (by omega)), hk]
    refine (dC63 K C (by omega) 3 0 k x rfl).trans ?_
    rw [nI_1, ih _ _ _ (by omega), mo64_]
theorem dC113 {o i : Nat} {h : hh_} {D : od_} {KK : Int64 → Option Int64} (K : oK_ D) (C : oC_ o h D) (hi : i < d_p D) : ∀ (d j m : Nat) (x : Int64), j + d = 5 → ff_X2_mix_113 o (nI i) h KK (m + d + 1) x (nI j) = KK (mx64_ (gP_ D i) d j x) := by
  have p4 := K.2.2.1
  intro d
  induction d with
  | zero =>
    intro j m x q
    have q : j = 5 := by omega
    subst q
    rw [ff_X2_mix_113, if_pos (by decide)]; rfl
  | succ d ih =>
    intro j m x q
    rw [show m + (d + 1) + 1 = (m + d + 1) + 1 by omega, ff_X2_mix_113, if_neg (show ¬ (4 : Int32) < nI j from nI_nlt (a := 4) (by omega) (by omega)), gd_n (by omega) (by decide), gd_n (by omega) (by decide), nI_clamp (show i < 2 ^ 31 by omega), nI_clamp (show j < 2 ^ 31 by omega), C.2.2.2.2.2 i hi j (by omega), nI_1, ih _ _ _ (by omega)]; rfl
theorem dC100 {o : Nat} {h : hh_} {D : od_} (K : oK_ D) (C : oC_ o h D) : ∀ (d i m : Nat) (x : Int64), i + d = d_p D → ff_X2_mix_100 o h (m + d + 1) x (nI i) = some (mo64_ (gP_ D) 5 d i x) := by
  have p4 := K.2.2.1
  obtain ⟨k, hk⟩ := fu_ 5 (by decide)
  intro d
  induction d with
  | zero =>
    intro i m x q
    rw [ff_X2_mix_100, show Int32.toNatClampNeg 2 = 2 from rfl, C.2.2.1, if_pos (nI_le (by omega) (by omega))]; rfl
  | succ d ih =>
    intro i m x q
    rw [show m + (d + 1) + 1 = (m + d + 1) + 1 by omega, ff_X2_mix_100, show Int32.toNatClampNeg 2 = 2 from rfl, C.2.2.1, if_neg (nI_ge (by omega) (by omega)), hk]
    refine (dC113 K C (by omega) 5 0 k x rfl).trans ?_
    rw [nI_1, ih _ _ _ (by omega), mo64_]
def dgo_ (D : od_) (x : Int64) : Int64 := mo64_ (gP_ D) 5 (d_p D) 0 (mo64_ (gT_ D) 3 (d_t D) 0 (mo64_ (gH_ D) 6 (d_m D) 0 x))
theorem dCo {o : Nat} {h : hh_} {D : od_} (K : oK_ D) (C : oC_ o h D) (x : Int64) : ff_X2_mix o x h = some (dgo_ D x) := by
  have m5 := K.1
  have t4 := K.2.1
  have p4 := K.2.2.1
  obtain ⟨k1, hk1⟩ := fu_ (d_m D) (by omega)
  obtain ⟨k2, hk2⟩ := fu_ (d_t D) (by omega)
  obtain ⟨k3, hk3⟩ := fu_ (d_p D) (by omega)
  have w1 := dC2 (KK := fun u4 => ff_X2_mix_50 o h (fun u8 => ff_X2_mix_100 o h FU_ u8 0) FU_ u4 0) K C _ 0 k1 x (Nat.zero_add _)
  have w2 := dC50 (KK := fun u8 => ff_X2_mix_100 o h FU_ u8 0) K C _ 0 k2 (mo64_ (gH_ D) 6 (d_m D) 0 x) (Nat.zero_add _)
  have w3 := dC100 K C _ 0 k3 (mo64_ (gT_ D) 3 (d_t D) 0 (mo64_ (gH_ D) 6 (d_m D) 0 x)) (Nat.zero_add _)
  rw [← hk1] at w1
  rw [← hk2] at w2
  rw [← hk3] at w3
  exact w1.trans (w2.trans w3)
/-- sizes -/
theorem szR {h : hh_} {r : Nat} (hr : r < 6) (Q : rw_ h 10 4 100 101 40 r) : ∃ n, n ≤ 40 ∧ Int32.toNatClampNeg (h.1 10 r) = n ∧ (∀ i, i ≤ n → (h.1 10 r ≤ nI i ↔ i = n)) ∧ (∀ i, i ≤ n → (h.1 100 r ≤ nI i ↔ i = n)) ∧ (if 0 ≤ h.1 100 r then h.1 100 r else -1) = h.1 10 r ∧ ∀ i, i < n → h.1 (4 + r) i = h.1 101 (40 * r + i) := by
  rcases Q with ⟨a, b⟩ | ⟨n, hn, a, b, c⟩
  · refine ⟨0, by omega, by rw [a]; rfl, fun i hi => ?_, fun i hi => ?_, by rw [a, b]; rfl, fun i hi => by omega⟩
    · have : i = 0 := by omega
      subst this
      rw [a]
      exact ⟨fun _ => rfl, fun _ => by decide⟩
    · have : i = 0 := by omega
      subst this
      rw [b]
      exact ⟨fun _ => rfl, fun _ => by decide⟩
  · refine ⟨n, hn, by rw [a]; exact nI_clamp (by omega), fun i hi => ?_, fun i hi => ?_, by rw [a, b, if_pos (nI_pos' (by omega))], c⟩
    · rw [a, nI_leI (by omega) (by omega)]; omega
    · rw [b, nI_leI (by omega) (by omega)]; omega
theorem szX {h : hh_} {r : Nat} (hr : r < 4) (Q : rw_ h 17 13 103 104 80 r) : ∃ n, n ≤ 80 ∧ Int32.toNatClampNeg (h.1 17 r) = n ∧ (∀ i, i ≤ n → (h.1 17 r ≤ nI i ↔ i = n)) ∧ (∀ i, i ≤ n → (h.1 103 r ≤ nI i ↔ i = n)) ∧ (if 0 ≤ h.1 103 r then h.1 103 r else -1) = h.1 17 r ∧ ∀ i, i < n → h.1 (13 + r) i = h.1 104 (80 * r + i) := by
  rcases Q with ⟨a, b⟩ | ⟨n, hn, a, b, c⟩
  · refine ⟨0, by omega, by rw [a]; rfl, fun i hi => ?_, fun i hi => ?_, by rw [a, b]; rfl, fun i hi => by omega⟩
    · have : i = 0 := by omega
      subst this
      rw [a]
      exact ⟨fun _ => rfl, fun _ => by decide⟩
    · have : i = 0 := by omega
      subst this
      rw [b]
      exact ⟨fun _ => rfl, fun _ => by decide⟩
  · refine ⟨n, hn, by rw [a]; exact nI_clamp (by omega), fun i hi => ?_, fun i hi => ?_, by rw [a, b, if_pos (nI_pos' (by omega))], c⟩
    · rw [a, nI_leI (by omega) (by omega)]; omega
    · rw [b, nI_leI (by omega) (by omega)]; omega
theorem dCr28 {h : hh_} {r n : Nat} {KK : Int64 → Option Int64} (hr : r < 6) (hn : n ≤ 40) (e : ∀ i, i ≤ n → (h.1 10 r ≤ nI i ↔ i = n)) : ∀ (d i m : Nat) (x : Int64), i + d = n → ff_X5r_mix_28 (nI r) h KK (m + d + 1) x (nI i) = KK (mx64_ (fun i => h.1 (4 + r) i) d i x) := by
  intro d
  induction d with
  | zero =>
    intro i m x q
    rw [ff_X5r_mix_28, gd_n hr (by decide), nI_clamp (by omega), if_pos ((e i (by omega)).mpr (by omega))]; rfl
  | succ d ih =>
    intro i m x q
    rw [show m + (d + 1) + 1 = (m + d + 1) + 1 by omega, ff_X5r_mix_28, gd_n hr (by decide), nI_clamp (show r < 2 ^ 31 by omega), if_neg (fun w => by have := (e i (by omega)).mp w; omega), gd_n (by omega) (by decide), nI_clamp (by omega), nI_1, ih _ _ _ (by omega)]; rfl
theorem dCr {h : hh_} (R : iR_ h) : ∀ (d r m : Nat) (x : Int64), r + d = 6 → ff_X5r_mix_2 h (m + d + 1) x (nI r) = some (f64_ (gR_ h) d r x) := by
  intro d
  induction d with
  | zero =>
    intro r m x q
    have q : r = 6 := by omega
    subst q
    rw [ff_X5r_mix_2, if_pos (by decide)]; rfl
  | succ d ih =>
    intro r m x q
    obtain ⟨n, hn, e1, e2, e3, e4, e5⟩ := szR (by omega) (R r (by omega))
    obtain ⟨k, hk⟩ := fu_ n (by omega)
    rw [show m + (d + 1) + 1 = (m + d + 1) + 1 by omega, ff_X5r_mix_2, if_neg (show ¬ (6 : Int32) ≤ nI r from nI_ge (b := 6) (by omega) (by omega)), gd_n (by omega) (by decide), nI_clamp (by omega), hk]
    refine (dCr28 (by omega) hn e2 n 0 k _ (by omega)).trans ?_
    rw [nI_1, ih _ _ _ (by omega), f64_]
    unfold gR_
    rw [e1]
theorem dCx28 {h : hh_} {r n : Nat} {KK : Int64 → Option Int64} (hr : r < 4) (hn : n ≤ 80) (e : ∀ i, i ≤ n → (h.1 17 r ≤ nI i ↔ i = n)) : ∀ (d i m : Nat) (x : Int64), i + d = n → ff_X5t_mix_28 (nI r) h KK (m + d + 1) x (nI i) = KK (mx64_ (fun i => h.1 (13 + r) i) d i x) := by
  intro d
  induction d with
  | zero =>
    intro i m x q
    rw [ff_X5t_mix_28, gd_n hr (by decide), nI_clamp (by omega), if_pos ((e i (by omega)).mpr (by omega))]; rfl
  | succ d ih =>
    intro i m x q
    rw [show m + (d + 1) + 1 = (m + d + 1) + 1 by omega, ff_X5t_mix_28, gd_n hr (by decide), nI_clamp (show r < 2 ^ 31 by omega), if_neg (fun w => by have := (e i (by omega)).mp w; omega), gd_n (by omega) (by decide), nI_clamp (by omega), nI_1, ih _ _ _ (by omega)]; rfl
theorem dCx {h : hh_} (X : iX_ h) : ∀ (d r m : Nat) (x : Int64), r + d = 4 → ff_X5t_mix_2 h (m + d + 1) x (nI r) = some (f64_ (gX_ h) d r x) := by
  intro d
  induction d with
  | zero =>
    intro r m x q
    have q : r = 4 := by omega
    subst q
    rw [ff_X5t_mix_2, if_pos (by decide)]; rfl
  | succ d ih =>
    intro r m x q
    obtain ⟨n, hn, e1, e2, e3, e4, e5⟩ := szX (by omega) (X r (by omega))
    obtain ⟨k, hk⟩ := fu_ n (by omega)
    rw [show m + (d + 1) + 1 = (m + d + 1) + 1 by omega, ff_X5t_mix_2, if_neg (show ¬ (4 : Int32) ≤ nI r from nI_ge (b := 4) (by omega) (by omega)), gd_n (by omega) (by decide), nI_clamp (by omega), hk]
    refine (dCx28 (by omega) hn e2 n 0 k _ (by omega)).trans ?_
    rw [nI_1, ih _ _ _ (by omega), f64_]
    unfold gX_
    rw [e1]
def dge_ (h : hh_) (x : Int64) : Int64 := f64_ (gX_ h) 4 0 (f64_ (gR_ h) 6 0 (mx64_ (fun k => h.1 (89 + 3 * k) 2) 3 0 x))
theorem dC42 {h : hh_} (R : iR_ h) (X : iX_ h) : ∀ (d j m : Nat) (x : Int64), j + d = 3 → ff_X7_digest_42 h (m + d + 1) x (nI j) = some (f64_ (gX_ h) 4 0 (f64_ (gR_ h) 6 0 (mx64_ (fun k => h.1 (89 + 3 * k) 2) d j x))) := by
  obtain ⟨k1, hk1⟩ := fu_ 6 (by decide)
  obtain ⟨k2, hk2⟩ := fu_ 4 (by decide)
  intro d
  induction d with
  | zero =>
    intro j m x q
    have q : j = 3 := by omega
    subst q
    have w1 := dCr R 6 0 k1 x rfl
    have w2 := dCx X 4 0 k2 (f64_ (gR_ h) 6 0 x) rfl
    rw [← hk1] at w1
    rw [← hk2] at w2
    rw [ff_X7_digest_42, if_pos (by decide)]
    unfold ff_X5r_mix ff_X5t_mix
    rw [show (0 : Int32) = nI 0 from rfl, w1, Option.bind_some, w2]; rfl
  | succ d ih =>
    intro j m x q
    rw [show m + (d + 1) + 1 = (m + d + 1) + 1 by omega, ff_X7_digest_42, if_neg (show ¬ (3 : Int32) ≤ nI j from nI_ge (b := 3) (by omega) (by omega)), gd_n (by omega) (by decide), nI_clamp (by omega), nI_1, ih _ _ _ (by omega)]; rfl
end
section
/-! ===== digest: the reference ===== -/
theorem dM9 {h : hh_} {KK : hh_ → Option (Int64 × hh_)} {g : Nat → Int32} (e : ∀ c, c < 9 → ∀ v, ff_X8_tellsOf (nI c) (hL_ h v) = some (g c)) : ∀ (d j m : Nat) (x : Int64), j + d = 9 → ff_X8_digest_9 KK (m + d + 1) (nI j) (hL_ h x) = KK (hL_ h (mx64_ g d j x)) := by
  intro d
  induction d with
  | zero =>
    intro j m x q
    have q : j = 9 := by omega
    subst q
    rw [ff_X8_digest_9, if_pos (by decide)]; rfl
  | succ d ih =>
    intro j m x q
    rw [show m + (d + 1) + 1 = (m + d + 1) + 1 by omega, ff_X8_digest_9, if_neg (show ¬ (8 : Int32) < nI j from nI_nlt (a := 8) (by omega) (by omega)), e j (by omega), Option.bind_some, nI_1, hL_m, ih _ _ _ (by omega)]; rfl
theorem hL_M {h : hh_} {D : od_} {v : Int64} (M : oM_ h D) : oM_ (hL_ h v) D := M
theorem dM12 {i : Nat} {h : hh_} {D : od_} {KK : hh_ → Option hh_} (K : oK_ D) (M : oM_ h D) (hi : i < d_m D) : ∀ (d j m : Nat) (x : Int64), j + d = 6 → ff_X8_mixOffice_12 (nI i) KK (m + d + 1) (nI j) (hL_ h x) = KK (hL_ h (mx64_ (gH_ D i) d j x)) := by
  intro d
  induction d with
  | zero =>
    intro j m x q
    have q : j = 6 := by omega
    subst q
    rw [ff_X8_mixOffice_12, if_pos (by decide)]; rfl
  | succ d ih =>
    intro j m x q
    rw [show m + (d + 1) + 1 = (m + d + 1) + 1 by omega, ff_X8_mixOffice_12, if_neg (show ¬ (5 : Int32) < nI j from nI_nlt (a := 5) (by omega) (by omega)), oh_M K (hL_M M) hi (by omega), Option.bind_some, nI_1, hL_m, ih _ _ _ (by omega)]; rfl
theorem dM2 {h : hh_} {D : od_} {KK : hh_ → Option hh_} (K : oK_ D) (M : oM_ h D) : ∀ (d i m : Nat) (x : Int64), i + d = d_m D → ff_X8_mixOffice_2 KK (m + d + 1) (nI i) (hL_ h x) = KK (hL_ h (mo64_ (gH_ D) 6 d i x)) := by
  have m5 := K.1
  obtain ⟨k, hk⟩ := fu_ 6 (by decide)
  intro d
  induction d with
  | zero =>
    intro i m x q
    rw [ff_X8_mixOffice_2, (hL_M M).1, if_pos (nI_le (by omega) (by omega))]; rfl
  | succ d ih =>
    intro i m x q
    rw [show m + (d + 1) + 1 = (m + d + 1) + 1 by omega, ff_X8_mixOffice_2, (hL_M M).1, if_neg (nI_ge (by omega) (by omega)), hk]
    refine (dM12 K M (by omega) 6 0 k x rfl).trans ?_
    rw [nI_1, ih _ _ _ (by omega), mo64_]
theorem dM41 {h : hh_} {D : od_} {KK : hh_ → Option hh_} (K : oK_ D) (M : oM_ h D) : ∀ (d i m : Nat) (x : Int64), i + d = 3 * d_t D → ff_X8_mixOffice_41 KK (m + d + 1) (nI i) (hL_ h x) = KK (hL_ h (mx64_ (fun i => h.1 106 i) d i x)) := by
  have t4 := K.2.1
  have e3 : ∀ v, (3 : Int32) * (hL_ h v).1 98 11 = nI (3 * d_t D) := fun v => by rw [(hL_M M).2.1, show (3 : Int32) = nI 3 from rfl, pk_mul]
  intro d
  induction d with
  | zero =>
    intro i m x q
    rw [ff_X8_mixOffice_41, e3, if_pos (nI_le (by omega) (by omega))]; rfl
  | succ d ih =>
    intro i m x q
    rw [show m + (d + 1) + 1 = (m + d + 1) + 1 by omega, ff_X8_mixOffice_41, e3, if_neg (nI_ge (by omega) (by omega)), gd_n (by omega) (by decide), nI_clamp (by omega), nI_1, hL_m, ih _ _ _ (by omega)]; rfl
theorem dM69 {h : hh_} {D : od_} {KK : hh_ → Option hh_} (K : oK_ D) (M : oM_ h D) : ∀ (d i m : Nat) (x : Int64), i + d = 5 * d_p D → ff_X8_mixOffice_69 KK (m + d + 1) (nI i) (hL_ h x) = KK (hL_ h (mx64_ (fun i => h.1 107 i) d i x)) := by
  have p4 := K.2.2.1
  have e3 : ∀ v, (5 : Int32) * (hL_ h v).1 98 12 = nI (5 * d_p D) := fun v => by rw [(hL_M M).2.2.1, show (5 : Int32) = nI 5 from rfl, pk_mul]
  intro d
  induction d with
  | zero =>
    intro i m x q
    rw [ff_X8_mixOffice_69, e3, if_pos (nI_le (by omega) (by omega))]; rfl
  | succ d ih =>
    intro i m x q
    rw [show m + (d + 1) + 1 = (m + d + 1) + 1 by omega, ff_X8_mixOffice_69, e3, if_neg (nI_ge (by omega) (by omega)), gd_n (by omega) (by decide), nI_clamp (by omega), nI_1, hL_m, ih _ _ _ (by omega)]; rfl
theorem dM97 {h : hh_} {m' t : Nat} {F : Nat → Nat → Nat} (k11 : ∀ k, k < 3 → kp_ h m' t F k) : ∀ (d j m : Nat) (x : Int64), j + d = 3 → ff_X8_mixOffice_97 (m + d + 1) (nI j) (hL_ h x) = some (hL_ h (mx64_ (fun k => h.1 (89 + 3 * k) 2) d j x)) := by
  intro d
  induction d with
  | zero =>
    intro j m x q
    have q : j = 3 := by omega
    subst q
    rw [ff_X8_mixOffice_97, if_pos (by decide)]; rfl
  | succ d ih =>
    intro j m x q
    have e1 : (1030 : Int32) * nI j = nI (1030 * j) := by rw [show (1030 : Int32) = nI 1030 from rfl, pk_mul]
    rw [show m + (d + 1) + 1 = (m + d + 1) + 1 by omega, ff_X8_mixOffice_97, if_neg (show ¬ (3 : Int32) ≤ nI j from nI_ge (b := 3) (by omega) (by omega)), e1, gd_n (by omega) (by decide), nI_clamp (by omega), nI_1, hL_m, hL_m, ih _ _ _ (by omega), ih _ _ _ (by omega), mx64_, show (hL_ h x).1 110 (1030 * j) = h.1 110 (1030 * j) from rfl]
    rcases kpp_ (k11 j (by omega)) with ⟨u1, u2⟩ | ⟨n, hn, u1, u2, u3, u4⟩
    · rw [u1, u2]; rfl
    · rw [u1, u2, if_neg u3]
theorem dMo {h : hh_} {D : od_} {F : Nat → Nat → Nat} (K : oK_ D) (M : oM_ h D) (k11 : ∀ k, k < 3 → kp_ h (d_m D) (d_t D) F k) (x : Int64) : ff_X8_mixOffice (hL_ h x) = some (hL_ h (mx64_ (fun k => h.1 (89 + 3 * k) 2) 3 0 (dgo_ D x))) := by
  have m5 := K.1
  have t4 := K.2.1
  have p4 := K.2.2.1
  obtain ⟨k1, hk1⟩ := fu_ (d_m D) (by omega)
  obtain ⟨k2, hk2⟩ := fu_ (3 * d_t D) (by omega)
  obtain ⟨k3, hk3⟩ := fu_ (5 * d_p D) (by omega)
  obtain ⟨k4, hk4⟩ := fu_ 3 (by decide)
  have w1 := dM2 (KK := fun k4 => ff_X8_mixOffice_41 (fun k6 => ff_X8_mixOffice_69 (fun k8 => ff_X8_mixOffice_97 FU_ 0 k8) FU_ 0 k6) FU_ 0 k4) K M _ 0 k1 x (Nat.zero_add _)
  have w2 := dM41 (KK := fun k6 => ff_X8_mixOffice_69 (fun k8 => ff_X8_mixOffice_97 FU_ 0 k8) FU_ 0 k6) K M _ 0 k2 (mo64_ (gH_ D) 6 (d_m D) 0 x) (Nat.zero_add _)
  have e2 := mx_lin (g := fun i => h.1 106 i) (G := gT_ D) (w := 3) (N := d_t D) (fun i hi j hj => M.2.2.2.2.1 i hi j hj) (d_t D) 0 (mo64_ (gH_ D) 6 (d_m D) 0 x) (Nat.zero_add _)
  rw [Nat.mul_zero] at e2
  rw [e2] at w2
  have w3 := dM69 (KK := fun k8 => ff_X8_mixOffice_97 FU_ 0 k8) K M _ 0 k3 (mo64_ (gT_ D) 3 (d_t D) 0 (mo64_ (gH_ D) 6 (d_m D) 0 x)) (Nat.zero_add _)
  have e3 := mx_lin (g := fun i => h.1 107 i) (G := gP_ D) (w := 5) (N := d_p D) (fun i hi j hj => M.2.2.2.2.2 i hi j hj) (d_p D) 0 (mo64_ (gT_ D) 3 (d_t D) 0 (mo64_ (gH_ D) 6 (d_m D) 0 x)) (Nat.zero_add _)
  rw [Nat.mul_zero] at e3
  rw [e3] at w3
  have w4 := dM97 k11 3 0 k4 (dgo_ D x) rfl
  rw [← hk1] at w1
  rw [← hk2] at w2
  rw [← hk3] at w3
  rw [← hk4] at w4
  exact w1.trans (w2.trans (w3.trans w4))
theorem dM67 {h : hh_} {r n : Nat} {KK : hh_ → Option (Int64 × hh_)} (hr : r < 6) (hn : n ≤ 40) (e : ∀ i, i ≤ n → (h.1 100 r ≤ nI i ↔ i = n)) (e5 : ∀ i, i < n → h.1 (4 + r) i = h.1 101 (40 * r + i)) : ∀ (d i m : Nat) (x : Int64), i + d = n → ff_X8_digest_67 (nI r) KK (m + d + 1) (nI i) (hL_ h x) = KK (hL_ h (mx64_ (fun i => h.1 (4 + r) i) d i x)) := by
  intro d
  induction d with
  | zero =>
    intro i m x q
    rw [ff_X8_digest_67, gd_n hr (by decide), nI_clamp (by omega), if_pos (show (hL_ h x).1 100 r ≤ nI i from (e i (by omega)).mpr (by omega))]; rfl
  | succ d ih =>
    intro i m x q
    rw [show m + (d + 1) + 1 = (m + d + 1) + 1 by omega, ff_X8_digest_67, gd_n hr (by decide), nI_clamp (show r < 2 ^ 31 by omega), if_neg (show ¬ (hL_ h x).1 100 r ≤ nI i from fun w => by have := (e i (by omega)).mp w; omega), ra_ _ hr (by omega), Option.bind_some, nI_1, hL_m, ih _ _ _ (by omega), mx64_, show (hL_ h x).1 101 (40 * r + i) = h.1 (4 + r) i from (e5 i (by omega)).symm]
theorem dM36 {h : hh_} {KK : hh_ → Option (Int64 × hh_)} (R : iR_ h) : ∀ (d r m : Nat) (x : Int64), r + d = 6 → ff_X8_digest_36 KK (m + d + 1) (nI r) (hL_ h x) = KK (hL_ h (f64_ (gR_ h) d r x)) := by
  intro d
  induction d with
  | zero =>
    intro r m x q
    have q : r = 6 := by omega
    subst q
    rw [ff_X8_digest_36, if_pos (by decide)]; rfl
  | succ d ih =>
    intro r m x q
    obtain ⟨n, hn, e1, e2, e3, e4, e5⟩ := szR (by omega) (R r (by omega))
    obtain ⟨k, hk⟩ := fu_ n (by omega)
    have st1 : ff_X8_digest_62 (nI r) (h.1 10 r) (hL_ h x) (fun z1 h8 => ff_X8_digest_36 KK (m + d + 1) z1 h8) = KK (hL_ h (f64_ (gR_ h) (d + 1) r x)) := by
      unfold ff_X8_digest_62
      rw [hL_m, hk]
      refine (dM67 (by omega) hn e3 e5 n 0 k _ (by omega)).trans ?_
      dsimp only
      rw [nI_1, ih _ _ _ (by omega), f64_]
      unfold gR_
      rw [e1]
    rw [show m + (d + 1) + 1 = (m + d + 1) + 1 by omega, ff_X8_digest_36, if_neg (show ¬ (6 : Int32) ≤ nI r from nI_ge (b := 6) (by omega) (by omega)), gd_n (by omega) (by decide), nI_clamp (by omega), show (hL_ h x).1 100 r = h.1 100 r from rfl]
    by_cases q0 : 0 ≤ h.1 100 r
    · rw [if_pos q0] at e4 ⊢
      rw [e4]; exact st1
    · rw [if_neg q0] at e4 ⊢
      rw [e4]; exact st1
theorem dM131 {h : hh_} {r n : Nat} {KK : hh_ → Option (Int64 × hh_)} (hr : r < 4) (hn : n ≤ 80) (e : ∀ i, i ≤ n → (h.1 103 r ≤ nI i ↔ i = n)) (e5 : ∀ i, i < n → h.1 (13 + r) i = h.1 104 (80 * r + i)) : ∀ (d i m : Nat) (x : Int64), i + d = n → ff_X8_digest_131 (nI r) KK (m + d + 1) (nI i) (hL_ h x) = KK (hL_ h (mx64_ (fun i => h.1 (13 + r) i) d i x)) := by
  intro d
  induction d with
  | zero =>
    intro i m x q
    rw [ff_X8_digest_131, gd_n hr (by decide), nI_clamp (by omega), if_pos (show (hL_ h x).1 103 r ≤ nI i from (e i (by omega)).mpr (by omega))]; rfl
  | succ d ih =>
    intro i m x q
    have e8 : (80 : Int32) * nI r + nI i = nI (80 * r + i) := by rw [show (80 : Int32) = nI 80 from rfl, pk_mul, nI_add]
    rw [show m + (d + 1) + 1 = (m + d + 1) + 1 by omega, ff_X8_digest_131, gd_n hr (by decide), nI_clamp (show r < 2 ^ 31 by omega), if_neg (show ¬ (hL_ h x).1 103 r ≤ nI i from fun w => by have := (e i (by omega)).mp w; omega), e8, gd_n (by omega) (by decide), nI_clamp (show 80 * r + i < 2 ^ 31 by omega), nI_1, hL_m, ih _ _ _ (by omega), mx64_, show (hL_ h x).1 104 (80 * r + i) = h.1 (13 + r) i from (e5 i (by omega)).symm]
theorem dM101 {h : hh_} (X : iX_ h) : ∀ (d r m : Nat) (x : Int64), r + d = 4 → ff_X8_digest_101 (m + d + 1) (nI r) (hL_ h x) = some (f64_ (gX_ h) d r x, hL_ h (f64_ (gX_ h) d r x)) := by
  intro d
  induction d with
  | zero =>
    intro r m x q
    have q : r = 4 := by omega
    subst q
    rw [ff_X8_digest_101, if_pos (by decide), show (hL_ h x).2.1 98 30 = x from sL_eq]; rfl
  | succ d ih =>
    intro r m x q
    obtain ⟨n, hn, e1, e2, e3, e4, e5⟩ := szX (by omega) (X r (by omega))
    obtain ⟨k, hk⟩ := fu_ n (by omega)
    have st1 : ff_X8_digest_126 (nI r) (h.1 17 r) (hL_ h x) (fun z1 h8 => ff_X8_digest_101 (m + d + 1) z1 h8) = some (f64_ (gX_ h) (d + 1) r x, hL_ h (f64_ (gX_ h) (d + 1) r x)) := by
      unfold ff_X8_digest_126
      rw [hL_m, hk]
      refine (dM131 (by omega) hn e3 e5 n 0 k _ (by omega)).trans ?_
      dsimp only
      rw [nI_1, ih _ _ _ (by omega), f64_]
      unfold gX_
      rw [e1]
    rw [show m + (d + 1) + 1 = (m + d + 1) + 1 by omega, ff_X8_digest_101, if_neg (show ¬ (4 : Int32) ≤ nI r from nI_ge (b := 4) (by omega) (by omega)), gd_n (by omega) (by decide), nI_clamp (by omega), show (hL_ h x).1 103 r = h.1 103 r from rfl]
    by_cases q0 : 0 ≤ h.1 103 r
    · rw [if_pos q0] at e4 ⊢
      rw [e4]; exact st1
    · rw [if_neg q0] at e4 ⊢
      rw [e4]; exact st1
/-- 47: digest -/
theorem st_47 : sp_47 inv_ := by
  intro h H
  obtain ⟨hn, D, F, ds, n, K, C, M, k4, k5, k6, k7, k8, k9, k10, k11⟩ := H.2.2.2
  have B := H.2.2.2.nwB
  obtain ⟨q1, hq1⟩ := fu_ 9 (by decide)
  obtain ⟨q2, hq2⟩ := fu_ 3 (by decide)
  obtain ⟨q3, hq3⟩ := fu_ 6 (by decide)
  obtain ⟨q4, hq4⟩ := fu_ 4 (by decide)
  refine ⟨dge_ h (dgo_ D (mx64_ (ct_ h D n) 9 0 17)), hL_ h (dge_ h (dgo_ D (mx64_ (ct_ h D n) 9 0 17))), ?_, ?_, ?_⟩
  · have w1 := dC6 (h := h) (KK := fun u3 => gd_ (bo_ h.2.2.1) ((ff_X2_mix h.2.2.1 u3 h).bind fun v5 => ff_X7_digest_42 h FU_ v5 0)) (g := ct_ h D n) (fun c hc => ct_C H K C k4 k11 hc) 9 0 q1 17 rfl
    rw [← hq1] at w1
    refine w1.trans ?_
    rw [gd_t B, dCo K C, Option.bind_some]
    have w2 := dC42 H.2.1 H.2.2.1 3 0 q2 (dgo_ D (mx64_ (ct_ h D n) 9 0 17)) rfl
    rw [← hq2] at w2
    exact w2
  · have w1 := dM9 (h := h) (KK := fun k3 => (ff_X8_mixOffice k3).bind fun v4 => ff_X8_digest_36 (fun k11 => ff_X8_digest_101 FU_ 0 k11) FU_ 0 v4) (g := ct_ h D n) (fun c hc v => ct_M (h := hL_ h v) K (hL_M M) k5 hc) 9 0 q1 17 rfl
    rw [← hq1] at w1
    refine w1.trans ?_
    rw [dMo K M k11, Option.bind_some]
    have w2 := dM36 (h := h) (KK := fun k11 => ff_X8_digest_101 FU_ 0 k11) H.2.1 6 0 q3 (mx64_ (fun k => h.1 (89 + 3 * k) 2) 3 0 (dgo_ D (mx64_ (ct_ h D n) 9 0 17))) rfl
    rw [← hq3] at w2
    refine w2.trans ?_
    have w3 := dM101 H.2.2.1 4 0 q4 (f64_ (gR_ h) 6 0 (mx64_ (fun k => h.1 (89 + 3 * k) 2) 3 0 (dgo_ D (mx64_ (ct_ h D n) 9 0 17)))) rfl
    rw [← hq4] at w3
    exact w3
  · refine inv_scr H (fun _ _ _ => rfl) (fun k j q => ?_) ⟨rfl, rfl⟩
    unfold hL_
    by_cases e : k = 98
    · rw [e, sL_nj (by omega)]
    · rw [sL_ne e]
end
section
/-! ===== the start ===== -/
theorem inv_0 : inv_ h0_ := by
  refine ⟨⟨rfl, rfl, rfl, rfl, fun f hf => ?_⟩, fun r hr => Or.inl ?_, fun r hr => Or.inl ?_, Or.inl ⟨rfl, rfl⟩, (0, 0, 0, fun _ _ => 0, fun _ _ => 0, fun _ _ => 0), fun _ _ => 0, fun _ => 0, 0, ?_, ?_, ?_, rfl, rfl, ⟨by decide, fun d hd => by omega, fun d hd => by omega⟩, fun i hi => absurd hi (Nat.not_lt_zero _), fun i hi => absurd hi (Nat.not_lt_zero _), fun i hi => absurd hi (Nat.not_lt_zero _), fun _ => rfl, fun k hk => Or.inl ?_⟩
  · rcases (show f = 0 ∨ f = 1 ∨ f = 2 ∨ f = 3 ∨ f = 4 ∨ f = 5 by omega) with rfl | rfl | rfl | rfl | rfl | rfl <;> rfl
  · rcases (show r = 0 ∨ r = 1 ∨ r = 2 ∨ r = 3 ∨ r = 4 ∨ r = 5 by omega) with rfl | rfl | rfl | rfl | rfl | rfl <;> exact ⟨rfl, rfl⟩
  · rcases (show r = 0 ∨ r = 1 ∨ r = 2 ∨ r = 3 by omega) with rfl | rfl | rfl | rfl <;> exact ⟨rfl, rfl⟩
  · exact ⟨by decide, by decide, by decide, fun h => absurd h (Nat.lt_irrefl _), fun i hi => absurd hi (Nat.not_lt_zero _), fun i hi => absurd hi (Nat.not_lt_zero _), fun i hi => absurd hi (Nat.not_lt_zero _)⟩
  · exact ⟨rfl, rfl, rfl, fun i hi => absurd hi (Nat.not_lt_zero _), fun i hi => absurd hi (Nat.not_lt_zero _), fun i hi => absurd hi (Nat.not_lt_zero _)⟩
  · exact ⟨rfl, rfl, rfl, fun i hi => absurd hi (Nat.not_lt_zero _), fun i hi => absurd hi (Nat.not_lt_zero _), fun i hi => absurd hi (Nat.not_lt_zero _)⟩
  · rcases (show k = 0 ∨ k = 1 ∨ k = 2 by omega) with rfl | rfl | rfl <;> exact ⟨rfl, rfl⟩
end
section
/-! ===== odds: numbers ===== -/
theorem fr_eq {a b c d P Q : Nat} (hP : 0 < P) (hQ : 0 < Q) (e1 : a * Q = b * P) (e2 : c * Q = d * P) : a / Nat.gcd a c = b / Nat.gcd b d := by
  have g : Nat.gcd a c * Q = Nat.gcd b d * P := by rw [← Nat.gcd_mul_right, ← Nat.gcd_mul_right, e1, e2]
  rw [← Nat.mul_div_mul_right a (Nat.gcd a c) hQ, ← Nat.mul_div_mul_right b (Nat.gcd b d) hP, e1, g]
theorem fr_eq2 {a b c d P Q : Nat} (hP : 0 < P) (hQ : 0 < Q) (e1 : a * Q = b * P) (e2 : c * Q = d * P) : c / Nat.gcd a c = d / Nat.gcd b d := by
  have g : Nat.gcd a c * Q = Nat.gcd b d * P := by rw [← Nat.gcd_mul_right, ← Nat.gcd_mul_right, e1, e2]
  rw [← Nat.mul_div_mul_right c (Nat.gcd a c) hQ, ← Nat.mul_div_mul_right d (Nat.gcd b d) hP, e2, g]
theorem d60 : ∀ s, s < 6 → 0 < s → s * (60 / s) = 60 := by decide
/-- the product of all that p takes -/
def pp_ (p : Nat → Bool) (S : Nat → Nat) : Nat → Nat → Nat → Nat
  | 0, _, x => x
  | d + 1, k, x => pp_ p S d (k + 1) (if p k = true then x * S k else x)
theorem pp_m {p : Nat → Bool} {S : Nat → Nat} : ∀ (d k x y : Nat), pp_ p S d k (x * y) = pp_ p S d k x * y := by
  intro d
  induction d with
  | zero => intro k x y; rfl
  | succ d ih =>
    intro k x y
    rw [pp_, pp_]
    by_cases e : p k = true
    · rw [if_pos e, if_pos e, Nat.mul_right_comm, ih]
    · rw [if_neg e, if_neg e, ih]
theorem pp_pos {p : Nat → Bool} {S : Nat → Nat} (hS : ∀ k, 0 < S k) : ∀ (d k x : Nat), 0 < x → 0 < pp_ p S d k x := by
  intro d
  induction d with
  | zero => intro k x h; exact h
  | succ d ih =>
    intro k x h
    rw [pp_]
    by_cases e : p k = true
    · rw [if_pos e]; exact ih _ _ (Nat.mul_pos h (hS k))
    · rw [if_neg e]; exact ih _ _ h
theorem pp_n {p q : Nat → Bool} {S : Nat → Nat} : ∀ (d k x : Nat), (∀ i, k ≤ i → i < k + d → p i = q i) → pp_ p S d k x = pp_ q S d k x := by
  intro d
  induction d with
  | zero => intro k x _; rfl
  | succ d ih =>
    intro k x e
    rw [pp_, pp_, e k (Nat.le_refl _) (by omega), ih _ _ (fun i h1 h2 => e i (by omega) (by omega))]
/-- leaving one out -/
theorem pp_o {p : Nat → Bool} {S : Nat → Nat} {i : Nat} (hi : p i = true) : ∀ (d k x : Nat), k ≤ i → i < k + d → pp_ (fun k => p k && !decide (k = i)) S d k x * S i = pp_ p S d k x := by
  intro d
  induction d with
  | zero => intro k x h1 h2; omega
  | succ d ih =>
    intro k x h1 h2
    rw [pp_, pp_]
    by_cases e : k = i
    · subst e
      rw [hi, if_pos rfl, decide_eq_true rfl, if_neg (by decide), pp_m, pp_n (q := p) d (k + 1) x (fun j h3 h4 => by rw [decide_eq_false (by omega), Bool.not_false, Bool.and_true])]
    · rw [decide_eq_false e, Bool.not_false, Bool.and_true]
      exact ih _ _ (by omega) (by omega)
theorem pr_m {f g : Nat → Nat} {B : Nat} (e : ∀ j, f j * g j = B) : ∀ (d j x y : Nat), pr_ f d j x * pr_ g d j y = x * y * B ^ d := by
  intro d
  induction d with
  | zero => intro j x y; rw [pr_, pr_, Nat.pow_zero, Nat.mul_one]
  | succ d ih =>
    intro j x y
    rw [pr_, pr_, ih, show x * f j * (y * g j) = x * y * (f j * g j) by simp only [Nat.mul_comm, Nat.mul_left_comm, Nat.mul_assoc], e, Nat.pow_succ, Nat.mul_comm (B ^ d) B, Nat.mul_assoc (x * y) B]
end
