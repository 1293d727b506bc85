section
-- ===== PART A: goes FIRST, ahead of the names: the tables' words, and 'selects' of the private methods out of them =====
/-- a private method of a class that the tables say can be made, by its rows of tables_1 -/
def lw_okq (q : MethodName × Nat) : Prop := (q.1.cls ≠ "java/lang/invoke/MethodHandle" ∧ q.1.cls ≠ "java/lang/invoke/VarHandle") ∧ Cond.instantiable q.1.cls q.2 ∈ tables_1 ∧ Cond.privateMethod q.1 ∈ tables_1 ∧ Cond.instanceMethod q.1 ∈ tables_1
theorem lw_p0 : lw_okq (⟨"ThumbReader$Scan", "goesOn", "(I)Z"⟩, 3) := ⟨⟨by decide +kernel, by decide +kernel⟩, List.mem_of_getElem? (i := 41) (by decide +kernel), List.mem_of_getElem? (i := 268) (by decide +kernel), List.mem_of_getElem? (i := 269) (by decide +kernel)⟩
theorem lw_p1 : lw_okq (⟨"ThumbReader$Scan", "takesFigure", "(I)Z"⟩, 3) := ⟨⟨by decide +kernel, by decide +kernel⟩, List.mem_of_getElem? (i := 41) (by decide +kernel), List.mem_of_getElem? (i := 272) (by decide +kernel), List.mem_of_getElem? (i := 273) (by decide +kernel)⟩
theorem lw_p2 : lw_okq (⟨"ThumbReader$Scan", "opensItem", "(I)Z"⟩, 3) := ⟨⟨by decide +kernel, by decide +kernel⟩, List.mem_of_getElem? (i := 41) (by decide +kernel), List.mem_of_getElem? (i := 282) (by decide +kernel), List.mem_of_getElem? (i := 283) (by decide +kernel)⟩
theorem lw_p3 : lw_okq (⟨"ThumbReader$Office", "repeat", "(I)V"⟩, 7) := ⟨⟨by decide +kernel, by decide +kernel⟩, List.mem_of_getElem? (i := 103) (by decide +kernel), List.mem_of_getElem? (i := 302) (by decide +kernel), List.mem_of_getElem? (i := 303) (by decide +kernel)⟩
theorem lw_p4 : lw_okq (⟨"ThumbReader", "findingOfReading", "(I)I"⟩, 9) := ⟨⟨by decide +kernel, by decide +kernel⟩, List.mem_of_getElem? (i := 13) (by decide +kernel), List.mem_of_getElem? (i := 451) (by decide +kernel), List.mem_of_getElem? (i := 452) (by decide +kernel)⟩
theorem lw_p5 : lw_okq (⟨"ThumbReader$Office", "isApart", "(IIII)Z"⟩, 7) := ⟨⟨by decide +kernel, by decide +kernel⟩, List.mem_of_getElem? (i := 103) (by decide +kernel), List.mem_of_getElem? (i := 501) (by decide +kernel), List.mem_of_getElem? (i := 502) (by decide +kernel)⟩
theorem lw_p6 : lw_okq (⟨"ThumbReader$Planner", "reckonFrom", "(LThumbReader$Office;II)V"⟩, 3) := ⟨⟨by decide +kernel, by decide +kernel⟩, List.mem_of_getElem? (i := 57) (by decide +kernel), List.mem_of_getElem? (i := 569) (by decide +kernel), List.mem_of_getElem? (i := 570) (by decide +kernel)⟩
theorem lw_p7 : lw_okq (⟨"ThumbReader$Planner", "isFree", "(III)Z"⟩, 3) := ⟨⟨by decide +kernel, by decide +kernel⟩, List.mem_of_getElem? (i := 57) (by decide +kernel), List.mem_of_getElem? (i := 573) (by decide +kernel), List.mem_of_getElem? (i := 574) (by decide +kernel)⟩
theorem lw_p8 : lw_okq (⟨"ThumbReader$Planner", "payBy", "(LThumbReader$Office;III)I"⟩, 3) := ⟨⟨by decide +kernel, by decide +kernel⟩, List.mem_of_getElem? (i := 57) (by decide +kernel), List.mem_of_getElem? (i := 577) (by decide +kernel), List.mem_of_getElem? (i := 578) (by decide +kernel)⟩
theorem lw_p9 : lw_okq (⟨"ThumbReader", "layBestPlan", "(I)I"⟩, 9) := ⟨⟨by decide +kernel, by decide +kernel⟩, List.mem_of_getElem? (i := 13) (by decide +kernel), List.mem_of_getElem? (i := 582) (by decide +kernel), List.mem_of_getElem? (i := 583) (by decide +kernel)⟩
theorem lw_p10 : lw_okq (⟨"ThumbReader", "findingOfThrees", "(I)I"⟩, 9) := ⟨⟨by decide +kernel, by decide +kernel⟩, List.mem_of_getElem? (i := 13) (by decide +kernel), List.mem_of_getElem? (i := 614) (by decide +kernel), List.mem_of_getElem? (i := 615) (by decide +kernel)⟩
theorem lw_p11 : lw_okq (⟨"ThumbReader", "threesFit", "(IIII)Z"⟩, 9) := ⟨⟨by decide +kernel, by decide +kernel⟩, List.mem_of_getElem? (i := 13) (by decide +kernel), List.mem_of_getElem? (i := 618) (by decide +kernel), List.mem_of_getElem? (i := 619) (by decide +kernel)⟩
theorem lw_p12 : lw_okq (⟨"ThumbReader", "findingOfFates", "(I)I"⟩, 9) := ⟨⟨by decide +kernel, by decide +kernel⟩, List.mem_of_getElem? (i := 13) (by decide +kernel), List.mem_of_getElem? (i := 631) (by decide +kernel), List.mem_of_getElem? (i := 632) (by decide +kernel)⟩
theorem lw_p13 : lw_okq (⟨"ThumbReader", "presentOffices", "()I"⟩, 9) := ⟨⟨by decide +kernel, by decide +kernel⟩, List.mem_of_getElem? (i := 13) (by decide +kernel), List.mem_of_getElem? (i := 677) (by decide +kernel), List.mem_of_getElem? (i := 678) (by decide +kernel)⟩
theorem lw_p14 : lw_okq (⟨"ThumbReaderModel", "meet", "(I)I"⟩, 31) := ⟨⟨by decide +kernel, by decide +kernel⟩, List.mem_of_getElem? (i := 707) (by decide +kernel), List.mem_of_getElem? (i := 817) (by decide +kernel), List.mem_of_getElem? (i := 818) (by decide +kernel)⟩
theorem lw_p15 : lw_okq (⟨"ThumbReaderModel", "setRow", "(III)V"⟩, 31) := ⟨⟨by decide +kernel, by decide +kernel⟩, List.mem_of_getElem? (i := 707) (by decide +kernel), List.mem_of_getElem? (i := 821) (by decide +kernel), List.mem_of_getElem? (i := 822) (by decide +kernel)⟩
def lw_privs_1 : List (MethodName × Nat) := [(⟨"ThumbReader$Scan", "goesOn", "(I)Z"⟩, 3), (⟨"ThumbReader$Scan", "takesFigure", "(I)Z"⟩, 3), (⟨"ThumbReader$Scan", "opensItem", "(I)Z"⟩, 3), (⟨"ThumbReader$Office", "repeat", "(I)V"⟩, 7), (⟨"ThumbReader", "findingOfReading", "(I)I"⟩, 9), (⟨"ThumbReader$Office", "isApart", "(IIII)Z"⟩, 7), (⟨"ThumbReader$Planner", "reckonFrom", "(LThumbReader$Office;II)V"⟩, 3), (⟨"ThumbReader$Planner", "isFree", "(III)Z"⟩, 3), (⟨"ThumbReader$Planner", "payBy", "(LThumbReader$Office;III)I"⟩, 3), (⟨"ThumbReader", "layBestPlan", "(I)I"⟩, 9), (⟨"ThumbReader", "findingOfThrees", "(I)I"⟩, 9), (⟨"ThumbReader", "threesFit", "(IIII)Z"⟩, 9), (⟨"ThumbReader", "findingOfFates", "(I)I"⟩, 9), (⟨"ThumbReader", "presentOffices", "()I"⟩, 9), (⟨"ThumbReaderModel", "meet", "(I)I"⟩, 31), (⟨"ThumbReaderModel", "setRow", "(III)V"⟩, 31)]
theorem lw_r1 : ∀ q ∈ lw_privs_1, lw_okq q := List.forall_mem_cons.mpr ⟨lw_p0, List.forall_mem_cons.mpr ⟨lw_p1, List.forall_mem_cons.mpr ⟨lw_p2, List.forall_mem_cons.mpr ⟨lw_p3, List.forall_mem_cons.mpr ⟨lw_p4, List.forall_mem_cons.mpr ⟨lw_p5, List.forall_mem_cons.mpr ⟨lw_p6, List.forall_mem_cons.mpr ⟨lw_p7, List.forall_mem_cons.mpr ⟨lw_p8, List.forall_mem_cons.mpr ⟨lw_p9, List.forall_mem_cons.mpr ⟨lw_p10, List.forall_mem_cons.mpr ⟨lw_p11, List.forall_mem_cons.mpr ⟨lw_p12, List.forall_mem_cons.mpr ⟨lw_p13, List.forall_mem_cons.mpr ⟨lw_p14, List.forall_mem_cons.mpr ⟨lw_p15, fun _ h => absurd h List.not_mem_nil⟩⟩⟩⟩⟩⟩⟩⟩⟩⟩⟩⟩⟩⟩⟩⟩
theorem lw_p16 : lw_okq (⟨"ThumbReaderModel", "askedRow", "(I)I"⟩, 31) := ⟨⟨by decide +kernel, by decide +kernel⟩, List.mem_of_getElem? (i := 707) (by decide +kernel), List.mem_of_getElem? (i := 829) (by decide +kernel), List.mem_of_getElem? (i := 830) (by decide +kernel)⟩
theorem lw_p17 : lw_okq (⟨"ThumbReaderModel", "rowAt", "(II)I"⟩, 31) := ⟨⟨by decide +kernel, by decide +kernel⟩, List.mem_of_getElem? (i := 707) (by decide +kernel), List.mem_of_getElem? (i := 833) (by decide +kernel), List.mem_of_getElem? (i := 834) (by decide +kernel)⟩
theorem lw_p18 : lw_okq (⟨"ThumbReaderModel", "ask", "(II)I"⟩, 31) := ⟨⟨by decide +kernel, by decide +kernel⟩, List.mem_of_getElem? (i := 707) (by decide +kernel), List.mem_of_getElem? (i := 837) (by decide +kernel), List.mem_of_getElem? (i := 838) (by decide +kernel)⟩
theorem lw_p19 : lw_okq (⟨"ThumbReaderModel", "askedText", "(I)I"⟩, 31) := ⟨⟨by decide +kernel, by decide +kernel⟩, List.mem_of_getElem? (i := 707) (by decide +kernel), List.mem_of_getElem? (i := 869) (by decide +kernel), List.mem_of_getElem? (i := 870) (by decide +kernel)⟩
theorem lw_p20 : lw_okq (⟨"ThumbReaderModel", "goesOn", "(I)I"⟩, 31) := ⟨⟨by decide +kernel, by decide +kernel⟩, List.mem_of_getElem? (i := 707) (by decide +kernel), List.mem_of_getElem? (i := 877) (by decide +kernel), List.mem_of_getElem? (i := 878) (by decide +kernel)⟩
theorem lw_p21 : lw_okq (⟨"ThumbReaderModel", "here", "(I)I"⟩, 31) := ⟨⟨by decide +kernel, by decide +kernel⟩, List.mem_of_getElem? (i := 707) (by decide +kernel), List.mem_of_getElem? (i := 881) (by decide +kernel), List.mem_of_getElem? (i := 882) (by decide +kernel)⟩
theorem lw_p22 : lw_okq (⟨"ThumbReaderModel", "readsHead", "(I)Z"⟩, 31) := ⟨⟨by decide +kernel, by decide +kernel⟩, List.mem_of_getElem? (i := 707) (by decide +kernel), List.mem_of_getElem? (i := 885) (by decide +kernel), List.mem_of_getElem? (i := 886) (by decide +kernel)⟩
theorem lw_p23 : lw_okq (⟨"ThumbReaderModel", "figure", "(IIII)Z"⟩, 31) := ⟨⟨by decide +kernel, by decide +kernel⟩, List.mem_of_getElem? (i := 707) (by decide +kernel), List.mem_of_getElem? (i := 889) (by decide +kernel), List.mem_of_getElem? (i := 890) (by decide +kernel)⟩
theorem lw_p24 : lw_okq (⟨"ThumbReaderModel", "readsPost", "(I)Z"⟩, 31) := ⟨⟨by decide +kernel, by decide +kernel⟩, List.mem_of_getElem? (i := 707) (by decide +kernel), List.mem_of_getElem? (i := 893) (by decide +kernel), List.mem_of_getElem? (i := 894) (by decide +kernel)⟩
theorem lw_p25 : lw_okq (⟨"ThumbReaderModel", "readsThumb", "(I)Z"⟩, 31) := ⟨⟨by decide +kernel, by decide +kernel⟩, List.mem_of_getElem? (i := 707) (by decide +kernel), List.mem_of_getElem? (i := 897) (by decide +kernel), List.mem_of_getElem? (i := 898) (by decide +kernel)⟩
theorem lw_p26 : lw_okq (⟨"ThumbReaderModel", "isHead", "(I)Z"⟩, 31) := ⟨⟨by decide +kernel, by decide +kernel⟩, List.mem_of_getElem? (i := 707) (by decide +kernel), List.mem_of_getElem? (i := 912) (by decide +kernel), List.mem_of_getElem? (i := 913) (by decide +kernel)⟩
theorem lw_p27 : lw_okq (⟨"ThumbReaderModel", "headOf", "(II)I"⟩, 31) := ⟨⟨by decide +kernel, by decide +kernel⟩, List.mem_of_getElem? (i := 707) (by decide +kernel), List.mem_of_getElem? (i := 916) (by decide +kernel), List.mem_of_getElem? (i := 917) (by decide +kernel)⟩
theorem lw_p28 : lw_okq (⟨"ThumbReaderModel", "bumps", "(I)I"⟩, 31) := ⟨⟨by decide +kernel, by decide +kernel⟩, List.mem_of_getElem? (i := 707) (by decide +kernel), List.mem_of_getElem? (i := 920) (by decide +kernel), List.mem_of_getElem? (i := 921) (by decide +kernel)⟩
theorem lw_p29 : lw_okq (⟨"ThumbReaderModel", "bump", "(II)I"⟩, 31) := ⟨⟨by decide +kernel, by decide +kernel⟩, List.mem_of_getElem? (i := 707) (by decide +kernel), List.mem_of_getElem? (i := 924) (by decide +kernel), List.mem_of_getElem? (i := 925) (by decide +kernel)⟩
theorem lw_p30 : lw_okq (⟨"ThumbReaderModel", "isThumb", "(I)Z"⟩, 31) := ⟨⟨by decide +kernel, by decide +kernel⟩, List.mem_of_getElem? (i := 707) (by decide +kernel), List.mem_of_getElem? (i := 932) (by decide +kernel), List.mem_of_getElem? (i := 933) (by decide +kernel)⟩
theorem lw_p31 : lw_okq (⟨"ThumbReaderModel", "isPost", "(I)Z"⟩, 31) := ⟨⟨by decide +kernel, by decide +kernel⟩, List.mem_of_getElem? (i := 707) (by decide +kernel), List.mem_of_getElem? (i := 940) (by decide +kernel), List.mem_of_getElem? (i := 941) (by decide +kernel)⟩
def lw_privs_2 : List (MethodName × Nat) := [(⟨"ThumbReaderModel", "askedRow", "(I)I"⟩, 31), (⟨"ThumbReaderModel", "rowAt", "(II)I"⟩, 31), (⟨"ThumbReaderModel", "ask", "(II)I"⟩, 31), (⟨"ThumbReaderModel", "askedText", "(I)I"⟩, 31), (⟨"ThumbReaderModel", "goesOn", "(I)I"⟩, 31), (⟨"ThumbReaderModel", "here", "(I)I"⟩, 31), (⟨"ThumbReaderModel", "readsHead", "(I)Z"⟩, 31), (⟨"ThumbReaderModel", "figure", "(IIII)Z"⟩, 31), (⟨"ThumbReaderModel", "readsPost", "(I)Z"⟩, 31), (⟨"ThumbReaderModel", "readsThumb", "(I)Z"⟩, 31), (⟨"ThumbReaderModel", "isHead", "(I)Z"⟩, 31), (⟨"ThumbReaderModel", "headOf", "(II)I"⟩, 31), (⟨"ThumbReaderModel", "bumps", "(I)I"⟩, 31), (⟨"ThumbReaderModel", "bump", "(II)I"⟩, 31), (⟨"ThumbReaderModel", "isThumb", "(I)Z"⟩, 31), (⟨"ThumbReaderModel", "isPost", "(I)Z"⟩, 31)]
theorem lw_r2 : ∀ q ∈ lw_privs_2, lw_okq q := List.forall_mem_cons.mpr ⟨lw_p16, List.forall_mem_cons.mpr ⟨lw_p17, List.forall_mem_cons.mpr ⟨lw_p18, List.forall_mem_cons.mpr ⟨lw_p19, List.forall_mem_cons.mpr ⟨lw_p20, List.forall_mem_cons.mpr ⟨lw_p21, List.forall_mem_cons.mpr ⟨lw_p22, List.forall_mem_cons.mpr ⟨lw_p23, List.forall_mem_cons.mpr ⟨lw_p24, List.forall_mem_cons.mpr ⟨lw_p25, List.forall_mem_cons.mpr ⟨lw_p26, List.forall_mem_cons.mpr ⟨lw_p27, List.forall_mem_cons.mpr ⟨lw_p28, List.forall_mem_cons.mpr ⟨lw_p29, List.forall_mem_cons.mpr ⟨lw_p30, List.forall_mem_cons.mpr ⟨lw_p31, fun _ h => absurd h List.not_mem_nil⟩⟩⟩⟩⟩⟩⟩⟩⟩⟩⟩⟩⟩⟩⟩⟩
theorem lw_p32 : lw_okq (⟨"ThumbReaderModel", "isA", "(II)Z"⟩, 31) := ⟨⟨by decide +kernel, by decide +kernel⟩, List.mem_of_getElem? (i := 707) (by decide +kernel), List.mem_of_getElem? (i := 948) (by decide +kernel), List.mem_of_getElem? (i := 949) (by decide +kernel)⟩
theorem lw_p33 : lw_okq (⟨"ThumbReaderModel", "marked", "(II)I"⟩, 31) := ⟨⟨by decide +kernel, by decide +kernel⟩, List.mem_of_getElem? (i := 707) (by decide +kernel), List.mem_of_getElem? (i := 952) (by decide +kernel), List.mem_of_getElem? (i := 953) (by decide +kernel)⟩
theorem lw_p34 : lw_okq (⟨"ThumbReaderModel", "least", "(III)I"⟩, 31) := ⟨⟨by decide +kernel, by decide +kernel⟩, List.mem_of_getElem? (i := 707) (by decide +kernel), List.mem_of_getElem? (i := 956) (by decide +kernel), List.mem_of_getElem? (i := 957) (by decide +kernel)⟩
theorem lw_p35 : lw_okq (⟨"ThumbReaderModel", "middle", "(III)I"⟩, 31) := ⟨⟨by decide +kernel, by decide +kernel⟩, List.mem_of_getElem? (i := 707) (by decide +kernel), List.mem_of_getElem? (i := 960) (by decide +kernel), List.mem_of_getElem? (i := 961) (by decide +kernel)⟩
theorem lw_p36 : lw_okq (⟨"ThumbReaderModel", "felt", "(II)I"⟩, 31) := ⟨⟨by decide +kernel, by decide +kernel⟩, List.mem_of_getElem? (i := 707) (by decide +kernel), List.mem_of_getElem? (i := 964) (by decide +kernel), List.mem_of_getElem? (i := 965) (by decide +kernel)⟩
theorem lw_p37 : lw_okq (⟨"ThumbReaderModel", "most", "(III)I"⟩, 31) := ⟨⟨by decide +kernel, by decide +kernel⟩, List.mem_of_getElem? (i := 707) (by decide +kernel), List.mem_of_getElem? (i := 977) (by decide +kernel), List.mem_of_getElem? (i := 978) (by decide +kernel)⟩
theorem lw_p38 : lw_okq (⟨"ThumbReaderModel", "note", "()V"⟩, 31) := ⟨⟨by decide +kernel, by decide +kernel⟩, List.mem_of_getElem? (i := 707) (by decide +kernel), List.mem_of_getElem? (i := 992) (by decide +kernel), List.mem_of_getElem? (i := 993) (by decide +kernel)⟩
theorem lw_p39 : lw_okq (⟨"ThumbReaderModel", "write", "([II)V"⟩, 31) := ⟨⟨by decide +kernel, by decide +kernel⟩, List.mem_of_getElem? (i := 707) (by decide +kernel), List.mem_of_getElem? (i := 996) (by decide +kernel), List.mem_of_getElem? (i := 997) (by decide +kernel)⟩
theorem lw_p40 : lw_okq (⟨"ThumbReaderModel", "readBack", "([II)V"⟩, 31) := ⟨⟨by decide +kernel, by decide +kernel⟩, List.mem_of_getElem? (i := 707) (by decide +kernel), List.mem_of_getElem? (i := 1012) (by decide +kernel), List.mem_of_getElem? (i := 1013) (by decide +kernel)⟩
theorem lw_p41 : lw_okq (⟨"ThumbReaderModel", "askedReading", "(I)I"⟩, 31) := ⟨⟨by decide +kernel, by decide +kernel⟩, List.mem_of_getElem? (i := 707) (by decide +kernel), List.mem_of_getElem? (i := 1032) (by decide +kernel), List.mem_of_getElem? (i := 1033) (by decide +kernel)⟩
theorem lw_p42 : lw_okq (⟨"ThumbReaderModel", "doesFit", "(III)Z"⟩, 31) := ⟨⟨by decide +kernel, by decide +kernel⟩, List.mem_of_getElem? (i := 707) (by decide +kernel), List.mem_of_getElem? (i := 1036) (by decide +kernel), List.mem_of_getElem? (i := 1037) (by decide +kernel)⟩
theorem lw_p43 : lw_okq (⟨"ThumbReaderModel", "headsBy", "(II)I"⟩, 31) := ⟨⟨by decide +kernel, by decide +kernel⟩, List.mem_of_getElem? (i := 707) (by decide +kernel), List.mem_of_getElem? (i := 1044) (by decide +kernel), List.mem_of_getElem? (i := 1045) (by decide +kernel)⟩
theorem lw_p44 : lw_okq (⟨"ThumbReaderModel", "weight", "(III)J"⟩, 31) := ⟨⟨by decide +kernel, by decide +kernel⟩, List.mem_of_getElem? (i := 707) (by decide +kernel), List.mem_of_getElem? (i := 1056) (by decide +kernel), List.mem_of_getElem? (i := 1057) (by decide +kernel)⟩
theorem lw_p45 : lw_okq (⟨"ThumbReaderModel", "spread", "(III)I"⟩, 31) := ⟨⟨by decide +kernel, by decide +kernel⟩, List.mem_of_getElem? (i := 707) (by decide +kernel), List.mem_of_getElem? (i := 1060) (by decide +kernel), List.mem_of_getElem? (i := 1061) (by decide +kernel)⟩
theorem lw_p46 : lw_okq (⟨"ThumbReaderModel", "part", "(JJ)I"⟩, 31) := ⟨⟨by decide +kernel, by decide +kernel⟩, List.mem_of_getElem? (i := 707) (by decide +kernel), List.mem_of_getElem? (i := 1064) (by decide +kernel), List.mem_of_getElem? (i := 1065) (by decide +kernel)⟩
theorem lw_p47 : lw_okq (⟨"ThumbReaderModel", "areApart", "(IIII)Z"⟩, 31) := ⟨⟨by decide +kernel, by decide +kernel⟩, List.mem_of_getElem? (i := 707) (by decide +kernel), List.mem_of_getElem? (i := 1072) (by decide +kernel), List.mem_of_getElem? (i := 1073) (by decide +kernel)⟩
def lw_privs_3 : List (MethodName × Nat) := [(⟨"ThumbReaderModel", "isA", "(II)Z"⟩, 31), (⟨"ThumbReaderModel", "marked", "(II)I"⟩, 31), (⟨"ThumbReaderModel", "least", "(III)I"⟩, 31), (⟨"ThumbReaderModel", "middle", "(III)I"⟩, 31), (⟨"ThumbReaderModel", "felt", "(II)I"⟩, 31), (⟨"ThumbReaderModel", "most", "(III)I"⟩, 31), (⟨"ThumbReaderModel", "note", "()V"⟩, 31), (⟨"ThumbReaderModel", "write", "([II)V"⟩, 31), (⟨"ThumbReaderModel", "readBack", "([II)V"⟩, 31), (⟨"ThumbReaderModel", "askedReading", "(I)I"⟩, 31), (⟨"ThumbReaderModel", "doesFit", "(III)Z"⟩, 31), (⟨"ThumbReaderModel", "headsBy", "(II)I"⟩, 31), (⟨"ThumbReaderModel", "weight", "(III)J"⟩, 31), (⟨"ThumbReaderModel", "spread", "(III)I"⟩, 31), (⟨"ThumbReaderModel", "part", "(JJ)I"⟩, 31), (⟨"ThumbReaderModel", "areApart", "(IIII)Z"⟩, 31)]
theorem lw_r3 : ∀ q ∈ lw_privs_3, lw_okq q := List.forall_mem_cons.mpr ⟨lw_p32, List.forall_mem_cons.mpr ⟨lw_p33, List.forall_mem_cons.mpr ⟨lw_p34, List.forall_mem_cons.mpr ⟨lw_p35, List.forall_mem_cons.mpr ⟨lw_p36, List.forall_mem_cons.mpr ⟨lw_p37, List.forall_mem_cons.mpr ⟨lw_p38, List.forall_mem_cons.mpr ⟨lw_p39, List.forall_mem_cons.mpr ⟨lw_p40, List.forall_mem_cons.mpr ⟨lw_p41, List.forall_mem_cons.mpr ⟨lw_p42, List.forall_mem_cons.mpr ⟨lw_p43, List.forall_mem_cons.mpr ⟨lw_p44, List.forall_mem_cons.mpr ⟨lw_p45, List.forall_mem_cons.mpr ⟨lw_p46, List.forall_mem_cons.mpr ⟨lw_p47, fun _ h => absurd h List.not_mem_nil⟩⟩⟩⟩⟩⟩⟩⟩⟩⟩⟩⟩⟩⟩⟩⟩
theorem lw_p48 : lw_okq (⟨"ThumbReaderModel", "suitsOf", "(III)I"⟩, 31) := ⟨⟨by decide +kernel, by decide +kernel⟩, List.mem_of_getElem? (i := 707) (by decide +kernel), List.mem_of_getElem? (i := 1084) (by decide +kernel), List.mem_of_getElem? (i := 1085) (by decide +kernel)⟩
theorem lw_p49 : lw_okq (⟨"ThumbReaderModel", "need", "(II)I"⟩, 31) := ⟨⟨by decide +kernel, by decide +kernel⟩, List.mem_of_getElem? (i := 707) (by decide +kernel), List.mem_of_getElem? (i := 1088) (by decide +kernel), List.mem_of_getElem? (i := 1089) (by decide +kernel)⟩
theorem lw_p50 : lw_okq (⟨"ThumbReaderModel", "padsAt", "(IIII)I"⟩, 31) := ⟨⟨by decide +kernel, by decide +kernel⟩, List.mem_of_getElem? (i := 707) (by decide +kernel), List.mem_of_getElem? (i := 1100) (by decide +kernel), List.mem_of_getElem? (i := 1101) (by decide +kernel)⟩
theorem lw_p51 : lw_okq (⟨"ThumbReaderModel", "goPlans", "(I)V"⟩, 31) := ⟨⟨by decide +kernel, by decide +kernel⟩, List.mem_of_getElem? (i := 707) (by decide +kernel), List.mem_of_getElem? (i := 1121) (by decide +kernel), List.mem_of_getElem? (i := 1122) (by decide +kernel)⟩
theorem lw_p52 : lw_okq (⟨"ThumbReaderModel", "layMay", "(I)V"⟩, 31) := ⟨⟨by decide +kernel, by decide +kernel⟩, List.mem_of_getElem? (i := 707) (by decide +kernel), List.mem_of_getElem? (i := 1125) (by decide +kernel), List.mem_of_getElem? (i := 1126) (by decide +kernel)⟩
theorem lw_p53 : lw_okq (⟨"ThumbReaderModel", "planOn", "(III)V"⟩, 31) := ⟨⟨by decide +kernel, by decide +kernel⟩, List.mem_of_getElem? (i := 707) (by decide +kernel), List.mem_of_getElem? (i := 1129) (by decide +kernel), List.mem_of_getElem? (i := 1130) (by decide +kernel)⟩
theorem lw_p54 : lw_okq (⟨"ThumbReaderModel", "layPlan", "(I)I"⟩, 31) := ⟨⟨by decide +kernel, by decide +kernel⟩, List.mem_of_getElem? (i := 707) (by decide +kernel), List.mem_of_getElem? (i := 1136) (by decide +kernel), List.mem_of_getElem? (i := 1137) (by decide +kernel)⟩
theorem lw_p55 : lw_okq (⟨"ThumbReaderModel", "doesLearn", "(IIII)Z"⟩, 31) := ⟨⟨by decide +kernel, by decide +kernel⟩, List.mem_of_getElem? (i := 707) (by decide +kernel), List.mem_of_getElem? (i := 1156) (by decide +kernel), List.mem_of_getElem? (i := 1157) (by decide +kernel)⟩
theorem lw_p56 : lw_okq (⟨"ThumbReaderModel", "isAlone", "(II)Z"⟩, 31) := ⟨⟨by decide +kernel, by decide +kernel⟩, List.mem_of_getElem? (i := 707) (by decide +kernel), List.mem_of_getElem? (i := 1171) (by decide +kernel), List.mem_of_getElem? (i := 1172) (by decide +kernel)⟩
theorem lw_p57 : lw_okq (⟨"ThumbReaderModel", "tellsOf", "(I)I"⟩, 31) := ⟨⟨by decide +kernel, by decide +kernel⟩, List.mem_of_getElem? (i := 707) (by decide +kernel), List.mem_of_getElem? (i := 1191) (by decide +kernel), List.mem_of_getElem? (i := 1192) (by decide +kernel)⟩
theorem lw_p58 : lw_okq (⟨"ThumbReaderModel", "mix", "(I)V"⟩, 31) := ⟨⟨by decide +kernel, by decide +kernel⟩, List.mem_of_getElem? (i := 707) (by decide +kernel), List.mem_of_getElem? (i := 1208) (by decide +kernel), List.mem_of_getElem? (i := 1209) (by decide +kernel)⟩
theorem lw_p59 : lw_okq (⟨"ThumbReaderModel", "mixOffice", "()V"⟩, 31) := ⟨⟨by decide +kernel, by decide +kernel⟩, List.mem_of_getElem? (i := 707) (by decide +kernel), List.mem_of_getElem? (i := 1213) (by decide +kernel), List.mem_of_getElem? (i := 1214) (by decide +kernel)⟩
def lw_privs_4 : List (MethodName × Nat) := [(⟨"ThumbReaderModel", "suitsOf", "(III)I"⟩, 31), (⟨"ThumbReaderModel", "need", "(II)I"⟩, 31), (⟨"ThumbReaderModel", "padsAt", "(IIII)I"⟩, 31), (⟨"ThumbReaderModel", "goPlans", "(I)V"⟩, 31), (⟨"ThumbReaderModel", "layMay", "(I)V"⟩, 31), (⟨"ThumbReaderModel", "planOn", "(III)V"⟩, 31), (⟨"ThumbReaderModel", "layPlan", "(I)I"⟩, 31), (⟨"ThumbReaderModel", "doesLearn", "(IIII)Z"⟩, 31), (⟨"ThumbReaderModel", "isAlone", "(II)Z"⟩, 31), (⟨"ThumbReaderModel", "tellsOf", "(I)I"⟩, 31), (⟨"ThumbReaderModel", "mix", "(I)V"⟩, 31), (⟨"ThumbReaderModel", "mixOffice", "()V"⟩, 31)]
theorem lw_r4 : ∀ q ∈ lw_privs_4, lw_okq q := List.forall_mem_cons.mpr ⟨lw_p48, List.forall_mem_cons.mpr ⟨lw_p49, List.forall_mem_cons.mpr ⟨lw_p50, List.forall_mem_cons.mpr ⟨lw_p51, List.forall_mem_cons.mpr ⟨lw_p52, List.forall_mem_cons.mpr ⟨lw_p53, List.forall_mem_cons.mpr ⟨lw_p54, List.forall_mem_cons.mpr ⟨lw_p55, List.forall_mem_cons.mpr ⟨lw_p56, List.forall_mem_cons.mpr ⟨lw_p57, List.forall_mem_cons.mpr ⟨lw_p58, List.forall_mem_cons.mpr ⟨lw_p59, fun _ h => absurd h List.not_mem_nil⟩⟩⟩⟩⟩⟩⟩⟩⟩⟩⟩⟩
def lw_privs : List (MethodName × Nat) := lw_privs_1 ++ (lw_privs_2 ++ (lw_privs_3 ++ (lw_privs_4)))
def lw_tbl : List Cond := k2_sels lw_privs ++ tables_1
theorem lw_privs_ok : ∀ q ∈ lw_privs, lw_okq q := by
  show ∀ q ∈ lw_privs_1 ++ (lw_privs_2 ++ (lw_privs_3 ++ (lw_privs_4))), lw_okq q
  exact List.forall_mem_append.mpr ⟨lw_r1, List.forall_mem_append.mpr ⟨lw_r2, List.forall_mem_append.mpr ⟨lw_r3, lw_r4⟩⟩⟩
end
section
def RX0 : String := "ThumbReader$Kept"
def TX0 : u_T := fun k => match k with
  | 0 => ("ThumbReader$Kept", "deeds", "[I", true)
  | 1 => ("ThumbReader$Kept", "errors", "[I", true)
  | _ => ("ThumbReader$Kept", "done", "I", false)
def tyX0 : Nat → FieldType := fun k => match k with
  | 0 => .array .int
  | 1 => .array .int
  | _ => .int
theorem nmX0 : ∀ a, a < 3 → ∀ b, b < 3 → a ≠ b → (TX0 a).2.1 ≠ (TX0 b).2.1 := by decide +kernel
theorem tyX0_ok : ∀ k, k < 3 → parseFieldDescriptor (TX0 k).2.2.1 = some (tyX0 k) := by decide +kernel
abbrev cX0_init : ByteArray := prog_2_method_1_code
def yX0_init : MethodName := ⟨RX0, "<init>", "()V"⟩
abbrev cX0_take : ByteArray := prog_2_method_2_code
def yX0_take : MethodName := ⟨RX0, "take", "(LThumbReader$Office;)V"⟩
abbrev cX0_giveTo : ByteArray := prog_2_method_3_code
def yX0_giveTo : MethodName := ⟨RX0, "giveTo", "(LThumbReader$Office;)V"⟩
def RX1 : String := "ThumbReader$Marks"
def TX1 : u_T := fun k => match k with
  | _ => ("", "", "", false)
def tyX1 : Nat → FieldType := fun k => match k with
  | _ => .int
theorem nmX1 : ∀ a, a < 0 → ∀ b, b < 0 → a ≠ b → (TX1 a).2.1 ≠ (TX1 b).2.1 := by decide +kernel
theorem tyX1_ok : ∀ k, k < 0 → parseFieldDescriptor (TX1 k).2.2.1 = some (tyX1 k) := by decide +kernel
abbrev cX1_heavy : ByteArray := prog_3_method_2_code
def yX1_heavy : MethodName := ⟨RX1, "heavy", "(LThumbReader$Office;)I"⟩
abbrev cX1_light : ByteArray := prog_3_method_3_code
def yX1_light : MethodName := ⟨RX1, "light", "(LThumbReader$Office;I)I"⟩
abbrev cX1_wishing : ByteArray := prog_3_method_4_code
def yX1_wishing : MethodName := ⟨RX1, "wishing", "(LThumbReader$Office;I)I"⟩
abbrev cX1_hasItsWish : ByteArray := prog_3_method_5_code
def yX1_hasItsWish : MethodName := ⟨RX1, "hasItsWish", "(LThumbReader$Office;II)Z"⟩
abbrev cX1_clerk : ByteArray := prog_3_method_6_code
def yX1_clerk : MethodName := ⟨RX1, "clerk", "(LThumbReader$Office;I)I"⟩
abbrev cX1_dull : ByteArray := prog_3_method_7_code
def yX1_dull : MethodName := ⟨RX1, "dull", "(LThumbReader$Office;I)I"⟩
def RX2 : String := "ThumbReader$Office"
def TX2 : u_T := fun k => match k with
  | 0 => ("ThumbReader$Office", "first", "[[I", true)
  | 1 => ("ThumbReader$Office", "heads", "[[I", true)
  | 2 => ("ThumbReader$Office", "thumbs", "[[I", true)
  | 3 => ("ThumbReader$Office", "posts", "[[I", true)
  | 4 => ("ThumbReader$Office", "sizes", "[I", true)
  | 5 => ("ThumbReader$Office", "deeds", "[I", true)
  | _ => ("ThumbReader$Office", "done", "I", false)
def tyX2 : Nat → FieldType := fun k => match k with
  | 0 => .array (.array .int)
  | 1 => .array (.array .int)
  | 2 => .array (.array .int)
  | 3 => .array (.array .int)
  | 4 => .array .int
  | 5 => .array .int
  | _ => .int
theorem nmX2 : ∀ a, a < 7 → ∀ b, b < 7 → a ≠ b → (TX2 a).2.1 ≠ (TX2 b).2.1 := by decide +kernel
theorem tyX2_ok : ∀ k, k < 7 → parseFieldDescriptor (TX2 k).2.2.1 = some (tyX2 k) := by decide +kernel
abbrev cX2_init : ByteArray := prog_4_method_1_code
def yX2_init : MethodName := ⟨RX2, "<init>", "()V"⟩
abbrev cX2_has : ByteArray := prog_4_method_2_code
def yX2_has : MethodName := ⟨RX2, "has", "(II)Z"⟩
abbrev cX2_ofHead : ByteArray := prog_4_method_3_code
def yX2_ofHead : MethodName := ⟨RX2, "ofHead", "(II)I"⟩
abbrev cX2_together : ByteArray := prog_4_method_4_code
def yX2_together : MethodName := ⟨RX2, "together", "(I)I"⟩
abbrev cX2_allTogether : ByteArray := prog_4_method_5_code
def yX2_allTogether : MethodName := ⟨RX2, "allTogether", "()I"⟩
abbrev cX2_wishingOnes : ByteArray := prog_4_method_6_code
def yX2_wishingOnes : MethodName := ⟨RX2, "wishingOnes", "()I"⟩
abbrev cX2_isOf : ByteArray := prog_4_method_7_code
def yX2_isOf : MethodName := ⟨RX2, "isOf", "(II)Z"⟩
abbrev cX2_mix : ByteArray := prog_4_method_8_code
def yX2_mix : MethodName := ⟨RX2, "mix", "(J)J"⟩
abbrev cX2_act : ByteArray := prog_4_method_9_code
def yX2_act : MethodName := ⟨RX2, "act", "(II)V"⟩
abbrev cX2_goBack : ByteArray := prog_4_method_10_code
def yX2_goBack : MethodName := ⟨RX2, "goBack", "(I)V"⟩
abbrev cX2_repeat : ByteArray := prog_4_method_11_code
def yX2_repeat : MethodName := ⟨RX2, "repeat", "(I)V"⟩
abbrev cX2_felt : ByteArray := prog_4_method_12_code
def yX2_felt : MethodName := ⟨RX2, "felt", "(III)I"⟩
abbrev cX2_middle : ByteArray := prog_4_method_13_code
def yX2_middle : MethodName := ⟨RX2, "middle", "(IZI)I"⟩
abbrev cX2_middleBy : ByteArray := prog_4_method_14_code
def yX2_middleBy : MethodName := ⟨RX2, "middleBy", "(IIII)I"⟩
abbrev cX2_least : ByteArray := prog_4_method_15_code
def yX2_least : MethodName := ⟨RX2, "least", "(IIII)I"⟩
abbrev cX2_most : ByteArray := prog_4_method_16_code
def yX2_most : MethodName := ⟨RX2, "most", "(IIII)I"⟩
abbrev cX2_ways : ByteArray := prog_4_method_17_code
def yX2_ways : MethodName := ⟨RX2, "ways", "(III)I"⟩
abbrev cX2_canRead : ByteArray := prog_4_method_18_code
def yX2_canRead : MethodName := ⟨RX2, "canRead", "(II[I)Z"⟩
abbrev cX2_headsThatFit : ByteArray := prog_4_method_19_code
def yX2_headsThatFit : MethodName := ⟨RX2, "headsThatFit", "(I[I)I"⟩
abbrev cX2_weight : ByteArray := prog_4_method_20_code
def yX2_weight : MethodName := ⟨RX2, "weight", "(III)J"⟩
abbrev cX2_isApart : ByteArray := prog_4_method_21_code
def yX2_isApart : MethodName := ⟨RX2, "isApart", "(IIII)Z"⟩
abbrev cX2_pairsApart : ByteArray := prog_4_method_22_code
def yX2_pairsApart : MethodName := ⟨RX2, "pairsApart", "(II)I"⟩
abbrev cX2_maySeem : ByteArray := prog_4_method_23_code
def yX2_maySeem : MethodName := ⟨RX2, "maySeem", "(III)Z"⟩
abbrev cX2_placesAbove : ByteArray := prog_4_method_24_code
def yX2_placesAbove : MethodName := ⟨RX2, "placesAbove", "(II)I"⟩
abbrev cX2_isSure : ByteArray := prog_4_method_25_code
def yX2_isSure : MethodName := ⟨RX2, "isSure", "(IIII)Z"⟩
abbrev cX2_isLucky : ByteArray := prog_4_method_26_code
def yX2_isLucky : MethodName := ⟨RX2, "isLucky", "(III)Z"⟩
abbrev cX2_surePosts : ByteArray := prog_4_method_27_code
def yX2_surePosts : MethodName := ⟨RX2, "surePosts", "(III)I"⟩
abbrev cX2_fewestPads : ByteArray := prog_4_method_28_code
def yX2_fewestPads : MethodName := ⟨RX2, "fewestPads", "(IIII)I"⟩
def RX3 : String := "ThumbReader$Planner"
def TX3 : u_T := fun k => match k with
  | 0 => ("ThumbReader$Planner", "open", "[I", true)
  | 1 => ("ThumbReader$Planner", "pays", "[[I", true)
  | _ => ("ThumbReader$Planner", "ways", "[[I", true)
def tyX3 : Nat → FieldType := fun k => match k with
  | 0 => .array .int
  | 1 => .array (.array .int)
  | _ => .array (.array .int)
theorem nmX3 : ∀ a, a < 3 → ∀ b, b < 3 → a ≠ b → (TX3 a).2.1 ≠ (TX3 b).2.1 := by decide +kernel
theorem tyX3_ok : ∀ k, k < 3 → parseFieldDescriptor (TX3 k).2.2.1 = some (tyX3 k) := by decide +kernel
abbrev cX3_init : ByteArray := prog_5_method_1_code
def yX3_init : MethodName := ⟨RX3, "<init>", "()V"⟩
abbrev cX3_openByOne : ByteArray := prog_5_method_2_code
def yX3_openByOne : MethodName := ⟨RX3, "openByOne", "(LThumbReader$Office;I)V"⟩
abbrev cX3_openByAll : ByteArray := prog_5_method_3_code
def yX3_openByAll : MethodName := ⟨RX3, "openByAll", "(LThumbReader$Office;)V"⟩
abbrev cX3_reckon : ByteArray := prog_5_method_4_code
def yX3_reckon : MethodName := ⟨RX3, "reckon", "(LThumbReader$Office;)V"⟩
abbrev cX3_reckonFrom : ByteArray := prog_5_method_5_code
def yX3_reckonFrom : MethodName := ⟨RX3, "reckonFrom", "(LThumbReader$Office;II)V"⟩
abbrev cX3_isFree : ByteArray := prog_5_method_6_code
def yX3_isFree : MethodName := ⟨RX3, "isFree", "(III)Z"⟩
abbrev cX3_payBy : ByteArray := prog_5_method_7_code
def yX3_payBy : MethodName := ⟨RX3, "payBy", "(LThumbReader$Office;III)I"⟩
abbrev cX3_bestPay : ByteArray := prog_5_method_8_code
def yX3_bestPay : MethodName := ⟨RX3, "bestPay", "()I"⟩
abbrev cX3_bestPost : ByteArray := prog_5_method_9_code
def yX3_bestPost : MethodName := ⟨RX3, "bestPost", "(LThumbReader$Office;II)I"⟩
def RX4 : String := "ThumbReader$Scan"
def TX4 : u_T := fun k => match k with
  | 0 => ("ThumbReader$Scan", "office", "LThumbReader$Office;", false)
  | 1 => ("ThumbReader$Scan", "sort", "I", false)
  | _ => ("ThumbReader$Scan", "due", "I", false)
def tyX4 : Nat → FieldType := fun k => match k with
  | 0 => .object "ThumbReader$Office"
  | 1 => .int
  | _ => .int
theorem nmX4 : ∀ a, a < 3 → ∀ b, b < 3 → a ≠ b → (TX4 a).2.1 ≠ (TX4 b).2.1 := by decide +kernel
theorem tyX4_ok : ∀ k, k < 3 → parseFieldDescriptor (TX4 k).2.2.1 = some (tyX4 k) := by decide +kernel
abbrev cX4_init : ByteArray := prog_6_method_1_code
def yX4_init : MethodName := ⟨RX4, "<init>", "()V"⟩
abbrev cX4_into : ByteArray := prog_6_method_2_code
def yX4_into : MethodName := ⟨RX4, "into", "(LThumbReader$Office;[II)I"⟩
abbrev cX4_goesOn : ByteArray := prog_6_method_3_code
def yX4_goesOn : MethodName := ⟨RX4, "goesOn", "(I)Z"⟩
abbrev cX4_opensItem : ByteArray := prog_6_method_4_code
def yX4_opensItem : MethodName := ⟨RX4, "opensItem", "(I)Z"⟩
abbrev cX4_kindBy : ByteArray := prog_6_method_5_code
def yX4_kindBy : MethodName := ⟨RX4, "kindBy", "(I)I"⟩
abbrev cX4_takesFigure : ByteArray := prog_6_method_6_code
def yX4_takesFigure : MethodName := ⟨RX4, "takesFigure", "(I)Z"⟩
def RX5 : String := "ThumbReader$Shelf"
def TX5 : u_T := fun k => match k with
  | 0 => ("ThumbReader$Shelf", "cells", "[[I", true)
  | _ => ("ThumbReader$Shelf", "sizes", "[I", true)
def tyX5 : Nat → FieldType := fun k => match k with
  | 0 => .array (.array .int)
  | _ => .array .int
theorem nmX5 : ∀ a, a < 2 → ∀ b, b < 2 → a ≠ b → (TX5 a).2.1 ≠ (TX5 b).2.1 := by decide +kernel
theorem tyX5_ok : ∀ k, k < 2 → parseFieldDescriptor (TX5 k).2.2.1 = some (tyX5 k) := by decide +kernel
abbrev cX5_init : ByteArray := prog_7_method_1_code
def yX5_init : MethodName := ⟨RX5, "<init>", "(II)V"⟩
abbrev cX5_allows : ByteArray := prog_7_method_2_code
def yX5_allows : MethodName := ⟨RX5, "allows", "(I)Z"⟩
abbrev cX5_lacks : ByteArray := prog_7_method_3_code
def yX5_lacks : MethodName := ⟨RX5, "lacks", "(I)Z"⟩
abbrev cX5_findingAt : ByteArray := prog_7_method_4_code
def yX5_findingAt : MethodName := ⟨RX5, "findingAt", "(II)I"⟩
abbrev cX5_spans : ByteArray := prog_7_method_5_code
def yX5_spans : MethodName := ⟨RX5, "spans", "(III)Z"⟩
abbrev cX5_renew : ByteArray := prog_7_method_6_code
def yX5_renew : MethodName := ⟨RX5, "renew", "(III)V"⟩
abbrev cX5_sum : ByteArray := prog_7_method_7_code
def yX5_sum : MethodName := ⟨RX5, "sum", "(I)J"⟩
abbrev cX5_present : ByteArray := prog_7_method_8_code
def yX5_present : MethodName := ⟨RX5, "present", "()I"⟩
abbrev cX5_mix : ByteArray := prog_7_method_9_code
def yX5_mix : MethodName := ⟨RX5, "mix", "(J)J"⟩
def RX6 : String := "ThumbReader$Told"
def TX6 : u_T := fun k => match k with
  | 0 => ("ThumbReader$Told", "times", "[I", true)
  | 1 => ("ThumbReader$Told", "latest", "I", false)
  | 2 => ("ThumbReader$Told", "number", "I", false)
  | 3 => ("ThumbReader$Told", "above", "J", false)
  | _ => ("ThumbReader$Told", "below", "J", false)
def tyX6 : Nat → FieldType := fun k => match k with
  | 0 => .array .int
  | 1 => .int
  | 2 => .int
  | 3 => .long
  | _ => .long
theorem nmX6 : ∀ a, a < 5 → ∀ b, b < 5 → a ≠ b → (TX6 a).2.1 ≠ (TX6 b).2.1 := by decide +kernel
theorem tyX6_ok : ∀ k, k < 5 → parseFieldDescriptor (TX6 k).2.2.1 = some (tyX6 k) := by decide +kernel
abbrev cX6_init : ByteArray := prog_8_method_1_code
def yX6_init : MethodName := ⟨RX6, "<init>", "()V"⟩
abbrev cX6_tell : ByteArray := prog_8_method_2_code
def yX6_tell : MethodName := ⟨RX6, "tell", "(I)I"⟩
abbrev cX6_tellFraction : ByteArray := prog_8_method_3_code
def yX6_tellFraction : MethodName := ⟨RX6, "tellFraction", "(JJ)I"⟩
abbrev cX6_refuse : ByteArray := prog_8_method_4_code
def yX6_refuse : MethodName := ⟨RX6, "refuse", "(I)I"⟩
abbrev cX6_commonDivisor : ByteArray := prog_8_method_5_code
def yX6_commonDivisor : MethodName := ⟨RX6, "commonDivisor", "(JJ)J"⟩
def RX7 : String := "ThumbReader"
def TX7 : u_T := fun k => match k with
  | 0 => ("ThumbReader", "rows", "LThumbReader$Shelf;", true)
  | 1 => ("ThumbReader", "texts", "LThumbReader$Shelf;", true)
  | 2 => ("ThumbReader", "keptOffices", "[LThumbReader$Kept;", true)
  | 3 => ("ThumbReader", "scan", "LThumbReader$Scan;", true)
  | 4 => ("ThumbReader", "planner", "LThumbReader$Planner;", true)
  | 5 => ("ThumbReader", "told", "LThumbReader$Told;", true)
  | 6 => ("ThumbReader", "lotReading", "[I", true)
  | 7 => ("ThumbReader", "now", "LThumbReader$Office;", false)
  | _ => ("ThumbReader", "draft", "LThumbReader$Office;", false)
def tyX7 : Nat → FieldType := fun k => match k with
  | 0 => .object "ThumbReader$Shelf"
  | 1 => .object "ThumbReader$Shelf"
  | 2 => .array (.object "ThumbReader$Kept")
  | 3 => .object "ThumbReader$Scan"
  | 4 => .object "ThumbReader$Planner"
  | 5 => .object "ThumbReader$Told"
  | 6 => .array .int
  | 7 => .object "ThumbReader$Office"
  | _ => .object "ThumbReader$Office"
theorem nmX7 : ∀ a, a < 9 → ∀ b, b < 9 → a ≠ b → (TX7 a).2.1 ≠ (TX7 b).2.1 := by decide +kernel
theorem tyX7_ok : ∀ k, k < 9 → parseFieldDescriptor (TX7 k).2.2.1 = some (tyX7 k) := by decide +kernel
abbrev cX7_init : ByteArray := prog_1_method_1_code
def yX7_init : MethodName := ⟨RX7, "<init>", "()V"⟩
abbrev cX7_row : ByteArray := prog_1_method_2_code
def yX7_row : MethodName := ⟨RX7, "row", "(II)I"⟩
abbrev cX7_lay : ByteArray := prog_1_method_3_code
def yX7_lay : MethodName := ⟨RX7, "lay", "(III)I"⟩
abbrev cX7_at : ByteArray := prog_1_method_4_code
def yX7_at : MethodName := ⟨RX7, "at", "(II)I"⟩
abbrev cX7_tear : ByteArray := prog_1_method_5_code
def yX7_tear : MethodName := ⟨RX7, "tear", "(I)I"⟩
abbrev cX7_copy : ByteArray := prog_1_method_6_code
def yX7_copy : MethodName := ⟨RX7, "copy", "(IIIII)I"⟩
abbrev cX7_mean : ByteArray := prog_1_method_7_code
def yX7_mean : MethodName := ⟨RX7, "mean", "(I)I"⟩
abbrev cX7_text : ByteArray := prog_1_method_8_code
def yX7_text : MethodName := ⟨RX7, "text", "(II)I"⟩
abbrev cX7_put : ByteArray := prog_1_method_9_code
def yX7_put : MethodName := ⟨RX7, "put", "(III)I"⟩
abbrev cX7_fault : ByteArray := prog_1_method_10_code
def yX7_fault : MethodName := ⟨RX7, "fault", "(I)I"⟩
abbrev cX7_office : ByteArray := prog_1_method_11_code
def yX7_office : MethodName := ⟨RX7, "office", "(I)I"⟩
abbrev cX7_head : ByteArray := prog_1_method_12_code
def yX7_head : MethodName := ⟨RX7, "head", "(II)I"⟩
abbrev cX7_thumb : ByteArray := prog_1_method_13_code
def yX7_thumb : MethodName := ⟨RX7, "thumb", "(II)I"⟩
abbrev cX7_post : ByteArray := prog_1_method_14_code
def yX7_post : MethodName := ⟨RX7, "post", "(II)I"⟩
abbrev cX7_mark : ByteArray := prog_1_method_15_code
def yX7_mark : MethodName := ⟨RX7, "mark", "(II)I"⟩
abbrev cX7_error : ByteArray := prog_1_method_16_code
def yX7_error : MethodName := ⟨RX7, "error", "(II)I"⟩
abbrev cX7_pad : ByteArray := prog_1_method_17_code
def yX7_pad : MethodName := ⟨RX7, "pad", "(II)I"⟩
abbrev cX7_grow : ByteArray := prog_1_method_18_code
def yX7_grow : MethodName := ⟨RX7, "grow", "(I)I"⟩
abbrev cX7_cut : ByteArray := prog_1_method_19_code
def yX7_cut : MethodName := ⟨RX7, "cut", "(II)I"⟩
abbrev cX7_undo : ByteArray := prog_1_method_20_code
def yX7_undo : MethodName := ⟨RX7, "undo", "(I)I"⟩
abbrev cX7_keep : ByteArray := prog_1_method_21_code
def yX7_keep : MethodName := ⟨RX7, "keep", "(I)I"⟩
abbrev cX7_on : ByteArray := prog_1_method_22_code
def yX7_on : MethodName := ⟨RX7, "on", "(I)I"⟩
abbrev cX7_reads : ByteArray := prog_1_method_23_code
def yX7_reads : MethodName := ⟨RX7, "reads", "(III)I"⟩
abbrev cX7_fits : ByteArray := prog_1_method_24_code
def yX7_fits : MethodName := ⟨RX7, "fits", "(III)I"⟩
abbrev cX7_whose : ByteArray := prog_1_method_25_code
def yX7_whose : MethodName := ⟨RX7, "whose", "(II)I"⟩
abbrev cX7_who : ByteArray := prog_1_method_26_code
def yX7_who : MethodName := ⟨RX7, "who", "(II)I"⟩
abbrev cX7_odds : ByteArray := prog_1_method_27_code
def yX7_odds : MethodName := ⟨RX7, "odds", "(III)I"⟩
abbrev cX7_look : ByteArray := prog_1_method_28_code
def yX7_look : MethodName := ⟨RX7, "look", "(I)I"⟩
abbrev cX7_alike : ByteArray := prog_1_method_29_code
def yX7_alike : MethodName := ⟨RX7, "alike", "(II)I"⟩
abbrev cX7_suits : ByteArray := prog_1_method_30_code
def yX7_suits : MethodName := ⟨RX7, "suits", "(III)I"⟩
abbrev cX7_luck : ByteArray := prog_1_method_31_code
def yX7_luck : MethodName := ⟨RX7, "luck", "(III)I"⟩
abbrev cX7_pads : ByteArray := prog_1_method_32_code
def yX7_pads : MethodName := ⟨RX7, "pads", "(IIII)I"⟩
abbrev cX7_all : ByteArray := prog_1_method_33_code
def yX7_all : MethodName := ⟨RX7, "all", "(II)I"⟩
abbrev cX7_finds : ByteArray := prog_1_method_34_code
def yX7_finds : MethodName := ⟨RX7, "finds", "(III)I"⟩
abbrev cX7_posts : ByteArray := prog_1_method_35_code
def yX7_posts : MethodName := ⟨RX7, "posts", "(II)I"⟩
abbrev cX7_plan : ByteArray := prog_1_method_36_code
def yX7_plan : MethodName := ⟨RX7, "plan", "(II)I"⟩
abbrev cX7_plans : ByteArray := prog_1_method_37_code
def yX7_plans : MethodName := ⟨RX7, "plans", "(I)I"⟩
abbrev cX7_safest : ByteArray := prog_1_method_38_code
def yX7_safest : MethodName := ⟨RX7, "safest", "(I)I"⟩
abbrev cX7_gain : ByteArray := prog_1_method_39_code
def yX7_gain : MethodName := ⟨RX7, "gain", "(II)I"⟩
abbrev cX7_learn : ByteArray := prog_1_method_40_code
def yX7_learn : MethodName := ⟨RX7, "learn", "(II)I"⟩
abbrev cX7_tells : ByteArray := prog_1_method_41_code
def yX7_tells : MethodName := ⟨RX7, "tells", "(I)I"⟩
abbrev cX7_lots : ByteArray := prog_1_method_42_code
def yX7_lots : MethodName := ⟨RX7, "lots", "(III)I"⟩
abbrev cX7_asked : ByteArray := prog_1_method_43_code
def yX7_asked : MethodName := ⟨RX7, "asked", "()I"⟩
abbrev cX7_upper : ByteArray := prog_1_method_44_code
def yX7_upper : MethodName := ⟨RX7, "upper", "()J"⟩
abbrev cX7_lower : ByteArray := prog_1_method_45_code
def yX7_lower : MethodName := ⟨RX7, "lower", "()J"⟩
abbrev cX7_count : ByteArray := prog_1_method_46_code
def yX7_count : MethodName := ⟨RX7, "count", "(I)I"⟩
abbrev cX7_finding : ByteArray := prog_1_method_47_code
def yX7_finding : MethodName := ⟨RX7, "finding", "()I"⟩
abbrev cX7_findings : ByteArray := prog_1_method_48_code
def yX7_findings : MethodName := ⟨RX7, "findings", "(I)I"⟩
abbrev cX7_digest : ByteArray := prog_1_method_49_code
def yX7_digest : MethodName := ⟨RX7, "digest", "()J"⟩
abbrev cX7_isPlace : ByteArray := prog_1_method_50_code
def yX7_isPlace : MethodName := ⟨RX7, "isPlace", "(I)Z"⟩
abbrev cX7_isKeptPlace : ByteArray := prog_1_method_51_code
def yX7_isKeptPlace : MethodName := ⟨RX7, "isKeptPlace", "(I)Z"⟩
abbrev cX7_nextLot : ByteArray := prog_1_method_52_code
def yX7_nextLot : MethodName := ⟨RX7, "nextLot", "(J)J"⟩
abbrev cX7_findingOfReading : ByteArray := prog_1_method_53_code
def yX7_findingOfReading : MethodName := ⟨RX7, "findingOfReading", "(I)I"⟩
abbrev cX7_findingOfThrees : ByteArray := prog_1_method_54_code
def yX7_findingOfThrees : MethodName := ⟨RX7, "findingOfThrees", "(I)I"⟩
abbrev cX7_findingOfFates : ByteArray := prog_1_method_55_code
def yX7_findingOfFates : MethodName := ⟨RX7, "findingOfFates", "(I)I"⟩
abbrev cX7_threesFit : ByteArray := prog_1_method_56_code
def yX7_threesFit : MethodName := ⟨RX7, "threesFit", "(IIII)Z"⟩
abbrev cX7_layBestPlan : ByteArray := prog_1_method_57_code
def yX7_layBestPlan : MethodName := ⟨RX7, "layBestPlan", "(I)I"⟩
abbrev cX7_presentOffices : ByteArray := prog_1_method_58_code
def yX7_presentOffices : MethodName := ⟨RX7, "presentOffices", "()I"⟩
def RX8 : String := "ThumbReaderModel"
def TX8 : u_T := fun k => match k with
  | 0 => ("ThumbReaderModel", "finding", "I", false)
  | 1 => ("ThumbReaderModel", "findings", "[I", true)
  | 2 => ("ThumbReaderModel", "asked", "I", false)
  | 3 => ("ThumbReaderModel", "upper", "J", false)
  | 4 => ("ThumbReaderModel", "lower", "J", false)
  | 5 => ("ThumbReaderModel", "sizes", "[I", true)
  | 6 => ("ThumbReaderModel", "rows", "[I", true)
  | 7 => ("ThumbReaderModel", "moving", "[I", true)
  | 8 => ("ThumbReaderModel", "lengths", "[I", true)
  | 9 => ("ThumbReaderModel", "texts", "[I", true)
  | 10 => ("ThumbReaderModel", "many", "I", false)
  | 11 => ("ThumbReaderModel", "thumbMany", "I", false)
  | 12 => ("ThumbReaderModel", "postMany", "I", false)
  | 13 => ("ThumbReaderModel", "heads", "[I", true)
  | 14 => ("ThumbReaderModel", "thumbs", "[I", true)
  | 15 => ("ThumbReaderModel", "posts", "[I", true)
  | 16 => ("ThumbReaderModel", "readAt", "I", false)
  | 17 => ("ThumbReaderModel", "readHeads", "I", false)
  | 18 => ("ThumbReaderModel", "readThumbs", "I", false)
  | 19 => ("ThumbReaderModel", "readPosts", "I", false)
  | 20 => ("ThumbReaderModel", "read", "[I", true)
  | 21 => ("ThumbReaderModel", "deedMany", "I", false)
  | 22 => ("ThumbReaderModel", "notes", "[I", true)
  | 23 => ("ThumbReaderModel", "kept", "[I", true)
  | 24 => ("ThumbReaderModel", "may", "[I", true)
  | 25 => ("ThumbReaderModel", "gives", "[I", true)
  | 26 => ("ThumbReaderModel", "bestGives", "[I", true)
  | 27 => ("ThumbReaderModel", "bestPay", "I", false)
  | 28 => ("ThumbReaderModel", "planMany", "J", false)
  | 29 => ("ThumbReaderModel", "drawn", "[I", true)
  | _ => ("ThumbReaderModel", "h0", "J", false)
def tyX8 : Nat → FieldType := fun k => match k with
  | 0 => .int
  | 1 => .array .int
  | 2 => .int
  | 3 => .long
  | 4 => .long
  | 5 => .array .int
  | 6 => .array .int
  | 7 => .array .int
  | 8 => .array .int
  | 9 => .array .int
  | 10 => .int
  | 11 => .int
  | 12 => .int
  | 13 => .array .int
  | 14 => .array .int
  | 15 => .array .int
  | 16 => .int
  | 17 => .int
  | 18 => .int
  | 19 => .int
  | 20 => .array .int
  | 21 => .int
  | 22 => .array .int
  | 23 => .array .int
  | 24 => .array .int
  | 25 => .array .int
  | 26 => .array .int
  | 27 => .int
  | 28 => .long
  | 29 => .array .int
  | _ => .long
theorem nmX8 : ∀ a, a < 31 → ∀ b, b < 31 → a ≠ b → (TX8 a).2.1 ≠ (TX8 b).2.1 := by decide +kernel
theorem tyX8_ok : ∀ k, k < 31 → parseFieldDescriptor (TX8 k).2.2.1 = some (tyX8 k) := by decide +kernel
abbrev cX8_init : ByteArray := prog_10_method_1_code
def yX8_init : MethodName := ⟨RX8, "<init>", "()V"⟩
abbrev cX8_in : ByteArray := prog_10_method_3_code
def yX8_in : MethodName := ⟨RX8, "in", "(III)Z"⟩
abbrev cX8_meet : ByteArray := prog_10_method_4_code
def yX8_meet : MethodName := ⟨RX8, "meet", "(I)I"⟩
abbrev cX8_ask : ByteArray := prog_10_method_5_code
def yX8_ask : MethodName := ⟨RX8, "ask", "(II)I"⟩
abbrev cX8_has : ByteArray := prog_10_method_6_code
def yX8_has : MethodName := ⟨RX8, "has", "(II)Z"⟩
abbrev cX8_lesser : ByteArray := prog_10_method_7_code
def yX8_lesser : MethodName := ⟨RX8, "lesser", "(II)I"⟩
abbrev cX8_greater : ByteArray := prog_10_method_8_code
def yX8_greater : MethodName := ⟨RX8, "greater", "(II)I"⟩
abbrev cX8_part : ByteArray := prog_10_method_9_code
def yX8_part : MethodName := ⟨RX8, "part", "(JJ)I"⟩
abbrev cX8_isRow : ByteArray := prog_10_method_10_code
def yX8_isRow : MethodName := ⟨RX8, "isRow", "(I)Z"⟩
abbrev cX8_isText : ByteArray := prog_10_method_11_code
def yX8_isText : MethodName := ⟨RX8, "isText", "(I)Z"⟩
abbrev cX8_askedRow : ByteArray := prog_10_method_12_code
def yX8_askedRow : MethodName := ⟨RX8, "askedRow", "(I)I"⟩
abbrev cX8_askedText : ByteArray := prog_10_method_13_code
def yX8_askedText : MethodName := ⟨RX8, "askedText", "(I)I"⟩
abbrev cX8_rowAt : ByteArray := prog_10_method_14_code
def yX8_rowAt : MethodName := ⟨RX8, "rowAt", "(II)I"⟩
abbrev cX8_setRow : ByteArray := prog_10_method_15_code
def yX8_setRow : MethodName := ⟨RX8, "setRow", "(III)V"⟩
abbrev cX8_row : ByteArray := prog_10_method_16_code
def yX8_row : MethodName := ⟨RX8, "row", "(II)I"⟩
abbrev cX8_at : ByteArray := prog_10_method_17_code
def yX8_at : MethodName := ⟨RX8, "at", "(II)I"⟩
abbrev cX8_lay : ByteArray := prog_10_method_18_code
def yX8_lay : MethodName := ⟨RX8, "lay", "(III)I"⟩
abbrev cX8_tear : ByteArray := prog_10_method_19_code
def yX8_tear : MethodName := ⟨RX8, "tear", "(I)I"⟩
abbrev cX8_copy : ByteArray := prog_10_method_20_code
def yX8_copy : MethodName := ⟨RX8, "copy", "(IIIII)I"⟩
abbrev cX8_mean : ByteArray := prog_10_method_21_code
def yX8_mean : MethodName := ⟨RX8, "mean", "(I)I"⟩
abbrev cX8_text : ByteArray := prog_10_method_22_code
def yX8_text : MethodName := ⟨RX8, "text", "(II)I"⟩
abbrev cX8_put : ByteArray := prog_10_method_23_code
def yX8_put : MethodName := ⟨RX8, "put", "(III)I"⟩
abbrev cX8_here : ByteArray := prog_10_method_24_code
def yX8_here : MethodName := ⟨RX8, "here", "(I)I"⟩
abbrev cX8_figure : ByteArray := prog_10_method_25_code
def yX8_figure : MethodName := ⟨RX8, "figure", "(IIII)Z"⟩
abbrev cX8_kindOf : ByteArray := prog_10_method_26_code
def yX8_kindOf : MethodName := ⟨RX8, "kindOf", "(I)I"⟩
abbrev cX8_readsHead : ByteArray := prog_10_method_27_code
def yX8_readsHead : MethodName := ⟨RX8, "readsHead", "(I)Z"⟩
abbrev cX8_readsThumb : ByteArray := prog_10_method_28_code
def yX8_readsThumb : MethodName := ⟨RX8, "readsThumb", "(I)Z"⟩
abbrev cX8_readsPost : ByteArray := prog_10_method_29_code
def yX8_readsPost : MethodName := ⟨RX8, "readsPost", "(I)Z"⟩
abbrev cX8_goesOn : ByteArray := prog_10_method_30_code
def yX8_goesOn : MethodName := ⟨RX8, "goesOn", "(I)I"⟩
abbrev cX8_fault : ByteArray := prog_10_method_31_code
def yX8_fault : MethodName := ⟨RX8, "fault", "(I)I"⟩
abbrev cX8_office : ByteArray := prog_10_method_32_code
def yX8_office : MethodName := ⟨RX8, "office", "(I)I"⟩
abbrev cX8_isHead : ByteArray := prog_10_method_33_code
def yX8_isHead : MethodName := ⟨RX8, "isHead", "(I)Z"⟩
abbrev cX8_isThumb : ByteArray := prog_10_method_34_code
def yX8_isThumb : MethodName := ⟨RX8, "isThumb", "(I)Z"⟩
abbrev cX8_isPost : ByteArray := prog_10_method_35_code
def yX8_isPost : MethodName := ⟨RX8, "isPost", "(I)Z"⟩
abbrev cX8_isPlace : ByteArray := prog_10_method_36_code
def yX8_isPlace : MethodName := ⟨RX8, "isPlace", "(I)Z"⟩
abbrev cX8_bump : ByteArray := prog_10_method_37_code
def yX8_bump : MethodName := ⟨RX8, "bump", "(II)I"⟩
abbrev cX8_bumps : ByteArray := prog_10_method_38_code
def yX8_bumps : MethodName := ⟨RX8, "bumps", "(I)I"⟩
abbrev cX8_headOf : ByteArray := prog_10_method_39_code
def yX8_headOf : MethodName := ⟨RX8, "headOf", "(II)I"⟩
abbrev cX8_head : ByteArray := prog_10_method_40_code
def yX8_head : MethodName := ⟨RX8, "head", "(II)I"⟩
abbrev cX8_thumb : ByteArray := prog_10_method_41_code
def yX8_thumb : MethodName := ⟨RX8, "thumb", "(II)I"⟩
abbrev cX8_post : ByteArray := prog_10_method_42_code
def yX8_post : MethodName := ⟨RX8, "post", "(II)I"⟩
abbrev cX8_isA : ByteArray := prog_10_method_43_code
def yX8_isA : MethodName := ⟨RX8, "isA", "(II)Z"⟩
abbrev cX8_felt : ByteArray := prog_10_method_44_code
def yX8_felt : MethodName := ⟨RX8, "felt", "(II)I"⟩
abbrev cX8_middleOf : ByteArray := prog_10_method_45_code
def yX8_middleOf : MethodName := ⟨RX8, "middleOf", "(IIII)I"⟩
abbrev cX8_middle : ByteArray := prog_10_method_46_code
def yX8_middle : MethodName := ⟨RX8, "middle", "(III)I"⟩
abbrev cX8_least : ByteArray := prog_10_method_47_code
def yX8_least : MethodName := ⟨RX8, "least", "(III)I"⟩
abbrev cX8_most : ByteArray := prog_10_method_48_code
def yX8_most : MethodName := ⟨RX8, "most", "(III)I"⟩
abbrev cX8_marked : ByteArray := prog_10_method_49_code
def yX8_marked : MethodName := ⟨RX8, "marked", "(II)I"⟩
abbrev cX8_mark : ByteArray := prog_10_method_50_code
def yX8_mark : MethodName := ⟨RX8, "mark", "(II)I"⟩
abbrev cX8_error : ByteArray := prog_10_method_51_code
def yX8_error : MethodName := ⟨RX8, "error", "(II)I"⟩
abbrev cX8_write : ByteArray := prog_10_method_52_code
def yX8_write : MethodName := ⟨RX8, "write", "([II)V"⟩
abbrev cX8_readBack : ByteArray := prog_10_method_53_code
def yX8_readBack : MethodName := ⟨RX8, "readBack", "([II)V"⟩
abbrev cX8_note : ByteArray := prog_10_method_54_code
def yX8_note : MethodName := ⟨RX8, "note", "()V"⟩
abbrev cX8_pad : ByteArray := prog_10_method_55_code
def yX8_pad : MethodName := ⟨RX8, "pad", "(II)I"⟩
abbrev cX8_grow : ByteArray := prog_10_method_56_code
def yX8_grow : MethodName := ⟨RX8, "grow", "(I)I"⟩
abbrev cX8_cut : ByteArray := prog_10_method_57_code
def yX8_cut : MethodName := ⟨RX8, "cut", "(II)I"⟩
abbrev cX8_undo : ByteArray := prog_10_method_58_code
def yX8_undo : MethodName := ⟨RX8, "undo", "(I)I"⟩
abbrev cX8_keep : ByteArray := prog_10_method_59_code
def yX8_keep : MethodName := ⟨RX8, "keep", "(I)I"⟩
abbrev cX8_on : ByteArray := prog_10_method_60_code
def yX8_on : MethodName := ⟨RX8, "on", "(I)I"⟩
abbrev cX8_reads : ByteArray := prog_10_method_61_code
def yX8_reads : MethodName := ⟨RX8, "reads", "(III)I"⟩
abbrev cX8_askedReading : ByteArray := prog_10_method_62_code
def yX8_askedReading : MethodName := ⟨RX8, "askedReading", "(I)I"⟩
abbrev cX8_doesFit : ByteArray := prog_10_method_63_code
def yX8_doesFit : MethodName := ⟨RX8, "doesFit", "(III)Z"⟩
abbrev cX8_fits : ByteArray := prog_10_method_64_code
def yX8_fits : MethodName := ⟨RX8, "fits", "(III)I"⟩
abbrev cX8_headsBy : ByteArray := prog_10_method_65_code
def yX8_headsBy : MethodName := ⟨RX8, "headsBy", "(II)I"⟩
abbrev cX8_whose : ByteArray := prog_10_method_66_code
def yX8_whose : MethodName := ⟨RX8, "whose", "(II)I"⟩
abbrev cX8_who : ByteArray := prog_10_method_67_code
def yX8_who : MethodName := ⟨RX8, "who", "(II)I"⟩
abbrev cX8_spread : ByteArray := prog_10_method_68_code
def yX8_spread : MethodName := ⟨RX8, "spread", "(III)I"⟩
abbrev cX8_weight : ByteArray := prog_10_method_69_code
def yX8_weight : MethodName := ⟨RX8, "weight", "(III)J"⟩
abbrev cX8_odds : ByteArray := prog_10_method_70_code
def yX8_odds : MethodName := ⟨RX8, "odds", "(III)I"⟩
abbrev cX8_areApart : ByteArray := prog_10_method_71_code
def yX8_areApart : MethodName := ⟨RX8, "areApart", "(IIII)Z"⟩
abbrev cX8_look : ByteArray := prog_10_method_72_code
def yX8_look : MethodName := ⟨RX8, "look", "(I)I"⟩
abbrev cX8_alike : ByteArray := prog_10_method_73_code
def yX8_alike : MethodName := ⟨RX8, "alike", "(II)I"⟩
abbrev cX8_need : ByteArray := prog_10_method_74_code
def yX8_need : MethodName := ⟨RX8, "need", "(II)I"⟩
abbrev cX8_suitsOf : ByteArray := prog_10_method_75_code
def yX8_suitsOf : MethodName := ⟨RX8, "suitsOf", "(III)I"⟩
abbrev cX8_suits : ByteArray := prog_10_method_76_code
def yX8_suits : MethodName := ⟨RX8, "suits", "(III)I"⟩
abbrev cX8_luck : ByteArray := prog_10_method_77_code
def yX8_luck : MethodName := ⟨RX8, "luck", "(III)I"⟩
abbrev cX8_padsAt : ByteArray := prog_10_method_78_code
def yX8_padsAt : MethodName := ⟨RX8, "padsAt", "(IIII)I"⟩
abbrev cX8_pads : ByteArray := prog_10_method_79_code
def yX8_pads : MethodName := ⟨RX8, "pads", "(IIII)I"⟩
abbrev cX8_all : ByteArray := prog_10_method_80_code
def yX8_all : MethodName := ⟨RX8, "all", "(II)I"⟩
abbrev cX8_finds : ByteArray := prog_10_method_81_code
def yX8_finds : MethodName := ⟨RX8, "finds", "(III)I"⟩
abbrev cX8_posts : ByteArray := prog_10_method_82_code
def yX8_posts : MethodName := ⟨RX8, "posts", "(II)I"⟩
abbrev cX8_layMay : ByteArray := prog_10_method_83_code
def yX8_layMay : MethodName := ⟨RX8, "layMay", "(I)V"⟩
abbrev cX8_planOn : ByteArray := prog_10_method_84_code
def yX8_planOn : MethodName := ⟨RX8, "planOn", "(III)V"⟩
abbrev cX8_goPlans : ByteArray := prog_10_method_85_code
def yX8_goPlans : MethodName := ⟨RX8, "goPlans", "(I)V"⟩
abbrev cX8_layPlan : ByteArray := prog_10_method_86_code
def yX8_layPlan : MethodName := ⟨RX8, "layPlan", "(I)I"⟩
abbrev cX8_plan : ByteArray := prog_10_method_87_code
def yX8_plan : MethodName := ⟨RX8, "plan", "(II)I"⟩
abbrev cX8_plans : ByteArray := prog_10_method_88_code
def yX8_plans : MethodName := ⟨RX8, "plans", "(I)I"⟩
abbrev cX8_safest : ByteArray := prog_10_method_89_code
def yX8_safest : MethodName := ⟨RX8, "safest", "(I)I"⟩
abbrev cX8_gain : ByteArray := prog_10_method_90_code
def yX8_gain : MethodName := ⟨RX8, "gain", "(II)I"⟩
abbrev cX8_doesLearn : ByteArray := prog_10_method_91_code
def yX8_doesLearn : MethodName := ⟨RX8, "doesLearn", "(IIII)Z"⟩
abbrev cX8_learn : ByteArray := prog_10_method_92_code
def yX8_learn : MethodName := ⟨RX8, "learn", "(II)I"⟩
abbrev cX8_tells : ByteArray := prog_10_method_93_code
def yX8_tells : MethodName := ⟨RX8, "tells", "(I)I"⟩
abbrev cX8_isAlone : ByteArray := prog_10_method_94_code
def yX8_isAlone : MethodName := ⟨RX8, "isAlone", "(II)Z"⟩
abbrev cX8_lots : ByteArray := prog_10_method_95_code
def yX8_lots : MethodName := ⟨RX8, "lots", "(III)I"⟩
abbrev cX8_asked : ByteArray := prog_10_method_96_code
def yX8_asked : MethodName := ⟨RX8, "asked", "()I"⟩
abbrev cX8_upper : ByteArray := prog_10_method_97_code
def yX8_upper : MethodName := ⟨RX8, "upper", "()J"⟩
abbrev cX8_lower : ByteArray := prog_10_method_98_code
def yX8_lower : MethodName := ⟨RX8, "lower", "()J"⟩
abbrev cX8_tellsOf : ByteArray := prog_10_method_99_code
def yX8_tellsOf : MethodName := ⟨RX8, "tellsOf", "(I)I"⟩
abbrev cX8_count : ByteArray := prog_10_method_100_code
def yX8_count : MethodName := ⟨RX8, "count", "(I)I"⟩
abbrev cX8_finding : ByteArray := prog_10_method_101_code
def yX8_finding : MethodName := ⟨RX8, "finding", "()I"⟩
abbrev cX8_findings : ByteArray := prog_10_method_102_code
def yX8_findings : MethodName := ⟨RX8, "findings", "(I)I"⟩
abbrev cX8_mix : ByteArray := prog_10_method_103_code
def yX8_mix : MethodName := ⟨RX8, "mix", "(I)V"⟩
abbrev cX8_mixOffice : ByteArray := prog_10_method_104_code
def yX8_mixOffice : MethodName := ⟨RX8, "mixOffice", "()V"⟩
abbrev cX8_digest : ByteArray := prog_10_method_105_code
def yX8_digest : MethodName := ⟨RX8, "digest", "()J"⟩
def RJ9 : String := "java/lang/Math"
def TJ9 : u_T := fun k => match k with
  | _ => ("", "", "", false)
def tyJ9 : Nat → FieldType := fun k => match k with
  | _ => .int
theorem nmJ9 : ∀ a, a < 0 → ∀ b, b < 0 → a ≠ b → (TJ9 a).2.1 ≠ (TJ9 b).2.1 := by decide +kernel
theorem tyJ9_ok : ∀ k, k < 0 → parseFieldDescriptor (TJ9 k).2.2.1 = some (tyJ9 k) := by decide +kernel
abbrev cJ9_abs_0f7a4 : ByteArray := prog_11_method_59_code
def yJ9_abs_0f7a4 : MethodName := ⟨RJ9, "abs", "(I)I"⟩
abbrev cJ9_max_7cf53 : ByteArray := prog_11_method_65_code
def yJ9_max_7cf53 : MethodName := ⟨RJ9, "max", "(II)I"⟩
abbrev cJ9_min_7cf53 : ByteArray := prog_11_method_69_code
def yJ9_min_7cf53 : MethodName := ⟨RJ9, "min", "(II)I"⟩
def RJ10 : String := "java/lang/System"
def TJ10 : u_T := fun k => match k with
  | _ => ("", "", "", false)
def tyJ10 : Nat → FieldType := fun k => match k with
  | _ => .int
theorem nmJ10 : ∀ a, a < 0 → ∀ b, b < 0 → a ≠ b → (TJ10 a).2.1 ≠ (TJ10 b).2.1 := by decide +kernel
theorem tyJ10_ok : ∀ k, k < 0 → parseFieldDescriptor (TJ10 k).2.2.1 = some (tyJ10 k) := by decide +kernel
def RL : String := "ThumbReaderLaw"
abbrev cL_law : ByteArray := code
def yL_law : MethodName := ⟨RL, "law", "([I)Z"⟩
abbrev vwCl : List vw_C := [(RX0, TX0, 3), (RX2, TX2, 7), (RX3, TX3, 3), (RX4, TX4, 3), (RX5, TX5, 2), (RX6, TX6, 5), (RX7, TX7, 9), (RX8, TX8, 31)]
end
section
/-! ===== the abstract heap: ints and longs by cell and place; the three references that change (now, draft, Scan.office) ===== -/
abbrev hh_ : Type := (Nat → Nat → Int32) × (Nat → Nat → Int64) × Nat × Nat × Nat
def hh_up {α : Type} (f : Nat → Nat → α) (a k : Nat) (v : α) : Nat → Nat → α := fun b j => if b = a ∧ j = k then v else f b j
def hh_sI (h : hh_) (a k : Nat) (v : Int32) : hh_ := (hh_up h.1 a k v, h.2)
def hh_sL (h : hh_) (a k : Nat) (v : Int64) : hh_ := (h.1, hh_up h.2.1 a k v, h.2.2)
def hh_sN (h : hh_) (v : Nat) : hh_ := (h.1, h.2.1, v, h.2.2.2)
def hh_sD (h : hh_) (v : Nat) : hh_ := (h.1, h.2.1, h.2.2.1, v, h.2.2.2.2)
def hh_sO (h : hh_) (v : Nat) : hh_ := (h.1, h.2.1, h.2.2.1, h.2.2.2.1, v)
def hh_cp (h : hh_) (a b sp dp n : Nat) : hh_ := (fun c j => if c = b then va_cpy (h.1 a) (h.1 b) sp dp n j else h.1 c j, h.2)
/-- the shapes of the cells, by the order in which the constructors make them: (0, class), (1, n) int[n], (2, n) int[n][], (3, n) Kept[n] -/
def sh_L : List (Nat × Nat) := [(9, 0), (0, 6), (0, 4), (2, 6), (1, 40), (1, 40), (1, 40), (1, 40), (1, 40), (1, 40), (1, 6), (0, 4), (2, 4), (1, 80), (1, 80), (1, 80), (1, 80), (1, 4), (3, 3), (0, 3), (0, 2), (1, 5), (2, 6), (1, 16), (1, 16), (1, 16), (1, 16), (1, 16), (1, 16), (2, 6), (1, 16), (1, 16), (1, 16), (1, 16), (1, 16), (1, 16), (0, 5), (1, 6), (1, 4),
  (0, 1), (2, 5), (1, 5), (1, 5), (1, 5), (1, 5), (1, 5), (2, 5), (1, 5), (1, 5), (1, 5), (1, 5), (1, 5), (2, 4), (1, 3), (1, 3), (1, 3), (1, 3), (2, 4), (1, 5), (1, 5), (1, 5), (1, 5), (1, 3), (1, 40),
  (0, 1), (2, 5), (1, 5), (1, 5), (1, 5), (1, 5), (1, 5), (2, 5), (1, 5), (1, 5), (1, 5), (1, 5), (1, 5), (2, 4), (1, 3), (1, 3), (1, 3), (1, 3), (2, 4), (1, 5), (1, 5), (1, 5), (1, 5), (1, 3), (1, 40),
  (0, 0), (1, 40), (1, 4), (0, 0), (1, 40), (1, 4), (0, 0), (1, 40), (1, 4),
  (0, 7), (1, 6), (1, 6), (1, 240), (1, 40), (1, 4), (1, 320), (1, 25), (1, 12), (1, 20), (1, 60), (1, 1000), (1, 3090), (1, 5), (1, 5), (1, 5), (1, 4)]
def sh_ (k : Nat) : Nat × Nat := sh_L.getD k (9, 0)
/-- the kinds of fields: 0 int, 1 long, 2 reference -/
def fk_L : List (List Nat) := [[2, 2, 0], [2, 2, 2, 2, 2, 2, 0], [2, 2, 2], [2, 0, 0], [2, 2], [2, 0, 0, 1, 1], [2, 2, 2, 2, 2, 2, 2, 2, 2], [0, 2, 0, 1, 1, 2, 2, 2, 2, 2, 0, 0, 0, 2, 2, 2, 0, 0, 0, 0, 2, 0, 2, 2, 2, 2, 2, 0, 1, 2, 1]]
def fk_ (ci j : Nat) : Nat := (fk_L.getD ci []).getD j 9
def nf_ (ci : Nat) : Nat := (fk_L.getD ci []).length
/-- the references that never change, by class, object, field -/
def rc_ (ci k j : Nat) : Nat := match ci with
  | 0 => k + [1, 2].getD j 0
  | 1 => k + [1, 7, 13, 18, 23, 24].getD j 0
  | 2 => k + [1, 2, 9].getD j 0
  | 4 => if k = 2 then [3, 10].getD j 0 else [12, 17].getD j 0
  | 5 => k + 1
  | 6 => [2, 11, 18, 19, 20, 36, 38].getD j 0
  | 7 => [0, 99, 0, 0, 0, 100, 101, 102, 103, 104, 0, 0, 0, 105, 106, 107, 0, 0, 0, 0, 108, 0, 109, 110, 111, 112, 113, 0, 0, 114, 0].getD j 0
  | _ => 0
def rf_ (h : hh_) (ci k j : Nat) : Nat := if k = 1 ∧ j = 7 then h.2.2.1 else if k = 1 ∧ j = 8 then h.2.2.2.1 else if k = 19 ∧ j = 0 then h.2.2.2.2 else rc_ ci k j
/-- elements of an array of references -/
def re_ (t k j : Nat) : Nat := if t = 2 then k + 1 + j else 89 + 3 * j
/-- static arrays: names, contents -/
def sn_L : List (String × List Int32) := [("FIGURES", [5, 2, 5]), ("LOWEST", [0, 0, 0, 0, 0, 0, 0, 0, 0, 0, 0, 0, 0, 0, 1]), ("HIGHEST", [5, 5, 5, 5, 3, 2, 3, 0, 0, 0, 6, 6, 6, 6, 9]), ("LETTERS", [116, 118, 108, 119, 99, 100]), ("MOST_ITEMS", [5, 4, 4]), ("ABOVE", [0, 0, 0, 0, 3, 1]), ("MORE", [0, -1, 1, 0, 1, -1]), ("MORE_AT_WISH", [0, 0, 0, 1, 1, 0]), ("TOP_MIDDLE", [9, 9, 9, 9, 9, 3])]
def sn_ (k : Nat) : String × List Int32 := sn_L.getD k ("", [])
/-- a run's fixed numbers: class numbers, slots, array classes, the address ahead of the first cell, the static arrays' addresses -/
abbrev gt_ : Type := (Nat → ClassId) × (Nat → Nat → Nat) × ClassId × ClassId × ClassId × Nat × (Nat → Nat)
abbrev gt_C (G : gt_) : Nat → ClassId := G.1
abbrev gt_I (G : gt_) : Nat → Nat → Nat := G.2.1
abbrev gt_1 (G : gt_) : ClassId := G.2.2.1
abbrev gt_2 (G : gt_) : ClassId := G.2.2.2.1
abbrev gt_3 (G : gt_) : ClassId := G.2.2.2.2.1
abbrev gt_B (G : gt_) : Nat := G.2.2.2.2.2.1
abbrev gt_S (G : gt_) : Nat → Nat := G.2.2.2.2.2.2
abbrev gt_A (G : gt_) : Nat → Prop := fun q => gt_B G < q
def rv_ (G : gt_) (r : Nat) : Value := if r = 0 then .null else .ref (gt_B G + r)
def cv_ (G : gt_) (v : Value) : Value := match v with
  | .ref k => if k = 0 then .null else if k < 500 then .ref (gt_B G + k) else .ref (gt_S G (k - 500))
  | v => v
theorem cv_rv (G : gt_) {r : Nat} (h : r < 500) : cv_ G (.ref r) = rv_ G r := by
  unfold cv_ rv_
  by_cases e : r = 0
  · simp [e]
  · simp [e, h]
theorem cv_ref (G : gt_) {r : Nat} (h0 : 0 < r) (h : r < 500) : cv_ G (.ref r) = .ref (gt_B G + r) := by
  unfold cv_
  simp [Nat.ne_of_gt h0, h]
theorem cv_sta (G : gt_) (k : Nat) : cv_ G (.ref (500 + k)) = .ref (gt_S G k) := by
  unfold cv_
  have h : ¬ 500 + k < 500 := by omega
  simp [h]
theorem cv_cat (G : gt_) (v : Value) : (cv_ G v).category = v.category := by
  cases v with
  | ref k => unfold cv_; by_cases e : k = 0 <;> by_cases e2 : k < 500 <;> simp [e, e2, Value.category]
  | _ => rfl
theorem sh_rng {k t n : Nat} (h : sh_ k = (t, n)) (ht : t ≠ 9) : 0 < k ∧ k ≤ 114 := by
  unfold sh_ at h
  have hl : sh_L.length = 115 := by decide
  by_cases hk : k < 115
  · refine ⟨?_, by omega⟩
    rcases Nat.eq_zero_or_pos k with e | e
    · subst e
      exact absurd (congrArg Prod.fst h).symm ht
    · exact e
  · rw [List.getD_eq_getElem?_getD, List.getElem?_eq_none (by omega)] at h
    exact absurd (congrArg Prod.fst h).symm ht
/-- a cell, as the abstract heap has it (ρ: its references) -/
def fv_ (G : gt_) (h : hh_) (ρ : Nat → Nat → Nat) (ci k j : Nat) : Value := if fk_ ci j = 0 then .int (h.1 k j) else if fk_ ci j = 1 then .long (h.2.1 k j) else rv_ G (ρ k j)
def ce_ (G : gt_) (h : hh_) (ρ : Nat → Nat → Nat) (H : Heap) (k : Nat) : Prop :=
  (∀ ci, sh_ k = (0, ci) → t_OB (gt_B G + k) (gt_C G ci) (nf_ ci) (gt_I G ci) H (fv_ G h ρ ci k)) ∧
  (∀ n, sh_ k = (1, n) → H[gt_B G + k]? = some (arrV (gt_1 G) n (fun j => .int (h.1 k j)))) ∧
  (∀ n, sh_ k = (2, n) → H[gt_B G + k]? = some (arrV (gt_2 G) n (fun j => rv_ G (ρ k j)))) ∧
  (∀ n, sh_ k = (3, n) → H[gt_B G + k]? = some (arrV (gt_3 G) n (fun j => rv_ G (ρ k j))))
def hg_ (G : gt_) (U : State) (nx : Nat) (ρ : Nat → Nat → Nat) (h : hh_) (H : Heap) : Prop :=
  H.size = gt_B G + 1 + nx ∧ (∀ k, k ≤ nx → ce_ G h ρ H k) ∧ ∀ k, k < 9 → va_T .int (gt_S G k) (sn_ k).2.length (fun j => .int ((sn_ k).2.getD j 0)) (gt_A G) U H ∧ va_Z "ThumbReader" (sn_ k).1 "[I" (.ref (gt_S G k)) (gt_A G) U H
def rr_ (h : hh_) (k j : Nat) : Nat := match sh_ k with
  | (0, ci) => rf_ h ci k j
  | (t, _) => re_ t k j
def hw_ (G : gt_) (U : State) (h : hh_) (H : Heap) : Prop := hg_ G U 114 (rr_ h) h H ∧ h.2.2.1 < 500 ∧ h.2.2.2.1 < 500 ∧ h.2.2.2.2 < 500
def isNest_ (w : Cond) : Bool := match w with
  | .fieldLinkNest _ _ _ _ _ _ => true
  | .methodLinkNest _ _ _ _ => true
  | _ => false
def nw_ : List Cond := lw_tbl.filter isNest_
def gw_ : List Cond := lw_tbl.filter goodWord
def kn_ (G : gt_) (U : State) : Prop := (∀ (c : Nat) (q : vw_C), vwCl[c]? = some q → u_Kn U q.1 q.2.1 q.2.2 (gt_C G c) (gt_I G c)) ∧ ArrOfT U (gt_1 G) .int ∧ ArrOfT U (gt_2 G) (.array .int) ∧ ArrOfT U (gt_3 G) (.object "ThumbReader$Kept") ∧ ∀ w ∈ nw_, va_Nw w U
theorem kn_.warm {G : gt_} {s U : State} (hW : s.WarmedH U.vm) (h : kn_ G s) : kn_ G U := by
  refine ⟨fun c q hq => u_Kn_moved hW.alike (h.1 c q hq), arrOfT_moved hW.alike h.2.1, arrOfT_moved hW.alike h.2.2.1, arrOfT_moved hW.alike h.2.2.2.1, fun w hw => ?_⟩
  have h1 := h.2.2.2.2 w hw
  have h2 := (List.mem_filter.mp hw).2
  unfold isNest_ at h2
  split at h2
  · exact va_Nw.warmF hW h1
  · exact va_Nw.warmM hW h1
  · cases h2
theorem kn_.same {G : gt_} {s U : State} (hv : s.vm = U.vm) (h : kn_ G s) : kn_ G U := by
  have hW : s.WarmedH U.vm := by rw [← hv]; exact State.WarmedH.refl s
  exact h.warm hW
theorem hg_.moved {G : gt_} {s U : State} {nx : Nat} {ρ : Nat → Nat → Nat} {h : hh_} {H : Heap} (hvm : s.vm.Alike U.vm) (w : hg_ G s nx ρ h H) : hg_ G U nx ρ h H :=
  ⟨w.1, w.2.1, fun k hk => ⟨(w.2.2 k hk).1.moved hvm, (w.2.2 k hk).2.moved hvm⟩⟩
theorem hw_.moved {G : gt_} {s U : State} {h : hh_} {H : Heap} (hvm : s.vm.Alike U.vm) (w : hw_ G s h H) : hw_ G U h H := ⟨w.1.moved hvm, w.2⟩
/-- locals: by slots; none: nothing is said of it -/
def lr_ (G : gt_) (ls : Array Slot) (nL : Nat) (lv : List (Option Value)) : Prop := ls.size = nL ∧ lv_wf ls ∧ ∀ (i : Nat) (v : Value), lv[i]? = some (some v) → ls[i]? = some (.val (cv_ G v))
def lc_ (lv : List (Option Value)) (i : Nat) : List (Option Value) := match i with
  | 0 => lv
  | j + 1 => match lv[j]? with
    | some (some v) => if v.category = 2 then lv.set j none else lv
    | _ => lv
def l1_ (lv : List (Option Value)) (i : Nat) (v : Value) : List (Option Value) := (lc_ lv i).set i (some v)
def l2_ (lv : List (Option Value)) (i : Nat) (v : Value) : List (Option Value) := ((lc_ lv i).set i (some v)).set (i + 1) none
def la_ (G : gt_) (lv : List (Option Value)) : List (Nat × Value) := (List.range lv.length).filterMap (fun i => match lv[i]? with | some (some v) => some (i, cv_ G v) | _ => none)
theorem la_mem {G : gt_} {lv : List (Option Value)} {i : Nat} {w : Value} : (i, w) ∈ la_ G lv ↔ ∃ v, lv[i]? = some (some v) ∧ w = cv_ G v := by
  unfold la_
  rw [List.mem_filterMap]
  constructor
  · rintro ⟨j, -, hj⟩
    split at hj
    · rename_i v hv
      cases hj
      exact ⟨v, hv, rfl⟩
    · cases hj
  · rintro ⟨v, hv, rfl⟩
    refine ⟨i, List.mem_range.mpr (List.getElem?_eq_some_iff.mp hv).1, ?_⟩
    rw [hv]
theorem lr_has {G : gt_} {ls : Array Slot} {nL : Nat} {lv : List (Option Value)} (h : lr_ G ls nL lv) : lv_has ls nL (la_ G lv) := ⟨h.1, h.2.1, fun q hq => by
  obtain ⟨v, hv, e⟩ := (la_mem (i := q.1) (w := q.2)).mp hq
  rw [e]
  exact h.2.2 _ _ hv⟩
theorem lc_get {lv : List (Option Value)} {i j : Nat} {v : Value} (h : (lc_ lv i)[j]? = some (some v)) : lv[j]? = some (some v) ∧ (j + 1 = i → ¬ v.category = 2) := by
  unfold lc_ at h
  split at h
  · exact ⟨h, fun e => by omega⟩
  · rename_i j0
    split at h
    · rename_i w hx
      by_cases hc : w.category = 2
      · rw [if_pos hc] at h
        by_cases e : j = j0
        · subst e
          rw [List.getElem?_set_self (List.getElem?_eq_some_iff.mp hx).1] at h
          cases h
        · rw [List.getElem?_set_ne (Ne.symm e)] at h
          exact ⟨h, fun e2 => by omega⟩
      · rw [if_neg hc] at h
        refine ⟨h, fun e => ?_⟩
        have e1 : j = j0 := by omega
        subst e1
        rw [hx] at h
        cases h
        exact hc
    · rename_i hn
      refine ⟨h, fun e => ?_⟩
      have e1 : j = j0 := by omega
      subst e1
      exact absurd h (hn v)
theorem lr_store1 {G : gt_} {ls : Array Slot} {nL : Nat} {lv : List (Option Value)} {i : Nat} {v : Value} (hl : ∀ q ∈ (i, cv_ G v) :: (la_ G lv).filter (fun q => !(q.1 == i) && !(q.1 + 1 == i && q.2.category == 2)), ls[q.1]? = some (.val q.2)) (hs : ls.size = nL) (hw : lv_wf ls) : lr_ G ls nL (l1_ lv i v) := by
  refine ⟨hs, hw, fun j w hj => ?_⟩
  unfold l1_ at hj
  by_cases e : j = i
  · subst e
    have h1 := hj
    by_cases hlt : j < (lc_ lv j).length
    · rw [List.getElem?_set_self hlt] at h1
      cases h1
      exact hl _ List.mem_cons_self
    · rw [List.getElem?_eq_none (by rw [List.length_set]; omega)] at h1
      cases h1
  · rw [List.getElem?_set_ne (Ne.symm e)] at hj
    obtain ⟨h1, h2⟩ := lc_get hj
    refine hl (j, cv_ G w) (List.mem_cons_of_mem _ (List.mem_filter.mpr ⟨la_mem.mpr ⟨w, h1, rfl⟩, ?_⟩))
    simp only [cv_cat]
    by_cases e2 : j + 1 = i
    · simp [e, h2 e2]
    · simp [e, e2]
theorem lr_store2 {G : gt_} {ls : Array Slot} {nL : Nat} {lv : List (Option Value)} {i : Nat} {v : Value} (hl : ∀ q ∈ (i, cv_ G v) :: (la_ G lv).filter (fun q => !(q.1 == i) && (!(q.1 == i + 1) && !(q.1 + 1 == i && q.2.category == 2))), ls[q.1]? = some (.val q.2)) (hs : ls.size = nL) (hw : lv_wf ls) : lr_ G ls nL (l2_ lv i v) := by
  refine ⟨hs, hw, fun j w hj => ?_⟩
  unfold l2_ at hj
  by_cases e3 : j = i + 1
  · subst e3
    by_cases hlt : i + 1 < ((lc_ lv i).set i (some v)).length
    · rw [List.getElem?_set_self hlt] at hj
      cases hj
    · rw [List.getElem?_eq_none (by rw [List.length_set]; omega)] at hj
      cases hj
  · rw [List.getElem?_set_ne (Ne.symm e3)] at hj
    by_cases e : j = i
    · subst e
      by_cases hlt : j < (lc_ lv j).length
      · rw [List.getElem?_set_self hlt] at hj
        cases hj
        exact hl _ List.mem_cons_self
      · rw [List.getElem?_eq_none (by rw [List.length_set]; omega)] at hj
        cases hj
    · rw [List.getElem?_set_ne (Ne.symm e)] at hj
      obtain ⟨h1, h2⟩ := lc_get hj
      refine hl (j, cv_ G w) (List.mem_cons_of_mem _ (List.mem_filter.mpr ⟨la_mem.mpr ⟨w, h1, rfl⟩, ?_⟩))
      simp only [cv_cat]
      by_cases e2 : j + 1 = i
      · simp [e, e3, h2 e2]
      · simp [e, e2, e3]
end
section
/-! ===== where a method stands: program, launch, environment, room, start, method, arguments, frames below, its code; the run's numbers; cells, slots, goal ===== -/
abbrev zz_ : Type := Program × Launch × Env × Room × State × MethodId × Array Value × List Frame × Method × Code × gt_ × Nat × Nat × (State → Prop)
abbrev z_p (Z : zz_) : Program := Z.1
abbrev z_l (Z : zz_) : Launch := Z.2.1
abbrev z_e (Z : zz_) : Env := Z.2.2.1
abbrev z_R (Z : zz_) : Room := Z.2.2.2.1
abbrev z_s (Z : zz_) : State := Z.2.2.2.2.1
abbrev z_m (Z : zz_) : MethodId := Z.2.2.2.2.2.1
abbrev z_a (Z : zz_) : Array Value := Z.2.2.2.2.2.2.1
abbrev z_b (Z : zz_) : List Frame := Z.2.2.2.2.2.2.2.1
abbrev z_t (Z : zz_) : Method := Z.2.2.2.2.2.2.2.2.1
abbrev z_c (Z : zz_) : Code := Z.2.2.2.2.2.2.2.2.2.1
abbrev z_G (Z : zz_) : gt_ := Z.2.2.2.2.2.2.2.2.2.2.1
abbrev z_k (Z : zz_) : Nat := Z.2.2.2.2.2.2.2.2.2.2.2.1
abbrev z_n (Z : zz_) : Nat := Z.2.2.2.2.2.2.2.2.2.2.2.2.1
abbrev z_Q (Z : zz_) : State → Prop := Z.2.2.2.2.2.2.2.2.2.2.2.2.2
/-- a method: its name, bytes, locals, what it returns -/
abbrev mt_ : Type := MethodName × ByteArray × Nat × Option FieldType
def ww_ (Z : zz_) (H : Heap) (locs : List Loc) (g : JFrame) : Prop := W (z_p Z) (z_l Z) (z_e Z) (z_R Z) (z_s Z) (z_m Z) (z_a Z) (z_b Z) (z_t Z) (z_c Z) H locs (z_k Z) (z_n Z) (z_Q Z) g
/-- THE JUDGEMENT: from here, with these locals, this stack, this heap, the goal is come to -/
def xx_ (Z : zz_) (pc : Nat) (lv : List (Option Value)) (st : List Value) (h : hh_) : Prop :=
  ∀ (H : Heap) (locs : List Loc) (ls : Array Slot), hw_ (z_G Z) (z_s Z) h H → va_S (gt_A (z_G Z)) (z_s Z).heap H locs → lr_ (z_G Z) ls (z_c Z).maxLocals lv → ww_ Z H locs (F0 (z_m Z) pc ls (st.map (cv_ (z_G Z))))
def cx_ (Z : zz_) (M : mt_) (d : Nat) : Prop :=
  (z_p Z).tables.exec = Jvm.exec ∧ (z_c Z).code = M.2.1 ∧ (z_t Z).sig.returnType = M.2.2.2 ∧ (z_c Z).maxLocals = M.2.2.1 ∧ (z_s Z).vm.findClass M.1.cls = some (z_m Z).cls ∧ (∀ w ∈ gw_, w.before (z_a Z) (z_s Z) = true) ∧ kn_ (z_G Z) (z_s Z) ∧ (z_t Z).locks = false ∧ d ≤ (z_R Z).frames ∧ 100 * d ≤ (z_R Z).locals ∧ z_k Z ≤ (z_R Z).cells ∧ z_n Z ≤ (z_R Z).slots
theorem cx_.ex {Z : zz_} {M : mt_} {d : Nat} (C : cx_ Z M d) : (z_p Z).tables.exec = Jvm.exec := C.1
theorem cx_.co {Z : zz_} {M : mt_} {d : Nat} (C : cx_ Z M d) : (z_c Z).code = M.2.1 := C.2.1
theorem cx_.re {Z : zz_} {M : mt_} {d : Nat} (C : cx_ Z M d) : (z_t Z).sig.returnType = M.2.2.2 := C.2.2.1
theorem cx_.ml {Z : zz_} {M : mt_} {d : Nat} (C : cx_ Z M d) : (z_c Z).maxLocals = M.2.2.1 := C.2.2.2.1
theorem cx_.ow {Z : zz_} {M : mt_} {d : Nat} (C : cx_ Z M d) : (z_s Z).vm.findClass M.1.cls = some (z_m Z).cls := C.2.2.2.2.1
theorem cx_.ts {Z : zz_} {M : mt_} {d : Nat} (C : cx_ Z M d) : ∀ w ∈ gw_, w.before (z_a Z) (z_s Z) = true := C.2.2.2.2.2.1
theorem cx_.kn {Z : zz_} {M : mt_} {d : Nat} (C : cx_ Z M d) : kn_ (z_G Z) (z_s Z) := C.2.2.2.2.2.2.1
theorem cx_.lk {Z : zz_} {M : mt_} {d : Nat} (C : cx_ Z M d) : (z_t Z).locks = false := C.2.2.2.2.2.2.2.1
theorem cx_.fr {Z : zz_} {M : mt_} {d : Nat} (C : cx_ Z M d) : d ≤ (z_R Z).frames ∧ 100 * d ≤ (z_R Z).locals := ⟨C.2.2.2.2.2.2.2.2.1, C.2.2.2.2.2.2.2.2.2.1⟩
theorem cx_.ce {Z : zz_} {M : mt_} {d : Nat} (C : cx_ Z M d) : z_k Z ≤ (z_R Z).cells ∧ z_n Z ≤ (z_R Z).slots := ⟨C.2.2.2.2.2.2.2.2.2.2.1, C.2.2.2.2.2.2.2.2.2.2.2⟩
/-- decode rows in a list -/
abbrev dd_ (b : ByteArray) (l : List (Nat × Instr × Nat)) : Prop := ∀ q ∈ l, decode b q.1 = .ok (q.2.1, q.2.2)
theorem dd_.at {b : ByteArray} {l : List (Nat × Instr × Nat)} (h : dd_ b l) (i : Nat) {pc : Nat} {x : Instr} {n : Nat} (e : l[i]? = some (pc, x, n)) : decode b pc = .ok (x, n) := h (pc, x, n) (List.mem_of_getElem? e)
theorem gw_in {w : Cond} (h : w ∈ lw_tbl) (hg : goodWord w = true) : w ∈ gw_ := List.mem_filter.mpr ⟨h, hg⟩
section XX
variable {Z : zz_} {M : mt_} {d : Nat} {pc : Nat} {lv : List (Option Value)} {st : List Value} {h : hh_}
theorem xx_iconst (C : cx_ Z M d) {n : Int} {v : Int32} (D : decode M.2.1 pc = .ok (.iconst n, 1)) (hv : Int32.ofInt n = v) (K : xx_ Z (pc + 1) lv (.int v :: st) h) : xx_ Z pc lv (st) h := fun H locs ls hw hs hl => lv_iconst C.ex C.co D hv (K H locs ls hw hs hl)
theorem xx_bipush (C : cx_ Z M d) {n : Int} {v : Int32} (D : decode M.2.1 pc = .ok (.bipush n, 2)) (hv : (Int8.ofInt n).toInt32 = v) (K : xx_ Z (pc + 2) lv (.int v :: st) h) : xx_ Z pc lv (st) h := fun H locs ls hw hs hl => lv_bipush C.ex C.co D hv (K H locs ls hw hs hl)
theorem xx_sipush (C : cx_ Z M d) {n : Int} {v : Int32} (D : decode M.2.1 pc = .ok (.sipush n, 3)) (hv : (Int16.ofInt n).toInt32 = v) (K : xx_ Z (pc + 3) lv (.int v :: st) h) : xx_ Z pc lv (st) h := fun H locs ls hw hs hl => lv_sipush C.ex C.co D hv (K H locs ls hw hs hl)
theorem xx_lconst (C : cx_ Z M d) {n : Fin 2} {v : Int64} (D : decode M.2.1 pc = .ok (.lconst n, 1)) (hv : Int64.ofNat (n : Nat) = v) (K : xx_ Z (pc + 1) lv (.long v :: st) h) : xx_ Z pc lv (st) h := fun H locs ls hw hs hl => lv_lconst C.ex C.co D hv (K H locs ls hw hs hl)
theorem xx_ldc2 (C : cx_ Z M d) {idx : Nat} {v : Int64} (D : decode M.2.1 pc = .ok (.ldc2_w idx, 3)) (hv : Cond.constantLong M.1.cls idx v ∈ lw_tbl) (K : xx_ Z (pc + 3) lv (.long v :: st) h) : xx_ Z pc lv (st) h := fun H locs ls hw hs hl => lv_ldc2 C.ex C.co C.ow (C.ts _ (gw_in hv rfl)) D (K H locs ls hw hs hl)
theorem xx_iload_n (C : cx_ Z M d) {k : Fin 4} {x : Int32} (D : decode M.2.1 pc = .ok (.iload_n k, 1)) (e : lv[(k : Nat)]? = some (some (.int x))) (K : xx_ Z (pc + 1) lv (.int x :: st) h) : xx_ Z pc lv (st) h := fun H locs ls hw hs hl => lv_iload_n C.ex C.co D rfl (hl.2.2 _ _ e) (K H locs ls hw hs hl)
theorem xx_iload (C : cx_ Z M d) {k : Nat} {x : Int32} (D : decode M.2.1 pc = .ok (.iload k, 2)) (e : lv[k]? = some (some (.int x))) (K : xx_ Z (pc + 2) lv (.int x :: st) h) : xx_ Z pc lv (st) h := fun H locs ls hw hs hl => lv_iload C.ex C.co D (hl.2.2 _ _ e) (K H locs ls hw hs hl)
theorem xx_lload_n (C : cx_ Z M d) {k : Fin 4} {x : Int64} (D : decode M.2.1 pc = .ok (.lload_n k, 1)) (e : lv[(k : Nat)]? = some (some (.long x))) (K : xx_ Z (pc + 1) lv (.long x :: st) h) : xx_ Z pc lv (st) h := fun H locs ls hw hs hl => lv_lload_n C.ex C.co D rfl (hl.2.2 _ _ e) (K H locs ls hw hs hl)
theorem xx_lload (C : cx_ Z M d) {k : Nat} {x : Int64} (D : decode M.2.1 pc = .ok (.lload k, 2)) (e : lv[k]? = some (some (.long x))) (K : xx_ Z (pc + 2) lv (.long x :: st) h) : xx_ Z pc lv (st) h := fun H locs ls hw hs hl => lv_lload C.ex C.co D (hl.2.2 _ _ e) (K H locs ls hw hs hl)
theorem xx_aload_n (C : cx_ Z M d) {k : Fin 4} {x : Nat} (D : decode M.2.1 pc = .ok (.aload_n k, 1)) (e : lv[(k : Nat)]? = some (some (.ref x))) (hx : 0 < x) (K : xx_ Z (pc + 1) lv (.ref x :: st) h) : xx_ Z pc lv st h := fun H locs ls hw hs hl => by
  have h1 := K H locs ls hw hs hl
  have h2 := hl.2.2 _ _ e
  obtain ⟨a, ea⟩ : ∃ a, cv_ (z_G Z) (.ref x) = .ref a := by
    unfold cv_
    by_cases e2 : x < 500
    · exact ⟨_, by simp [Nat.ne_of_gt hx, e2]; rfl⟩
    · exact ⟨_, by simp [Nat.ne_of_gt hx, e2]; rfl⟩
  rw [ea] at h2
  rw [List.map_cons, ea] at h1
  exact lv_aload_n C.ex C.co D rfl h2 h1
theorem xx_aload (C : cx_ Z M d) {k : Nat} {x : Nat} (D : decode M.2.1 pc = .ok (.aload k, 2)) (e : lv[k]? = some (some (.ref x))) (hx : 0 < x) (K : xx_ Z (pc + 2) lv (.ref x :: st) h) : xx_ Z pc lv st h := fun H locs ls hw hs hl => by
  have h1 := K H locs ls hw hs hl
  have h2 := hl.2.2 _ _ e
  obtain ⟨a, ea⟩ : ∃ a, cv_ (z_G Z) (.ref x) = .ref a := by
    unfold cv_
    by_cases e2 : x < 500
    · exact ⟨_, by simp [Nat.ne_of_gt hx, e2]; rfl⟩
    · exact ⟨_, by simp [Nat.ne_of_gt hx, e2]; rfl⟩
  rw [ea] at h2
  rw [List.map_cons, ea] at h1
  exact lv_aload C.ex C.co D h2 h1
theorem xx_istore_n (C : cx_ Z M d) {k : Fin 4} {x : Int32} {lv' : List (Option Value)} (D : decode M.2.1 pc = .ok (.istore_n k, 1)) (hn : (k : Nat) < M.2.2.1) (e : l1_ lv (k : Nat) (.int x) = lv') (K : xx_ Z (pc + 1) lv' st h) : xx_ Z pc lv (.int x :: st) h := fun H locs ls hw hs hl =>
  lv_istore_n C.ex C.co D rfl (lr_has hl) (by rw [C.ml]; exact hn) rfl (fun ls' h' => K H locs ls' hw hs (e ▸ lr_store1 (v := .int x) h'.2.2 h'.1 h'.2.1))
theorem xx_istore (C : cx_ Z M d) {k : Nat} {x : Int32} {lv' : List (Option Value)} (D : decode M.2.1 pc = .ok (.istore k, 2)) (hn : k < M.2.2.1) (e : l1_ lv k (.int x) = lv') (K : xx_ Z (pc + 2) lv' st h) : xx_ Z pc lv (.int x :: st) h := fun H locs ls hw hs hl =>
  lv_istore C.ex C.co D (lr_has hl) (by rw [C.ml]; exact hn) rfl (fun ls' h' => K H locs ls' hw hs (e ▸ lr_store1 (v := .int x) h'.2.2 h'.1 h'.2.1))
theorem xx_lstore_n (C : cx_ Z M d) {k : Fin 4} {x : Int64} {lv' : List (Option Value)} (D : decode M.2.1 pc = .ok (.lstore_n k, 1)) (hn : (k : Nat) + 1 < M.2.2.1) (e : l2_ lv (k : Nat) (.long x) = lv') (K : xx_ Z (pc + 1) lv' st h) : xx_ Z pc lv (.long x :: st) h := fun H locs ls hw hs hl =>
  lv_lstore_n C.ex C.co D rfl (lr_has hl) (by rw [C.ml]; exact hn) rfl (fun ls' h' => K H locs ls' hw hs (e ▸ lr_store2 (v := .long x) h'.2.2 h'.1 h'.2.1))
theorem xx_lstore (C : cx_ Z M d) {k : Nat} {x : Int64} {lv' : List (Option Value)} (D : decode M.2.1 pc = .ok (.lstore k, 2)) (hn : k + 1 < M.2.2.1) (e : l2_ lv k (.long x) = lv') (K : xx_ Z (pc + 2) lv' st h) : xx_ Z pc lv (.long x :: st) h := fun H locs ls hw hs hl =>
  lv_lstore C.ex C.co D (lr_has hl) (by rw [C.ml]; exact hn) rfl (fun ls' h' => K H locs ls' hw hs (e ▸ lr_store2 (v := .long x) h'.2.2 h'.1 h'.2.1))
theorem xx_astore_n (C : cx_ Z M d) {k : Fin 4} {x : Nat} {lv' : List (Option Value)} (D : decode M.2.1 pc = .ok (.astore_n k, 1)) (hn : (k : Nat) < M.2.2.1) (hx : 0 < x ∧ x < 500) (e : l1_ lv (k : Nat) (.ref x) = lv') (K : xx_ Z (pc + 1) lv' st h) : xx_ Z pc lv (.ref x :: st) h := fun H locs ls hw hs hl => by
  unfold ww_
  rw [List.map_cons, cv_ref _ hx.1 hx.2]
  exact lv_astore_n C.ex C.co D rfl (lr_has hl) (by rw [C.ml]; exact hn) rfl (fun ls' h' => K H locs ls' hw hs (e ▸ lr_store1 (v := .ref x) (by rw [cv_ref _ hx.1 hx.2]; exact h'.2.2) h'.1 h'.2.1))
theorem xx_astore (C : cx_ Z M d) {k : Nat} {x : Nat} {lv' : List (Option Value)} (D : decode M.2.1 pc = .ok (.astore k, 2)) (hn : k < M.2.2.1) (hx : 0 < x ∧ x < 500) (e : l1_ lv k (.ref x) = lv') (K : xx_ Z (pc + 2) lv' st h) : xx_ Z pc lv (.ref x :: st) h := fun H locs ls hw hs hl => by
  unfold ww_
  rw [List.map_cons, cv_ref _ hx.1 hx.2]
  exact lv_astore C.ex C.co D (lr_has hl) (by rw [C.ml]; exact hn) rfl (fun ls' h' => K H locs ls' hw hs (e ▸ lr_store1 (v := .ref x) (by rw [cv_ref _ hx.1 hx.2]; exact h'.2.2) h'.1 h'.2.1))
theorem xx_iinc (C : cx_ Z M d) {i : Nat} {n : Int} {x v : Int32} {lv' : List (Option Value)} (D : decode M.2.1 pc = .ok (.iinc i n, 3)) (hn : i < M.2.2.1) (e0 : lv[i]? = some (some (.int x))) (hv : x + Int32.ofInt n = v) (e : l1_ lv i (.int v) = lv') (K : xx_ Z (pc + 3) lv' st h) : xx_ Z pc lv st h := fun H locs ls hw hs hl => by
  obtain ⟨k, hk⟩ := List.getElem?_of_mem (la_mem (G := z_G Z) (w := .int x) |>.mpr ⟨_, e0, rfl⟩)
  exact lv_iinc C.ex C.co D (lr_has hl) hk hv (by rw [C.ml]; exact hn) rfl (fun ls' h' => K H locs ls' hw hs (e ▸ lr_store1 (v := .int v) h'.2.2 h'.1 h'.2.1))
theorem xx_iadd (C : cx_ Z M d) {x y : Int32} (D : decode M.2.1 pc = .ok (.iadd, 1)) (K : xx_ Z (pc + 1) lv (.int (x + y) :: st) h) : xx_ Z pc lv (.int y :: .int x :: st) h := fun H locs ls hw hs hl => lv_iadd C.ex C.co D (K H locs ls hw hs hl)
theorem xx_isub (C : cx_ Z M d) {x y : Int32} (D : decode M.2.1 pc = .ok (.isub, 1)) (K : xx_ Z (pc + 1) lv (.int (x - y) :: st) h) : xx_ Z pc lv (.int y :: .int x :: st) h := fun H locs ls hw hs hl => lv_isub C.ex C.co D (K H locs ls hw hs hl)
theorem xx_imul (C : cx_ Z M d) {x y : Int32} (D : decode M.2.1 pc = .ok (.imul, 1)) (K : xx_ Z (pc + 1) lv (.int (x * y) :: st) h) : xx_ Z pc lv (.int y :: .int x :: st) h := fun H locs ls hw hs hl => lv_imul C.ex C.co D (K H locs ls hw hs hl)
theorem xx_iand (C : cx_ Z M d) {x y : Int32} (D : decode M.2.1 pc = .ok (.iand, 1)) (K : xx_ Z (pc + 1) lv (.int (x &&& y) :: st) h) : xx_ Z pc lv (.int y :: .int x :: st) h := fun H locs ls hw hs hl => lv_iand C.ex C.co D (K H locs ls hw hs hl)
theorem xx_ior (C : cx_ Z M d) {x y : Int32} (D : decode M.2.1 pc = .ok (.ior, 1)) (K : xx_ Z (pc + 1) lv (.int (x ||| y) :: st) h) : xx_ Z pc lv (.int y :: .int x :: st) h := fun H locs ls hw hs hl => lv_ior C.ex C.co D (K H locs ls hw hs hl)
theorem xx_ixor (C : cx_ Z M d) {x y : Int32} (D : decode M.2.1 pc = .ok (.ixor, 1)) (K : xx_ Z (pc + 1) lv (.int (x ^^^ y) :: st) h) : xx_ Z pc lv (.int y :: .int x :: st) h := fun H locs ls hw hs hl => lv_ixor C.ex C.co D (K H locs ls hw hs hl)
theorem xx_ishl (C : cx_ Z M d) {x y : Int32} (D : decode M.2.1 pc = .ok (.ishl, 1)) (K : xx_ Z (pc + 1) lv (.int (x <<< (y &&& 31)) :: st) h) : xx_ Z pc lv (.int y :: .int x :: st) h := fun H locs ls hw hs hl => lv_ishl C.ex C.co D (K H locs ls hw hs hl)
theorem xx_ishr (C : cx_ Z M d) {x y : Int32} (D : decode M.2.1 pc = .ok (.ishr, 1)) (K : xx_ Z (pc + 1) lv (.int (x >>> (y &&& 31)) :: st) h) : xx_ Z pc lv (.int y :: .int x :: st) h := fun H locs ls hw hs hl => lv_ishr C.ex C.co D (K H locs ls hw hs hl)
theorem xx_idiv (C : cx_ Z M d) {x y : Int32} (D : decode M.2.1 pc = .ok (.idiv, 1)) (hne : ¬ y = 0) (K : xx_ Z (pc + 1) lv (.int (x / y) :: st) h) : xx_ Z pc lv (.int y :: .int x :: st) h := fun H locs ls hw hs hl => lv_idiv C.ex C.co D hne (K H locs ls hw hs hl)
theorem xx_irem (C : cx_ Z M d) {x y : Int32} (D : decode M.2.1 pc = .ok (.irem, 1)) (hne : ¬ y = 0) (K : xx_ Z (pc + 1) lv (.int (x - x / y * y) :: st) h) : xx_ Z pc lv (.int y :: .int x :: st) h := fun H locs ls hw hs hl => lv_irem C.ex C.co D hne (K H locs ls hw hs hl)
theorem xx_ladd (C : cx_ Z M d) {x y : Int64} (D : decode M.2.1 pc = .ok (.ladd, 1)) (K : xx_ Z (pc + 1) lv (.long (x + y) :: st) h) : xx_ Z pc lv (.long y :: .long x :: st) h := fun H locs ls hw hs hl => lv_ladd C.ex C.co D (K H locs ls hw hs hl)
theorem xx_lmul (C : cx_ Z M d) {x y : Int64} (D : decode M.2.1 pc = .ok (.lmul, 1)) (K : xx_ Z (pc + 1) lv (.long (x * y) :: st) h) : xx_ Z pc lv (.long y :: .long x :: st) h := fun H locs ls hw hs hl => lv_lmul C.ex C.co D (K H locs ls hw hs hl)
theorem xx_ldiv (C : cx_ Z M d) {x y : Int64} (D : decode M.2.1 pc = .ok (.ldiv, 1)) (hne : ¬ y = 0) (K : xx_ Z (pc + 1) lv (.long (x / y) :: st) h) : xx_ Z pc lv (.long y :: .long x :: st) h := fun H locs ls hw hs hl => lv_ldiv C.ex C.co D hne (K H locs ls hw hs hl)
theorem xx_lrem (C : cx_ Z M d) {x y : Int64} (D : decode M.2.1 pc = .ok (.lrem, 1)) (hne : ¬ y = 0) (K : xx_ Z (pc + 1) lv (.long (x - x / y * y) :: st) h) : xx_ Z pc lv (.long y :: .long x :: st) h := fun H locs ls hw hs hl => lv_lrem C.ex C.co D hne (K H locs ls hw hs hl)
theorem xx_lcmp (C : cx_ Z M d) {x y : Int64} (D : decode M.2.1 pc = .ok (.lcmp, 1)) (K : xx_ Z (pc + 1) lv (.int (lg_cmp x y) :: st) h) : xx_ Z pc lv (.long y :: .long x :: st) h := fun H locs ls hw hs hl => W.lcmp C.ex C.co D (K H locs ls hw hs hl)
theorem xx_i2l (C : cx_ Z M d) {x : Int32} (D : decode M.2.1 pc = .ok (.i2l, 1)) (K : xx_ Z (pc + 1) lv (.long x.toInt64 :: st) h) : xx_ Z pc lv (.int x :: st) h := fun H locs ls hw hs hl => lv_i2l C.ex C.co D rfl (K H locs ls hw hs hl)
theorem xx_l2i (C : cx_ Z M d) {x : Int64} (D : decode M.2.1 pc = .ok (.l2i, 1)) (K : xx_ Z (pc + 1) lv (.int x.toInt32 :: st) h) : xx_ Z pc lv (.long x :: st) h := fun H locs ls hw hs hl => lv_l2i C.ex C.co D rfl (K H locs ls hw hs hl)
theorem xx_i2b (C : cx_ Z M d) {x : Int32} (D : decode M.2.1 pc = .ok (.i2b, 1)) (K : xx_ Z (pc + 1) lv (.int x.toInt8.toInt32 :: st) h) : xx_ Z pc lv (.int x :: st) h := fun H locs ls hw hs hl => lv_i2b C.ex C.co D rfl (K H locs ls hw hs hl)
theorem xx_dup (C : cx_ Z M d) {a : Value} (D : decode M.2.1 pc = .ok (.dup, 1)) (hc : a.category = 1) (K : xx_ Z (pc + 1) lv (a :: a :: st) h) : xx_ Z pc lv (a :: st) h := fun H locs ls hw hs hl => lv_dup C.ex C.co D ((cv_cat _ _).trans hc) (K H locs ls hw hs hl)
theorem xx_pop (C : cx_ Z M d) {a : Value} (D : decode M.2.1 pc = .ok (.pop, 1)) (hc : a.category = 1) (K : xx_ Z (pc + 1) lv (st) h) : xx_ Z pc lv (a :: st) h := fun H locs ls hw hs hl => lv_pop C.ex C.co D ((cv_cat _ _).trans hc) (K H locs ls hw hs hl)
theorem xx_dup2 (C : cx_ Z M d) {a b : Value} (D : decode M.2.1 pc = .ok (.dup2, 1)) (hc : a.category = 1) (hc2 : b.category = 1) (K : xx_ Z (pc + 1) lv (a :: b :: a :: b :: st) h) : xx_ Z pc lv (a :: b :: st) h := fun H locs ls hw hs hl => lv_dup2_11 C.ex C.co D ((cv_cat _ _).trans hc) ((cv_cat _ _).trans hc2) (K H locs ls hw hs hl)
theorem xx_if_eq_t (C : cx_ Z M d) {x : Int32} {off : Int} {tgt : Nat} (D : decode M.2.1 pc = .ok (.ifCond .eq off, 3)) (ht : (pc : Int) + off = (tgt : Int)) (hc : x = 0) (K : xx_ Z tgt lv st h) : xx_ Z pc lv (.int x :: st) h := fun H locs ls hw hs hl => lv_if_eq C.ex C.co D ht (fun _ => K H locs ls hw hs hl) (fun q => absurd hc q)
theorem xx_if_eq_f (C : cx_ Z M d) {x : Int32} {off : Int} {tgt : Nat} (D : decode M.2.1 pc = .ok (.ifCond .eq off, 3)) (ht : (pc : Int) + off = (tgt : Int)) (hc : ¬ x = 0) (K : xx_ Z (pc + 3) lv st h) : xx_ Z pc lv (.int x :: st) h := fun H locs ls hw hs hl => lv_if_eq C.ex C.co D ht (fun q => absurd q hc) (fun _ => K H locs ls hw hs hl)
theorem xx_icmp_eq_t (C : cx_ Z M d) {x y : Int32} {off : Int} {tgt : Nat} (D : decode M.2.1 pc = .ok (.if_icmp .eq off, 3)) (ht : (pc : Int) + off = (tgt : Int)) (hc : x = y) (K : xx_ Z tgt lv st h) : xx_ Z pc lv (.int y :: .int x :: st) h := fun H locs ls hw hs hl => lv_icmp_eq C.ex C.co D ht (fun _ => K H locs ls hw hs hl) (fun q => absurd hc q)
theorem xx_icmp_eq_f (C : cx_ Z M d) {x y : Int32} {off : Int} {tgt : Nat} (D : decode M.2.1 pc = .ok (.if_icmp .eq off, 3)) (ht : (pc : Int) + off = (tgt : Int)) (hc : ¬ x = y) (K : xx_ Z (pc + 3) lv st h) : xx_ Z pc lv (.int y :: .int x :: st) h := fun H locs ls hw hs hl => lv_icmp_eq C.ex C.co D ht (fun q => absurd q hc) (fun _ => K H locs ls hw hs hl)
theorem xx_if_ne_t (C : cx_ Z M d) {x : Int32} {off : Int} {tgt : Nat} (D : decode M.2.1 pc = .ok (.ifCond .ne off, 3)) (ht : (pc : Int) + off = (tgt : Int)) (hc : ¬ x = 0) (K : xx_ Z tgt lv st h) : xx_ Z pc lv (.int x :: st) h := fun H locs ls hw hs hl => lv_if_ne C.ex C.co D ht (fun _ => K H locs ls hw hs hl) (fun q => absurd q hc)
theorem xx_if_ne_f (C : cx_ Z M d) {x : Int32} {off : Int} {tgt : Nat} (D : decode M.2.1 pc = .ok (.ifCond .ne off, 3)) (ht : (pc : Int) + off = (tgt : Int)) (hc : ¬ ¬ x = 0) (K : xx_ Z (pc + 3) lv st h) : xx_ Z pc lv (.int x :: st) h := fun H locs ls hw hs hl => lv_if_ne C.ex C.co D ht (fun q => absurd q hc) (fun _ => K H locs ls hw hs hl)
theorem xx_icmp_ne_t (C : cx_ Z M d) {x y : Int32} {off : Int} {tgt : Nat} (D : decode M.2.1 pc = .ok (.if_icmp .ne off, 3)) (ht : (pc : Int) + off = (tgt : Int)) (hc : ¬ x = y) (K : xx_ Z tgt lv st h) : xx_ Z pc lv (.int y :: .int x :: st) h := fun H locs ls hw hs hl => lv_icmp_ne C.ex C.co D ht (fun _ => K H locs ls hw hs hl) (fun q => absurd q hc)
theorem xx_icmp_ne_f (C : cx_ Z M d) {x y : Int32} {off : Int} {tgt : Nat} (D : decode M.2.1 pc = .ok (.if_icmp .ne off, 3)) (ht : (pc : Int) + off = (tgt : Int)) (hc : ¬ ¬ x = y) (K : xx_ Z (pc + 3) lv st h) : xx_ Z pc lv (.int y :: .int x :: st) h := fun H locs ls hw hs hl => lv_icmp_ne C.ex C.co D ht (fun q => absurd q hc) (fun _ => K H locs ls hw hs hl)
theorem xx_if_lt_t (C : cx_ Z M d) {x : Int32} {off : Int} {tgt : Nat} (D : decode M.2.1 pc = .ok (.ifCond .lt off, 3)) (ht : (pc : Int) + off = (tgt : Int)) (hc : x < 0) (K : xx_ Z tgt lv st h) : xx_ Z pc lv (.int x :: st) h := fun H locs ls hw hs hl => lv_if_lt C.ex C.co D ht (fun _ => K H locs ls hw hs hl) (fun q => absurd hc q)
theorem xx_if_lt_f (C : cx_ Z M d) {x : Int32} {off : Int} {tgt : Nat} (D : decode M.2.1 pc = .ok (.ifCond .lt off, 3)) (ht : (pc : Int) + off = (tgt : Int)) (hc : ¬ x < 0) (K : xx_ Z (pc + 3) lv st h) : xx_ Z pc lv (.int x :: st) h := fun H locs ls hw hs hl => lv_if_lt C.ex C.co D ht (fun q => absurd q hc) (fun _ => K H locs ls hw hs hl)
theorem xx_icmp_lt_t (C : cx_ Z M d) {x y : Int32} {off : Int} {tgt : Nat} (D : decode M.2.1 pc = .ok (.if_icmp .lt off, 3)) (ht : (pc : Int) + off = (tgt : Int)) (hc : x < y) (K : xx_ Z tgt lv st h) : xx_ Z pc lv (.int y :: .int x :: st) h := fun H locs ls hw hs hl => lv_icmp_lt C.ex C.co D ht (fun _ => K H locs ls hw hs hl) (fun q => absurd hc q)
theorem xx_icmp_lt_f (C : cx_ Z M d) {x y : Int32} {off : Int} {tgt : Nat} (D : decode M.2.1 pc = .ok (.if_icmp .lt off, 3)) (ht : (pc : Int) + off = (tgt : Int)) (hc : ¬ x < y) (K : xx_ Z (pc + 3) lv st h) : xx_ Z pc lv (.int y :: .int x :: st) h := fun H locs ls hw hs hl => lv_icmp_lt C.ex C.co D ht (fun q => absurd q hc) (fun _ => K H locs ls hw hs hl)
theorem xx_if_ge_t (C : cx_ Z M d) {x : Int32} {off : Int} {tgt : Nat} (D : decode M.2.1 pc = .ok (.ifCond .ge off, 3)) (ht : (pc : Int) + off = (tgt : Int)) (hc : 0 ≤ x) (K : xx_ Z tgt lv st h) : xx_ Z pc lv (.int x :: st) h := fun H locs ls hw hs hl => lv_if_ge C.ex C.co D ht (fun _ => K H locs ls hw hs hl) (fun q => absurd hc q)
theorem xx_if_ge_f (C : cx_ Z M d) {x : Int32} {off : Int} {tgt : Nat} (D : decode M.2.1 pc = .ok (.ifCond .ge off, 3)) (ht : (pc : Int) + off = (tgt : Int)) (hc : ¬ 0 ≤ x) (K : xx_ Z (pc + 3) lv st h) : xx_ Z pc lv (.int x :: st) h := fun H locs ls hw hs hl => lv_if_ge C.ex C.co D ht (fun q => absurd q hc) (fun _ => K H locs ls hw hs hl)
theorem xx_icmp_ge_t (C : cx_ Z M d) {x y : Int32} {off : Int} {tgt : Nat} (D : decode M.2.1 pc = .ok (.if_icmp .ge off, 3)) (ht : (pc : Int) + off = (tgt : Int)) (hc : y ≤ x) (K : xx_ Z tgt lv st h) : xx_ Z pc lv (.int y :: .int x :: st) h := fun H locs ls hw hs hl => lv_icmp_ge C.ex C.co D ht (fun _ => K H locs ls hw hs hl) (fun q => absurd hc q)
theorem xx_icmp_ge_f (C : cx_ Z M d) {x y : Int32} {off : Int} {tgt : Nat} (D : decode M.2.1 pc = .ok (.if_icmp .ge off, 3)) (ht : (pc : Int) + off = (tgt : Int)) (hc : ¬ y ≤ x) (K : xx_ Z (pc + 3) lv st h) : xx_ Z pc lv (.int y :: .int x :: st) h := fun H locs ls hw hs hl => lv_icmp_ge C.ex C.co D ht (fun q => absurd q hc) (fun _ => K H locs ls hw hs hl)
theorem xx_if_gt_t (C : cx_ Z M d) {x : Int32} {off : Int} {tgt : Nat} (D : decode M.2.1 pc = .ok (.ifCond .gt off, 3)) (ht : (pc : Int) + off = (tgt : Int)) (hc : 0 < x) (K : xx_ Z tgt lv st h) : xx_ Z pc lv (.int x :: st) h := fun H locs ls hw hs hl => lv_if_gt C.ex C.co D ht (fun _ => K H locs ls hw hs hl) (fun q => absurd hc q)
theorem xx_if_gt_f (C : cx_ Z M d) {x : Int32} {off : Int} {tgt : Nat} (D : decode M.2.1 pc = .ok (.ifCond .gt off, 3)) (ht : (pc : Int) + off = (tgt : Int)) (hc : ¬ 0 < x) (K : xx_ Z (pc + 3) lv st h) : xx_ Z pc lv (.int x :: st) h := fun H locs ls hw hs hl => lv_if_gt C.ex C.co D ht (fun q => absurd q hc) (fun _ => K H locs ls hw hs hl)
theorem xx_icmp_gt_t (C : cx_ Z M d) {x y : Int32} {off : Int} {tgt : Nat} (D : decode M.2.1 pc = .ok (.if_icmp .gt off, 3)) (ht : (pc : Int) + off = (tgt : Int)) (hc : y < x) (K : xx_ Z tgt lv st h) : xx_ Z pc lv (.int y :: .int x :: st) h := fun H locs ls hw hs hl => lv_icmp_gt C.ex C.co D ht (fun _ => K H locs ls hw hs hl) (fun q => absurd hc q)
theorem xx_icmp_gt_f (C : cx_ Z M d) {x y : Int32} {off : Int} {tgt : Nat} (D : decode M.2.1 pc = .ok (.if_icmp .gt off, 3)) (ht : (pc : Int) + off = (tgt : Int)) (hc : ¬ y < x) (K : xx_ Z (pc + 3) lv st h) : xx_ Z pc lv (.int y :: .int x :: st) h := fun H locs ls hw hs hl => lv_icmp_gt C.ex C.co D ht (fun q => absurd q hc) (fun _ => K H locs ls hw hs hl)
theorem xx_if_le_t (C : cx_ Z M d) {x : Int32} {off : Int} {tgt : Nat} (D : decode M.2.1 pc = .ok (.ifCond .le off, 3)) (ht : (pc : Int) + off = (tgt : Int)) (hc : x ≤ 0) (K : xx_ Z tgt lv st h) : xx_ Z pc lv (.int x :: st) h := fun H locs ls hw hs hl => lv_if_le C.ex C.co D ht (fun _ => K H locs ls hw hs hl) (fun q => absurd hc q)
theorem xx_if_le_f (C : cx_ Z M d) {x : Int32} {off : Int} {tgt : Nat} (D : decode M.2.1 pc = .ok (.ifCond .le off, 3)) (ht : (pc : Int) + off = (tgt : Int)) (hc : ¬ x ≤ 0) (K : xx_ Z (pc + 3) lv st h) : xx_ Z pc lv (.int x :: st) h := fun H locs ls hw hs hl => lv_if_le C.ex C.co D ht (fun q => absurd q hc) (fun _ => K H locs ls hw hs hl)
theorem xx_icmp_le_t (C : cx_ Z M d) {x y : Int32} {off : Int} {tgt : Nat} (D : decode M.2.1 pc = .ok (.if_icmp .le off, 3)) (ht : (pc : Int) + off = (tgt : Int)) (hc : x ≤ y) (K : xx_ Z tgt lv st h) : xx_ Z pc lv (.int y :: .int x :: st) h := fun H locs ls hw hs hl => lv_icmp_le C.ex C.co D ht (fun _ => K H locs ls hw hs hl) (fun q => absurd hc q)
theorem xx_icmp_le_f (C : cx_ Z M d) {x y : Int32} {off : Int} {tgt : Nat} (D : decode M.2.1 pc = .ok (.if_icmp .le off, 3)) (ht : (pc : Int) + off = (tgt : Int)) (hc : ¬ x ≤ y) (K : xx_ Z (pc + 3) lv st h) : xx_ Z pc lv (.int y :: .int x :: st) h := fun H locs ls hw hs hl => lv_icmp_le C.ex C.co D ht (fun q => absurd q hc) (fun _ => K H locs ls hw hs hl)
theorem xx_goto (C : cx_ Z M d) {off : Int} {tgt : Nat} (D : decode M.2.1 pc = .ok (.goto off, 3)) (ht : (pc : Int) + off = (tgt : Int)) (K : xx_ Z tgt lv st h) : xx_ Z pc lv st h := fun H locs ls hw hs hl => lv_goto C.ex C.co D ht (K H locs ls hw hs hl)
theorem xx_tabOut (C : cx_ Z M d) {dflt lo hi : Int} {offs : Array Int} {len : Nat} {x : Int32} {tgt : Nat} (D : decode M.2.1 pc = .ok (.tableswitch dflt lo hi offs, len)) (hc : x.toInt < lo ∨ hi < x.toInt) (ht : (pc : Int) + dflt = (tgt : Int)) (K : xx_ Z tgt lv st h) : xx_ Z pc lv (.int x :: st) h := fun H locs ls hw hs hl => lv_tableOut C.ex C.co D hc ht (K H locs ls hw hs hl)
theorem xx_tabIn (C : cx_ Z M d) {dflt lo hi : Int} {offs : Array Int} {len : Nat} {x : Int32} {off : Int} {tgt : Nat} (D : decode M.2.1 pc = .ok (.tableswitch dflt lo hi offs, len)) (h1 : ¬ x.toInt < lo) (h2 : ¬ hi < x.toInt) (ho : offs[(x.toInt - lo).toNat]? = some off) (ht : (pc : Int) + off = (tgt : Int)) (K : xx_ Z tgt lv st h) : xx_ Z pc lv (.int x :: st) h := fun H locs ls hw hs hl => lv_tableIn C.ex C.co D h1 h2 ho ht (K H locs ls hw hs hl)
end XX
end
section
/-! ===== heap instructions over the abstract heap ===== -/
theorem uw_0 : ∀ w ∈ u_ws RX0 TX0 3, w ∈ lw_tbl := by decide +kernel
theorem uw_1 : ∀ w ∈ u_ws RX2 TX2 7, w ∈ lw_tbl := by decide +kernel
theorem uw_2 : ∀ w ∈ u_ws RX3 TX3 3, w ∈ lw_tbl := by decide +kernel
theorem uw_3 : ∀ w ∈ u_ws RX4 TX4 3, w ∈ lw_tbl := by decide +kernel
theorem uw_4 : ∀ w ∈ u_ws RX5 TX5 2, w ∈ lw_tbl := by decide +kernel
theorem uw_5 : ∀ w ∈ u_ws RX6 TX6 5, w ∈ lw_tbl := by decide +kernel
theorem uw_6 : ∀ w ∈ u_ws RX7 TX7 9, w ∈ lw_tbl := by decide +kernel
theorem uw_7 : ∀ w ∈ u_ws RX8 TX8 31, w ∈ lw_tbl := by decide +kernel
theorem uw_good {C : String} {T : u_T} {N : Nat} : ∀ w ∈ u_ws C T N, goodWord w = true := by
  intro w hw
  obtain ⟨k, -, rfl⟩ := List.mem_map.mp hw
  unfold u_lay
  split <;> rfl
/-- a class of ours: its row of the table, its types, its words -/
def ck_ (ci : Nat) (q : vw_C) (ty : Nat → FieldType) : Prop := vwCl[ci]? = some q ∧ nf_ ci = q.2.2 ∧ (∀ w ∈ u_ws q.1 q.2.1 q.2.2, w ∈ gw_) ∧ (∀ k, k < q.2.2 → parseFieldDescriptor (q.2.1 k).2.2.1 = some (ty k)) ∧ (∀ a, a < q.2.2 → ∀ b, b < q.2.2 → a ≠ b → (q.2.1 a).2.1 ≠ (q.2.1 b).2.1)
theorem ck_0 : ck_ 0 (RX0, TX0, 3) tyX0 := ⟨rfl, rfl, fun w h => gw_in (uw_0 w h) (uw_good w h), tyX0_ok, nmX0⟩
theorem ck_1 : ck_ 1 (RX2, TX2, 7) tyX2 := ⟨rfl, rfl, fun w h => gw_in (uw_1 w h) (uw_good w h), tyX2_ok, nmX2⟩
theorem ck_2 : ck_ 2 (RX3, TX3, 3) tyX3 := ⟨rfl, rfl, fun w h => gw_in (uw_2 w h) (uw_good w h), tyX3_ok, nmX3⟩
theorem ck_3 : ck_ 3 (RX4, TX4, 3) tyX4 := ⟨rfl, rfl, fun w h => gw_in (uw_3 w h) (uw_good w h), tyX4_ok, nmX4⟩
theorem ck_4 : ck_ 4 (RX5, TX5, 2) tyX5 := ⟨rfl, rfl, fun w h => gw_in (uw_4 w h) (uw_good w h), tyX5_ok, nmX5⟩
theorem ck_5 : ck_ 5 (RX6, TX6, 5) tyX6 := ⟨rfl, rfl, fun w h => gw_in (uw_5 w h) (uw_good w h), tyX6_ok, nmX6⟩
theorem ck_6 : ck_ 6 (RX7, TX7, 9) tyX7 := ⟨rfl, rfl, fun w h => gw_in (uw_6 w h) (uw_good w h), tyX7_ok, nmX7⟩
theorem ck_7 : ck_ 7 (RX8, TX8, 31) tyX8 := ⟨rfl, rfl, fun w h => gw_in (uw_7 w h) (uw_good w h), tyX8_ok, nmX8⟩
/-- the word that links a field: an own one, or a nest mate's -/
def fl_ (own : String) (idx : Nat) (r : String × String × String × Bool) : Prop := Cond.fieldLink own idx r.1 r.2.1 r.2.2.1 ∈ lw_tbl ∨ Cond.fieldLinkNest own idx r.1 r.2.1 r.2.2.1 "ThumbReader" ∈ lw_tbl
theorem nw_in {own : String} {idx : Nat} {a b c e : String} (h : Cond.fieldLinkNest own idx a b c e ∈ lw_tbl) : Cond.fieldLinkNest own idx a b c e ∈ nw_ := List.mem_filter.mpr ⟨h, rfl⟩
section YY
variable {Z : zz_} {M : mt_} {d : Nat} {pc : Nat} {lv : List (Option Value)} {st : List Value} {h : hh_} {H : Heap} {locs : List Loc} {ls : Array Slot} {rest : List Value}
theorem ww_getf (C : cx_ Z M d) {ci j o idx : Nat} {q : vw_C} {ty : Nat → FieldType} {ρ : Nat → Nat → Nat} (ck : ck_ ci q ty) (hj : j < q.2.2) (lk : fl_ M.1.cls idx (q.2.1 j)) (hc : t_OB (gt_B (z_G Z) + o) (gt_C (z_G Z) ci) (nf_ ci) (gt_I (z_G Z) ci) H (fv_ (z_G Z) h ρ ci o)) (D : decode M.2.1 pc = .ok (.getfield idx, 3))
    (K : ww_ Z H locs (F0 (z_m Z) (pc + 3) ls (fv_ (z_G Z) h ρ ci o j :: rest))) : ww_ Z H locs (F0 (z_m Z) pc ls (.ref (gt_B (z_G Z) + o) :: rest)) := by
  obtain ⟨cell, q1, q2, q3, q4⟩ := hc
  obtain ⟨hS, hfc, kC, hkC, hkind⟩ := C.kn.1 ci q ck.1
  obtain ⟨cf, kf, fi, f, hi, hsl⟩ := hS j hj
  have hst := (u_facts hfc hkC (u_lays C.ts ck.2.2.1 hj) hi).1
  have hv : cell.slots[f.slot]? = some (fv_ (z_G Z) h ρ ci o j) := by rw [hsl]; exact q4 j (by rw [ck.2.1]; exact hj)
  rcases lk with lk | lk
  · exact W.getf C.ex C.co C.ow (C.ts _ (gw_in lk rfl)) hi hst q1 (by rw [q3]; exact fun h => by cases h) hv rfl rfl D K
  · exact va_Wgetf C.ex C.co C.ow (va_Nw.use rfl (C.kn.2.2.2.2 _ (nw_in lk))) hi hst q1 (by rw [q3]; exact fun h => by cases h) hv rfl rfl D K
/-- the shape's cell in the world -/
theorem hw_.ob {G : gt_} {U : State} (hw : hw_ G U h H) {o ci : Nat} (so : sh_ o = (0, ci)) : t_OB (gt_B G + o) (gt_C G ci) (nf_ ci) (gt_I G ci) H (fv_ G h (rr_ h) ci o) := (hw.1.2.1 o (sh_rng so (by decide)).2).1 ci so
theorem hw_.ia {G : gt_} {U : State} (hw : hw_ G U h H) {o n : Nat} (so : sh_ o = (1, n)) : H[gt_B G + o]? = some (arrV (gt_1 G) n (fun j => .int (h.1 o j))) := (hw.1.2.1 o (sh_rng so (by decide)).2).2.1 n so
theorem rr_ob {o ci j : Nat} (so : sh_ o = (0, ci)) : rr_ h o j = rf_ h ci o j := by unfold rr_; rw [so]; rfl
theorem rr_ar {o t n j : Nat} (so : sh_ o = (t, n)) (ht : t ≠ 0) : rr_ h o j = re_ t o j := by
  unfold rr_
  rw [so]
  cases t with
  | zero => exact absurd rfl ht
  | succ t => rfl
theorem xx_getI (C : cx_ Z M d) {ci j o idx : Nat} {q : vw_C} {ty : Nat → FieldType} (ck : ck_ ci q ty) (hj : j < q.2.2) (lk : fl_ M.1.cls idx (q.2.1 j)) (so : sh_ o = (0, ci)) (hk : fk_ ci j = 0) (D : decode M.2.1 pc = .ok (.getfield idx, 3)) (K : xx_ Z (pc + 3) lv (.int (h.1 o j) :: st) h) : xx_ Z pc lv (.ref o :: st) h := fun H locs ls hw hs hl => by
  have hr := sh_rng so (by decide)
  rw [List.map_cons, cv_ref _ hr.1 (by omega)]
  refine ww_getf C ck hj lk (hw.ob so) D ?_
  have e : fv_ (z_G Z) h (rr_ h) ci o j = .int (h.1 o j) := by unfold fv_; rw [if_pos hk]
  rw [e]
  exact K H locs ls hw hs hl
theorem xx_getL (C : cx_ Z M d) {ci j o idx : Nat} {q : vw_C} {ty : Nat → FieldType} (ck : ck_ ci q ty) (hj : j < q.2.2) (lk : fl_ M.1.cls idx (q.2.1 j)) (so : sh_ o = (0, ci)) (hk : fk_ ci j = 1) (D : decode M.2.1 pc = .ok (.getfield idx, 3)) (K : xx_ Z (pc + 3) lv (.long (h.2.1 o j) :: st) h) : xx_ Z pc lv (.ref o :: st) h := fun H locs ls hw hs hl => by
  have hr := sh_rng so (by decide)
  rw [List.map_cons, cv_ref _ hr.1 (by omega)]
  refine ww_getf C ck hj lk (hw.ob so) D ?_
  have e : fv_ (z_G Z) h (rr_ h) ci o j = .long (h.2.1 o j) := by unfold fv_; rw [if_neg (by omega), if_pos hk]
  rw [e]
  exact K H locs ls hw hs hl
theorem rf_lt {ci k j : Nat} {G : gt_} {U : State} (hw : hw_ G U h H) (so : sh_ k = (0, ci)) (hj : rc_ ci k j < 500) : rf_ h ci k j < 500 := by
  unfold rf_
  split
  · exact hw.2.1
  · split
    · exact hw.2.2.1
    · split
      · exact hw.2.2.2
      · exact hj
theorem xx_getR (C : cx_ Z M d) {ci j o idx r : Nat} {q : vw_C} {ty : Nat → FieldType} (ck : ck_ ci q ty) (hj : j < q.2.2) (lk : fl_ M.1.cls idx (q.2.1 j)) (so : sh_ o = (0, ci)) (hk : fk_ ci j = 2) (hr0 : rc_ ci o j < 500) (e0 : rf_ h ci o j = r) (D : decode M.2.1 pc = .ok (.getfield idx, 3)) (K : xx_ Z (pc + 3) lv (.ref r :: st) h) : xx_ Z pc lv (.ref o :: st) h := fun H locs ls hw hs hl => by
  have hr := sh_rng so (by decide)
  rw [List.map_cons, cv_ref _ hr.1 (by omega)]
  refine ww_getf C ck hj lk (hw.ob so) D ?_
  have e : fv_ (z_G Z) h (rr_ h) ci o j = cv_ (z_G Z) (.ref r) := by
    unfold fv_
    rw [if_neg (by omega), if_neg (by omega), rr_ob so, ← e0, cv_rv _ (rf_lt hw so hr0)]
  rw [e]
  exact K H locs ls hw hs hl
/-- one cell changes -/
theorem hw_.upd {G : gt_} {s : State} {h' : hh_} {H' : Heap} {o : Nat} (hw : hw_ G s h H) (ho : 0 < o ∧ o ≤ 114) (hn : h'.2.2.1 < 500 ∧ h'.2.2.2.1 < 500 ∧ h'.2.2.2.2 < 500) (z : H'.size = H.size) (oq : ∀ q : Nat, q ≠ gt_B G + o → H'[q]? = H[q]?) (hc : ce_ G h' (rr_ h') H' o) (hi : ∀ k j, k ≠ o → h'.1 k j = h.1 k j) (hl : ∀ k j, k ≠ o → h'.2.1 k j = h.2.1 k j) (hr : ∀ k j, k ≠ o → rr_ h' k j = rr_ h k j) : hw_ G s h' H' := by
  refine ⟨⟨z.trans hw.1.1, fun k hk => ?_, fun k hk => ?_⟩, hn⟩
  · by_cases e : k = o
    · subst e; exact hc
    · obtain ⟨c0, c1, c2, c3⟩ := hw.1.2.1 k hk
      have eq : H'[gt_B G + k]? = H[gt_B G + k]? := oq _ (by omega)
      refine ⟨fun ci s => ?_, fun n s => ?_, fun n s => ?_, fun n s => ?_⟩
      · refine (c0 ci s).kept eq |>.to (fun j _ => ?_)
        unfold fv_
        rw [hi k j e, hl k j e, hr k j e]
      · rw [eq, c1 n s]; congr 1; congr 1; funext j; rw [hi k j e]
      · rw [eq, c2 n s]; congr 1; congr 1; funext j; rw [hr k j e]
      · rw [eq, c3 n s]; congr 1; congr 1; funext j; rw [hr k j e]
  · have h1 := hw.1.2.2 k hk
    have kq : ∀ a : Nat, a < H.size → ¬ gt_A G a → H'[a]? = H[a]? := fun a _ ha => oq a (fun e => ha (by show gt_B G < a; omega))
    exact ⟨h1.1.kept kq, h1.2.kept kq⟩
theorem ww_putf (C : cx_ Z M d) {ci j o idx : Nat} {q : vw_C} {ty : Nat → FieldType} {v : Value} (ck : ck_ ci q ty) (hj : j < q.2.2) (lk : fl_ M.1.cls idx (q.2.1 j)) (hfin : (q.2.1 j).2.2.2 = false) (hv : narrow (ty j) v = v) (hf : fits (ty j) v = true) (hw : hw_ (z_G Z) (z_s Z) h H) (so : sh_ o = (0, ci)) (D : decode M.2.1 pc = .ok (.putfield idx, 3)) (hs : va_S (gt_A (z_G Z)) (z_s Z).heap H locs)
    (K : ∀ (H' : Heap) (locs' : List Loc), H'.size = H.size → (∀ a : Nat, a ≠ gt_B (z_G Z) + o → H'[a]? = H[a]?) → t_OB (gt_B (z_G Z) + o) (gt_C (z_G Z) ci) (nf_ ci) (gt_I (z_G Z) ci) H' (updV (fv_ (z_G Z) h (rr_ h) ci o) j v) → va_S (gt_A (z_G Z)) (z_s Z).heap H' locs' → ww_ Z H' locs' (F0 (z_m Z) (pc + 3) ls rest)) : ww_ Z H locs (F0 (z_m Z) pc ls (v :: .ref (gt_B (z_G Z) + o) :: rest)) := by
  have hK : va_K (gt_C (z_G Z), gt_I (z_G Z)) vwCl [] (z_s Z) := ⟨C.kn.1, fun k x hx => by simp at hx⟩
  have hap := va_apart (own := M.1.cls) (D := (gt_C (z_G Z), gt_I (z_G Z))) C.ts ck.2.2.1 ty ck.2.2.2.1 ck.2.2.2.2 hK ck.1
  obtain ⟨cell, q1, q2, q3, q4⟩ := hw.ob so
  obtain ⟨hS, hfc, kC, hkC, hkind⟩ := C.kn.1 ci q ck.1
  obtain ⟨cf, kf, fi, f, hi, hsl⟩ := hS j hj
  have hlay := C.ts _ (ck.2.2.1 _ (u_in_lay hj))
  unfold u_lay at hlay
  rw [if_neg (by rw [hfin]; decide)] at hlay
  have hst := (u_facts hfc hkC (u_lays C.ts ck.2.2.1 hj) hi).1
  have h6 := u_store hfc hkC hkind hlay hi (ck.2.2.2.1 j hj) hv hf
  rw [ck.2.1] at q4
  have hr := sh_rng so (by decide)
  have fin : ∀ H' : Heap, H'[gt_B (z_G Z) + o]? = some (cell.setSlot f.slot v) → H'.size = H.size → (∀ a, a ≠ gt_B (z_G Z) + o → H'[a]? = H[a]?) → ww_ Z H' (locs ++ [⟨gt_B (z_G Z) + o, f.slot⟩]) (F0 (z_m Z) (pc + 3) ls rest) := fun H' e1 e2 e3 => by
    rw [hsl] at e1
    exact K H' _ e2 e3 ⟨_, e1, q2, q3, by rw [ck.2.1]; exact t_set q4 hap hj v⟩ (hs.put e2 e3 (by show gt_B (z_G Z) < _; omega))
  rcases lk with lk | lk
  · exact W.putK C.ex C.co (f := f) ⟨C.ow, C.ts _ (gw_in lk rfl), ⟨_, _, _, hi⟩, hst⟩ (by rw [q2]; exact h6) q1 q3 (by rw [hsl]; exact k2_hasslot (q4 j hj)) rfl rfl D fin
  · exact va_WputK C.ex C.co (f := f) C.ow (va_Nw.use rfl (C.kn.2.2.2.2 _ (nw_in lk))) hi hst (by rw [q2]; exact h6) q1 q3 (by rw [hsl]; exact k2_hasslot (q4 j hj)) rfl rfl D fin
theorem ce_ob {G : gt_} {ρ : Nat → Nat → Nat} {o ci : Nat} (so : sh_ o = (0, ci)) (hc : t_OB (gt_B G + o) (gt_C G ci) (nf_ ci) (gt_I G ci) H (fv_ G h ρ ci o)) : ce_ G h ρ H o :=
  ⟨fun c e => (by rw [so] at e; cases e; exact hc), fun n e => (by rw [so] at e; cases e), fun n e => (by rw [so] at e; cases e), fun n e => (by rw [so] at e; cases e)⟩
theorem ce_ia {G : gt_} {ρ : Nat → Nat → Nat} {o n : Nat} (so : sh_ o = (1, n)) (hc : H[gt_B G + o]? = some (arrV (gt_1 G) n (fun j => .int (h.1 o j)))) : ce_ G h ρ H o :=
  ⟨fun c e => (by rw [so] at e; cases e), fun n e => (by rw [so] at e; cases e; exact hc), fun n e => (by rw [so] at e; cases e), fun n e => (by rw [so] at e; cases e)⟩
theorem hh_up_ne {α : Type} {f : Nat → Nat → α} {a k b j : Nat} {v : α} (h : b ≠ a) : hh_up f a k v b j = f b j := by unfold hh_up; rw [if_neg (fun q => h q.1)]
theorem xx_putI (C : cx_ Z M d) {ci j o idx : Nat} {q : vw_C} {ty : Nat → FieldType} {v : Int32} (ck : ck_ ci q ty) (hj : j < q.2.2) (lk : fl_ M.1.cls idx (q.2.1 j)) (hfin : (q.2.1 j).2.2.2 = false) (hty : ty j = .int) (so : sh_ o = (0, ci)) (hk : fk_ ci j = 0) (D : decode M.2.1 pc = .ok (.putfield idx, 3)) (K : xx_ Z (pc + 3) lv st (hh_sI h o j v)) : xx_ Z pc lv (.int v :: .ref o :: st) h := fun H locs ls hw hs hl => by
  have hr := sh_rng so (by decide)
  rw [List.map_cons, List.map_cons, cv_ref _ hr.1 (by omega)]
  refine ww_putf C ck hj lk hfin (by rw [hty]; rfl) (by rw [hty]; rfl) hw so D hs (fun H' locs' e2 e3 e4 hs' => ?_)
  refine K H' locs' ls (hw.upd hr hw.2 e2 e3 (ce_ob so (e4.to (fun i _ => ?_))) (fun k i e => hh_up_ne e) (fun _ _ _ => rfl) (fun _ _ _ => rfl)) hs' hl
  show updV _ _ _ _ = fv_ _ _ (rr_ h) _ _ _
  unfold updV fv_ hh_sI hh_up
  by_cases e : i = j
  · subst e; simp [hk]; rfl
  · simp [e]
theorem xx_putL (C : cx_ Z M d) {ci j o idx : Nat} {q : vw_C} {ty : Nat → FieldType} {v : Int64} (ck : ck_ ci q ty) (hj : j < q.2.2) (lk : fl_ M.1.cls idx (q.2.1 j)) (hfin : (q.2.1 j).2.2.2 = false) (hty : ty j = .long) (so : sh_ o = (0, ci)) (hk : fk_ ci j = 1) (D : decode M.2.1 pc = .ok (.putfield idx, 3)) (K : xx_ Z (pc + 3) lv st (hh_sL h o j v)) : xx_ Z pc lv (.long v :: .ref o :: st) h := fun H locs ls hw hs hl => by
  have hr := sh_rng so (by decide)
  rw [List.map_cons, List.map_cons, cv_ref _ hr.1 (by omega)]
  refine ww_putf C ck hj lk hfin (by rw [hty]; rfl) (by rw [hty]; rfl) hw so D hs (fun H' locs' e2 e3 e4 hs' => ?_)
  refine K H' locs' ls (hw.upd hr hw.2 e2 e3 (ce_ob so (e4.to (fun i _ => ?_))) (fun _ _ _ => rfl) (fun k i e => hh_up_ne e) (fun _ _ _ => rfl)) hs' hl
  show updV _ _ _ _ = fv_ _ _ (rr_ h) _ _ _
  unfold updV fv_ hh_sL hh_up
  by_cases e : i = j
  · subst e; simp [hk]; rfl
  · simp [e]
theorem xx_putR (C : cx_ Z M d) {ci j o idx r : Nat} {q : vw_C} {ty : Nat → FieldType} {h' : hh_} (ck : ck_ ci q ty) (hj : j < q.2.2) (lk : fl_ M.1.cls idx (q.2.1 j)) (hfin : (q.2.1 j).2.2.2 = false) (hty : ∃ n, ty j = .object n) (so : sh_ o = (0, ci)) (hk : fk_ ci j = 2) (hr0 : 0 < r ∧ r < 500) (e1 : h'.1 = h.1) (e2 : h'.2.1 = h.2.1) (hn : h.2.2.1 < 500 ∧ h.2.2.2.1 < 500 ∧ h.2.2.2.2 < 500 → h'.2.2.1 < 500 ∧ h'.2.2.2.1 < 500 ∧ h'.2.2.2.2 < 500) (e3 : ∀ k i, rr_ h' k i = if k = o ∧ i = j then r else rr_ h k i) (D : decode M.2.1 pc = .ok (.putfield idx, 3)) (K : xx_ Z (pc + 3) lv st h') : xx_ Z pc lv (.ref r :: .ref o :: st) h := fun H locs ls hw hs hl => by
  have hr := sh_rng so (by decide)
  rw [List.map_cons, List.map_cons, cv_ref _ hr.1 (by omega), cv_ref _ hr0.1 hr0.2]
  obtain ⟨n, hty⟩ := hty
  refine ww_putf C ck hj lk hfin (by rw [hty]; rfl) (by rw [hty]; rfl) hw so D hs (fun H' locs' z2 z3 e4 hs' => ?_)
  refine K H' locs' ls (hw.upd hr (hn hw.2) z2 z3 (ce_ob so (e4.to (fun i _ => ?_))) (fun k i _ => by rw [e1]) (fun k i _ => by rw [e2]) (fun k i e => by rw [e3, if_neg (fun q => e q.1)])) hs' hl
  unfold updV fv_
  rw [e1, e2, e3]
  by_cases e : i = j
  · subst e; simp [hk, rv_, Nat.ne_of_gt hr0.1]
  · simp [e]
theorem vp_lt {i : Int32} {n : Nat} (h : vp_in i n) : i.toNatClampNeg < n := Nat.not_le.mp fun q => h (Or.inr q)
theorem xx_iaload (C : cx_ Z M d) {a n : Nat} {i : Int32} (D : decode M.2.1 pc = .ok (.iaload, 1)) (so : sh_ a = (1, n)) (hin : vp_in i n) (K : xx_ Z (pc + 1) lv (.int (h.1 a i.toNatClampNeg) :: st) h) : xx_ Z pc lv (.int i :: .ref a :: st) h := fun H locs ls hw hs hl => by
  have hr := sh_rng so (by decide)
  rw [List.map_cons, List.map_cons, cv_ref _ hr.1 (by omega)]
  exact W.iald (v := .int (h.1 a i.toNatClampNeg)) C.ex C.co (hw.ia so) (C.kn.2.1 n (fun j => .int (h.1 a j))) (fun q => by cases q) (by rw [arrV_size]; exact hin) (by rw [arrV_read _ _ (vp_lt hin)]) rfl rfl D (K H locs ls hw hs hl)
theorem xx_saload (C : cx_ Z M d) {k : Nat} {i : Int32} (D : decode M.2.1 pc = .ok (.iaload, 1)) (hk : k < 9) (hin : vp_in i (sn_ k).2.length) (K : xx_ Z (pc + 1) lv (.int ((sn_ k).2.getD i.toNatClampNeg 0) :: st) h) : xx_ Z pc lv (.int i :: .ref (500 + k) :: st) h := fun H locs ls hw hs hl => by
  rw [List.map_cons, List.map_cons, cv_sta]
  obtain ⟨cell, h1, h2, h3, h4, h5, h6, h7⟩ := (hw.1.2.2 k hk).1
  exact W.iald (v := .int ((sn_ k).2.getD i.toNatClampNeg 0)) C.ex C.co h1 h2 h3 (fun q => hin (q.imp id (fun q => Nat.le_trans h4 q))) (h6 _ (vp_lt hin)) rfl rfl D (K H locs ls hw hs hl)
theorem xx_getS (C : cx_ Z M d) {k idx : Nat} (hk : k < 9) (lk : fl_ M.1.cls idx ("ThumbReader", (sn_ k).1, "[I", true)) (D : decode M.2.1 pc = .ok (.getstatic idx, 3)) (K : xx_ Z (pc + 3) lv (.ref (500 + k) :: st) h) : xx_ Z pc lv st h := fun H locs ls hw hs hl => by
  obtain ⟨cf, kf, fi, f, a, cell, h1, h2, h3, h4, h5, h6, h7, h8⟩ := (hw.1.2.2 k hk).2
  have K1 := K H locs ls hw hs hl
  rw [List.map_cons, cv_sta] at K1
  rcases lk with lk | lk
  · exact W.gets C.ex C.co C.ow (C.ts _ (gw_in lk rfl)) h1 h2 h3 h4 h5 (fun e => by rw [e] at h6; cases h6) h7 rfl D K1
  · exact va_WgetsN C.ex C.co C.ow (va_Nw.use rfl (C.kn.2.2.2.2 _ (nw_in lk))) h1 h2 h3 h4 h5 (fun e => by rw [e] at h6; cases h6) h7 rfl D K1
theorem re_lt {t a j : Nat} (ha : a ≤ 114) (hj : j < 200) : re_ t a j < 500 ∨ t ≠ 2 := by
  unfold re_
  by_cases e : t = 2
  · left; rw [if_pos e]; omega
  · right; exact e
theorem xx_aaload (C : cx_ Z M d) {a n r : Nat} {i : Int32} (D : decode M.2.1 pc = .ok (.aaload, 1)) (so : sh_ a = (2, n)) (hin : vp_in i n) (hr0 : r < 500) (er : a + 1 + i.toNatClampNeg = r) (K : xx_ Z (pc + 1) lv (.ref r :: st) h) : xx_ Z pc lv (.int i :: .ref a :: st) h := fun H locs ls hw hs hl => by
  have hr := sh_rng so (by decide)
  rw [List.map_cons, List.map_cons, cv_ref _ hr.1 (by omega)]
  have hc := (hw.1.2.1 a hr.2).2.2.1 n so
  have e : cv_ (z_G Z) (.ref r) = rv_ (z_G Z) (rr_ h a i.toNatClampNeg) := by
    rw [cv_rv _ hr0, rr_ar so (by decide), ← er]
    rfl
  have K1 := K H locs ls hw hs hl
  rw [List.map_cons, e] at K1
  exact W.aald (v := rv_ (z_G Z) (rr_ h a i.toNatClampNeg)) (ty := .array .int) C.ex C.co hc (C.kn.2.2.1 n _) rfl (fun q => by cases q) (by rw [arrV_size]; exact hin) (by rw [arrV_read _ _ (vp_lt hin)]) rfl rfl D K1
theorem xx_kaload (C : cx_ Z M d) {a n r : Nat} {i : Int32} (D : decode M.2.1 pc = .ok (.aaload, 1)) (so : sh_ a = (3, n)) (hin : vp_in i n) (hr0 : r < 500) (er : 89 + 3 * i.toNatClampNeg = r) (K : xx_ Z (pc + 1) lv (.ref r :: st) h) : xx_ Z pc lv (.int i :: .ref a :: st) h := fun H locs ls hw hs hl => by
  have hr := sh_rng so (by decide)
  rw [List.map_cons, List.map_cons, cv_ref _ hr.1 (by omega)]
  have hc := (hw.1.2.1 a hr.2).2.2.2 n so
  have e : cv_ (z_G Z) (.ref r) = rv_ (z_G Z) (rr_ h a i.toNatClampNeg) := by
    rw [cv_rv _ hr0, rr_ar so (by decide), ← er]
    rfl
  have K1 := K H locs ls hw hs hl
  rw [List.map_cons, e] at K1
  exact W.aald (v := rv_ (z_G Z) (rr_ h a i.toNatClampNeg)) (ty := .object "ThumbReader$Kept") C.ex C.co hc (C.kn.2.2.2.1 n _) rfl (fun q => by cases q) (by rw [arrV_size]; exact hin) (by rw [arrV_read _ _ (vp_lt hin)]) rfl rfl D K1
theorem xx_alen (C : cx_ Z M d) {a n : Nat} {v : Int32} (D : decode M.2.1 pc = .ok (.arraylength, 1)) (so : sh_ a = (1, n)) (hv : Int32.ofNat n = v) (K : xx_ Z (pc + 1) lv (.int v :: st) h) : xx_ Z pc lv (.ref a :: st) h := fun H locs ls hw hs hl => by
  have hr := sh_rng so (by decide)
  rw [List.map_cons, cv_ref _ hr.1 (by omega)]
  exact W.alen C.ex C.co (hw.ia so) (C.kn.2.1 n (fun j => .int (h.1 a j))) (by rw [arrV_size]; exact hv) rfl rfl D (K H locs ls hw hs hl)
theorem hw_.setI {G : gt_} {s : State} {H' : Heap} {a n i : Nat} {v : Int32} (hw : hw_ G s h H) (so : sh_ a = (1, n)) (e1 : H'[gt_B G + a]? = some ((arrV (gt_1 G) n (fun j => .int (h.1 a j))).setSlot i (.int v))) (z : H'.size = H.size) (oq : ∀ q : Nat, q ≠ gt_B G + a → H'[q]? = H[q]?) : hw_ G s (hh_sI h a i v) H' := by
  refine hw.upd (sh_rng so (by decide)) hw.2 z oq (ce_ia so ?_) (fun k j e => hh_up_ne e) (fun _ _ _ => rfl) (fun _ _ _ => rfl)
  rw [e1, arrV_store]
  congr 1; congr 1; funext j
  unfold updV hh_sI hh_up
  by_cases e : j = i <;> simp [e]
theorem xx_iastore (C : cx_ Z M d) {a n : Nat} {i v : Int32} (D : decode M.2.1 pc = .ok (.iastore, 1)) (so : sh_ a = (1, n)) (hin : vp_in i n) (K : xx_ Z (pc + 1) lv st (hh_sI h a i.toNatClampNeg v)) : xx_ Z pc lv (.int v :: .int i :: .ref a :: st) h := fun H locs ls hw hs hl => by
  have hr := sh_rng so (by decide)
  rw [List.map_cons, List.map_cons, List.map_cons, cv_ref _ hr.1 (by omega)]
  exact W.iast C.ex C.co (hw.ia so) (C.kn.2.1 n (fun j => .int (h.1 a j))) (fun q => by cases q) (by rw [arrV_size]; exact hin) rfl rfl D (fun H' e1 e2 e3 => K H' _ ls (hw.setI so e1 e2 e3) (hs.put e2 e3 (by show gt_B (z_G Z) < _; omega)) hl)
end YY
end
section
/-! ===== contracts, returns, calls ===== -/
def pg_ (G : gt_) (h : hh_) (U : State) : Prop := kn_ G U ∧ hw_ G U h U.heap
def pq_ (G : gt_) (r : Option Value) (h' : hh_) : Array Value → State → Outcome → State → Prop := fun _ st o t => o = .returned (r.map (cv_ G)) ∧ pg_ G h' t ∧ va_F (gt_A G) st t
def rm_ (d : Nat) : Room := { frames := d, cells := 0, slots := 0, locals := 100 * d }
def wy_ (M : mt_) : List Cond := .code M.1 M.2.1 M.2.2.1 M.2.2.2 :: gw_
/-- THE CONTRACT of a method at depth d: with these arguments and this heap it returns r, and the heap is h' -/
def ok_ (l : Launch) (G : gt_) (d : Nat) (M : mt_) (as : List Value) (h : hh_) (r : Option Value) (h' : hh_) : Prop := Met l M.1 (wy_ M) (rm_ d) (fun v U => v = (as.map (cv_ G)).toArray ∧ pg_ G h U) (pq_ G r h') 0 0 (gt_A G)
def rq_ (Z : zz_) (r : Option Value) (h' : hh_) : Prop := z_Q Z = MQ (z_b Z) (pq_ (z_G Z) r h') (z_a Z) (z_s Z) (z_k Z) (z_n Z) (gt_A (z_G Z))
def el_ : List Value → List (Option Value)
  | [] => []
  | v :: vs => if v.category = 2 then some v :: none :: el_ vs else some v :: el_ vs
def ep_ (n : Nat) (as : List Value) : List (Option Value) := el_ as ++ List.replicate (n - (el_ as).length) none
theorem el_args (G : gt_) : ∀ (as : List Value) (pre : Nat) (i : Nat) (v : Value), (el_ as)[i]? = some (some v) → (pre + i, cv_ G v) ∈ lv_args pre (as.map (cv_ G))
  | [], pre, i, v, h => by simp [el_] at h
  | a :: as, pre, i, v, h => by
    unfold el_ at h
    rw [List.map_cons]
    unfold lv_args
    rw [cv_cat]
    by_cases hc : a.category = 2
    · rw [if_pos hc] at h
      rw [if_pos hc]
      match i, h with
      | 0, h => cases h; exact List.mem_cons_self
      | 1, h => cases h
      | i + 2, h =>
        have := el_args G as (pre + 2) i v h
        rw [show pre + (i + 2) = pre + 2 + i by omega]
        exact List.mem_cons_of_mem _ this
    · rw [if_neg hc] at h
      rw [if_neg hc]
      match i, h with
      | 0, h => cases h; exact List.mem_cons_self
      | i + 1, h =>
        have := el_args G as (pre + 1) i v h
        rw [show pre + (i + 1) = pre + 1 + i by omega]
        exact List.mem_cons_of_mem _ this
theorem el_len (G : gt_) : ∀ as : List Value, (lg_sl (as.map (cv_ G))).length = (el_ as).length
  | [] => rfl
  | a :: as => by
    have ih := el_len G as
    unfold lg_sl at ih ⊢
    rw [List.map_cons, List.flatMap_cons, List.length_append, ih, cv_cat]
    rw [el_]
    by_cases hc : a.category = 2
    · rw [if_pos hc, if_pos hc]; simp only [List.length_cons, List.length_nil]; omega
    · rw [if_neg hc, if_neg hc]; simp only [List.length_cons, List.length_nil]; omega
theorem ok_of {l : Launch} {G : gt_} {d : Nat} {M : mt_} {as : List Value} {h h' : hh_} {r : Option Value} (hy : plainName M.1.cls = true) (hlen : (el_ as).length ≤ M.2.2.1)
    (body : ∀ Z : zz_, z_l Z = l → z_G Z = G → cx_ Z M d → rq_ Z r h' → xx_ Z 0 (ep_ M.2.2.1 as) [] h) : ok_ l G d M as h r h' := by
  refine Met.ofW (cc := M.2.1) (maxL := M.2.2.1) (ret := M.2.2.2) hy rfl ?_
  intro p e s m args below meth c s₁ B hml hv
  obtain ⟨rfl, hk, hw⟩ := hv
  have C : cx_ (p, l, e, rm_ d, s, m, (as.map (cv_ G)).toArray, below, meth, c, G, 0, 0, MQ below (pq_ G r h') (as.map (cv_ G)).toArray s 0 0 (gt_A G)) M d :=
    ⟨B.exec, B.bytes, B.returns, hml, findClass_of_methodNamed B.named, fun w hw => atoms_spec (ws := wy_ M) B.pre w (List.mem_cons_of_mem _ hw), hk, B.notSynchronized, Nat.le_refl _, Nat.le_refl _, Nat.le_refl _, Nat.le_refl _⟩
  have hl := lv_entry (as.map (cv_ G)) (n := M.2.2.1) (by rw [el_len]; exact hlen)
  rw [lg_entry_eq]
  refine body (p, l, e, rm_ d, s, m, (as.map (cv_ G)).toArray, below, meth, c, G, 0, 0, MQ below (pq_ G r h') (as.map (cv_ G)).toArray s 0 0 (gt_A G)) rfl rfl C rfl s.heap [] _ hw va_S.rf ?_
  refine ⟨hl.1.trans hml.symm, hl.2.1, fun i v hi => ?_⟩
  unfold ep_ at hi
  have h1 : (el_ as)[i]? = some (some v) := by
    by_cases hlt : i < (el_ as).length
    · rw [List.getElem?_append_left hlt] at hi; exact hi
    · rw [List.getElem?_append_right (by omega)] at hi
      have := List.mem_of_getElem? hi
      rw [List.mem_replicate] at this
      cases this.2
  have h2 := el_args G as 0 i v h1
  rw [Nat.zero_add] at h2
  exact hl.2.2 _ h2
section XR
variable {Z : zz_} {M : mt_} {d : Nat} {pc : Nat} {lv : List (Option Value)} {st : List Value} {h : hh_}
theorem xx_ireturn (C : cx_ Z M d) {v : Int32} (Q : rq_ Z (some (.int v)) h) (D : decode M.2.1 pc = .ok (.ireturn, 1)) (hr : M.2.2.2 = some .int) : xx_ Z pc lv [.int v] h := fun H locs ls hw hs hl => by
  unfold ww_
  rw [Q]
  exact W.iret C.ex C.co (C.re.trans hr) (fun t ht hW => ⟨rfl, ⟨C.kn.warm hW, by rw [ht]; exact hw.moved hW.alike⟩, hs.F ht⟩) hs.2.2 D (hlocks := C.lk)
theorem xx_zreturn (C : cx_ Z M d) {v : Int32} (Q : rq_ Z (some (.int v)) h) (D : decode M.2.1 pc = .ok (.ireturn, 1)) (hr : M.2.2.2 = some .boolean) (hn : v &&& 1 = v) : xx_ Z pc lv [.int v] h := fun H locs ls hw hs hl => by
  unfold ww_
  rw [Q]
  exact W.zret C.ex C.co (C.re.trans hr) (by show Value.int (v &&& 1) = _; rw [hn]) (fun t ht hW => ⟨rfl, ⟨C.kn.warm hW, by rw [ht]; exact hw.moved hW.alike⟩, hs.F ht⟩) hs.2.2 D (hlocks := C.lk)
theorem xx_lreturn (C : cx_ Z M d) {v : Int64} (Q : rq_ Z (some (.long v)) h) (D : decode M.2.1 pc = .ok (.lreturn, 1)) (hr : M.2.2.2 = some .long) : xx_ Z pc lv [.long v] h := fun H locs ls hw hs hl => by
  unfold ww_
  rw [Q]
  exact W.lret C.ex C.co (C.re.trans hr) (fun t ht hW => ⟨rfl, ⟨C.kn.warm hW, by rw [ht]; exact hw.moved hW.alike⟩, hs.F ht⟩) hs.2.2 D (hlocks := C.lk)
theorem xx_return (C : cx_ Z M d) (Q : rq_ Z none h) (D : decode M.2.1 pc = .ok (.return_, 1)) (hr : M.2.2.2 = none) : xx_ Z pc lv [] h := fun H locs ls hw hs hl => by
  unfold ww_
  rw [Q]
  exact W.vret C.ex C.co (C.re.trans hr) (fun t ht hW => ⟨rfl, ⟨C.kn.warm hW, by rw [ht]; exact hw.moved hW.alike⟩, hs.F ht⟩) hs.2.2 D (hlocks := C.lk)
theorem ww_ran {H : Heap} {locs : List Loc} {ls : Array Slot} {st0 rest : List Value} {r : Option Value} {h1 : hh_} {a : Array Value} (hr : va_Run (z_p Z) (z_l Z) (z_e Z) (z_R Z) (z_s Z) (z_m Z) (z_a Z) (z_b Z) (z_t Z) (z_c Z) H locs (z_k Z) (z_n Z) 0 0 (F0 (z_m Z) pc ls st0) (rest.map (cv_ (z_G Z))) (pq_ (z_G Z) r h1 a) (gt_A (z_G Z))) (hs : va_S (gt_A (z_G Z)) (z_s Z).heap H locs) (hl : lr_ (z_G Z) ls (z_c Z).maxLocals lv)
    (K : xx_ Z (pc + 3) lv (r.toList ++ rest) h1) : ww_ Z H locs (F0 (z_m Z) pc ls st0) := by
  intro T hT X
  obtain ⟨v, st₀, t, T', L, h0, X', hL, e1, e2, ⟨hv, ⟨hk, hh⟩, hz, hkp⟩, stp⟩ := hr T hT X
  cases hv
  rw [h0] at hz hkp
  have hal : (z_s Z).vm.Alike t.vm := by rw [← e2]; exact X'.warmed.alike
  obtain ⟨t2, a1, b1⟩ := K T'.heap (locs ++ L) ls (by rw [e1]; exact hh.moved hal.symm)
    ⟨Nat.le_trans hs.1 (by rw [e1]; exact hz), fun q h1 h2 => by rw [e1, hkp q (Nat.lt_of_lt_of_le h1 hs.1) h2]; exact hs.2.1 q h1 h2, fun q hq => by
      rcases List.mem_append.mp hq with h | h
      · exact hs.2.2 q h
      · exact hL q h⟩ hl T' rfl X'
  refine ⟨t2, stp t2 ?_, b1⟩
  have e : (r.map (cv_ (z_G Z))).toList ++ rest.map (cv_ (z_G Z)) = (r.toList ++ rest).map (cv_ (z_G Z)) := by cases r <;> simp
  rw [e]
  exact a1
/-- a method's own words -/
def mk_ (M' : mt_) (n : Nat) : Prop := Cond.code M'.1 M'.2.1 M'.2.2.1 M'.2.2.2 ∈ lw_tbl ∧ Cond.initialized M'.1.cls ∈ lw_tbl ∧ (M'.1.cls ≠ "java/lang/invoke/MethodHandle" ∧ M'.1.cls ≠ "java/lang/invoke/VarHandle" ∧ (parseMethodDescriptor M'.1.desc).map (fun d => d.parameters.length) = some n) ∧ M'.2.2.1 ≤ 60
def mi_ (M' : mt_) : Prop := Cond.instanceMethod M'.1 ∈ lw_tbl ∧ Cond.selects M'.1.cls M'.1 M'.1 ∈ lw_tbl
theorem wy_good {M' : mt_} {n : Nat} (k : mk_ M' n) : GoodIn gw_ (wy_ M') := by
  intro w hw
  rcases List.mem_cons.mp hw with e | e
  · subst e
    exact ⟨gw_in k.1 rfl, good_of_word rfl⟩
  · exact ⟨e, good_of_word (List.mem_filter.mp e).2⟩
theorem cb_ (C : cx_ Z M d) {M' : mt_} {d' n idx : Nat} (k : mk_ M' n) (lk : Cond.methodLink M.1.cls idx M'.1 ∈ lw_tbl) (hd : d' + 1 ≤ d) : CallB (z_R Z) (z_s Z) (z_a Z) M.1.cls idx M'.1 M'.2.1 M'.2.2.1 M'.2.2.2 (wy_ M') (rm_ d') 0 0 n := by
  have hr := C.fr
  have hl := k.2.2.2
  exact callB_of n C.ts (wy_good k) rfl rfl rfl (C.ts _ (gw_in k.2.1 rfl)) (C.ts _ (gw_in lk rfl)) k.2.2.1 ⟨by show d' + 1 ≤ _; omega, by show 8 + (M'.2.2.1 + 11) + 100 * d' ≤ _; omega⟩
theorem cv_room {G : gt_} {rest : List Value} (h : (rest.map fun v => v.category).sum ≤ 8) : ((rest.map (cv_ G)).map fun v => v.category).sum ≤ 8 := by
  rw [List.map_map]
  have e : ((fun v => v.category) ∘ cv_ G : Value → Nat) = fun v => v.category := funext fun v => cv_cat G v
  rw [e]; exact h
theorem pg_blind {G : gt_} {as : List Value} {h : hh_} : FrameBlind (fun v U => v = (as.map (cv_ G)).toArray ∧ pg_ G h U) := fun a U g mk q => ⟨q.1, kn_.same (s := U) (U := U.calling g mk a) (show U.vm = (U.calling g mk a).vm from rfl) q.2.1, q.2.2.moved (U := U.calling g mk a) (Vm.Alike.refl U.vm)⟩
theorem xx_callV (C : cx_ Z M d) {M' : mt_} {d' n idx ci o : Nat} {q : vw_C} {ty : Nat → FieldType} {as rest : List Value} {r : Option Value} {h1 : hh_} (hM : ok_ (z_l Z) (z_G Z) d' M' (.ref o :: as) h r h1) (D : decode M.2.1 pc = .ok (.invokevirtual idx, 3)) (ck : ck_ ci q ty) (hq : M'.1.cls = q.1) (so : sh_ o = (0, ci)) (k : mk_ M' n) (ki : mi_ M') (lk : Cond.methodLink M.1.cls idx M'.1 ∈ lw_tbl) (hd : d' + 1 ≤ d) (hn : as.length = n) (est : as.reverse ++ .ref o :: rest = st) (hrest : (rest.map fun v => v.category).sum ≤ 8) (K : xx_ Z (pc + 3) lv (r.toList ++ rest) h1) : xx_ Z pc lv st h := fun H locs ls hw hs hl => by
  have hr := sh_rng so (by decide)
  subst est
  refine ww_ran (va_runV (As := as.map (cv_ (z_G Z))) (b := gt_B (z_G Z) + o) (C := M'.1.cls) (Ts := gw_) (own := M.1.cls) (n := n) (nL := M.2.2.1) (index := idx) (cc := M.2.1) (bytes := M'.2.1) (maxL := M'.2.2.1) (ret := M'.2.2.2) ⟨C.ex, C.co, C.ml, C.ow, C.ts⟩ hM ⟨cb_ C k lk hd, C.ts _ (gw_in ki.1 rfl), C.ts _ (gw_in ki.2 rfl)⟩ ⟨pg_blind, ?_, fun U hU hW => ⟨?_, C.kn.warm hW, by rw [hU]; exact hw.moved hW.alike⟩⟩ rfl (by rw [List.length_map]; exact hn) (hl.1.trans C.ml) ?_ (lv_room (cv_room hrest)) D ⟨C.ce.1, C.ce.2⟩) hs hl K
  · obtain ⟨cell, q1, q2, q3, q4⟩ := hw.ob so
    exact ⟨cell, q1, by rw [q3]; rfl, by rw [hq, q2]; exact (C.kn.1 ci q ck.1).2.1⟩
  · rw [List.map_cons, cv_ref _ hr.1 (by omega)]
  · show (as.reverse ++ .ref o :: rest).map (cv_ (z_G Z)) = _
    rw [List.map_append, List.map_reverse, List.map_cons, cv_ref _ hr.1 (by omega)]
theorem xx_callS (C : cx_ Z M d) {M' : mt_} {d' n idx : Nat} {as rest : List Value} {r : Option Value} {h1 : hh_} (hM : ok_ (z_l Z) (z_G Z) d' M' as h r h1) (D : decode M.2.1 pc = .ok (.invokestatic idx, 3)) (k : mk_ M' n) (ks : Cond.static M'.1 ∈ lw_tbl) (lk : Cond.methodLink M.1.cls idx M'.1 ∈ lw_tbl) (hd : d' + 1 ≤ d) (hn : as.length = n) (est : as.reverse ++ rest = st) (hrest : (rest.map fun v => v.category).sum ≤ 8) (K : xx_ Z (pc + 3) lv (r.toList ++ rest) h1) : xx_ Z pc lv st h := fun H locs ls hw hs hl => by
  subst est
  refine ww_ran (va_runS (As := as.map (cv_ (z_G Z))) (Ts := gw_) (own := M.1.cls) (n := n) (nL := M.2.2.1) (index := idx) (cc := M.2.1) (bytes := M'.2.1) (maxL := M'.2.2.1) (ret := M'.2.2.2) ⟨C.ex, C.co, C.ml, C.ow, C.ts⟩ hM ⟨cb_ C k lk hd, C.ts _ (gw_in ks rfl)⟩ ⟨pg_blind, fun U hU hW => ⟨rfl, C.kn.warm hW, by rw [hU]; exact hw.moved hW.alike⟩⟩ rfl (by rw [List.length_map]; exact hn) (hl.1.trans C.ml) ?_ (lv_room (cv_room hrest)) D ⟨C.ce.1, C.ce.2⟩) hs hl K
  show (as.reverse ++ rest).map (cv_ (z_G Z)) = _
  rw [List.map_append, List.map_reverse]
theorem cat_le : ∀ (l : List Value), (l.map fun v => v.category).sum ≤ 2 * l.length
  | [] => by simp
  | v :: l => by
    have := cat_le l
    have h2 : v.category ≤ 2 := by rcases lv_cat v with e | e <;> omega
    simp only [List.map_cons, List.sum_cons, List.length_cons]; omega
theorem m1_max : Cond.static Lib.Math.max.name ∈ lw_tbl ∧ Cond.code Lib.Math.max.name Lib.Math.max.code 2 (some .int) ∈ lw_tbl := by decide +kernel
theorem m1_min : Cond.static Lib.Math.min.name ∈ lw_tbl ∧ Cond.code Lib.Math.min.name Lib.Math.min.code 2 (some .int) ∈ lw_tbl := by decide +kernel
theorem m1_abs : Cond.static Lib.Math.abs.name ∈ lw_tbl ∧ Cond.code Lib.Math.abs.name Lib.Math.abs.code 1 (some .int) ∈ lw_tbl := by decide +kernel
theorem m1_ini : Cond.initialized "java/lang/Math" ∈ lw_tbl ∧ Cond.initialized "java/lang/System" ∈ lw_tbl ∧ Cond.native arraycopyName ∈ lw_tbl ∧ Cond.static arraycopyName ∈ lw_tbl := by decide +kernel
theorem xx_max (C : cx_ Z M d) {x y : Int32} {idx : Nat} (D : decode M.2.1 pc = .ok (.invokestatic idx, 3)) (lk : Cond.methodLink M.1.cls idx Lib.Math.max.name ∈ lw_tbl) (hd : 1 ≤ d) (hst : st.length ≤ 20) (K : xx_ Z (pc + 3) lv (.int (if x < y then y else x) :: st) h) : xx_ Z pc lv (.int y :: .int x :: st) h := fun H locs ls hw hs hl => by
  have hc := cat_le (st.map (cv_ (z_G Z)))
  rw [List.length_map] at hc
  have hf := C.fr
  exact va_mmax C.ex C.co hl.1.symm C.ow (C.ts _ (gw_in lk rfl)) (C.ts _ (gw_in m1_max.1 rfl)) (C.ts _ (gw_in m1_ini.1 rfl)) (C.ts _ (gw_in m1_max.2 rfl)) (by omega) (by omega) C.ce.1 C.ce.2 D (K H locs ls hw hs hl)
theorem xx_min (C : cx_ Z M d) {x y : Int32} {idx : Nat} (D : decode M.2.1 pc = .ok (.invokestatic idx, 3)) (lk : Cond.methodLink M.1.cls idx Lib.Math.min.name ∈ lw_tbl) (hd : 1 ≤ d) (hst : st.length ≤ 20) (K : xx_ Z (pc + 3) lv (.int (if y < x then y else x) :: st) h) : xx_ Z pc lv (.int y :: .int x :: st) h := fun H locs ls hw hs hl => by
  have hc := cat_le (st.map (cv_ (z_G Z)))
  rw [List.length_map] at hc
  have hf := C.fr
  exact va_mmin C.ex C.co hl.1.symm C.ow (C.ts _ (gw_in lk rfl)) (C.ts _ (gw_in m1_min.1 rfl)) (C.ts _ (gw_in m1_ini.1 rfl)) (C.ts _ (gw_in m1_min.2 rfl)) (by omega) (by omega) C.ce.1 C.ce.2 D (K H locs ls hw hs hl)
theorem xx_abs (C : cx_ Z M d) {x : Int32} {idx : Nat} (D : decode M.2.1 pc = .ok (.invokestatic idx, 3)) (lk : Cond.methodLink M.1.cls idx Lib.Math.abs.name ∈ lw_tbl) (hd : 1 ≤ d) (hst : st.length ≤ 20) (K : xx_ Z (pc + 3) lv (.int (if 0 ≤ x then x else 0 - x) :: st) h) : xx_ Z pc lv (.int x :: st) h := fun H locs ls hw hs hl => by
  have hc := cat_le (st.map (cv_ (z_G Z)))
  rw [List.length_map] at hc
  have hf := C.fr
  exact va_mabs C.ex C.co hl.1.symm C.ow (C.ts _ (gw_in lk rfl)) (C.ts _ (gw_in m1_abs.1 rfl)) (C.ts _ (gw_in m1_ini.1 rfl)) (C.ts _ (gw_in m1_abs.2 rfl)) (by omega) (by omega) C.ce.1 C.ce.2 D (K H locs ls hw hs hl)
theorem nn_ {z : Int32} (hz : ¬ z < 0) : z.toInt = (z.toNatClampNeg : Int) := by
  have hz0 : (0 : Int) ≤ z.toInt := by
    have := Int32.not_lt.mp hz
    simpa using Int32.le_iff_toInt_le.mp this
  show z.toInt = ((z.toInt.toNat : Nat) : Int)
  omega
theorem xx_acopy (C : cx_ Z M d) {a b n0 n1 idx : Nat} {sp dp n : Int32} (D : decode M.2.1 pc = .ok (.invokestatic idx, 3)) (lk : Cond.methodLink M.1.cls idx arraycopyName ∈ lw_tbl) (sa : sh_ a = (1, n0)) (sb : sh_ b = (1, n1)) (h1 : ¬ sp < 0) (h2 : ¬ dp < 0) (h3 : ¬ n < 0) (h4 : sp.toNatClampNeg + n.toNatClampNeg ≤ n0) (h5 : dp.toNatClampNeg + n.toNatClampNeg ≤ n1) (hd : 1 ≤ d) (hst : st.length ≤ 20) (K : xx_ Z (pc + 3) lv st (hh_cp h a b sp.toNatClampNeg dp.toNatClampNeg n.toNatClampNeg)) : xx_ Z pc lv (.int n :: .int dp :: .ref b :: .int sp :: .ref a :: st) h := fun H locs ls hw hs hl => by
  have hra := sh_rng sa (by decide)
  have hrb := sh_rng sb (by decide)
  have hc := cat_le (st.map (cv_ (z_G Z)))
  rw [List.length_map] at hc
  have hf := C.fr
  have hnw : nativeFrameWords "java/lang/System" "arraycopy" 5 ≤ 30 := by decide +kernel
  simp only [List.map_cons]
  rw [cv_ref _ hra.1 (by omega), cv_ref _ hrb.1 (by omega)]
  have hc0 := hw.ia sa
  have hc1 := hw.ia sb
  intro T hT X
  obtain ⟨-, k0, hk0, cm0, hkk0⟩ := C.kn.2.1 n0 (fun j => .int (h.1 a j))
  obtain ⟨-, k1, hk1, cm1, hkk1⟩ := C.kn.2.1 n1 (fun j => .int (h.1 b j))
  obtain ⟨vm', X', step⟩ := X.arraycopy C.ex C.ow (C.ts _ (gw_in lk rfl)) (C.ts _ (gw_in m1_ini.2.2.1 rfl)) (C.ts _ (gw_in m1_ini.2.2.2 rfl)) (C.ts _ (gw_in m1_ini.2.1 rfl)) (src := gt_B (z_G Z) + a) (dst := gt_B (z_G Z) + b) (cs := arrV (gt_1 (z_G Z)) n0 (fun j => .int (h.1 a j))) (cd := arrV (gt_1 (z_G Z)) n1 (fun j => .int (h.1 b j))) (srcPos := sp) (destPos := dp) (n := n) (by rw [hT]; exact hc0) (by rw [hT]; exact hc1)
    (fun _ h => by cases h) (fun _ h => by cases h) (fun h => by cases h) (fun h => by cases h) hk0 hk1 hkk0 hkk1 (by simp [refKind]) h1 h2 h3
    (by rw [nn_ h1, nn_ h3]; rw [arrV_size]; omega)
    (by rw [nn_ h2, nn_ h3]; rw [arrV_size]; omega)
    (fun vm₁ _ i hi => by
      have e : (arrV (gt_1 (z_G Z)) n0 (fun j => .int (h.1 a j))).slots.getD (sp.toNatClampNeg + i) .null = .int (h.1 a (sp.toNatClampNeg + i)) := by
        rw [Array.getD_eq_getD_getElem?, arrV_read _ _ (by omega)]
        rfl
      refine ⟨?_, ?_⟩
      · rw [e]; rfl
      · rw [e]; exact trivial)
    (g := F0 (z_m Z) pc ls (.int n :: .int dp :: .ref (gt_B (z_G Z) + b) :: .int sp :: .ref (gt_B (z_G Z) + a) :: st.map (cv_ (z_G Z)))) rfl hl.1 (rest := st.map (cv_ (z_G Z))) rfl (by rw [C.co]; exact D) (by omega) (by show 2 * 0 + _ + _ ≤ _; omega)
  have e1 : copied (arrV (gt_1 (z_G Z)) n0 (fun j => .int (h.1 a j))) (arrV (gt_1 (z_G Z)) n1 (fun j => .int (h.1 b j))) sp dp n = arrV (gt_1 (z_G Z)) n1 (fun j => .int (va_cpy (h.1 a) (h.1 b) sp.toNatClampNeg dp.toNatClampNeg n.toNatClampNeg j)) := va_copied (fun z => .int z) _ _ (h.1 a) (h.1 b) h4
  rw [e1] at X' step
  have hlt : gt_B (z_G Z) + b < H.size := (Array.getElem?_eq_some_iff.mp hc1).1
  generalize hcell : arrV (gt_1 (z_G Z)) n1 (fun j => .int (va_cpy (h.1 a) (h.1 b) sp.toNatClampNeg dp.toNatClampNeg n.toNatClampNeg j)) = cell at X' step
  have hheap : ((T.setVm vm').setCell (gt_B (z_G Z) + b) cell).heap = H.setIfInBounds (gt_B (z_G Z) + b) cell := by rw [← hT]; rfl
  have oq : ∀ q : Nat, q ≠ gt_B (z_G Z) + b → (H.setIfInBounds (gt_B (z_G Z) + b) cell)[q]? = H[q]? := fun q hq => by simp [Array.getElem?_setIfInBounds, Ne.symm hq]
  have hself : (H.setIfInBounds (gt_B (z_G Z) + b) cell)[gt_B (z_G Z) + b]? = some cell := by simp [Array.getElem?_setIfInBounds, hlt]
  have hw' : hw_ (z_G Z) (z_s Z) (hh_cp h a b sp.toNatClampNeg dp.toNatClampNeg n.toNatClampNeg) (H.setIfInBounds (gt_B (z_G Z) + b) cell) := by
    refine hw.upd hrb hw.2 (by simp) oq (ce_ia sb ?_) (fun k j e => ?_) (fun _ _ _ => rfl) (fun _ _ _ => rfl)
    · rw [hself, ← hcell]
      congr 1; congr 1; funext j
      unfold hh_cp
      simp
    · unfold hh_cp
      simp [e]
  obtain ⟨t, a1, b1⟩ := K _ _ ls hw' ⟨by simp; exact hs.1, fun q g1 g2 => by
      rw [oq q (fun e => g2 (by show gt_B (z_G Z) < q; omega))]
      exact hs.2.1 q g1 g2, fun q hq => by
      rcases List.mem_append.mp hq with h | h
      · exact hs.2.2 q h
      · obtain ⟨z, -, hz⟩ := List.mem_map.mp h
        rw [← hz]
        show gt_B (z_G Z) < gt_B (z_G Z) + b
        omega⟩ hl _ hheap X'
  exact ⟨t, step t a1, b1⟩
end XR
end
section
/-! ===== pieces of the functions and of their proofs ===== -/
def gd_ {α : Type} (b : Bool) (x : Option α) : Option α := if b = true then x else none
theorem gd_ok {α : Type} {b : Bool} {x : Option α} {r : α} (h : gd_ b x = some r) : b = true ∧ x = some r := by
  unfold gd_ at h
  by_cases e : b = true
  · rw [if_pos e] at h; exact ⟨e, h⟩
  · rw [if_neg e] at h; cases h
theorem ifo_ {α : Type} {c : Prop} [Decidable c] {a b x : α} (h : (if c then a else b) = x) : (c ∧ a = x) ∨ (¬ c ∧ b = x) := by
  by_cases e : c
  · rw [if_pos e] at h; exact Or.inl ⟨e, h⟩
  · rw [if_neg e] at h; exact Or.inr ⟨e, h⟩
theorem bdo_ {α β : Type} {x : Option α} {f : α → Option β} {r : β} (h : x.bind f = some r) : ∃ a, x = some a ∧ f a = some r := by
  cases x with
  | none => cases h
  | some a => exact ⟨a, rfl, h⟩
theorem pe_ {α β : Type} {p : α × β} : p = (p.1, p.2) := rfl
theorem lb_ {a b : Nat} (h : Nat.ble a b = true) : a ≤ b := Nat.le_of_ble_eq_true h
def FU_ : Nat := 5000
def bi_ (i : Int32) (n : Nat) : Bool := !(decide (i < 0) || decide (n ≤ i.toNatClampNeg))
theorem bi_ok {i : Int32} {n : Nat} (h : bi_ i n = true) : vp_in i n := by
  unfold bi_ at h
  unfold vp_in
  simpa using h
def bz_ (v : Int32) : Bool := v == 0 || v == 1
theorem bz_ok {v : Int32} (h : bz_ v = true) : v &&& 1 = v := by
  unfold bz_ at h
  rcases (Bool.or_eq_true _ _).mp h with e | e
  · rw [eq_of_beq e]; decide
  · rw [eq_of_beq e]; decide
theorem zb_0 : (0 : Int32) &&& 1 = 0 := by decide
theorem zb_1 : (1 : Int32) &&& 1 = 1 := by decide
def bn_ (v : Int32) : Bool := !(v == 0)
theorem bn_ok {v : Int32} (h : bn_ v = true) : ¬ v = 0 := by
  intro e
  subst e
  cases h
def bm_ (v : Int64) : Bool := !(v == 0)
theorem bm_ok {v : Int64} (h : bm_ v = true) : ¬ v = 0 := by
  intro e
  subst e
  cases h
def isO_ (o : Nat) : Prop := o = 39 ∨ o = 64
def bo_ (o : Nat) : Bool := o == 39 || o == 64
theorem bo_ok {o : Nat} (h : bo_ o = true) : isO_ o := by
  unfold bo_ at h
  unfold isO_
  simpa using h
def isK_ (o : Nat) : Prop := o = 89 ∨ o = 92 ∨ o = 95
theorem isO_pos {o : Nat} (h : isO_ o) : 0 < o := by rcases h with e | e <;> omega
theorem isO_lt {o : Nat} (h : isO_ o) : o < 500 := by rcases h with e | e <;> omega
theorem isK_pos {o : Nat} (h : isK_ o) : 0 < o := by rcases h with e | e | e <;> omega
theorem isK_lt {o : Nat} (h : isK_ o) : o < 500 := by rcases h with e | e | e <;> omega
theorem isK_in {i : Int32} (h : vp_in i 3) : isK_ (89 + 3 * Int32.toNatClampNeg i) := by
  have := vp_lt h
  unfold isK_
  omega
def bp_ (a : Nat) (i : Int32) : Bool := ((sh_ a).1 == 1) && bi_ i (sh_ a).2
theorem bp_sh {a : Nat} {i : Int32} (h : bp_ a i = true) : sh_ a = (1, (sh_ a).2) := by
  have h1 := (Bool.and_eq_true _ _ ▸ h : ((sh_ a).1 == 1) = true ∧ bi_ i (sh_ a).2 = true).1
  exact Prod.ext (eq_of_beq h1) rfl
theorem bp_in {a : Nat} {i : Int32} (h : bp_ a i = true) : vp_in i (sh_ a).2 := bi_ok (Bool.and_eq_true _ _ ▸ h : ((sh_ a).1 == 1) = true ∧ bi_ i (sh_ a).2 = true).2
def bc_ (sp dp n : Int32) (n0 n1 : Nat) : Bool := !(decide (sp < 0)) && (!(decide (dp < 0)) && (!(decide (n < 0)) && (decide (sp.toNatClampNeg + n.toNatClampNeg ≤ n0) && decide (dp.toNatClampNeg + n.toNatClampNeg ≤ n1))))
theorem bc_all {sp dp n : Int32} {n0 n1 : Nat} (h : bc_ sp dp n n0 n1 = true) : ¬ sp < 0 ∧ ¬ dp < 0 ∧ ¬ n < 0 ∧ sp.toNatClampNeg + n.toNatClampNeg ≤ n0 ∧ dp.toNatClampNeg + n.toNatClampNeg ≤ n1 := by
  unfold bc_ at h
  simp only [Bool.and_eq_true, Bool.not_eq_true', decide_eq_false_iff_not, decide_eq_true_eq] at h
  exact h
theorem bc_1 {sp dp n : Int32} {n0 n1 : Nat} (h : bc_ sp dp n n0 n1 = true) : ¬ sp < 0 := (bc_all h).1
theorem bc_2 {sp dp n : Int32} {n0 n1 : Nat} (h : bc_ sp dp n n0 n1 = true) : ¬ dp < 0 := (bc_all h).2.1
theorem bc_3 {sp dp n : Int32} {n0 n1 : Nat} (h : bc_ sp dp n n0 n1 = true) : ¬ n < 0 := (bc_all h).2.2.1
theorem bc_4 {sp dp n : Int32} {n0 n1 : Nat} (h : bc_ sp dp n n0 n1 = true) : sp.toNatClampNeg + n.toNatClampNeg ≤ n0 := (bc_all h).2.2.2.1
theorem bc_5 {sp dp n : Int32} {n0 n1 : Nat} (h : bc_ sp dp n n0 n1 = true) : dp.toNatClampNeg + n.toNatClampNeg ≤ n1 := (bc_all h).2.2.2.2
theorem sh_pos {k n : Nat} (h : sh_ k = (1, n)) : 0 < k := (sh_rng h (by decide)).1
theorem sh_lt {k n : Nat} (h : sh_ k = (1, n)) : k < 500 := by have := (sh_rng h (by decide)).2; omega
theorem sh_k1 : sh_ 1 = (0, 6) := rfl
theorem sh_k2 : sh_ 2 = (0, 4) := rfl
theorem sh_k3 : sh_ 3 = (2, 6) := rfl
theorem sh_k4 : sh_ 4 = (1, 40) := rfl
theorem sh_k5 : sh_ 5 = (1, 40) := rfl
theorem sh_k6 : sh_ 6 = (1, 40) := rfl
theorem sh_k7 : sh_ 7 = (1, 40) := rfl
theorem sh_k8 : sh_ 8 = (1, 40) := rfl
theorem sh_k9 : sh_ 9 = (1, 40) := rfl
theorem sh_k10 : sh_ 10 = (1, 6) := rfl
theorem sh_k11 : sh_ 11 = (0, 4) := rfl
theorem sh_k12 : sh_ 12 = (2, 4) := rfl
theorem sh_k13 : sh_ 13 = (1, 80) := rfl
theorem sh_k14 : sh_ 14 = (1, 80) := rfl
theorem sh_k15 : sh_ 15 = (1, 80) := rfl
theorem sh_k16 : sh_ 16 = (1, 80) := rfl
theorem sh_k17 : sh_ 17 = (1, 4) := rfl
theorem sh_k18 : sh_ 18 = (3, 3) := rfl
theorem sh_k19 : sh_ 19 = (0, 3) := rfl
theorem sh_k20 : sh_ 20 = (0, 2) := rfl
theorem sh_k21 : sh_ 21 = (1, 5) := rfl
theorem sh_k22 : sh_ 22 = (2, 6) := rfl
theorem sh_k23 : sh_ 23 = (1, 16) := rfl
theorem sh_k24 : sh_ 24 = (1, 16) := rfl
theorem sh_k25 : sh_ 25 = (1, 16) := rfl
theorem sh_k26 : sh_ 26 = (1, 16) := rfl
theorem sh_k27 : sh_ 27 = (1, 16) := rfl
theorem sh_k28 : sh_ 28 = (1, 16) := rfl
theorem sh_k29 : sh_ 29 = (2, 6) := rfl
theorem sh_k30 : sh_ 30 = (1, 16) := rfl
theorem sh_k31 : sh_ 31 = (1, 16) := rfl
theorem sh_k32 : sh_ 32 = (1, 16) := rfl
theorem sh_k33 : sh_ 33 = (1, 16) := rfl
theorem sh_k34 : sh_ 34 = (1, 16) := rfl
theorem sh_k35 : sh_ 35 = (1, 16) := rfl
theorem sh_k36 : sh_ 36 = (0, 5) := rfl
theorem sh_k37 : sh_ 37 = (1, 6) := rfl
theorem sh_k38 : sh_ 38 = (1, 4) := rfl
theorem sh_k39 : sh_ 39 = (0, 1) := rfl
theorem sh_k40 : sh_ 40 = (2, 5) := rfl
theorem sh_k41 : sh_ 41 = (1, 5) := rfl
theorem sh_k42 : sh_ 42 = (1, 5) := rfl
theorem sh_k43 : sh_ 43 = (1, 5) := rfl
theorem sh_k44 : sh_ 44 = (1, 5) := rfl
theorem sh_k45 : sh_ 45 = (1, 5) := rfl
theorem sh_k46 : sh_ 46 = (2, 5) := rfl
theorem sh_k47 : sh_ 47 = (1, 5) := rfl
theorem sh_k48 : sh_ 48 = (1, 5) := rfl
theorem sh_k49 : sh_ 49 = (1, 5) := rfl
theorem sh_k50 : sh_ 50 = (1, 5) := rfl
theorem sh_k51 : sh_ 51 = (1, 5) := rfl
theorem sh_k52 : sh_ 52 = (2, 4) := rfl
theorem sh_k53 : sh_ 53 = (1, 3) := rfl
theorem sh_k54 : sh_ 54 = (1, 3) := rfl
theorem sh_k55 : sh_ 55 = (1, 3) := rfl
theorem sh_k56 : sh_ 56 = (1, 3) := rfl
theorem sh_k57 : sh_ 57 = (2, 4) := rfl
theorem sh_k58 : sh_ 58 = (1, 5) := rfl
theorem sh_k59 : sh_ 59 = (1, 5) := rfl
theorem sh_k60 : sh_ 60 = (1, 5) := rfl
theorem sh_k61 : sh_ 61 = (1, 5) := rfl
theorem sh_k62 : sh_ 62 = (1, 3) := rfl
theorem sh_k63 : sh_ 63 = (1, 40) := rfl
theorem sh_k64 : sh_ 64 = (0, 1) := rfl
theorem sh_k65 : sh_ 65 = (2, 5) := rfl
theorem sh_k66 : sh_ 66 = (1, 5) := rfl
theorem sh_k67 : sh_ 67 = (1, 5) := rfl
theorem sh_k68 : sh_ 68 = (1, 5) := rfl
theorem sh_k69 : sh_ 69 = (1, 5) := rfl
theorem sh_k70 : sh_ 70 = (1, 5) := rfl
theorem sh_k71 : sh_ 71 = (2, 5) := rfl
theorem sh_k72 : sh_ 72 = (1, 5) := rfl
theorem sh_k73 : sh_ 73 = (1, 5) := rfl
theorem sh_k74 : sh_ 74 = (1, 5) := rfl
theorem sh_k75 : sh_ 75 = (1, 5) := rfl
theorem sh_k76 : sh_ 76 = (1, 5) := rfl
theorem sh_k77 : sh_ 77 = (2, 4) := rfl
theorem sh_k78 : sh_ 78 = (1, 3) := rfl
theorem sh_k79 : sh_ 79 = (1, 3) := rfl
theorem sh_k80 : sh_ 80 = (1, 3) := rfl
theorem sh_k81 : sh_ 81 = (1, 3) := rfl
theorem sh_k82 : sh_ 82 = (2, 4) := rfl
theorem sh_k83 : sh_ 83 = (1, 5) := rfl
theorem sh_k84 : sh_ 84 = (1, 5) := rfl
theorem sh_k85 : sh_ 85 = (1, 5) := rfl
theorem sh_k86 : sh_ 86 = (1, 5) := rfl
theorem sh_k87 : sh_ 87 = (1, 3) := rfl
theorem sh_k88 : sh_ 88 = (1, 40) := rfl
theorem sh_k89 : sh_ 89 = (0, 0) := rfl
theorem sh_k90 : sh_ 90 = (1, 40) := rfl
theorem sh_k91 : sh_ 91 = (1, 4) := rfl
theorem sh_k92 : sh_ 92 = (0, 0) := rfl
theorem sh_k93 : sh_ 93 = (1, 40) := rfl
theorem sh_k94 : sh_ 94 = (1, 4) := rfl
theorem sh_k95 : sh_ 95 = (0, 0) := rfl
theorem sh_k96 : sh_ 96 = (1, 40) := rfl
theorem sh_k97 : sh_ 97 = (1, 4) := rfl
theorem sh_k98 : sh_ 98 = (0, 7) := rfl
theorem sh_k99 : sh_ 99 = (1, 6) := rfl
theorem sh_k100 : sh_ 100 = (1, 6) := rfl
theorem sh_k101 : sh_ 101 = (1, 240) := rfl
theorem sh_k102 : sh_ 102 = (1, 40) := rfl
theorem sh_k103 : sh_ 103 = (1, 4) := rfl
theorem sh_k104 : sh_ 104 = (1, 320) := rfl
theorem sh_k105 : sh_ 105 = (1, 25) := rfl
theorem sh_k106 : sh_ 106 = (1, 12) := rfl
theorem sh_k107 : sh_ 107 = (1, 20) := rfl
theorem sh_k108 : sh_ 108 = (1, 60) := rfl
theorem sh_k109 : sh_ 109 = (1, 1000) := rfl
theorem sh_k110 : sh_ 110 = (1, 3090) := rfl
theorem sh_k111 : sh_ 111 = (1, 5) := rfl
theorem sh_k112 : sh_ 112 = (1, 5) := rfl
theorem sh_k113 : sh_ 113 = (1, 5) := rfl
theorem sh_k114 : sh_ 114 = (1, 4) := rfl
theorem sh_a3 : ∀ j, j < 6 → sh_ (4 + j) = (1, 40) := by decide
theorem sh_e3 {i : Int32} (h : vp_in i 6) : sh_ (4 + Int32.toNatClampNeg i) = (1, 40) := sh_a3 _ (vp_lt h)
theorem sh_a12 : ∀ j, j < 4 → sh_ (13 + j) = (1, 80) := by decide
theorem sh_e12 {i : Int32} (h : vp_in i 4) : sh_ (13 + Int32.toNatClampNeg i) = (1, 80) := sh_a12 _ (vp_lt h)
theorem sh_a22 : ∀ j, j < 6 → sh_ (23 + j) = (1, 16) := by decide
theorem sh_e22 {i : Int32} (h : vp_in i 6) : sh_ (23 + Int32.toNatClampNeg i) = (1, 16) := sh_a22 _ (vp_lt h)
theorem sh_a29 : ∀ j, j < 6 → sh_ (30 + j) = (1, 16) := by decide
theorem sh_e29 {i : Int32} (h : vp_in i 6) : sh_ (30 + Int32.toNatClampNeg i) = (1, 16) := sh_a29 _ (vp_lt h)
theorem sh_o {o : Nat} (h : isO_ o) : sh_ o = (0, 1) := by rcases h with e | e <;> subst e <;> rfl
theorem sh_o1 {o : Nat} (h : isO_ o) : sh_ (o + 1) = (2, 5) := by rcases h with e | e <;> subst e <;> rfl
theorem rc_o0 {o : Nat} (h : isO_ o) : rc_ 1 o 0 < 500 := by rcases h with e | e <;> subst e <;> decide
theorem rf_o0 {o : Nat} {h : hh_} (ho : isO_ o) : rf_ h 1 o 0 = (o + 1) := by rcases ho with e | e <;> subst e <;> rfl
theorem sh_b1 {o : Nat} (h : isO_ o) : ∀ j, j < 5 → sh_ (o + 2 + j) = (1, 5) := by rcases h with e | e <;> subst e <;> decide
theorem sh_oe1 {o : Nat} {i : Int32} (ho : isO_ o) (h : vp_in i 5) : sh_ (o + 2 + Int32.toNatClampNeg i) = (1, 5) := sh_b1 ho _ (vp_lt h)
theorem sh_o7 {o : Nat} (h : isO_ o) : sh_ (o + 7) = (2, 5) := by rcases h with e | e <;> subst e <;> rfl
theorem rc_o1 {o : Nat} (h : isO_ o) : rc_ 1 o 1 < 500 := by rcases h with e | e <;> subst e <;> decide
theorem rf_o1 {o : Nat} {h : hh_} (ho : isO_ o) : rf_ h 1 o 1 = (o + 7) := by rcases ho with e | e <;> subst e <;> rfl
theorem sh_b7 {o : Nat} (h : isO_ o) : ∀ j, j < 5 → sh_ (o + 8 + j) = (1, 5) := by rcases h with e | e <;> subst e <;> decide
theorem sh_oe7 {o : Nat} {i : Int32} (ho : isO_ o) (h : vp_in i 5) : sh_ (o + 8 + Int32.toNatClampNeg i) = (1, 5) := sh_b7 ho _ (vp_lt h)
theorem sh_o13 {o : Nat} (h : isO_ o) : sh_ (o + 13) = (2, 4) := by rcases h with e | e <;> subst e <;> rfl
theorem rc_o2 {o : Nat} (h : isO_ o) : rc_ 1 o 2 < 500 := by rcases h with e | e <;> subst e <;> decide
theorem rf_o2 {o : Nat} {h : hh_} (ho : isO_ o) : rf_ h 1 o 2 = (o + 13) := by rcases ho with e | e <;> subst e <;> rfl
theorem sh_b13 {o : Nat} (h : isO_ o) : ∀ j, j < 4 → sh_ (o + 14 + j) = (1, 3) := by rcases h with e | e <;> subst e <;> decide
theorem sh_oe13 {o : Nat} {i : Int32} (ho : isO_ o) (h : vp_in i 4) : sh_ (o + 14 + Int32.toNatClampNeg i) = (1, 3) := sh_b13 ho _ (vp_lt h)
theorem sh_o18 {o : Nat} (h : isO_ o) : sh_ (o + 18) = (2, 4) := by rcases h with e | e <;> subst e <;> rfl
theorem rc_o3 {o : Nat} (h : isO_ o) : rc_ 1 o 3 < 500 := by rcases h with e | e <;> subst e <;> decide
theorem rf_o3 {o : Nat} {h : hh_} (ho : isO_ o) : rf_ h 1 o 3 = (o + 18) := by rcases ho with e | e <;> subst e <;> rfl
theorem sh_b18 {o : Nat} (h : isO_ o) : ∀ j, j < 4 → sh_ (o + 19 + j) = (1, 5) := by rcases h with e | e <;> subst e <;> decide
theorem sh_oe18 {o : Nat} {i : Int32} (ho : isO_ o) (h : vp_in i 4) : sh_ (o + 19 + Int32.toNatClampNeg i) = (1, 5) := sh_b18 ho _ (vp_lt h)
theorem sh_o23 {o : Nat} (h : isO_ o) : sh_ (o + 23) = (1, 3) := by rcases h with e | e <;> subst e <;> rfl
theorem rc_o4 {o : Nat} (h : isO_ o) : rc_ 1 o 4 < 500 := by rcases h with e | e <;> subst e <;> decide
theorem rf_o4 {o : Nat} {h : hh_} (ho : isO_ o) : rf_ h 1 o 4 = (o + 23) := by rcases ho with e | e <;> subst e <;> rfl
theorem sh_o24 {o : Nat} (h : isO_ o) : sh_ (o + 24) = (1, 40) := by rcases h with e | e <;> subst e <;> rfl
theorem rc_o5 {o : Nat} (h : isO_ o) : rc_ 1 o 5 < 500 := by rcases h with e | e <;> subst e <;> decide
theorem rf_o5 {o : Nat} {h : hh_} (ho : isO_ o) : rf_ h 1 o 5 = (o + 24) := by rcases ho with e | e <;> subst e <;> rfl
theorem sh_kp {o : Nat} (h : isK_ o) : sh_ o = (0, 0) := by rcases h with e | e | e <;> subst e <;> rfl
theorem sh_kp0 {o : Nat} (h : isK_ o) : sh_ (o + 1) = (1, 40) := by rcases h with e | e | e <;> subst e <;> rfl
theorem rc_kp0 {o : Nat} (h : isK_ o) : rc_ 0 o 0 < 500 := by rcases h with e | e | e <;> subst e <;> decide
theorem rf_kp0 {o : Nat} {h : hh_} (ho : isK_ o) : rf_ h 0 o 0 = (o + 1) := by rcases ho with e | e | e <;> subst e <;> rfl
theorem sh_kp1 {o : Nat} (h : isK_ o) : sh_ (o + 2) = (1, 4) := by rcases h with e | e | e <;> subst e <;> rfl
theorem rc_kp1 {o : Nat} (h : isK_ o) : rc_ 0 o 1 < 500 := by rcases h with e | e | e <;> subst e <;> decide
theorem rf_kp1 {o : Nat} {h : hh_} (ho : isK_ o) : rf_ h 0 o 1 = (o + 2) := by rcases ho with e | e | e <;> subst e <;> rfl
theorem hn_N {h : hh_} {r : Nat} (hr : 0 < r ∧ r < 500) (hn : h.2.2.1 < 500 ∧ h.2.2.2.1 < 500 ∧ h.2.2.2.2 < 500) : (hh_sN h r).2.2.1 < 500 ∧ (hh_sN h r).2.2.2.1 < 500 ∧ (hh_sN h r).2.2.2.2 < 500 := ⟨hr.2, hn.2.1, hn.2.2⟩
theorem rr_N {h : hh_} {r : Nat} (k i : Nat) : rr_ (hh_sN h r) k i = if k = 1 ∧ i = 7 then r else rr_ h k i := by
  by_cases e : k = 1
  · subst e
    by_cases e2 : i = 7
    · subst e2; rfl
    · rw [if_neg (fun q => e2 q.2), rr_ob sh_k1, rr_ob sh_k1]
      unfold rf_
      simp [e2, hh_sN]
  · rw [if_neg (fun q => e q.1)]
    unfold rr_
    split
    · unfold rf_; simp [e, hh_sN]
    · rfl
theorem hn_D {h : hh_} {r : Nat} (hr : 0 < r ∧ r < 500) (hn : h.2.2.1 < 500 ∧ h.2.2.2.1 < 500 ∧ h.2.2.2.2 < 500) : (hh_sD h r).2.2.1 < 500 ∧ (hh_sD h r).2.2.2.1 < 500 ∧ (hh_sD h r).2.2.2.2 < 500 := ⟨hn.1, hr.2, hn.2.2⟩
theorem rr_D {h : hh_} {r : Nat} (k i : Nat) : rr_ (hh_sD h r) k i = if k = 1 ∧ i = 8 then r else rr_ h k i := by
  by_cases e : k = 1
  · subst e
    by_cases e2 : i = 8
    · subst e2; rfl
    · rw [if_neg (fun q => e2 q.2), rr_ob sh_k1, rr_ob sh_k1]
      unfold rf_
      simp [e2, hh_sD]
  · rw [if_neg (fun q => e q.1)]
    unfold rr_
    split
    · unfold rf_; simp [e, hh_sD]
    · rfl
theorem hn_O {h : hh_} {r : Nat} (hr : 0 < r ∧ r < 500) (hn : h.2.2.1 < 500 ∧ h.2.2.2.1 < 500 ∧ h.2.2.2.2 < 500) : (hh_sO h r).2.2.1 < 500 ∧ (hh_sO h r).2.2.2.1 < 500 ∧ (hh_sO h r).2.2.2.2 < 500 := ⟨hn.1, hn.2.1, hr.2⟩
theorem rr_O {h : hh_} {r : Nat} (k i : Nat) : rr_ (hh_sO h r) k i = if k = 19 ∧ i = 0 then r else rr_ h k i := by
  by_cases e : k = 19
  · subst e
    by_cases e2 : i = 0
    · subst e2; rfl
    · rw [if_neg (fun q => e2 q.2), rr_ob sh_k19, rr_ob sh_k19]
      unfold rf_
      simp [e2, hh_sO]
  · rw [if_neg (fun q => e q.1)]
    unfold rr_
    split
    · unfold rf_; simp [e, hh_sO]
    · rfl
theorem rt_i {Z : zz_} {v r : Int32} {h : hh_} (e : v = r) (Q : rq_ Z (some (.int r)) h) : rq_ Z (some (.int v)) h := e ▸ Q
theorem rt_ip {Z : zz_} {v r : Int32} {h : hh_} (e : some v = some r) (Q : rq_ Z (some (.int r)) h) : rq_ Z (some (.int v)) h := by cases e; exact Q
theorem rt_iw {Z : zz_} {v r : Int32} {h h' : hh_} (e : (v, h) = (r, h')) (Q : rq_ Z (some (.int r)) h') : rq_ Z (some (.int v)) h := by cases e; exact Q
theorem rt_iwp {Z : zz_} {v r : Int32} {h h' : hh_} (e : some (v, h) = some (r, h')) (Q : rq_ Z (some (.int r)) h') : rq_ Z (some (.int v)) h := by cases e; exact Q
theorem rt_l {Z : zz_} {v r : Int64} {h : hh_} (e : v = r) (Q : rq_ Z (some (.long r)) h) : rq_ Z (some (.long v)) h := e ▸ Q
theorem rt_lp {Z : zz_} {v r : Int64} {h : hh_} (e : some v = some r) (Q : rq_ Z (some (.long r)) h) : rq_ Z (some (.long v)) h := by cases e; exact Q
theorem rt_lw {Z : zz_} {v r : Int64} {h h' : hh_} (e : (v, h) = (r, h')) (Q : rq_ Z (some (.long r)) h') : rq_ Z (some (.long v)) h := by cases e; exact Q
theorem rt_lwp {Z : zz_} {v r : Int64} {h h' : hh_} (e : some (v, h) = some (r, h')) (Q : rq_ Z (some (.long r)) h') : rq_ Z (some (.long v)) h := by cases e; exact Q
theorem rt_vw {Z : zz_} {h h' : hh_} (e : h = h') (Q : rq_ Z none h') : rq_ Z none h := by cases e; exact Q
theorem rt_vwp {Z : zz_} {h h' : hh_} (e : some h = some h') (Q : rq_ Z none h') : rq_ Z none h := by cases e; exact Q
def lm_ : List Bool → List (Option Value) → List (Option Value)
  | [], _ => []
  | _, [] => []
  | true :: b, x :: l => x :: lm_ b l
  | false :: b, _ :: l => none :: lm_ b l
theorem lm_get : ∀ (b : List Bool) (l : List (Option Value)) (i : Nat) (v : Value), (lm_ b l)[i]? = some (some v) → l[i]? = some (some v)
  | [], _, i, v, h => by simp [lm_] at h
  | _ :: _, [], i, v, h => by simp [lm_] at h
  | true :: b, x :: l, 0, v, h => h
  | true :: b, x :: l, i + 1, v, h => lm_get b l i v h
  | false :: b, x :: l, 0, v, h => by simp [lm_] at h
  | false :: b, x :: l, i + 1, v, h => lm_get b l i v h
theorem xx_mask {Z : zz_} {pc : Nat} {lv : List (Option Value)} {st : List Value} {h : hh_} (b : List Bool) (K : xx_ Z pc (lm_ b lv) st h) : xx_ Z pc lv st h := fun H locs ls hw hs hl => K H locs ls hw hs ⟨hl.1, hl.2.1, fun i v e => hl.2.2 i v (lm_get b lv i v e)⟩
theorem tab_out {x : Int32} {lo hi : Int} {n : Nat} (h : ∀ k : Nat, k < n → ¬ x = Int32.ofInt (lo + k)) (e : hi = lo + n - 1) : x.toInt < lo ∨ hi < x.toInt := by
  by_cases h1 : x.toInt < lo
  · exact Or.inl h1
  · by_cases h2 : hi < x.toInt
    · exact Or.inr h2
    · exfalso
      refine h (x.toInt - lo).toNat (by omega) ?_
      rw [show lo + ((x.toInt - lo).toNat : Int) = x.toInt by omega]
      exact (Int32.ofInt_toInt x).symm
section XW
variable {Z : zz_} {M : mt_} {d : Nat} {pc : Nat} {lv : List (Option Value)} {st : List Value} {h : hh_}
theorem xx_ldcw (C : cx_ Z M d) {idx : Nat} {v : Int32} (D : decode M.2.1 pc = .ok (.ldc_w idx, 3)) (hv : Cond.constant M.1.cls idx v ∈ lw_tbl) (K : xx_ Z (pc + 3) lv (.int v :: st) h) : xx_ Z pc lv st h := fun H locs ls hw hs hl => lv_ldcw C.ex C.co C.ow (C.ts _ (gw_in hv rfl)) D (K H locs ls hw hs hl)
theorem xx_callVi (C : cx_ Z M d) {M' : mt_} {d' n idx ci o : Nat} {q : vw_C} {ty : Nat → FieldType} {as rest : List Value} {r : Int32} {h1 : hh_} (hM : ok_ (z_l Z) (z_G Z) d' M' (.ref o :: as) h (some (.int r)) h1) (D : decode M.2.1 pc = .ok (.invokevirtual idx, 3)) (ck : ck_ ci q ty) (hq : M'.1.cls = q.1) (so : sh_ o = (0, ci)) (k : mk_ M' n) (ki : mi_ M') (lk : Cond.methodLink M.1.cls idx M'.1 ∈ lw_tbl) (hd : d' + 1 ≤ d) (hn : as.length = n) (est : as.reverse ++ .ref o :: rest = st) (hrest : (rest.map fun v => v.category).sum ≤ 8) (K : xx_ Z (pc + 3) lv (.int r :: rest) h1) : xx_ Z pc lv st h := xx_callV C hM D ck hq so k ki lk hd hn est hrest K
theorem xx_callSi (C : cx_ Z M d) {M' : mt_} {d' n idx : Nat} {as rest : List Value} {r : Int32} {h1 : hh_} (hM : ok_ (z_l Z) (z_G Z) d' M' as h (some (.int r)) h1) (D : decode M.2.1 pc = .ok (.invokestatic idx, 3)) (k : mk_ M' n) (ks : Cond.static M'.1 ∈ lw_tbl) (lk : Cond.methodLink M.1.cls idx M'.1 ∈ lw_tbl) (hd : d' + 1 ≤ d) (hn : as.length = n) (est : as.reverse ++ rest = st) (hrest : (rest.map fun v => v.category).sum ≤ 8) (K : xx_ Z (pc + 3) lv (.int r :: rest) h1) : xx_ Z pc lv st h := xx_callS C hM D k ks lk hd hn est hrest K
theorem xx_callVl (C : cx_ Z M d) {M' : mt_} {d' n idx ci o : Nat} {q : vw_C} {ty : Nat → FieldType} {as rest : List Value} {r : Int64} {h1 : hh_} (hM : ok_ (z_l Z) (z_G Z) d' M' (.ref o :: as) h (some (.long r)) h1) (D : decode M.2.1 pc = .ok (.invokevirtual idx, 3)) (ck : ck_ ci q ty) (hq : M'.1.cls = q.1) (so : sh_ o = (0, ci)) (k : mk_ M' n) (ki : mi_ M') (lk : Cond.methodLink M.1.cls idx M'.1 ∈ lw_tbl) (hd : d' + 1 ≤ d) (hn : as.length = n) (est : as.reverse ++ .ref o :: rest = st) (hrest : (rest.map fun v => v.category).sum ≤ 8) (K : xx_ Z (pc + 3) lv (.long r :: rest) h1) : xx_ Z pc lv st h := xx_callV C hM D ck hq so k ki lk hd hn est hrest K
theorem xx_callSl (C : cx_ Z M d) {M' : mt_} {d' n idx : Nat} {as rest : List Value} {r : Int64} {h1 : hh_} (hM : ok_ (z_l Z) (z_G Z) d' M' as h (some (.long r)) h1) (D : decode M.2.1 pc = .ok (.invokestatic idx, 3)) (k : mk_ M' n) (ks : Cond.static M'.1 ∈ lw_tbl) (lk : Cond.methodLink M.1.cls idx M'.1 ∈ lw_tbl) (hd : d' + 1 ≤ d) (hn : as.length = n) (est : as.reverse ++ rest = st) (hrest : (rest.map fun v => v.category).sum ≤ 8) (K : xx_ Z (pc + 3) lv (.long r :: rest) h1) : xx_ Z pc lv st h := xx_callS C hM D k ks lk hd hn est hrest K
theorem xx_callVv (C : cx_ Z M d) {M' : mt_} {d' n idx ci o : Nat} {q : vw_C} {ty : Nat → FieldType} {as rest : List Value} {h1 : hh_} (hM : ok_ (z_l Z) (z_G Z) d' M' (.ref o :: as) h none h1) (D : decode M.2.1 pc = .ok (.invokevirtual idx, 3)) (ck : ck_ ci q ty) (hq : M'.1.cls = q.1) (so : sh_ o = (0, ci)) (k : mk_ M' n) (ki : mi_ M') (lk : Cond.methodLink M.1.cls idx M'.1 ∈ lw_tbl) (hd : d' + 1 ≤ d) (hn : as.length = n) (est : as.reverse ++ .ref o :: rest = st) (hrest : (rest.map fun v => v.category).sum ≤ 8) (K : xx_ Z (pc + 3) lv rest h1) : xx_ Z pc lv st h := xx_callV C hM D ck hq so k ki lk hd hn est hrest K
theorem xx_callSv (C : cx_ Z M d) {M' : mt_} {d' n idx : Nat} {as rest : List Value} {h1 : hh_} (hM : ok_ (z_l Z) (z_G Z) d' M' as h none h1) (D : decode M.2.1 pc = .ok (.invokestatic idx, 3)) (k : mk_ M' n) (ks : Cond.static M'.1 ∈ lw_tbl) (lk : Cond.methodLink M.1.cls idx M'.1 ∈ lw_tbl) (hd : d' + 1 ≤ d) (hn : as.length = n) (est : as.reverse ++ rest = st) (hrest : (rest.map fun v => v.category).sum ≤ 8) (K : xx_ Z (pc + 3) lv rest h1) : xx_ Z pc lv st h := xx_callS C hM D k ks lk hd hn est hrest K
end XW
theorem ic_m1 : Int32.ofInt (-1) = -1 := by decide
theorem ic_0 : Int32.ofInt (0) = 0 := by decide
theorem ic_1 : Int32.ofInt (1) = 1 := by decide
theorem ic_2 : Int32.ofInt (2) = 2 := by decide
theorem ic_3 : Int32.ofInt (3) = 3 := by decide
theorem ic_4 : Int32.ofInt (4) = 4 := by decide
theorem ic_5 : Int32.ofInt (5) = 5 := by decide
theorem ic_6 : Int32.ofInt (6) = 6 := by decide
theorem ic_7 : Int32.ofInt (7) = 7 := by decide
theorem ic_m9 : Int32.ofInt (-9) = -9 := by decide
theorem pn_RX0 : plainName RX0 = true := by decide +kernel
theorem pn_RX1 : plainName RX1 = true := by decide +kernel
theorem pn_RX2 : plainName RX2 = true := by decide +kernel
theorem pn_RX3 : plainName RX3 = true := by decide +kernel
theorem pn_RX4 : plainName RX4 = true := by decide +kernel
theorem pn_RX5 : plainName RX5 = true := by decide +kernel
theorem pn_RX6 : plainName RX6 = true := by decide +kernel
theorem pn_RX7 : plainName RX7 = true := by decide +kernel
theorem pn_RX8 : plainName RX8 = true := by decide +kernel
end
section
def ff_X5r_allows (a1 : Int32) (h : hh_) : Int32 :=
  if a1 < 0 then
    (0 : Int32)
  else
    if (6 : Int32) ≤ a1 then
      (0 : Int32)
    else
      (1 : Int32)
def ff_X5r_renew_10 (x1 : Int32) (x2 : Int32) (x3 : Int32) : Nat → Int32 → hh_ → Option (hh_)
  | 0, _, _ => none
  | n9 + 1, x4, h =>
    if x2 ≤ x4 then
      some (h)
    else
      gd_ (bi_ x1 6) <|
      gd_ (bi_ x4 40) <|
      ff_X5r_renew_10 x1 x2 x3 n9 (x4 + (1 : Int32)) (hh_sI h (4 + Int32.toNatClampNeg x1) (Int32.toNatClampNeg x4) x3)
def ff_X5r_renew (a1 : Int32) (a2 : Int32) (a3 : Int32) (h : hh_) : Option (hh_) :=
  gd_ (bi_ a1 6) <|
  ff_X5r_renew_10 a1 a2 a3 FU_ (0 : Int32) (hh_sI h 10 (Int32.toNatClampNeg a1) a2)
def ff_X6_refuse (a1 : Int32) (h : hh_) : Option (Int32 × hh_) :=
  gd_ (bi_ a1 6) <|
  some ((-3 : Int32), (hh_sI (hh_sI h 36 1 a1) 37 (Int32.toNatClampNeg a1) (((hh_sI h 36 1 a1).1 37 (Int32.toNatClampNeg a1)) + (1 : Int32))))
def ff_X7_row (a1 : Int32) (a2 : Int32) (h : hh_) : Option (Int32 × hh_) :=
  if (ff_X5r_allows a1 h) = 0 then
    some ((-1 : Int32), h)
  else
    if a2 ≤ (40 : Int32) then
      if 0 ≤ a2 then
        (ff_X5r_renew a1 a2 (0 : Int32) h).bind fun v1 =>
        some (a2, v1)
      else
        (ff_X6_refuse (5 : Int32) h).bind fun v3 =>
        some (v3.1, v3.2)
    else
      some ((-1 : Int32), h)
def ff_X5r_lacks (a1 : Int32) (h : hh_) : Option (Int32) :=
  gd_ (bi_ a1 6) <|
  if (h.1 10 (Int32.toNatClampNeg a1)) = (-1 : Int32) then
    some (1 : Int32)
  else
    some (0 : Int32)
def ff_X5r_findingAt (a1 : Int32) (a2 : Int32) (h : hh_) : Option (Int32) :=
  (ff_X5r_lacks a1 h).bind fun v1 =>
  if v1 = 0 then
    if a2 < 0 then
      some (2 : Int32)
    else
      gd_ (bi_ a1 6) <|
      if a2 < (h.1 10 (Int32.toNatClampNeg a1)) then
        some (0 : Int32)
      else
        some (2 : Int32)
  else
    some (1 : Int32)
def ff_X6_tell (a1 : Int32) (h : hh_) : Int32 × hh_ :=
  ((1 : Int32), (hh_sI h 36 2 a1))
def ff_X7_lay (a1 : Int32) (a2 : Int32) (a3 : Int32) (h : hh_) : Option (Int32 × hh_) :=
  if (ff_X5r_allows a1 h) = 0 then
    some ((-1 : Int32), h)
  else
    (ff_X5r_findingAt a1 a2 h).bind fun v1 =>
    if v1 = 0 then
      gd_ (bi_ a1 6) <|
      gd_ (bi_ a2 40) <|
      some ((ff_X6_tell (h.1 (4 + Int32.toNatClampNeg a1) (Int32.toNatClampNeg a2)) (hh_sI h (4 + Int32.toNatClampNeg a1) (Int32.toNatClampNeg a2) a3)).1, (ff_X6_tell (h.1 (4 + Int32.toNatClampNeg a1) (Int32.toNatClampNeg a2)) (hh_sI h (4 + Int32.toNatClampNeg a1) (Int32.toNatClampNeg a2) a3)).2)
    else
      (ff_X6_refuse v1 h).bind fun v5 =>
      some (v5.1, v5.2)
def ff_X7_at (a1 : Int32) (a2 : Int32) (h : hh_) : Option (Int32 × hh_) :=
  if (ff_X5r_allows a1 h) = 0 then
    some ((-1 : Int32), h)
  else
    (ff_X5r_findingAt a1 a2 h).bind fun v1 =>
    if v1 = 0 then
      gd_ (bi_ a1 6) <|
      gd_ (bi_ a2 40) <|
      some ((ff_X6_tell (h.1 (4 + Int32.toNatClampNeg a1) (Int32.toNatClampNeg a2)) h).1, (ff_X6_tell (h.1 (4 + Int32.toNatClampNeg a1) (Int32.toNatClampNeg a2)) h).2)
    else
      (ff_X6_refuse v1 h).bind fun v5 =>
      some (v5.1, v5.2)
def ff_X7_tear (a1 : Int32) (h : hh_) : Option (Int32 × hh_) :=
  if (ff_X5r_allows a1 h) = 0 then
    some ((-1 : Int32), h)
  else
    (ff_X5r_lacks a1 h).bind fun v1 =>
    if v1 = 0 then
      gd_ (bi_ a1 6) <|
      some ((1 : Int32), (hh_sI h 10 (Int32.toNatClampNeg a1) (-1 : Int32)))
    else
      (ff_X6_refuse (1 : Int32) h).bind fun v4 =>
      some (v4.1, v4.2)
def ff_X5r_spans (a1 : Int32) (a2 : Int32) (a3 : Int32) (h : hh_) : Option (Int32) :=
  if a2 < 0 then
    some (0 : Int32)
  else
    gd_ (bi_ a1 6) <|
    if (h.1 10 (Int32.toNatClampNeg a1)) < a3 then
      some (0 : Int32)
    else
      if ((h.1 10 (Int32.toNatClampNeg a1)) - a3) < a2 then
        some (0 : Int32)
      else
        some (1 : Int32)
def ff_X7_copy (a1 : Int32) (a2 : Int32) (a3 : Int32) (a4 : Int32) (a5 : Int32) (h : hh_) : Option (Int32 × hh_) :=
  if (ff_X5r_allows a1 h) = 0 then
    some ((-1 : Int32), h)
  else
    if (ff_X5r_allows a3 h) = 0 then
      some ((-1 : Int32), h)
    else
      if 0 ≤ a5 then
        (ff_X5r_lacks a1 h).bind fun v1 =>
        if v1 = 0 then
          (ff_X5r_lacks a3 h).bind fun v5 =>
          if v5 = 0 then
            (ff_X5r_spans a1 a2 a5 h).bind fun v7 =>
            if v7 = 0 then
              (ff_X6_refuse (2 : Int32) h).bind fun v9 =>
              some (v9.1, v9.2)
            else
              (ff_X5r_spans a3 a4 a5 h).bind fun v11 =>
              if v11 = 0 then
                (ff_X6_refuse (2 : Int32) h).bind fun v16 =>
                some (v16.1, v16.2)
              else
                gd_ (bi_ a1 6) <|
                gd_ (bi_ a3 6) <|
                gd_ (bc_ a2 a4 a5 40 40) <|
                some ((1 : Int32), (hh_cp h (4 + Int32.toNatClampNeg a1) (4 + Int32.toNatClampNeg a3) (Int32.toNatClampNeg a2) (Int32.toNatClampNeg a4) (Int32.toNatClampNeg a5)))
          else
            (ff_X6_refuse (1 : Int32) h).bind fun v18 =>
            some (v18.1, v18.2)
        else
          (ff_X6_refuse (1 : Int32) h).bind fun v3 =>
          some (v3.1, v3.2)
      else
        (ff_X6_refuse (5 : Int32) h).bind fun v20 =>
        some (v20.1, v20.2)
def ff_X5r_sum_5 (x1 : Int32) (h : hh_) : Nat → Int64 → Int32 → Option (Int64)
  | 0, _, _ => none
  | n9 + 1, x2, x4 =>
    gd_ (bi_ x1 6) <|
    if (h.1 10 (Int32.toNatClampNeg x1)) ≤ x4 then
      some (x2)
    else
      gd_ (bi_ x4 40) <|
      ff_X5r_sum_5 x1 h n9 (x2 + (Int32.toInt64 (h.1 (4 + Int32.toNatClampNeg x1) (Int32.toNatClampNeg x4)))) (x4 + (1 : Int32))
def ff_X5r_sum (a1 : Int32) (h : hh_) : Option (Int64) :=
  ff_X5r_sum_5 a1 h FU_ (0 : Int64) (0 : Int32)
def ff_X7_mean (a1 : Int32) (h : hh_) : Option (Int32 × hh_) :=
  if (ff_X5r_allows a1 h) = 0 then
    some ((-1 : Int32), h)
  else
    (ff_X5r_lacks a1 h).bind fun v1 =>
    if v1 = 0 then
      gd_ (bi_ a1 6) <|
      if (h.1 10 (Int32.toNatClampNeg a1)) = 0 then
        (ff_X6_refuse (4 : Int32) h).bind fun v7 =>
        some (v7.1, v7.2)
      else
        (ff_X5r_sum a1 h).bind fun v4 =>
        gd_ (bm_ (Int32.toInt64 (h.1 10 (Int32.toNatClampNeg a1)))) <|
        some ((ff_X6_tell (Int64.toInt32 (v4 / (Int32.toInt64 (h.1 10 (Int32.toNatClampNeg a1))))) h).1, (ff_X6_tell (Int64.toInt32 (v4 / (Int32.toInt64 (h.1 10 (Int32.toNatClampNeg a1))))) h).2)
    else
      (ff_X6_refuse (1 : Int32) h).bind fun v9 =>
      some (v9.1, v9.2)
def ff_X5t_allows (a1 : Int32) (h : hh_) : Int32 :=
  if a1 < 0 then
    (0 : Int32)
  else
    if (4 : Int32) ≤ a1 then
      (0 : Int32)
    else
      (1 : Int32)
def ff_X5t_renew_10 (x1 : Int32) (x2 : Int32) (x3 : Int32) : Nat → Int32 → hh_ → Option (hh_)
  | 0, _, _ => none
  | n9 + 1, x4, h =>
    if x2 ≤ x4 then
      some (h)
    else
      gd_ (bi_ x1 4) <|
      gd_ (bi_ x4 80) <|
      ff_X5t_renew_10 x1 x2 x3 n9 (x4 + (1 : Int32)) (hh_sI h (13 + Int32.toNatClampNeg x1) (Int32.toNatClampNeg x4) x3)
def ff_X5t_renew (a1 : Int32) (a2 : Int32) (a3 : Int32) (h : hh_) : Option (hh_) :=
  gd_ (bi_ a1 4) <|
  ff_X5t_renew_10 a1 a2 a3 FU_ (0 : Int32) (hh_sI h 17 (Int32.toNatClampNeg a1) a2)
def ff_X7_text (a1 : Int32) (a2 : Int32) (h : hh_) : Option (Int32 × hh_) :=
  if (ff_X5t_allows a1 h) = 0 then
    some ((-1 : Int32), h)
  else
    if a2 ≤ (80 : Int32) then
      if 0 ≤ a2 then
        (ff_X5t_renew a1 a2 (32 : Int32) h).bind fun v1 =>
        some (a2, v1)
      else
        (ff_X6_refuse (5 : Int32) h).bind fun v3 =>
        some (v3.1, v3.2)
    else
      some ((-1 : Int32), h)
def ff_X5t_lacks (a1 : Int32) (h : hh_) : Option (Int32) :=
  gd_ (bi_ a1 4) <|
  if (h.1 17 (Int32.toNatClampNeg a1)) = (-1 : Int32) then
    some (1 : Int32)
  else
    some (0 : Int32)
def ff_X5t_findingAt (a1 : Int32) (a2 : Int32) (h : hh_) : Option (Int32) :=
  (ff_X5t_lacks a1 h).bind fun v1 =>
  if v1 = 0 then
    if a2 < 0 then
      some (2 : Int32)
    else
      gd_ (bi_ a1 4) <|
      if a2 < (h.1 17 (Int32.toNatClampNeg a1)) then
        some (0 : Int32)
      else
        some (2 : Int32)
  else
    some (1 : Int32)
def ff_X7_put (a1 : Int32) (a2 : Int32) (a3 : Int32) (h : hh_) : Option (Int32 × hh_) :=
  if (ff_X5t_allows a1 h) = 0 then
    some ((-1 : Int32), h)
  else
    (ff_X5t_findingAt a1 a2 h).bind fun v1 =>
    if v1 = 0 then
      gd_ (bi_ a1 4) <|
      gd_ (bi_ a2 80) <|
      some (((h.1 (13 + Int32.toNatClampNeg a1) (Int32.toNatClampNeg a2)) + (1000 : Int32)), (hh_sI h (13 + Int32.toNatClampNeg a1) (Int32.toNatClampNeg a2) (Int8.toInt32 (Int32.toInt8 a3))))
    else
      (ff_X6_refuse v1 h).bind fun v5 =>
      some (v5.1, v5.2)
def ff_X4_kindBy_2 (x0 : Int32) (h : hh_) : Nat → Int32 → Option (Int32)
  | 0, _ => none
  | n9 + 1, x1 =>
    if (6 : Int32) ≤ x1 then
      some (-9 : Int32)
    else
      gd_ (bi_ x1 6) <|
      if ((sn_ 3).2.getD (Int32.toNatClampNeg x1) 0) = x0 then
        some (x1)
      else
        ff_X4_kindBy_2 x0 h n9 (x1 + (1 : Int32))
def ff_X4_kindBy (a0 : Int32) (h : hh_) : Option (Int32) :=
  ff_X4_kindBy_2 a0 h FU_ (0 : Int32)
def ff_X4_opensItem_106 (x3 : Int32) (h : hh_) : Option (Int32 × hh_) :=
  gd_ (bi_ x3 3) <|
  gd_ (bo_ h.2.2.2.2) <|
  some ((1 : Int32), (hh_sI (hh_sI (hh_sI h 19 1 x3) 19 2 ((sn_ 0).2.getD (Int32.toNatClampNeg x3) 0)) (h.2.2.2.2 + 23) (Int32.toNatClampNeg x3) (((hh_sI (hh_sI h 19 1 x3) 19 2 ((sn_ 0).2.getD (Int32.toNatClampNeg x3) 0)).1 (h.2.2.2.2 + 23) (Int32.toNatClampNeg x3)) + (1 : Int32))))
def ff_X4_opensItem_62 (x2 : Int32) (x3 : Int32) (h : hh_) : Option (Int32 × hh_) :=
  gd_ (bo_ h.2.2.2.2) <|
  gd_ (bi_ x3 3) <|
  if (h.1 (h.2.2.2.2 + 23) (Int32.toNatClampNeg x3)) < ((sn_ 4).2.getD (Int32.toNatClampNeg x3) 0) then
    if x3 = (1 : Int32) then
      gd_ (bi_ (h.1 (h.2.2.2.2 + 23) (Int32.toNatClampNeg (1 : Int32))) 4) <|
      ff_X4_opensItem_106 x3 (hh_sI h (h.2.2.2.2 + 14 + Int32.toNatClampNeg (h.1 (h.2.2.2.2 + 23) (Int32.toNatClampNeg (1 : Int32)))) (Int32.toNatClampNeg (0 : Int32)) x2)
    else
      ff_X4_opensItem_106 x3 h
  else
    some ((0 : Int32), h)
def ff_X4_opensItem_37 (x2 : Int32) (y0 : Int32) (h : hh_) : Option (Int32 × hh_) :=
  if y0 < (h.1 19 1) then
    some ((0 : Int32), h)
  else
    if y0 = 0 then
      ff_X4_opensItem_62 x2 y0 h
    else
      gd_ (bo_ h.2.2.2.2) <|
      if (h.1 (h.2.2.2.2 + 23) (Int32.toNatClampNeg (0 : Int32))) = 0 then
        some ((0 : Int32), h)
      else
        ff_X4_opensItem_62 x2 y0 h
def ff_X4_opensItem (a1 : Int32) (h : hh_) : Option (Int32 × hh_) :=
  (ff_X4_kindBy a1 h).bind fun v1 =>
  if v1 = (-9 : Int32) then
    if a1 = (104 : Int32) then
      ff_X4_opensItem_37 v1 (0 : Int32) h
    else
      if a1 = (112 : Int32) then
        ff_X4_opensItem_37 v1 (2 : Int32) h
      else
        ff_X4_opensItem_37 v1 (-9 : Int32) h
  else
    ff_X4_opensItem_37 v1 (1 : Int32) h
def ff_X4_takesFigure (a1 : Int32) (h : hh_) : Option (Int32 × hh_) :=
  gd_ (bi_ (h.1 19 1) 3) <|
  gd_ (bi_ (((h.1 19 1) * (5 : Int32)) + (((sn_ 0).2.getD (Int32.toNatClampNeg (h.1 19 1)) 0) - (h.1 19 2))) 15) <|
  if (a1 - (48 : Int32)) < ((sn_ 1).2.getD (Int32.toNatClampNeg (((h.1 19 1) * (5 : Int32)) + (((sn_ 0).2.getD (Int32.toNatClampNeg (h.1 19 1)) 0) - (h.1 19 2)))) 0) then
    some ((0 : Int32), h)
  else
    if (a1 - (48 : Int32)) ≤ ((sn_ 2).2.getD (Int32.toNatClampNeg (((h.1 19 1) * (5 : Int32)) + (((sn_ 0).2.getD (Int32.toNatClampNeg (h.1 19 1)) 0) - (h.1 19 2)))) 0) then
      gd_ (bo_ h.2.2.2.2) <|
      if (h.1 19 1) = 0 then
        gd_ (bi_ ((h.1 (h.2.2.2.2 + 23) (Int32.toNatClampNeg (h.1 19 1))) - (1 : Int32)) 5) <|
        gd_ (bi_ (((sn_ 0).2.getD (Int32.toNatClampNeg (h.1 19 1)) 0) - (h.1 19 2)) 5) <|
        some ((1 : Int32), (hh_sI (hh_sI h (h.2.2.2.2 + 2 + Int32.toNatClampNeg ((h.1 (h.2.2.2.2 + 23) (Int32.toNatClampNeg (h.1 19 1))) - (1 : Int32))) (Int32.toNatClampNeg (((sn_ 0).2.getD (Int32.toNatClampNeg (h.1 19 1)) 0) - (h.1 19 2))) (a1 - (48 : Int32))) 19 2 (((hh_sI h (h.2.2.2.2 + 2 + Int32.toNatClampNeg ((h.1 (h.2.2.2.2 + 23) (Int32.toNatClampNeg (h.1 19 1))) - (1 : Int32))) (Int32.toNatClampNeg (((sn_ 0).2.getD (Int32.toNatClampNeg (h.1 19 1)) 0) - (h.1 19 2))) (a1 - (48 : Int32))).1 19 2) - (1 : Int32))))
      else
        if (h.1 19 1) = (1 : Int32) then
          gd_ (bi_ ((h.1 (h.2.2.2.2 + 23) (Int32.toNatClampNeg (h.1 19 1))) - (1 : Int32)) 4) <|
          gd_ (bi_ ((1 : Int32) + (((sn_ 0).2.getD (Int32.toNatClampNeg (h.1 19 1)) 0) - (h.1 19 2))) 3) <|
          some ((1 : Int32), (hh_sI (hh_sI h (h.2.2.2.2 + 14 + Int32.toNatClampNeg ((h.1 (h.2.2.2.2 + 23) (Int32.toNatClampNeg (h.1 19 1))) - (1 : Int32))) (Int32.toNatClampNeg ((1 : Int32) + (((sn_ 0).2.getD (Int32.toNatClampNeg (h.1 19 1)) 0) - (h.1 19 2)))) (a1 - (48 : Int32))) 19 2 (((hh_sI h (h.2.2.2.2 + 14 + Int32.toNatClampNeg ((h.1 (h.2.2.2.2 + 23) (Int32.toNatClampNeg (h.1 19 1))) - (1 : Int32))) (Int32.toNatClampNeg ((1 : Int32) + (((sn_ 0).2.getD (Int32.toNatClampNeg (h.1 19 1)) 0) - (h.1 19 2)))) (a1 - (48 : Int32))).1 19 2) - (1 : Int32))))
        else
          gd_ (bi_ ((h.1 (h.2.2.2.2 + 23) (Int32.toNatClampNeg (h.1 19 1))) - (1 : Int32)) 4) <|
          gd_ (bi_ (((sn_ 0).2.getD (Int32.toNatClampNeg (h.1 19 1)) 0) - (h.1 19 2)) 5) <|
          some ((1 : Int32), (hh_sI (hh_sI h (h.2.2.2.2 + 19 + Int32.toNatClampNeg ((h.1 (h.2.2.2.2 + 23) (Int32.toNatClampNeg (h.1 19 1))) - (1 : Int32))) (Int32.toNatClampNeg (((sn_ 0).2.getD (Int32.toNatClampNeg (h.1 19 1)) 0) - (h.1 19 2))) (a1 - (48 : Int32))) 19 2 (((hh_sI h (h.2.2.2.2 + 19 + Int32.toNatClampNeg ((h.1 (h.2.2.2.2 + 23) (Int32.toNatClampNeg (h.1 19 1))) - (1 : Int32))) (Int32.toNatClampNeg (((sn_ 0).2.getD (Int32.toNatClampNeg (h.1 19 1)) 0) - (h.1 19 2))) (a1 - (48 : Int32))).1 19 2) - (1 : Int32))))
    else
      some ((0 : Int32), h)
def ff_X4_goesOn (a1 : Int32) (h : hh_) : Option (Int32 × hh_) :=
  if (h.1 19 2) ≤ 0 then
    if a1 = (32 : Int32) then
      some ((1 : Int32), h)
    else
      (ff_X4_opensItem a1 h).bind fun v1 =>
      if v1.1 = 0 then
        some ((0 : Int32), v1.2)
      else
        some ((1 : Int32), v1.2)
  else
    (ff_X4_takesFigure a1 h).bind fun v3 =>
    gd_ (bz_ v3.1) <|
    some (v3.1, v3.2)
def ff_X4_into_18 (x2 : Nat) (x3 : Int32) (K18_48 : hh_ → Option (Int32 × hh_)) : Nat → Int32 → hh_ → Option (Int32 × hh_)
  | 0, _, _ => none
  | n9 + 1, x4, h =>
    gd_ (bo_ h.2.2.2.2) <|
    if (3 : Int32) ≤ x4 then
      K18_48 h
    else
      gd_ (bi_ x4 3) <|
      ff_X4_into_18 x2 x3 K18_48 n9 (x4 + (1 : Int32)) (hh_sI h (h.2.2.2.2 + 23) (Int32.toNatClampNeg x4) (0 : Int32))
def ff_X4_into_51 (x2 : Nat) (x3 : Int32) (K51_77 : hh_ → Option (Int32 × hh_)) : Nat → Int32 → hh_ → Option (Int32 × hh_)
  | 0, _, _ => none
  | n9 + 1, x4, h =>
    if x3 ≤ x4 then
      K51_77 h
    else
      gd_ (bp_ x2 x4) <|
      (ff_X4_goesOn (h.1 x2 (Int32.toNatClampNeg x4)) h).bind fun v5 =>
      if v5.1 = 0 then
        some (x4, v5.2)
      else
        ff_X4_into_51 x2 x3 K51_77 n9 (x4 + (1 : Int32)) v5.2
def ff_X4_into (a1 : Nat) (a2 : Nat) (a3 : Int32) (h : hh_) : Option (Int32 × hh_) :=
  ff_X4_into_18 a2 a3 (fun k3 =>
    ff_X4_into_51 a2 a3 (fun k7 =>
      if 0 < (k7.1 19 2) then
        some (a3, k7)
      else
        gd_ (bo_ k7.2.2.2.2) <|
        if (k7.1 (k7.2.2.2.2 + 23) (Int32.toNatClampNeg (0 : Int32))) = 0 then
          some (a3, k7)
        else
          some ((-9 : Int32), k7)) FU_ (0 : Int32) k3) FU_ (0 : Int32) (hh_sI (hh_sI (hh_sO h a1) 19 1 (0 : Int32)) 19 2 (0 : Int32))
def ff_X7_fault (a1 : Int32) (h : hh_) : Option (Int32 × hh_) :=
  if (ff_X5t_allows a1 h) = 0 then
    some ((-1 : Int32), h)
  else
    (ff_X5t_lacks a1 h).bind fun v1 =>
    if v1 = 0 then
      gd_ (bo_ h.2.2.2.1) <|
      gd_ (bi_ a1 4) <|
      (ff_X4_into h.2.2.2.1 (13 + Int32.toNatClampNeg a1) (h.1 17 (Int32.toNatClampNeg a1)) h).bind fun v5 =>
      some (v5.1, v5.2)
    else
      (ff_X6_refuse (1 : Int32) h).bind fun v7 =>
      some (v7.1, v7.2)
def ff_X2_repeat_47 (x2 : Nat) (x3 : Int32) (x4 : Int32) (h : hh_) (K47_61 : hh_ → Option (hh_)) : Option (hh_) :=
  gd_ (bi_ x4 5) <|
  K47_61 (hh_sI h x2 (Int32.toNatClampNeg x4) (if ((h.1 x2 (Int32.toNatClampNeg x4)) + (1 : Int32)) < (5 : Int32) then ((h.1 x2 (Int32.toNatClampNeg x4)) + (1 : Int32)) else (5 : Int32)))
def ff_X2_repeat_30 (x2 : Nat) (x3 : Int32) : Nat → Int32 → hh_ → Option (hh_)
  | 0, _, _ => none
  | n9 + 1, x4, h =>
    if (4 : Int32) ≤ x4 then
      some (h)
    else
      if x3 = (4 : Int32) then
        ff_X2_repeat_47 x2 x3 x4 h (fun k3 =>
          ff_X2_repeat_30 x2 x3 n9 (x4 + (1 : Int32)) k3)
      else
        if x3 = x4 then
          ff_X2_repeat_47 x2 x3 x4 h (fun k4 =>
            ff_X2_repeat_30 x2 x3 n9 (x4 + (1 : Int32)) k4)
        else
          ff_X2_repeat_30 x2 x3 n9 (x4 + (1 : Int32)) h
def ff_X2_repeat (o : Nat) (a1 : Int32) (h : hh_) : Option (hh_) :=
  gd_ (bi_ (a1 / (8 : Int32)) 5) <|
  if (a1 - a1 / (8 : Int32) * (8 : Int32)) < (5 : Int32) then
    ff_X2_repeat_30 (o + 8 + Int32.toNatClampNeg (a1 / (8 : Int32))) (a1 - a1 / (8 : Int32) * (8 : Int32)) FU_ (0 : Int32) h
  else
    some (hh_sI h (o + 8 + Int32.toNatClampNeg (a1 / (8 : Int32))) (Int32.toNatClampNeg (4 : Int32)) ((a1 - a1 / (8 : Int32) * (8 : Int32)) - (5 : Int32)))
def ff_X2_goBack_2 (x0 : Nat) (x1 : Int32) (K2_36 : hh_ → Option (hh_)) : Nat → Int32 → hh_ → Option (hh_)
  | 0, _, _ => none
  | n9 + 1, x2, h =>
    if (h.1 (x0 + 23) (Int32.toNatClampNeg (0 : Int32))) ≤ x2 then
      K2_36 h
    else
      gd_ (bi_ x2 5) <|
      gd_ (bc_ (0 : Int32) (0 : Int32) (5 : Int32) 5 5) <|
      ff_X2_goBack_2 x0 x1 K2_36 n9 (x2 + (1 : Int32)) (hh_cp h (x0 + 2 + Int32.toNatClampNeg x2) (x0 + 8 + Int32.toNatClampNeg x2) (Int32.toNatClampNeg (0 : Int32)) (Int32.toNatClampNeg (0 : Int32)) (Int32.toNatClampNeg (5 : Int32)))
def ff_X2_goBack_38 (x0 : Nat) (x1 : Int32) : Nat → Int32 → hh_ → Option (hh_)
  | 0, _, _ => none
  | n9 + 1, x2, h =>
    if x1 ≤ x2 then
      some (hh_sI h x0 6 x1)
    else
      gd_ (bi_ x2 40) <|
      (ff_X2_repeat x0 (h.1 (x0 + 24) (Int32.toNatClampNeg x2)) h).bind fun v5 =>
      ff_X2_goBack_38 x0 x1 n9 (x2 + (1 : Int32)) v5
def ff_X2_goBack (o : Nat) (a1 : Int32) (h : hh_) : Option (hh_) :=
  ff_X2_goBack_2 o a1 (fun k3 =>
    ff_X2_goBack_38 o a1 FU_ (0 : Int32) k3) FU_ (0 : Int32) h
def ff_X7_office_98 : Nat → Int32 → hh_ → Option (Int32 × hh_)
  | 0, _, _ => none
  | n9 + 1, x3, h =>
    if (3 : Int32) ≤ x3 then
      gd_ (bo_ h.2.2.1) <|
      some ((h.1 (h.2.2.1 + 23) (Int32.toNatClampNeg (0 : Int32))), h)
    else
      gd_ (bi_ x3 3) <|
      ff_X7_office_98 n9 (x3 + (1 : Int32)) (hh_sI h (89 + 3 * Int32.toNatClampNeg x3) 2 (-1 : Int32))
def ff_X7_office (a1 : Int32) (h : hh_) : Option (Int32 × hh_) :=
  if (ff_X5t_allows a1 h) = 0 then
    some ((-1 : Int32), h)
  else
    (ff_X5t_lacks a1 h).bind fun v1 =>
    if v1 = 0 then
      gd_ (bo_ h.2.2.2.1) <|
      gd_ (bi_ a1 4) <|
      (ff_X4_into h.2.2.2.1 (13 + Int32.toNatClampNeg a1) (h.1 17 (Int32.toNatClampNeg a1)) h).bind fun v5 =>
      if v5.1 = (-9 : Int32) then
        gd_ (bo_ v5.2.2.2.1) <|
        gd_ (bo_ v5.2.2.2.2.1) <|
        (ff_X2_goBack v5.2.2.2.2.1 (0 : Int32) (hh_sD (hh_sN v5.2 v5.2.2.2.2.1) v5.2.2.2.1)).bind fun v9 =>
        ff_X7_office_98 FU_ (0 : Int32) v9
      else
        some ((-4 : Int32), v5.2)
    else
      (ff_X6_refuse (1 : Int32) h).bind fun v13 =>
      some (v13.1, v13.2)
def ff_X2_has (o : Nat) (a1 : Int32) (a2 : Int32) (h : hh_) : Option (Int32) :=
  if a2 < 0 then
    some (0 : Int32)
  else
    gd_ (bi_ a1 3) <|
    if (h.1 (o + 23) (Int32.toNatClampNeg a1)) ≤ a2 then
      some (0 : Int32)
    else
      some (1 : Int32)
def ff_X2_together_4 (x0 : Nat) (x1 : Int32) (h : hh_) : Nat → Int32 → Int32 → Option (Int32)
  | 0, _, _ => none
  | n9 + 1, x2, x3 =>
    if (4 : Int32) ≤ x3 then
      some (x2)
    else
      gd_ (bi_ x1 5) <|
      gd_ (bi_ x3 5) <|
      ff_X2_together_4 x0 x1 h n9 (x2 + (h.1 (x0 + 8 + Int32.toNatClampNeg x1) (Int32.toNatClampNeg x3))) (x3 + (1 : Int32))
def ff_X2_together (o : Nat) (a1 : Int32) (h : hh_) : Option (Int32) :=
  ff_X2_together_4 o a1 h FU_ (0 : Int32) (0 : Int32)
def ff_X2_ofHead (o : Nat) (a1 : Int32) (a2 : Int32) (h : hh_) : Option (Int32) :=
  if a2 = (5 : Int32) then
    (ff_X2_together o a1 h).bind fun v3 =>
    some (v3)
  else
    gd_ (bi_ a1 5) <|
    gd_ (bi_ a2 5) <|
    some (h.1 (o + 8 + Int32.toNatClampNeg a1) (Int32.toNatClampNeg a2))
def ff_X7_head (a1 : Int32) (a2 : Int32) (h : hh_) : Option (Int32 × hh_) :=
  gd_ (bo_ h.2.2.1) <|
  (ff_X2_has h.2.2.1 (0 : Int32) a1 h).bind fun v2 =>
  if v2 = 0 then
    some ((-1 : Int32), h)
  else
    if a2 < 0 then
      some ((-1 : Int32), h)
    else
      if a2 ≤ (5 : Int32) then
        (ff_X2_ofHead h.2.2.1 a1 a2 h).bind fun v4 =>
        some ((ff_X6_tell v4 h).1, (ff_X6_tell v4 h).2)
      else
        some ((-1 : Int32), h)
def ff_X7_thumb (a1 : Int32) (a2 : Int32) (h : hh_) : Option (Int32 × hh_) :=
  gd_ (bo_ h.2.2.1) <|
  (ff_X2_has h.2.2.1 (1 : Int32) a1 h).bind fun v2 =>
  if v2 = 0 then
    some ((-1 : Int32), h)
  else
    if a2 < 0 then
      some ((-1 : Int32), h)
    else
      if a2 ≤ (2 : Int32) then
        gd_ (bi_ a1 4) <|
        gd_ (bi_ a2 3) <|
        some ((ff_X6_tell (h.1 (h.2.2.1 + 14 + Int32.toNatClampNeg a1) (Int32.toNatClampNeg a2)) h).1, (ff_X6_tell (h.1 (h.2.2.1 + 14 + Int32.toNatClampNeg a1) (Int32.toNatClampNeg a2)) h).2)
      else
        some ((-1 : Int32), h)
def ff_X7_post (a1 : Int32) (a2 : Int32) (h : hh_) : Option (Int32 × hh_) :=
  gd_ (bo_ h.2.2.1) <|
  (ff_X2_has h.2.2.1 (2 : Int32) a1 h).bind fun v2 =>
  if v2 = 0 then
    some ((-1 : Int32), h)
  else
    if a2 < 0 then
      some ((-1 : Int32), h)
    else
      if a2 ≤ (4 : Int32) then
        gd_ (bi_ a1 4) <|
        gd_ (bi_ a2 5) <|
        some ((ff_X6_tell (h.1 (h.2.2.1 + 19 + Int32.toNatClampNeg a1) (Int32.toNatClampNeg a2)) h).1, (ff_X6_tell (h.1 (h.2.2.1 + 19 + Int32.toNatClampNeg a1) (Int32.toNatClampNeg a2)) h).2)
      else
        some ((-1 : Int32), h)
def ff_X2_isOf (o : Nat) (a1 : Int32) (a2 : Int32) (h : hh_) : Option (Int32) :=
  gd_ (bi_ a1 4) <|
  if (h.1 (o + 14 + Int32.toNatClampNeg a1) (Int32.toNatClampNeg (0 : Int32))) = a2 then
    some (1 : Int32)
  else
    gd_ (bi_ (h.1 (o + 14 + Int32.toNatClampNeg a1) (Int32.toNatClampNeg (0 : Int32))) 6) <|
    if ((sn_ 5).2.getD (Int32.toNatClampNeg (h.1 (o + 14 + Int32.toNatClampNeg a1) (Int32.toNatClampNeg (0 : Int32)))) 0) = a2 then
      some (1 : Int32)
    else
      some (0 : Int32)
def ff_X2_felt (o : Nat) (a1 : Int32) (a2 : Int32) (a3 : Int32) (h : hh_) : Option (Int32) :=
  gd_ (bi_ a1 5) <|
  gd_ (bi_ a2 5) <|
  if (h.1 (o + 8 + Int32.toNatClampNeg a1) (Int32.toNatClampNeg (4 : Int32))) ≤ (1 : Int32) then
    some ((h.1 (o + 8 + Int32.toNatClampNeg a1) (Int32.toNatClampNeg a2)) + a3)
  else
    if ((h.1 (o + 8 + Int32.toNatClampNeg a1) (Int32.toNatClampNeg a2)) + a3) ≤ 0 then
      some ((h.1 (o + 8 + Int32.toNatClampNeg a1) (Int32.toNatClampNeg a2)) + a3)
    else
      some (((h.1 (o + 8 + Int32.toNatClampNeg a1) (Int32.toNatClampNeg a2)) + a3) - (1 : Int32))
def ff_X2_middle_20 (x0 : Int32) (y0 : Int32) (y1 : Int32) (h : hh_) : Option (Int32) :=
  if 0 ≤ (y0 + y1) then
    gd_ (bi_ x0 6) <|
    if (y0 + y1) ≤ ((sn_ 8).2.getD (Int32.toNatClampNeg x0) 0) then
      some (y0 + y1)
    else
      some ((sn_ 8).2.getD (Int32.toNatClampNeg x0) 0)
  else
    some (0 : Int32)
def ff_X2_middle (a0 : Int32) (a1 : Int32) (a2 : Int32) (h : hh_) : Option (Int32) :=
  gd_ (bi_ a0 6) <|
  if a1 = 0 then
    ff_X2_middle_20 a0 (a2 + ((sn_ 6).2.getD (Int32.toNatClampNeg a0) 0)) (0 : Int32) h
  else
    ff_X2_middle_20 a0 (a2 + ((sn_ 6).2.getD (Int32.toNatClampNeg a0) 0)) ((sn_ 7).2.getD (Int32.toNatClampNeg a0) 0) h
def ff_X2_middleBy_25 (x0 : Nat) (x2 : Int32) (x3 : Int32) (x4 : Int32) (y0 : Int32) (y1 : Int32) (h : hh_) : Option (Int32) :=
  (ff_X2_felt x0 x2 x3 x4 h).bind fun v2 =>
  (ff_X2_middle y0 y1 v2 h).bind fun v4 =>
  some (v4)
def ff_X2_middleBy (o : Nat) (a1 : Int32) (a2 : Int32) (a3 : Int32) (a4 : Int32) (h : hh_) : Option (Int32) :=
  gd_ (bi_ a1 4) <|
  if (h.1 (o + 14 + Int32.toNatClampNeg a1) (Int32.toNatClampNeg (2 : Int32))) = a3 then
    ff_X2_middleBy_25 o a2 a3 a4 (h.1 (o + 14 + Int32.toNatClampNeg a1) (Int32.toNatClampNeg (0 : Int32))) (1 : Int32) h
  else
    ff_X2_middleBy_25 o a2 a3 a4 (h.1 (o + 14 + Int32.toNatClampNeg a1) (Int32.toNatClampNeg (0 : Int32))) (0 : Int32) h
def ff_X1_dull_17 (x0 : Nat) (x1 : Int32) (x3 : Int32) (h : hh_) (K17_50 : Int32 → Option (Int32)) : Nat → Int32 → Int32 → Option (Int32)
  | 0, _, _ => none
  | n9 + 1, x2, x4 =>
    if (4 : Int32) ≤ x4 then
      K17_50 x2
    else
      (ff_X2_middleBy x0 x1 x3 x4 (0 : Int32) h).bind fun v1 =>
      if v1 = (3 : Int32) then
        ff_X1_dull_17 x0 x1 x3 h K17_50 n9 (x2 + (1 : Int32)) (x4 + (1 : Int32))
      else
        ff_X1_dull_17 x0 x1 x3 h K17_50 n9 (x2 + (0 : Int32)) (x4 + (1 : Int32))
def ff_X1_dull_4 (x0 : Nat) (x1 : Int32) (h : hh_) : Nat → Int32 → Int32 → Option (Int32)
  | 0, _, _ => none
  | n9 + 1, x2, x3 =>
    if (h.1 (x0 + 23) (Int32.toNatClampNeg (0 : Int32))) ≤ x3 then
      some (x2)
    else
      ff_X1_dull_17 x0 x1 x3 h (fun u3 =>
        ff_X1_dull_4 x0 x1 h n9 u3 (x3 + (1 : Int32))) FU_ x2 (0 : Int32)
def ff_X1_dull (a0 : Nat) (a1 : Int32) (h : hh_) : Option (Int32) :=
  ff_X1_dull_4 a0 a1 h FU_ (0 : Int32) (0 : Int32)
def ff_X2_least (o : Nat) (a1 : Int32) (a2 : Int32) (a3 : Int32) (a4 : Int32) (h : hh_) : Option (Int32) :=
  (ff_X2_middleBy o a1 a2 a3 a4 h).bind fun v1 =>
  gd_ (bi_ a1 4) <|
  some (if (0 : Int32) < (v1 - (h.1 (o + 14 + Int32.toNatClampNeg a1) (Int32.toNatClampNeg (1 : Int32)))) then (v1 - (h.1 (o + 14 + Int32.toNatClampNeg a1) (Int32.toNatClampNeg (1 : Int32)))) else (0 : Int32))
def ff_X1_clerk_17 (x0 : Nat) (x1 : Int32) (x3 : Int32) (h : hh_) (K17_50 : Int32 → Option (Int32)) : Nat → Int32 → Int32 → Option (Int32)
  | 0, _, _ => none
  | n9 + 1, x2, x4 =>
    if (4 : Int32) ≤ x4 then
      K17_50 x2
    else
      (ff_X2_least x0 x1 x3 x4 (0 : Int32) h).bind fun v1 =>
      (ff_X2_felt x0 x3 x4 (0 : Int32) h).bind fun v3 =>
      ff_X1_clerk_17 x0 x1 x3 h K17_50 n9 (x2 + (v1 - v3)) (x4 + (1 : Int32))
def ff_X1_clerk_4 (x0 : Nat) (x1 : Int32) (h : hh_) : Nat → Int32 → Int32 → Option (Int32)
  | 0, _, _ => none
  | n9 + 1, x2, x3 =>
    if (h.1 (x0 + 23) (Int32.toNatClampNeg (0 : Int32))) ≤ x3 then
      some (x2)
    else
      ff_X1_clerk_17 x0 x1 x3 h (fun u5 =>
        ff_X1_clerk_4 x0 x1 h n9 u5 (x3 + (1 : Int32))) FU_ x2 (0 : Int32)
def ff_X1_clerk (a0 : Nat) (a1 : Int32) (h : hh_) : Option (Int32) :=
  ff_X1_clerk_4 a0 a1 h FU_ (0 : Int32) (0 : Int32)
def ff_X1_hasItsWish_12 (x0 : Nat) (x1 : Int32) (x2 : Int32) (x3 : Int32) (h : hh_) : Nat → Int32 → Option (Int32)
  | 0, _ => none
  | n9 + 1, x4 =>
    if (4 : Int32) ≤ x4 then
      some (1 : Int32)
    else
      if x4 = x3 then
        ff_X1_hasItsWish_12 x0 x1 x2 x3 h n9 (x4 + (1 : Int32))
      else
        (ff_X2_least x0 x1 x2 x4 (0 : Int32) h).bind fun v2 =>
        (ff_X2_least x0 x1 x2 x3 (0 : Int32) h).bind fun v4 =>
        if v2 < v4 then
          ff_X1_hasItsWish_12 x0 x1 x2 x3 h n9 (x4 + (1 : Int32))
        else
          some (0 : Int32)
def ff_X1_hasItsWish (a0 : Nat) (a1 : Int32) (a2 : Int32) (h : hh_) : Option (Int32) :=
  gd_ (bi_ a1 4) <|
  ff_X1_hasItsWish_12 a0 a1 a2 (h.1 (a0 + 14 + Int32.toNatClampNeg a1) (Int32.toNatClampNeg (2 : Int32))) h FU_ (0 : Int32)
def ff_X1_wishing_4 (x0 : Nat) (x1 : Int32) (h : hh_) : Nat → Int32 → Int32 → Option (Int32)
  | 0, _, _ => none
  | n9 + 1, x2, x3 =>
    if (h.1 (x0 + 23) (Int32.toNatClampNeg (0 : Int32))) ≤ x3 then
      some (x2)
    else
      (ff_X1_hasItsWish x0 x1 x3 h).bind fun v1 =>
      if v1 = 0 then
        ff_X1_wishing_4 x0 x1 h n9 (x2 + (0 : Int32)) (x3 + (1 : Int32))
      else
        ff_X1_wishing_4 x0 x1 h n9 (x2 + (1 : Int32)) (x3 + (1 : Int32))
def ff_X1_wishing (a0 : Nat) (a1 : Int32) (h : hh_) : Option (Int32) :=
  ff_X1_wishing_4 a0 a1 h FU_ (0 : Int32) (0 : Int32)
def ff_X2_most (o : Nat) (a1 : Int32) (a2 : Int32) (a3 : Int32) (a4 : Int32) (h : hh_) : Option (Int32) :=
  (ff_X2_middleBy o a1 a2 a3 a4 h).bind fun v1 =>
  gd_ (bi_ a1 4) <|
  some (v1 + (h.1 (o + 14 + Int32.toNatClampNeg a1) (Int32.toNatClampNeg (1 : Int32))))
def ff_X1_light_17 (x0 : Nat) (x1 : Int32) (x3 : Int32) (h : hh_) (K17_43 : Int32 → Option (Int32)) : Nat → Int32 → Int32 → Option (Int32)
  | 0, _, _ => none
  | n9 + 1, x2, x4 =>
    if (4 : Int32) ≤ x4 then
      K17_43 x2
    else
      (ff_X2_most x0 x1 x3 x4 (0 : Int32) h).bind fun v1 =>
      ff_X1_light_17 x0 x1 x3 h K17_43 n9 (if x2 < v1 then v1 else x2) (x4 + (1 : Int32))
def ff_X1_light_4 (x0 : Nat) (x1 : Int32) (h : hh_) : Nat → Int32 → Int32 → Option (Int32)
  | 0, _, _ => none
  | n9 + 1, x2, x3 =>
    if (h.1 (x0 + 23) (Int32.toNatClampNeg (0 : Int32))) ≤ x3 then
      some (x2)
    else
      ff_X1_light_17 x0 x1 x3 h (fun u3 =>
        ff_X1_light_4 x0 x1 h n9 u3 (x3 + (1 : Int32))) FU_ x2 (0 : Int32)
def ff_X1_light (a0 : Nat) (a1 : Int32) (h : hh_) : Option (Int32) :=
  ff_X1_light_4 a0 a1 h FU_ (0 : Int32) (0 : Int32)
def ff_X1_heavy_16 (x0 : Nat) (x2 : Int32) (h : hh_) (K16_45 : Int32 → Option (Int32)) : Nat → Int32 → Int32 → Option (Int32)
  | 0, _, _ => none
  | n9 + 1, x1, x3 =>
    if (4 : Int32) ≤ x3 then
      K16_45 x1
    else
      (ff_X2_felt x0 x2 x3 (0 : Int32) h).bind fun v1 =>
      if v1 = 0 then
        ff_X1_heavy_16 x0 x2 h K16_45 n9 (x1 + (1 : Int32)) (x3 + (1 : Int32))
      else
        ff_X1_heavy_16 x0 x2 h K16_45 n9 (x1 + (0 : Int32)) (x3 + (1 : Int32))
def ff_X1_heavy_4 (x0 : Nat) (h : hh_) : Nat → Int32 → Int32 → Option (Int32)
  | 0, _, _ => none
  | n9 + 1, x1, x2 =>
    if (h.1 (x0 + 23) (Int32.toNatClampNeg (0 : Int32))) ≤ x2 then
      some (x1)
    else
      ff_X1_heavy_16 x0 x2 h (fun u3 =>
        ff_X1_heavy_4 x0 h n9 u3 (x2 + (1 : Int32))) FU_ x1 (0 : Int32)
def ff_X1_heavy (a0 : Nat) (h : hh_) : Option (Int32) :=
  ff_X1_heavy_4 a0 h FU_ (0 : Int32) (0 : Int32)
def ff_X7_mark (a1 : Int32) (a2 : Int32) (h : hh_) : Option (Int32 × hh_) :=
  gd_ (bo_ h.2.2.1) <|
  (ff_X2_has h.2.2.1 (1 : Int32) a1 h).bind fun v2 =>
  if v2 = 0 then
    some ((-1 : Int32), h)
  else
    if a2 < (1 : Int32) then
      some ((-1 : Int32), h)
    else
      if a2 < (6 : Int32) then
        (ff_X2_isOf h.2.2.1 a1 a2 h).bind fun v4 =>
        if v4 = 0 then
          (ff_X6_refuse (3 : Int32) h).bind fun v16 =>
          some (v16.1, v16.2)
        else
          if a2 = (1 : Int32) then
            (ff_X1_heavy h.2.2.1 h).bind fun v14 =>
            some (v14, h)
          else
            if a2 = (2 : Int32) then
              (ff_X1_light h.2.2.1 a1 h).bind fun v12 =>
              some (v12, h)
            else
              if a2 = (3 : Int32) then
                (ff_X1_wishing h.2.2.1 a1 h).bind fun v10 =>
                some (v10, h)
              else
                if a2 = (4 : Int32) then
                  (ff_X1_clerk h.2.2.1 a1 h).bind fun v8 =>
                  some (v8, h)
                else
                  (ff_X1_dull h.2.2.1 a1 h).bind fun v6 =>
                  some (v6, h)
      else
        some ((-1 : Int32), h)
def ff_X7_error (a1 : Int32) (a2 : Int32) (h : hh_) : Option (Int32 × hh_) :=
  gd_ (bo_ h.2.2.1) <|
  (ff_X2_has h.2.2.1 (1 : Int32) a1 h).bind fun v2 =>
  if v2 = 0 then
    some ((-1 : Int32), h)
  else
    if a2 < 0 then
      some ((-1 : Int32), h)
    else
      if a2 ≤ (2 : Int32) then
        gd_ (bi_ a1 4) <|
        some ((h.1 (h.2.2.1 + 14 + Int32.toNatClampNeg a1) (Int32.toNatClampNeg (1 : Int32))), (hh_sI h (h.2.2.1 + 14 + Int32.toNatClampNeg a1) (Int32.toNatClampNeg (1 : Int32)) a2))
      else
        some ((-1 : Int32), h)
def ff_X7_isPlace (a0 : Int32) : Int32 :=
  if a0 < 0 then
    (0 : Int32)
  else
    if (4 : Int32) ≤ a0 then
      (0 : Int32)
    else
      (1 : Int32)
def ff_X2_act (o : Nat) (a1 : Int32) (a2 : Int32) (h : hh_) : Option (hh_) :=
  gd_ (bi_ (h.1 o 6) 40) <|
  gd_ (bi_ ((hh_sI h (o + 24) (Int32.toNatClampNeg (h.1 o 6)) ((a1 * (8 : Int32)) + a2)).1 o 6) 40) <|
  (ff_X2_repeat o ((hh_sI h (o + 24) (Int32.toNatClampNeg (h.1 o 6)) ((a1 * (8 : Int32)) + a2)).1 (o + 24) (Int32.toNatClampNeg ((hh_sI h (o + 24) (Int32.toNatClampNeg (h.1 o 6)) ((a1 * (8 : Int32)) + a2)).1 o 6))) (hh_sI h (o + 24) (Int32.toNatClampNeg (h.1 o 6)) ((a1 * (8 : Int32)) + a2))).bind fun v3 =>
  some (hh_sI v3 o 6 ((v3.1 o 6) + (1 : Int32)))
def ff_X7_pad (a1 : Int32) (a2 : Int32) (h : hh_) : Option (Int32 × hh_) :=
  gd_ (bo_ h.2.2.1) <|
  (ff_X2_has h.2.2.1 (0 : Int32) a1 h).bind fun v2 =>
  if v2 = 0 then
    some ((-1 : Int32), h)
  else
    if (ff_X7_isPlace a2) = 0 then
      some ((-1 : Int32), h)
    else
      gd_ (bi_ a1 5) <|
      gd_ (bi_ a2 5) <|
      if (h.1 (h.2.2.1 + 8 + Int32.toNatClampNeg a1) (Int32.toNatClampNeg a2)) < (5 : Int32) then
        if (h.1 h.2.2.1 6) < (40 : Int32) then
          (ff_X2_act h.2.2.1 a1 a2 h).bind fun v6 =>
          gd_ (bo_ v6.2.2.1) <|
          some ((v6.1 (v6.2.2.1 + 8 + Int32.toNatClampNeg a1) (Int32.toNatClampNeg a2)), v6)
        else
          some ((-2 : Int32), h)
      else
        some ((-4 : Int32), h)
def ff_X7_grow (a1 : Int32) (h : hh_) : Option (Int32 × hh_) :=
  gd_ (bo_ h.2.2.1) <|
  (ff_X2_has h.2.2.1 (0 : Int32) a1 h).bind fun v2 =>
  if v2 = 0 then
    some ((-1 : Int32), h)
  else
    if (h.1 h.2.2.1 6) < (40 : Int32) then
      (ff_X2_act h.2.2.1 a1 (4 : Int32) h).bind fun v4 =>
      gd_ (bo_ v4.2.2.1) <|
      (ff_X2_together v4.2.2.1 a1 v4).bind fun v7 =>
      some (v7, v4)
    else
      some ((-2 : Int32), h)
def ff_X7_cut (a1 : Int32) (a2 : Int32) (h : hh_) : Option (Int32 × hh_) :=
  gd_ (bo_ h.2.2.1) <|
  (ff_X2_has h.2.2.1 (0 : Int32) a1 h).bind fun v2 =>
  if v2 = 0 then
    some ((-1 : Int32), h)
  else
    if a2 < 0 then
      some ((-1 : Int32), h)
    else
      if a2 ≤ (2 : Int32) then
        gd_ (bi_ a1 5) <|
        if a2 < (h.1 (h.2.2.1 + 8 + Int32.toNatClampNeg a1) (Int32.toNatClampNeg (4 : Int32))) then
          if (h.1 h.2.2.1 6) < (40 : Int32) then
            (ff_X2_act h.2.2.1 a1 ((5 : Int32) + a2) h).bind fun v5 =>
            some ((h.1 (h.2.2.1 + 8 + Int32.toNatClampNeg a1) (Int32.toNatClampNeg (4 : Int32))), v5)
          else
            some ((-2 : Int32), h)
        else
          some ((-4 : Int32), h)
      else
        some ((-1 : Int32), h)
def ff_X7_undo (a1 : Int32) (h : hh_) : Option (Int32 × hh_) :=
  if a1 < 0 then
    some ((-1 : Int32), h)
  else
    gd_ (bo_ h.2.2.1) <|
    if a1 ≤ (h.1 h.2.2.1 6) then
      (ff_X2_goBack h.2.2.1 a1 h).bind fun v2 =>
      some (((h.1 h.2.2.1 6) - a1), v2)
    else
      some ((-1 : Int32), h)
def ff_X7_isKeptPlace (a0 : Int32) : Int32 :=
  if a0 < 0 then
    (0 : Int32)
  else
    if (3 : Int32) ≤ a0 then
      (0 : Int32)
    else
      (1 : Int32)
def ff_X0_take_25 (x0 : Nat) (x1 : Nat) : Nat → Int32 → hh_ → Option (hh_)
  | 0, _, _ => none
  | n9 + 1, x2, h =>
    if (4 : Int32) ≤ x2 then
      some (h)
    else
      gd_ (bi_ x2 4) <|
      ff_X0_take_25 x0 x1 n9 (x2 + (1 : Int32)) (hh_sI h (x0 + 2) (Int32.toNatClampNeg x2) (h.1 (x1 + 14 + Int32.toNatClampNeg x2) (Int32.toNatClampNeg (1 : Int32))))
def ff_X0_take (o : Nat) (a1 : Nat) (h : hh_) : Option (hh_) :=
  gd_ (bc_ (0 : Int32) (0 : Int32) (40 : Int32) 40 40) <|
  ff_X0_take_25 o a1 FU_ (0 : Int32) (hh_cp (hh_sI h o 2 (h.1 a1 6)) (a1 + 24) (o + 1) (Int32.toNatClampNeg (0 : Int32)) (Int32.toNatClampNeg (0 : Int32)) (Int32.toNatClampNeg (40 : Int32)))
def ff_X7_keep (a1 : Int32) (h : hh_) : Option (Int32 × hh_) :=
  if (ff_X7_isKeptPlace a1) = 0 then
    some ((-1 : Int32), h)
  else
    gd_ (bo_ h.2.2.1) <|
    if (h.1 (h.2.2.1 + 23) (Int32.toNatClampNeg (0 : Int32))) = 0 then
      some ((-4 : Int32), h)
    else
      gd_ (bi_ a1 3) <|
      (ff_X0_take (89 + 3 * Int32.toNatClampNeg a1) h.2.2.1 h).bind fun v3 =>
      gd_ (bo_ v3.2.2.1) <|
      some ((v3.1 v3.2.2.1 6), v3)
def ff_X0_giveTo_17 (x0 : Nat) (x1 : Nat) : Nat → Int32 → hh_ → Option (hh_)
  | 0, _, _ => none
  | n9 + 1, x2, h =>
    if (4 : Int32) ≤ x2 then
      (ff_X2_goBack x1 (h.1 x0 2) h).bind fun v2 =>
      some (v2)
    else
      gd_ (bi_ x2 4) <|
      ff_X0_giveTo_17 x0 x1 n9 (x2 + (1 : Int32)) (hh_sI h (x1 + 14 + Int32.toNatClampNeg x2) (Int32.toNatClampNeg (1 : Int32)) (h.1 (x0 + 2) (Int32.toNatClampNeg x2)))
def ff_X0_giveTo (o : Nat) (a1 : Nat) (h : hh_) : Option (hh_) :=
  gd_ (bc_ (0 : Int32) (0 : Int32) (40 : Int32) 40 40) <|
  ff_X0_giveTo_17 o a1 FU_ (0 : Int32) (hh_cp h (o + 1) (a1 + 24) (Int32.toNatClampNeg (0 : Int32)) (Int32.toNatClampNeg (0 : Int32)) (Int32.toNatClampNeg (40 : Int32)))
def ff_X7_on (a1 : Int32) (h : hh_) : Option (Int32 × hh_) :=
  if (ff_X7_isKeptPlace a1) = 0 then
    some ((-1 : Int32), h)
  else
    gd_ (bi_ a1 3) <|
    if (h.1 (89 + 3 * Int32.toNatClampNeg a1) 2) = (-1 : Int32) then
      (ff_X6_refuse (1 : Int32) h).bind fun v6 =>
      some (v6.1, v6.2)
    else
      gd_ (bo_ h.2.2.1) <|
      (ff_X0_giveTo (89 + 3 * Int32.toNatClampNeg a1) h.2.2.1 h).bind fun v3 =>
      gd_ (bo_ v3.2.2.1) <|
      some ((v3.1 v3.2.2.1 6), v3)
def ff_X7_reads (a1 : Int32) (a2 : Int32) (a3 : Int32) (h : hh_) : Option (Int32 × hh_) :=
  gd_ (bo_ h.2.2.1) <|
  (ff_X2_has h.2.2.1 (1 : Int32) a1 h).bind fun v2 =>
  if v2 = 0 then
    some ((-1 : Int32), h)
  else
    (ff_X2_has h.2.2.1 (0 : Int32) a2 h).bind fun v4 =>
    if v4 = 0 then
      some ((-1 : Int32), h)
    else
      if (ff_X7_isPlace a3) = 0 then
        some ((-1 : Int32), h)
      else
        (ff_X2_most h.2.2.1 a1 a2 a3 (0 : Int32) h).bind fun v6 =>
        gd_ (bo_ (ff_X6_tell v6 h).2.2.2.1) <|
        (ff_X2_least ((ff_X6_tell v6 h).2.2.2.1) a1 a2 a3 (0 : Int32) (ff_X6_tell v6 h).2).bind fun v9 =>
        some (v9, (ff_X6_tell v6 h).2)
def ff_X7_findingOfReading_30 (x1 : Int32) (h : hh_) : Nat → Int32 → Option (Int32)
  | 0, _ => none
  | n9 + 1, x2 =>
    if (4 : Int32) ≤ x2 then
      some (0 : Int32)
    else
      gd_ (bi_ x1 6) <|
      gd_ (bi_ x2 40) <|
      if (h.1 (4 + Int32.toNatClampNeg x1) (Int32.toNatClampNeg x2)) < 0 then
        some (3 : Int32)
      else
        if (h.1 (4 + Int32.toNatClampNeg x1) (Int32.toNatClampNeg x2)) ≤ (9 : Int32) then
          ff_X7_findingOfReading_30 x1 h n9 (x2 + (1 : Int32))
        else
          some (3 : Int32)
def ff_X7_findingOfReading (a1 : Int32) (h : hh_) : Option (Int32) :=
  (ff_X5r_lacks a1 h).bind fun v1 =>
  if v1 = 0 then
    gd_ (bi_ a1 6) <|
    if (h.1 10 (Int32.toNatClampNeg a1)) = (4 : Int32) then
      ff_X7_findingOfReading_30 a1 h FU_ (0 : Int32)
    else
      some (5 : Int32)
  else
    some (1 : Int32)
def ff_X2_canRead_3 (x0 : Nat) (x1 : Int32) (x2 : Int32) (x3 : Nat) (h : hh_) : Nat → Int32 → Option (Int32)
  | 0, _ => none
  | n9 + 1, x4 =>
    if (4 : Int32) ≤ x4 then
      some (1 : Int32)
    else
      gd_ (bp_ x3 x4) <|
      (ff_X2_least x0 x1 x2 x4 (0 : Int32) h).bind fun v2 =>
      if (h.1 x3 (Int32.toNatClampNeg x4)) < v2 then
        some (0 : Int32)
      else
        (ff_X2_most x0 x1 x2 x4 (0 : Int32) h).bind fun v4 =>
        if (h.1 x3 (Int32.toNatClampNeg x4)) ≤ v4 then
          ff_X2_canRead_3 x0 x1 x2 x3 h n9 (x4 + (1 : Int32))
        else
          some (0 : Int32)
def ff_X2_canRead (o : Nat) (a1 : Int32) (a2 : Int32) (a3 : Nat) (h : hh_) : Option (Int32) :=
  ff_X2_canRead_3 o a1 a2 a3 h FU_ (0 : Int32)
def ff_X7_fits (a1 : Int32) (a2 : Int32) (a3 : Int32) (h : hh_) : Option (Int32 × hh_) :=
  gd_ (bo_ h.2.2.1) <|
  (ff_X2_has h.2.2.1 (1 : Int32) a1 h).bind fun v2 =>
  if v2 = 0 then
    some ((-1 : Int32), h)
  else
    (ff_X2_has h.2.2.1 (0 : Int32) a2 h).bind fun v4 =>
    if v4 = 0 then
      some ((-1 : Int32), h)
    else
      if (ff_X5r_allows a3 h) = 0 then
        some ((-1 : Int32), h)
      else
        (ff_X7_findingOfReading a3 h).bind fun v6 =>
        if v6 = 0 then
          gd_ (bi_ a3 6) <|
          (ff_X2_canRead h.2.2.1 a1 a2 (4 + Int32.toNatClampNeg a3) h).bind fun v9 =>
          if v9 = 0 then
            some ((0 : Int32), h)
          else
            some ((1 : Int32), h)
        else
          (ff_X6_refuse v6 h).bind fun v11 =>
          some (v11.1, v11.2)
def ff_X2_headsThatFit_5 (x0 : Nat) (x1 : Int32) (x2 : Nat) (h : hh_) : Nat → Int32 → Int32 → Option (Int32)
  | 0, _, _ => none
  | n9 + 1, x3, x4 =>
    if (h.1 (x0 + 23) (Int32.toNatClampNeg (0 : Int32))) ≤ x4 then
      some (x3)
    else
      (ff_X2_canRead x0 x1 x4 x2 h).bind fun v1 =>
      if v1 = 0 then
        ff_X2_headsThatFit_5 x0 x1 x2 h n9 x3 (x4 + (1 : Int32))
      else
        ff_X2_headsThatFit_5 x0 x1 x2 h n9 (x3 ||| ((1 : Int32) <<< (x4 &&& 31))) (x4 + (1 : Int32))
def ff_X2_headsThatFit (o : Nat) (a1 : Int32) (a2 : Nat) (h : hh_) : Option (Int32) :=
  ff_X2_headsThatFit_5 o a1 a2 h FU_ (0 : Int32) (0 : Int32)
def ff_X7_whose_50 (x1 : Int32) (x2 : Int32) (h : hh_) (K50_93 : Int32 → Option (Int32 × hh_)) : Nat → Int32 → Int32 → Option (Int32 × hh_)
  | 0, _, _ => none
  | n9 + 1, x4, x5 =>
    gd_ (bo_ h.2.2.1) <|
    if (h.1 (h.2.2.1 + 23) (Int32.toNatClampNeg (1 : Int32))) ≤ x5 then
      K50_93 x4
    else
      gd_ (bi_ x2 6) <|
      (ff_X2_headsThatFit h.2.2.1 x5 (4 + Int32.toNatClampNeg x2) h).bind fun v8 =>
      ff_X7_whose_50 x1 x2 h K50_93 n9 (x4 ||| v8) (x5 + (1 : Int32))
def ff_X7_whose (a1 : Int32) (a2 : Int32) (h : hh_) : Option (Int32 × hh_) :=
  gd_ (bo_ h.2.2.1) <|
  (ff_X2_has h.2.2.1 (1 : Int32) a1 h).bind fun v2 =>
  if v2 = 0 then
    some ((-1 : Int32), h)
  else
    if (ff_X5r_allows a2 h) = 0 then
      some ((-1 : Int32), h)
    else
      (ff_X7_findingOfReading a2 h).bind fun v4 =>
      if v4 = 0 then
        ff_X7_whose_50 a1 a2 h (fun u10 =>
          gd_ (bo_ (ff_X6_tell u10 h).2.2.2.1) <|
          gd_ (bi_ a2 6) <|
          (ff_X2_headsThatFit ((ff_X6_tell u10 h).2.2.2.1) a1 (4 + Int32.toNatClampNeg a2) (ff_X6_tell u10 h).2).bind fun v13 =>
          some (v13, (ff_X6_tell u10 h).2)) FU_ (0 : Int32) (0 : Int32)
      else
        (ff_X6_refuse v4 h).bind fun v15 =>
        some (v15.1, v15.2)
def ff_X7_who_50 (x1 : Int32) (x2 : Int32) (h : hh_) : Nat → Int32 → Int32 → Option (Int32 × hh_)
  | 0, _, _ => none
  | n9 + 1, x4, x5 =>
    gd_ (bo_ h.2.2.1) <|
    if (h.1 (h.2.2.1 + 23) (Int32.toNatClampNeg (1 : Int32))) ≤ x5 then
      some (x4, h)
    else
      gd_ (bi_ x2 6) <|
      (ff_X2_canRead h.2.2.1 x5 x1 (4 + Int32.toNatClampNeg x2) h).bind fun v8 =>
      if v8 = 0 then
        ff_X7_who_50 x1 x2 h n9 x4 (x5 + (1 : Int32))
      else
        ff_X7_who_50 x1 x2 h n9 (x4 ||| ((1 : Int32) <<< (x5 &&& 31))) (x5 + (1 : Int32))
def ff_X7_who (a1 : Int32) (a2 : Int32) (h : hh_) : Option (Int32 × hh_) :=
  gd_ (bo_ h.2.2.1) <|
  (ff_X2_has h.2.2.1 (0 : Int32) a1 h).bind fun v2 =>
  if v2 = 0 then
    some ((-1 : Int32), h)
  else
    if (ff_X5r_allows a2 h) = 0 then
      some ((-1 : Int32), h)
    else
      (ff_X7_findingOfReading a2 h).bind fun v4 =>
      if v4 = 0 then
        ff_X7_who_50 a1 a2 h FU_ (0 : Int32) (0 : Int32)
      else
        (ff_X6_refuse v4 h).bind fun v10 =>
        some (v10.1, v10.2)
def ff_X2_ways (o : Nat) (a1 : Int32) (a2 : Int32) (a3 : Int32) (h : hh_) : Option (Int32) :=
  (ff_X2_most o a1 a2 a3 (0 : Int32) h).bind fun v1 =>
  (ff_X2_least o a1 a2 a3 (0 : Int32) h).bind fun v3 =>
  some (if (1 : Int32) < ((v1 - v3) + (1 : Int32)) then ((v1 - v3) + (1 : Int32)) else (1 : Int32))
def ff_X2_weight_46 (x0 : Nat) (x1 : Int32) (x2 : Int32) (x3 : Int32) (x6 : Int32) (h : hh_) (K46_73 : Int64 → Option (Int64)) : Nat → Int64 → Int32 → Option (Int64)
  | 0, _, _ => none
  | n9 + 1, x4, x7 =>
    if (4 : Int32) ≤ x7 then
      K46_73 x4
    else
      (ff_X2_ways x0 x1 x6 x7 h).bind fun v1 =>
      ff_X2_weight_46 x0 x1 x2 x3 x6 h K46_73 n9 (x4 * (Int32.toInt64 v1)) (x7 + (1 : Int32))
def ff_X2_weight_16 (x0 : Nat) (x1 : Int32) (x2 : Int32) (x3 : Int32) (h : hh_) : Nat → Int64 → Int32 → Option (Int64)
  | 0, _, _ => none
  | n9 + 1, x4, x6 =>
    if (h.1 (x0 + 23) (Int32.toNatClampNeg (0 : Int32))) ≤ x6 then
      some (x4)
    else
      if x6 = x2 then
        ff_X2_weight_16 x0 x1 x2 x3 h n9 x4 (x6 + (1 : Int32))
      else
        if ((x3 >>> (x6 &&& 31)) &&& (1 : Int32)) = (1 : Int32) then
          ff_X2_weight_46 x0 x1 x2 x3 x6 h (fun u3 =>
            ff_X2_weight_16 x0 x1 x2 x3 h n9 u3 (x6 + (1 : Int32))) FU_ x4 (0 : Int32)
        else
          ff_X2_weight_16 x0 x1 x2 x3 h n9 x4 (x6 + (1 : Int32))
def ff_X2_weight (o : Nat) (a1 : Int32) (a2 : Int32) (a3 : Int32) (h : hh_) : Option (Int64) :=
  if ((a3 >>> (a2 &&& 31)) &&& (1 : Int32)) = 0 then
    some (0 : Int64)
  else
    ff_X2_weight_16 o a1 a2 a3 h FU_ (1 : Int64) (0 : Int32)
def ff_X6_commonDivisor_3 : Nat → Int64 → Int64 → Int32 → Option (Int64)
  | 0, _, _, _ => none
  | n9 + 1, x0, x2, x4 =>
    if (100 : Int32) ≤ x4 then
      some (x0)
    else
      if (lg_cmp x2 (0 : Int64)) = 0 then
        some (x0)
      else
        gd_ (bm_ x2) <|
        ff_X6_commonDivisor_3 n9 x2 (x0 - x0 / x2 * x2) (x4 + (1 : Int32))
def ff_X6_commonDivisor (a0 : Int64) (a2 : Int64) : Option (Int64) :=
  ff_X6_commonDivisor_3 FU_ a0 a2 (0 : Int32)
def ff_X6_tellFraction (a1 : Int64) (a3 : Int64) (h : hh_) : Option (Int32 × hh_) :=
  (ff_X6_commonDivisor a1 a3).bind fun v1 =>
  if (lg_cmp v1 (0 : Int64)) = 0 then
    some ((1 : Int32), h)
  else
    gd_ (bm_ v1) <|
    some ((1 : Int32), (hh_sL (hh_sL h 36 3 (a1 / v1)) 36 4 (a3 / v1)))
def ff_X7_odds_98 (x1 : Int32) (x2 : Int32) (x5 : Int32) (h : hh_) : Nat → Int64 → Int32 → Option (Int32 × hh_)
  | 0, _, _ => none
  | n9 + 1, x6, x8 =>
    gd_ (bo_ h.2.2.1) <|
    if (h.1 (h.2.2.1 + 23) (Int32.toNatClampNeg (0 : Int32))) ≤ x8 then
      (ff_X2_weight h.2.2.1 x1 x2 x5 h).bind fun v12 =>
      (ff_X6_tellFraction v12 x6 h).bind fun v14 =>
      some (v14.1, v14.2)
    else
      (ff_X2_weight h.2.2.1 x1 x8 x5 h).bind fun v16 =>
      ff_X7_odds_98 x1 x2 x5 h n9 (x6 + v16) (x8 + (1 : Int32))
def ff_X7_odds (a1 : Int32) (a2 : Int32) (a3 : Int32) (h : hh_) : Option (Int32 × hh_) :=
  gd_ (bo_ h.2.2.1) <|
  (ff_X2_has h.2.2.1 (1 : Int32) a1 h).bind fun v2 =>
  if v2 = 0 then
    some ((-1 : Int32), h)
  else
    (ff_X2_has h.2.2.1 (0 : Int32) a2 h).bind fun v4 =>
    if v4 = 0 then
      some ((-1 : Int32), h)
    else
      if (ff_X5r_allows a3 h) = 0 then
        some ((-1 : Int32), h)
      else
        (ff_X7_findingOfReading a3 h).bind fun v6 =>
        if v6 = 0 then
          gd_ (bi_ a3 6) <|
          (ff_X2_headsThatFit h.2.2.1 a1 (4 + Int32.toNatClampNeg a3) h).bind fun v9 =>
          if v9 = 0 then
            (ff_X6_refuse (4 : Int32) h).bind fun v18 =>
            some (v18.1, v18.2)
          else
            ff_X7_odds_98 a1 a2 v9 h FU_ (0 : Int64) (0 : Int32)
        else
          (ff_X6_refuse v6 h).bind fun v20 =>
          some (v20.1, v20.2)
def ff_X2_isApart (o : Nat) (a1 : Int32) (a2 : Int32) (a3 : Int32) (a4 : Int32) (h : hh_) : Option (Int32) :=
  (ff_X2_least o a1 a2 a4 (0 : Int32) h).bind fun v1 =>
  (ff_X2_most o a1 a3 a4 (0 : Int32) h).bind fun v3 =>
  if v3 < v1 then
    some (1 : Int32)
  else
    (ff_X2_least o a1 a3 a4 (0 : Int32) h).bind fun v5 =>
    (ff_X2_most o a1 a2 a4 (0 : Int32) h).bind fun v7 =>
    if v5 ≤ v7 then
      some (0 : Int32)
    else
      some (1 : Int32)
def ff_X2_pairsApart_19 (x0 : Nat) (x1 : Int32) (x2 : Int32) (x4 : Int32) (h : hh_) (K19_53 : Int32 → Option (Int32)) : Nat → Int32 → Int32 → Option (Int32)
  | 0, _, _ => none
  | n9 + 1, x3, x5 =>
    if x4 ≤ x5 then
      K19_53 x3
    else
      (ff_X2_isApart x0 x1 x4 x5 x2 h).bind fun v1 =>
      if v1 = 0 then
        ff_X2_pairsApart_19 x0 x1 x2 x4 h K19_53 n9 (x3 + (0 : Int32)) (x5 + (1 : Int32))
      else
        ff_X2_pairsApart_19 x0 x1 x2 x4 h K19_53 n9 (x3 + (1 : Int32)) (x5 + (1 : Int32))
def ff_X2_pairsApart_5 (x0 : Nat) (x1 : Int32) (x2 : Int32) (h : hh_) : Nat → Int32 → Int32 → Option (Int32)
  | 0, _, _ => none
  | n9 + 1, x3, x4 =>
    if (h.1 (x0 + 23) (Int32.toNatClampNeg (0 : Int32))) ≤ x4 then
      some (x3)
    else
      ff_X2_pairsApart_19 x0 x1 x2 x4 h (fun u3 =>
        ff_X2_pairsApart_5 x0 x1 x2 h n9 u3 (x4 + (1 : Int32))) FU_ x3 (0 : Int32)
def ff_X2_pairsApart (o : Nat) (a1 : Int32) (a2 : Int32) (h : hh_) : Option (Int32) :=
  ff_X2_pairsApart_5 o a1 a2 h FU_ (0 : Int32) (0 : Int32)
def ff_X7_look_21 (x1 : Int32) (h : hh_) : Nat → Int32 → Int32 → Int32 → Option (Int32 × hh_)
  | 0, _, _, _ => none
  | n9 + 1, x2, x3, x4 =>
    if (4 : Int32) ≤ x4 then
      some (x2, (ff_X6_tell x3 h).2)
    else
      gd_ (bo_ h.2.2.1) <|
      (ff_X2_pairsApart h.2.2.1 x1 x4 h).bind fun v5 =>
      if v5 ≤ x3 then
        ff_X7_look_21 x1 h n9 x2 x3 (x4 + (1 : Int32))
      else
        ff_X7_look_21 x1 h n9 x4 v5 (x4 + (1 : Int32))
def ff_X7_look (a1 : Int32) (h : hh_) : Option (Int32 × hh_) :=
  gd_ (bo_ h.2.2.1) <|
  (ff_X2_has h.2.2.1 (1 : Int32) a1 h).bind fun v2 =>
  if v2 = 0 then
    some ((-1 : Int32), h)
  else
    ff_X7_look_21 a1 h FU_ (0 : Int32) (-1 : Int32) (0 : Int32)
def ff_X2_maySeem_3 (x0 : Nat) (x1 : Int32) (x2 : Int32) (x3 : Int32) (h : hh_) : Nat → Int32 → Option (Int32)
  | 0, _ => none
  | n9 + 1, x4 =>
    if (4 : Int32) ≤ x4 then
      some (1 : Int32)
    else
      (ff_X2_isApart x0 x1 x2 x3 x4 h).bind fun v1 =>
      if v1 = 0 then
        ff_X2_maySeem_3 x0 x1 x2 x3 h n9 (x4 + (1 : Int32))
      else
        some (0 : Int32)
def ff_X2_maySeem (o : Nat) (a1 : Int32) (a2 : Int32) (a3 : Int32) (h : hh_) : Option (Int32) :=
  ff_X2_maySeem_3 o a1 a2 a3 h FU_ (0 : Int32)
def ff_X7_alike_31 (x1 : Int32) (x2 : Int32) (h : hh_) : Nat → Int32 → Int32 → Option (Int32)
  | 0, _, _ => none
  | n9 + 1, x3, x4 =>
    gd_ (bo_ h.2.2.1) <|
    if (h.1 (h.2.2.1 + 23) (Int32.toNatClampNeg (0 : Int32))) ≤ x4 then
      some (x3)
    else
      (ff_X2_maySeem h.2.2.1 x1 x2 x4 h).bind fun v7 =>
      if v7 = 0 then
        ff_X7_alike_31 x1 x2 h n9 x3 (x4 + (1 : Int32))
      else
        ff_X7_alike_31 x1 x2 h n9 (x3 ||| ((1 : Int32) <<< (x4 &&& 31))) (x4 + (1 : Int32))
def ff_X7_alike (a1 : Int32) (a2 : Int32) (h : hh_) : Option (Int32) :=
  gd_ (bo_ h.2.2.1) <|
  (ff_X2_has h.2.2.1 (1 : Int32) a1 h).bind fun v2 =>
  if v2 = 0 then
    some (-1 : Int32)
  else
    (ff_X2_has h.2.2.1 (0 : Int32) a2 h).bind fun v4 =>
    if v4 = 0 then
      some (-1 : Int32)
    else
      ff_X7_alike_31 a1 a2 h FU_ (0 : Int32) (0 : Int32)
def ff_X2_isSure_26 (x0 : Nat) (x1 : Int32) (x2 : Int32) (x3 : Int32) (x4 : Int32) (x5 : Int32) (y0 : Nat) (y1 : Int32) (y2 : Int32) (y3 : Int32) (y4 : Int32) (h : hh_) (K26_3 : Int32 → Option (Int32)) : Option (Int32) :=
  (ff_X2_least y0 y1 y2 y3 y4 h).bind fun v1 =>
  gd_ (bi_ x3 4) <|
  gd_ (bi_ x5 5) <|
  if (h.1 (x0 + 19 + Int32.toNatClampNeg x3) (Int32.toNatClampNeg x5)) ≤ v1 then
    K26_3 (x5 + (1 : Int32))
  else
    some (0 : Int32)
def ff_X2_isSure_3 (x0 : Nat) (x1 : Int32) (x2 : Int32) (x3 : Int32) (x4 : Int32) (h : hh_) : Nat → Int32 → Option (Int32)
  | 0, _ => none
  | n9 + 1, x5 =>
    if (4 : Int32) ≤ x5 then
      some (1 : Int32)
    else
      if x5 = x4 then
        ff_X2_isSure_26 x0 x1 x2 x3 x4 x5 x0 x1 x2 x5 (1 : Int32) h (fun z5 => ff_X2_isSure_3 x0 x1 x2 x3 x4 h n9 z5)
      else
        ff_X2_isSure_26 x0 x1 x2 x3 x4 x5 x0 x1 x2 x5 (0 : Int32) h (fun z5 => ff_X2_isSure_3 x0 x1 x2 x3 x4 h n9 z5)
def ff_X2_isSure (o : Nat) (a1 : Int32) (a2 : Int32) (a3 : Int32) (a4 : Int32) (h : hh_) : Option (Int32) :=
  ff_X2_isSure_3 o a1 a2 a3 a4 h FU_ (0 : Int32)
def ff_X2_isLucky_3 (x0 : Nat) (x1 : Int32) (x2 : Int32) (x3 : Int32) (h : hh_) : Nat → Int32 → Option (Int32)
  | 0, _ => none
  | n9 + 1, x4 =>
    if (4 : Int32) ≤ x4 then
      some (1 : Int32)
    else
      (ff_X2_most x0 x1 x2 x4 (0 : Int32) h).bind fun v1 =>
      gd_ (bi_ x3 4) <|
      gd_ (bi_ x4 5) <|
      if (h.1 (x0 + 19 + Int32.toNatClampNeg x3) (Int32.toNatClampNeg x4)) ≤ v1 then
        ff_X2_isLucky_3 x0 x1 x2 x3 h n9 (x4 + (1 : Int32))
      else
        some (0 : Int32)
def ff_X2_isLucky (o : Nat) (a1 : Int32) (a2 : Int32) (a3 : Int32) (h : hh_) : Option (Int32) :=
  ff_X2_isLucky_3 o a1 a2 a3 h FU_ (0 : Int32)
def ff_X7_suits (a1 : Int32) (a2 : Int32) (a3 : Int32) (h : hh_) : Option (Int32) :=
  gd_ (bo_ h.2.2.1) <|
  (ff_X2_has h.2.2.1 (1 : Int32) a1 h).bind fun v2 =>
  if v2 = 0 then
    some (-1 : Int32)
  else
    (ff_X2_has h.2.2.1 (0 : Int32) a2 h).bind fun v4 =>
    if v4 = 0 then
      some (-1 : Int32)
    else
      (ff_X2_has h.2.2.1 (2 : Int32) a3 h).bind fun v6 =>
      if v6 = 0 then
        some (-1 : Int32)
      else
        (ff_X2_isSure h.2.2.1 a1 a2 a3 (-9 : Int32) h).bind fun v8 =>
        if v8 = 0 then
          (ff_X2_isLucky h.2.2.1 a1 a2 a3 h).bind fun v10 =>
          if v10 = 0 then
            some (0 : Int32)
          else
            some (1 : Int32)
        else
          some (2 : Int32)
def ff_X7_luck_47 (x1 : Int32) (x2 : Int32) (x3 : Int32) (h : hh_) : Nat → Int64 → Int64 → Int32 → Option (Int32 × hh_)
  | 0, _, _, _ => none
  | n9 + 1, x4, x6, x8 =>
    if (4 : Int32) ≤ x8 then
      (ff_X6_tellFraction x4 x6 h).bind fun v8 =>
      some (v8.1, v8.2)
    else
      gd_ (bo_ h.2.2.1) <|
      (ff_X2_least h.2.2.1 x1 x2 x8 (0 : Int32) h).bind fun v11 =>
      (ff_X2_most h.2.2.1 x1 x2 x8 (0 : Int32) h).bind fun v13 =>
      gd_ (bi_ x3 4) <|
      gd_ (bi_ x8 5) <|
      (ff_X2_ways h.2.2.1 x1 x2 x8 h).bind fun v17 =>
      ff_X7_luck_47 x1 x2 x3 h n9 (x4 * (Int32.toInt64 (if (0 : Int32) < ((v13 - (if v11 < (h.1 (h.2.2.1 + 19 + Int32.toNatClampNeg x3) (Int32.toNatClampNeg x8)) then (h.1 (h.2.2.1 + 19 + Int32.toNatClampNeg x3) (Int32.toNatClampNeg x8)) else v11)) + (1 : Int32)) then ((v13 - (if v11 < (h.1 (h.2.2.1 + 19 + Int32.toNatClampNeg x3) (Int32.toNatClampNeg x8)) then (h.1 (h.2.2.1 + 19 + Int32.toNatClampNeg x3) (Int32.toNatClampNeg x8)) else v11)) + (1 : Int32)) else (0 : Int32)))) (x6 * (Int32.toInt64 v17)) (x8 + (1 : Int32))
def ff_X7_luck (a1 : Int32) (a2 : Int32) (a3 : Int32) (h : hh_) : Option (Int32 × hh_) :=
  gd_ (bo_ h.2.2.1) <|
  (ff_X2_has h.2.2.1 (1 : Int32) a1 h).bind fun v2 =>
  if v2 = 0 then
    some ((-1 : Int32), h)
  else
    (ff_X2_has h.2.2.1 (0 : Int32) a2 h).bind fun v4 =>
    if v4 = 0 then
      some ((-1 : Int32), h)
    else
      (ff_X2_has h.2.2.1 (2 : Int32) a3 h).bind fun v6 =>
      if v6 = 0 then
        some ((-1 : Int32), h)
      else
        ff_X7_luck_47 a1 a2 a3 h FU_ (1 : Int64) (1 : Int64) (0 : Int32)
def ff_X2_fewestPads_3 (x0 : Nat) (x1 : Int32) (x2 : Int32) (x3 : Int32) (x4 : Int32) (h : hh_) : Nat → Int32 → Option (Int32)
  | 0, _ => none
  | n9 + 1, x5 =>
    gd_ (bi_ x2 5) <|
    gd_ (bi_ x4 5) <|
    if (5 : Int32) < ((h.1 (x0 + 8 + Int32.toNatClampNeg x2) (Int32.toNatClampNeg x4)) + x5) then
      some (-9 : Int32)
    else
      (ff_X2_least x0 x1 x2 x4 x5 h).bind fun v3 =>
      gd_ (bi_ x3 4) <|
      if v3 < (h.1 (x0 + 19 + Int32.toNatClampNeg x3) (Int32.toNatClampNeg x4)) then
        ff_X2_fewestPads_3 x0 x1 x2 x3 x4 h n9 (x5 + (1 : Int32))
      else
        some (x5)
def ff_X2_fewestPads (o : Nat) (a1 : Int32) (a2 : Int32) (a3 : Int32) (a4 : Int32) (h : hh_) : Option (Int32) :=
  ff_X2_fewestPads_3 o a1 a2 a3 a4 h FU_ (0 : Int32)
def ff_X7_pads_56 (x1 : Int32) (x2 : Int32) (x3 : Int32) (x4 : Int32) (h : hh_) (K56_99 : Int32 → Option (Int32 × hh_)) : Nat → Int32 → Int32 → Option (Int32 × hh_)
  | 0, _, _ => none
  | n9 + 1, x5, x6 =>
    if (4 : Int32) ≤ x6 then
      K56_99 x5
    else
      gd_ (bo_ h.2.2.1) <|
      (ff_X2_fewestPads h.2.2.1 x1 x2 x3 x6 h).bind fun v9 =>
      if v9 = (-9 : Int32) then
        some ((-9 : Int32), h)
      else
        ff_X7_pads_56 x1 x2 x3 x4 h K56_99 n9 (x5 + v9) (x6 + (1 : Int32))
def ff_X7_pads_113 (x1 : Int32) (x2 : Int32) (x3 : Int32) (x4 : Int32) (x5 : Int32) : Nat → Int32 → hh_ → Option (Int32 × hh_)
  | 0, _, _ => none
  | n9 + 1, x6, h =>
    if (4 : Int32) ≤ x6 then
      some (x5, h)
    else
      gd_ (bi_ x4 6) <|
      gd_ (bo_ h.2.2.1) <|
      (ff_X2_fewestPads h.2.2.1 x1 x2 x3 x6 h).bind fun v16 =>
      gd_ (bi_ x6 40) <|
      ff_X7_pads_113 x1 x2 x3 x4 x5 n9 (x6 + (1 : Int32)) (hh_sI h (4 + Int32.toNatClampNeg x4) (Int32.toNatClampNeg x6) v16)
def ff_X7_pads (a1 : Int32) (a2 : Int32) (a3 : Int32) (a4 : Int32) (h : hh_) : Option (Int32 × hh_) :=
  gd_ (bo_ h.2.2.1) <|
  (ff_X2_has h.2.2.1 (1 : Int32) a1 h).bind fun v2 =>
  if v2 = 0 then
    some ((-1 : Int32), h)
  else
    (ff_X2_has h.2.2.1 (0 : Int32) a2 h).bind fun v4 =>
    if v4 = 0 then
      some ((-1 : Int32), h)
    else
      (ff_X2_has h.2.2.1 (2 : Int32) a3 h).bind fun v6 =>
      if v6 = 0 then
        some ((-1 : Int32), h)
      else
        if (ff_X5r_allows a4 h) = 0 then
          some ((-1 : Int32), h)
        else
          ff_X7_pads_56 a1 a2 a3 a4 h (fun u11 =>
            (ff_X5r_renew a4 (4 : Int32) (0 : Int32) h).bind fun v12 =>
            ff_X7_pads_113 a1 a2 a3 a4 u11 FU_ (0 : Int32) v12) FU_ (0 : Int32) (0 : Int32)
def ff_X7_all_58 (x1 : Int32) (x2 : Int32) (x3 : Int32) (x4 : Int32) (h : hh_) (K58_112 : Int32 → Option (Int32)) : Nat → Int32 → Int32 → Option (Int32)
  | 0, _, _ => none
  | n9 + 1, x5, x6 =>
    gd_ (bo_ h.2.2.1) <|
    if (h.1 (h.2.2.1 + 23) (Int32.toNatClampNeg (1 : Int32))) ≤ x6 then
      K58_112 x5
    else
      (ff_X2_fewestPads h.2.2.1 x6 x1 x2 x4 h).bind fun v7 =>
      if v7 = (-9 : Int32) then
        some (-9 : Int32)
      else
        ff_X7_all_58 x1 x2 x3 x4 h K58_112 n9 (if x5 < v7 then v7 else x5) (x6 + (1 : Int32))
def ff_X7_all_46 (x1 : Int32) (x2 : Int32) (h : hh_) : Nat → Int32 → Int32 → Option (Int32)
  | 0, _, _ => none
  | n9 + 1, x3, x4 =>
    if (4 : Int32) ≤ x4 then
      some (x3)
    else
      ff_X7_all_58 x1 x2 x3 x4 h (fun u9 =>
        ff_X7_all_46 x1 x2 h n9 (x3 + u9) (x4 + (1 : Int32))) FU_ (0 : Int32) (0 : Int32)
def ff_X7_all (a1 : Int32) (a2 : Int32) (h : hh_) : Option (Int32) :=
  gd_ (bo_ h.2.2.1) <|
  (ff_X2_has h.2.2.1 (0 : Int32) a1 h).bind fun v2 =>
  if v2 = 0 then
    some (-1 : Int32)
  else
    (ff_X2_has h.2.2.1 (2 : Int32) a2 h).bind fun v4 =>
    if v4 = 0 then
      some (-1 : Int32)
    else
      if (h.1 (h.2.2.1 + 23) (Int32.toNatClampNeg (1 : Int32))) = 0 then
        some (-4 : Int32)
      else
        ff_X7_all_46 a1 a2 h FU_ (0 : Int32) (0 : Int32)
def ff_X7_finds_54 (x1 : Int32) (x2 : Int32) (x3 : Int32) (h : hh_) : Nat → Int32 → Option (Int32)
  | 0, _ => none
  | n9 + 1, x4 =>
    gd_ (bo_ h.2.2.1) <|
    if (h.1 (h.2.2.1 + 23) (Int32.toNatClampNeg (1 : Int32))) ≤ x4 then
      some (-9 : Int32)
    else
      if x4 = x1 then
        ff_X7_finds_54 x1 x2 x3 h n9 (x4 + (1 : Int32))
      else
        (ff_X2_least h.2.2.1 x4 x2 x3 (1 : Int32) h).bind fun v9 =>
        (ff_X2_most h.2.2.1 x4 x2 x3 (0 : Int32) h).bind fun v11 =>
        if v9 ≤ v11 then
          ff_X7_finds_54 x1 x2 x3 h n9 (x4 + (1 : Int32))
        else
          some (x4)
def ff_X7_finds (a1 : Int32) (a2 : Int32) (a3 : Int32) (h : hh_) : Option (Int32) :=
  gd_ (bo_ h.2.2.1) <|
  (ff_X2_has h.2.2.1 (1 : Int32) a1 h).bind fun v2 =>
  if v2 = 0 then
    some (-1 : Int32)
  else
    (ff_X2_has h.2.2.1 (0 : Int32) a2 h).bind fun v4 =>
    if v4 = 0 then
      some (-1 : Int32)
    else
      if (ff_X7_isPlace a3) = 0 then
        some (-1 : Int32)
      else
        gd_ (bi_ a2 5) <|
        gd_ (bi_ a3 5) <|
        if (h.1 (h.2.2.1 + 8 + Int32.toNatClampNeg a2) (Int32.toNatClampNeg a3)) < (5 : Int32) then
          ff_X7_finds_54 a1 a2 a3 h FU_ (0 : Int32)
        else
          some (-4 : Int32)
def ff_X2_surePosts_6 (x0 : Nat) (x1 : Int32) (x2 : Int32) (x3 : Int32) (h : hh_) : Nat → Int32 → Int32 → Option (Int32)
  | 0, _, _ => none
  | n9 + 1, x4, x5 =>
    if (h.1 (x0 + 23) (Int32.toNatClampNeg (2 : Int32))) ≤ x5 then
      some (x4)
    else
      (ff_X2_isSure x0 x1 x2 x5 x3 h).bind fun v1 =>
      if v1 = 0 then
        ff_X2_surePosts_6 x0 x1 x2 x3 h n9 x4 (x5 + (1 : Int32))
      else
        ff_X2_surePosts_6 x0 x1 x2 x3 h n9 (x4 ||| ((1 : Int32) <<< (x5 &&& 31))) (x5 + (1 : Int32))
def ff_X2_surePosts (o : Nat) (a1 : Int32) (a2 : Int32) (a3 : Int32) (h : hh_) : Option (Int32) :=
  ff_X2_surePosts_6 o a1 a2 a3 h FU_ (0 : Int32) (0 : Int32)
def ff_X7_posts_31 (x1 : Int32) (x2 : Int32) (h : hh_) : Nat → Int32 → Int32 → Option (Int32 × hh_)
  | 0, _, _ => none
  | n9 + 1, x3, x4 =>
    gd_ (bo_ h.2.2.1) <|
    if (h.1 (h.2.2.1 + 23) (Int32.toNatClampNeg (2 : Int32))) ≤ x4 then
      gd_ (bo_ (ff_X6_tell x3 h).2.2.2.1) <|
      (ff_X2_surePosts ((ff_X6_tell x3 h).2.2.2.1) x1 x2 (-9 : Int32) (ff_X6_tell x3 h).2).bind fun v8 =>
      some (v8, (ff_X6_tell x3 h).2)
    else
      (ff_X2_isLucky h.2.2.1 x1 x2 x4 h).bind fun v10 =>
      if v10 = 0 then
        ff_X7_posts_31 x1 x2 h n9 x3 (x4 + (1 : Int32))
      else
        ff_X7_posts_31 x1 x2 h n9 (x3 ||| ((1 : Int32) <<< (x4 &&& 31))) (x4 + (1 : Int32))
def ff_X7_posts (a1 : Int32) (a2 : Int32) (h : hh_) : Option (Int32 × hh_) :=
  gd_ (bo_ h.2.2.1) <|
  (ff_X2_has h.2.2.1 (1 : Int32) a1 h).bind fun v2 =>
  if v2 = 0 then
    some ((-1 : Int32), h)
  else
    (ff_X2_has h.2.2.1 (0 : Int32) a2 h).bind fun v4 =>
    if v4 = 0 then
      some ((-1 : Int32), h)
    else
      ff_X7_posts_31 a1 a2 h FU_ (0 : Int32) (0 : Int32)
def ff_X3_openByOne_2 (x1 : Nat) (x2 : Int32) : Nat → Int32 → hh_ → Option (hh_)
  | 0, _, _ => none
  | n9 + 1, x3, h =>
    if (h.1 (x1 + 23) (Int32.toNatClampNeg (0 : Int32))) ≤ x3 then
      some (h)
    else
      (ff_X2_surePosts x1 x2 x3 (-9 : Int32) h).bind fun v1 =>
      gd_ (bi_ x3 5) <|
      ff_X3_openByOne_2 x1 x2 n9 (x3 + (1 : Int32)) (hh_sI h 21 (Int32.toNatClampNeg x3) v1)
def ff_X3_openByOne (a1 : Nat) (a2 : Int32) (h : hh_) : Option (hh_) :=
  ff_X3_openByOne_2 a1 a2 FU_ (0 : Int32) h
def ff_X3_isFree (a1 : Int32) (a2 : Int32) (a3 : Int32) (h : hh_) : Option (Int32) :=
  gd_ (bi_ a1 5) <|
  if (((h.1 21 (Int32.toNatClampNeg a1)) &&& (a3 ^^^ (-1 : Int32))) &&& ((1 : Int32) <<< (a2 &&& 31))) = 0 then
    some (0 : Int32)
  else
    some (1 : Int32)
def ff_X3_payBy (a1 : Nat) (a2 : Int32) (a3 : Int32) (a4 : Int32) (h : hh_) : Option (Int32) :=
  gd_ (bi_ a3 4) <|
  gd_ (bi_ (a2 + (1 : Int32)) 6) <|
  gd_ (bi_ (a4 ||| ((1 : Int32) <<< (a3 &&& 31))) 16) <|
  some ((h.1 (a1 + 19 + Int32.toNatClampNeg a3) (Int32.toNatClampNeg (4 : Int32))) + (h.1 (23 + Int32.toNatClampNeg (a2 + (1 : Int32))) (Int32.toNatClampNeg (a4 ||| ((1 : Int32) <<< (a3 &&& 31))))))
def ff_X3_reckonFrom_39 (x1 : Nat) (x2 : Int32) (x3 : Int32) : Nat → Int32 → hh_ → Option (hh_)
  | 0, _, _ => none
  | n9 + 1, x4, h =>
    if (h.1 (x1 + 23) (Int32.toNatClampNeg (2 : Int32))) ≤ x4 then
      some (h)
    else
      (ff_X3_isFree x2 x4 x3 h).bind fun v4 =>
      if v4 = 0 then
        ff_X3_reckonFrom_39 x1 x2 x3 n9 (x4 + (1 : Int32)) h
      else
        gd_ (bi_ x2 6) <|
        gd_ (bi_ x3 16) <|
        (ff_X3_payBy x1 x2 x4 x3 h).bind fun v8 =>
        gd_ (bi_ (x2 + (1 : Int32)) 6) <|
        gd_ (bi_ (x3 ||| ((1 : Int32) <<< (x4 &&& 31))) 16) <|
        ff_X3_reckonFrom_39 x1 x2 x3 n9 (x4 + (1 : Int32)) (hh_sI (hh_sI h (23 + Int32.toNatClampNeg x2) (Int32.toNatClampNeg x3) (if (h.1 (23 + Int32.toNatClampNeg x2) (Int32.toNatClampNeg x3)) < v8 then v8 else (h.1 (23 + Int32.toNatClampNeg x2) (Int32.toNatClampNeg x3)))) (30 + Int32.toNatClampNeg x2) (Int32.toNatClampNeg x3) (((hh_sI h (23 + Int32.toNatClampNeg x2) (Int32.toNatClampNeg x3) (if (h.1 (23 + Int32.toNatClampNeg x2) (Int32.toNatClampNeg x3)) < v8 then v8 else (h.1 (23 + Int32.toNatClampNeg x2) (Int32.toNatClampNeg x3)))).1 (30 + Int32.toNatClampNeg x2) (Int32.toNatClampNeg x3)) + ((hh_sI h (23 + Int32.toNatClampNeg x2) (Int32.toNatClampNeg x3) (if (h.1 (23 + Int32.toNatClampNeg x2) (Int32.toNatClampNeg x3)) < v8 then v8 else (h.1 (23 + Int32.toNatClampNeg x2) (Int32.toNatClampNeg x3)))).1 (30 + Int32.toNatClampNeg (x2 + (1 : Int32))) (Int32.toNatClampNeg (x3 ||| ((1 : Int32) <<< (x4 &&& 31)))))))
def ff_X3_reckonFrom (a1 : Nat) (a2 : Int32) (a3 : Int32) (h : hh_) : Option (hh_) :=
  gd_ (bi_ a2 6) <|
  gd_ (bi_ (a2 + (1 : Int32)) 6) <|
  gd_ (bi_ a3 16) <|
  ff_X3_reckonFrom_39 a1 a2 a3 FU_ (0 : Int32) (hh_sI (hh_sI h (23 + Int32.toNatClampNeg a2) (Int32.toNatClampNeg a3) (h.1 (23 + Int32.toNatClampNeg (a2 + (1 : Int32))) (Int32.toNatClampNeg a3))) (30 + Int32.toNatClampNeg a2) (Int32.toNatClampNeg a3) ((hh_sI h (23 + Int32.toNatClampNeg a2) (Int32.toNatClampNeg a3) (h.1 (23 + Int32.toNatClampNeg (a2 + (1 : Int32))) (Int32.toNatClampNeg a3))).1 (30 + Int32.toNatClampNeg (a2 + (1 : Int32))) (Int32.toNatClampNeg a3)))
def ff_X3_reckon_19 (x1 : Nat) (x2 : Int32) (x3 : Int32) (K19_51 : hh_ → Option (hh_)) : Nat → Int32 → hh_ → Option (hh_)
  | 0, _, _ => none
  | n9 + 1, x4, h =>
    if x3 ≤ x4 then
      K19_51 h
    else
      gd_ (bi_ x2 6) <|
      gd_ (bi_ x4 16) <|
      ff_X3_reckon_19 x1 x2 x3 K19_51 n9 (x4 + (1 : Int32)) (hh_sI (hh_sI h (23 + Int32.toNatClampNeg x2) (Int32.toNatClampNeg x4) (0 : Int32)) (30 + Int32.toNatClampNeg x2) (Int32.toNatClampNeg x4) (1 : Int32))
def ff_X3_reckon_64 (x1 : Nat) (x3 : Int32) (x4 : Int32) (K64_85 : hh_ → Option (hh_)) : Nat → Int32 → hh_ → Option (hh_)
  | 0, _, _ => none
  | n9 + 1, x5, h =>
    if x3 ≤ x5 then
      K64_85 h
    else
      (ff_X3_reckonFrom x1 x4 x5 h).bind fun v4 =>
      ff_X3_reckon_64 x1 x3 x4 K64_85 n9 (x5 + (1 : Int32)) v4
def ff_X3_reckon_56 (x1 : Nat) (x3 : Int32) : Nat → Int32 → hh_ → Option (hh_)
  | 0, _, _ => none
  | n9 + 1, x4, h =>
    if x4 < 0 then
      some (h)
    else
      ff_X3_reckon_64 x1 x3 x4 (fun k6 =>
        ff_X3_reckon_56 x1 x3 n9 (x4 + (-1 : Int32)) k6) FU_ (0 : Int32) h
def ff_X3_reckon (a1 : Nat) (h : hh_) : Option (hh_) :=
  ff_X3_reckon_19 a1 (h.1 (a1 + 23) (Int32.toNatClampNeg (0 : Int32))) ((1 : Int32) <<< ((h.1 (a1 + 23) (Int32.toNatClampNeg (2 : Int32))) &&& 31)) (fun k3 =>
    ff_X3_reckon_56 a1 ((1 : Int32) <<< ((h.1 (a1 + 23) (Int32.toNatClampNeg (2 : Int32))) &&& 31)) FU_ ((h.1 (a1 + 23) (Int32.toNatClampNeg (0 : Int32))) - (1 : Int32)) k3) FU_ (0 : Int32) h
def ff_X3_bestPay (h : hh_) : Option (Int32) :=
  some (h.1 (23 + Int32.toNatClampNeg (0 : Int32)) (Int32.toNatClampNeg (0 : Int32)))
def ff_X3_bestPost_3 (x1 : Nat) (x2 : Int32) (x3 : Int32) (h : hh_) : Nat → Int32 → Option (Int32)
  | 0, _ => none
  | n9 + 1, x4 =>
    if (h.1 (x1 + 23) (Int32.toNatClampNeg (2 : Int32))) ≤ x4 then
      some (-9 : Int32)
    else
      (ff_X3_isFree x2 x4 x3 h).bind fun v1 =>
      if v1 = 0 then
        ff_X3_bestPost_3 x1 x2 x3 h n9 (x4 + (1 : Int32))
      else
        (ff_X3_payBy x1 x2 x4 x3 h).bind fun v3 =>
        gd_ (bi_ x2 6) <|
        gd_ (bi_ x3 16) <|
        if v3 = (h.1 (23 + Int32.toNatClampNeg x2) (Int32.toNatClampNeg x3)) then
          some (x4)
        else
          ff_X3_bestPost_3 x1 x2 x3 h n9 (x4 + (1 : Int32))
def ff_X3_bestPost (a1 : Nat) (a2 : Int32) (a3 : Int32) (h : hh_) : Option (Int32) :=
  ff_X3_bestPost_3 a1 a2 a3 h FU_ (0 : Int32)
def ff_X7_layBestPlan_26 (x1 : Int32) (x2 : Int32) : Nat → Int32 → Int32 → hh_ → Option (Int32 × hh_)
  | 0, _, _, _ => none
  | n9 + 1, x3, x4, h =>
    if x2 ≤ x4 then
      (ff_X3_bestPay h).bind fun v4 =>
      some (v4, h)
    else
      gd_ (bo_ h.2.2.1) <|
      (ff_X3_bestPost h.2.2.1 x4 x3 h).bind fun v7 =>
      if v7 = (-9 : Int32) then
        ff_X7_layBestPlan_26 x1 x2 n9 x3 (x4 + (1 : Int32)) h
      else
        gd_ (bi_ x1 6) <|
        gd_ (bi_ x4 40) <|
        ff_X7_layBestPlan_26 x1 x2 n9 (x3 ||| ((1 : Int32) <<< (v7 &&& 31))) (x4 + (1 : Int32)) (hh_sI h (4 + Int32.toNatClampNeg x1) (Int32.toNatClampNeg x4) v7)
def ff_X7_layBestPlan (a1 : Int32) (h : hh_) : Option (Int32 × hh_) :=
  gd_ (bo_ h.2.2.1) <|
  (ff_X5r_renew a1 (h.1 (h.2.2.1 + 23) (Int32.toNatClampNeg (0 : Int32))) (-9 : Int32) h).bind fun v2 =>
  ff_X7_layBestPlan_26 a1 (h.1 (h.2.2.1 + 23) (Int32.toNatClampNeg (0 : Int32))) FU_ (0 : Int32) (0 : Int32) v2
def ff_X7_plan (a1 : Int32) (a2 : Int32) (h : hh_) : Option (Int32 × hh_) :=
  gd_ (bo_ h.2.2.1) <|
  (ff_X2_has h.2.2.1 (1 : Int32) a1 h).bind fun v2 =>
  if v2 = 0 then
    some ((-1 : Int32), h)
  else
    if (ff_X5r_allows a2 h) = 0 then
      some ((-1 : Int32), h)
    else
      if (h.1 (h.2.2.1 + 23) (Int32.toNatClampNeg (0 : Int32))) = 0 then
        some ((-4 : Int32), h)
      else
        (ff_X3_openByOne h.2.2.1 a1 h).bind fun v4 =>
        gd_ (bo_ v4.2.2.1) <|
        (ff_X3_reckon v4.2.2.1 v4).bind fun v7 =>
        (ff_X7_layBestPlan a2 v7).bind fun v9 =>
        some (v9.1, v9.2)
def ff_X7_plans (a1 : Int32) (h : hh_) : Option (Int32 × hh_) :=
  gd_ (bo_ h.2.2.1) <|
  (ff_X2_has h.2.2.1 (1 : Int32) a1 h).bind fun v2 =>
  if v2 = 0 then
    some ((-1 : Int32), h)
  else
    (ff_X3_openByOne h.2.2.1 a1 h).bind fun v4 =>
    gd_ (bo_ v4.2.2.1) <|
    (ff_X3_reckon v4.2.2.1 v4).bind fun v7 =>
    (ff_X6_tellFraction (Int32.toInt64 (v7.1 (30 + Int32.toNatClampNeg (0 : Int32)) (Int32.toNatClampNeg (0 : Int32)))) (1 : Int64) v7).bind fun v9 =>
    some (v9.1, v9.2)
def ff_X3_openByAll_30 (x1 : Nat) (x2 : Int32) (K30_63 : hh_ → Option (hh_)) : Nat → Int32 → hh_ → Option (hh_)
  | 0, _, _ => none
  | n9 + 1, x3, h =>
    if (h.1 (x1 + 23) (Int32.toNatClampNeg (1 : Int32))) ≤ x3 then
      K30_63 h
    else
      gd_ (bi_ x2 5) <|
      (ff_X2_surePosts x1 x3 x2 (-9 : Int32) h).bind fun v3 =>
      ff_X3_openByAll_30 x1 x2 K30_63 n9 (x3 + (1 : Int32)) (hh_sI h 21 (Int32.toNatClampNeg x2) ((h.1 21 (Int32.toNatClampNeg x2)) &&& v3))
def ff_X3_openByAll_2 (x1 : Nat) : Nat → Int32 → hh_ → Option (hh_)
  | 0, _, _ => none
  | n9 + 1, x2, h =>
    if (h.1 (x1 + 23) (Int32.toNatClampNeg (0 : Int32))) ≤ x2 then
      some (h)
    else
      gd_ (bi_ x2 5) <|
      ff_X3_openByAll_30 x1 x2 (fun k5 =>
        ff_X3_openByAll_2 x1 n9 (x2 + (1 : Int32)) k5) FU_ (0 : Int32) (hh_sI h 21 (Int32.toNatClampNeg x2) (((1 : Int32) <<< ((h.1 (x1 + 23) (Int32.toNatClampNeg (2 : Int32))) &&& 31)) - (1 : Int32)))
def ff_X3_openByAll (a1 : Nat) (h : hh_) : Option (hh_) :=
  ff_X3_openByAll_2 a1 FU_ (0 : Int32) h
def ff_X7_safest (a1 : Int32) (h : hh_) : Option (Int32 × hh_) :=
  if (ff_X5r_allows a1 h) = 0 then
    some ((-1 : Int32), h)
  else
    gd_ (bo_ h.2.2.1) <|
    if (h.1 (h.2.2.1 + 23) (Int32.toNatClampNeg (0 : Int32))) = 0 then
      some ((-4 : Int32), h)
    else
      (ff_X3_openByAll h.2.2.1 h).bind fun v2 =>
      gd_ (bo_ v2.2.2.1) <|
      (ff_X3_reckon v2.2.2.1 v2).bind fun v5 =>
      (ff_X7_layBestPlan a1 v5).bind fun v7 =>
      some (v7.1, v7.2)
def ff_X7_gain_67 (x1 : Int32) (x2 : Int32) (x3 : Int32) (K67_155 : Int32 → Int32 → hh_ → Option (Int32 × hh_)) : Nat → Int32 → Int32 → Int32 → hh_ → Option (Int32 × hh_)
  | 0, _, _, _, _ => none
  | n9 + 1, x4, x5, x6, h =>
    if (4 : Int32) ≤ x6 then
      K67_155 x4 x5 h
    else
      gd_ (bo_ h.2.2.1) <|
      gd_ (bi_ x2 5) <|
      gd_ (bi_ x6 5) <|
      if (5 : Int32) ≤ (h.1 (h.2.2.1 + 8 + Int32.toNatClampNeg x2) (Int32.toNatClampNeg x6)) then
        ff_X7_gain_67 x1 x2 x3 K67_155 n9 x4 x5 (x6 + (1 : Int32)) h
      else
        (ff_X2_surePosts h.2.2.1 x1 x2 x6 h).bind fun v16 =>
        (ff_X3_reckon h.2.2.1 (hh_sI h 21 (Int32.toNatClampNeg x2) v16)).bind fun v18 =>
        (ff_X3_bestPay v18).bind fun v20 =>
        if (v20 - x3) ≤ x5 then
          ff_X7_gain_67 x1 x2 x3 K67_155 n9 x4 x5 (x6 + (1 : Int32)) v18
        else
          (ff_X3_bestPay v18).bind fun v22 =>
          ff_X7_gain_67 x1 x2 x3 K67_155 n9 x6 (v22 - x3) (x6 + (1 : Int32)) v18
def ff_X7_gain (a1 : Int32) (a2 : Int32) (h : hh_) : Option (Int32 × hh_) :=
  gd_ (bo_ h.2.2.1) <|
  (ff_X2_has h.2.2.1 (1 : Int32) a1 h).bind fun v2 =>
  if v2 = 0 then
    some ((-1 : Int32), h)
  else
    (ff_X2_has h.2.2.1 (0 : Int32) a2 h).bind fun v4 =>
    if v4 = 0 then
      some ((-1 : Int32), h)
    else
      (ff_X3_openByOne h.2.2.1 a1 h).bind fun v6 =>
      gd_ (bo_ v6.2.2.1) <|
      (ff_X3_reckon v6.2.2.1 v6).bind fun v9 =>
      (ff_X3_bestPay v9).bind fun v11 =>
      ff_X7_gain_67 a1 a2 v11 (fun u24 u25 k26 =>
        if u24 = (-9 : Int32) then
          some ((-9 : Int32), k26)
        else
          some (u25, (ff_X6_tell u24 k26).2)) FU_ (-9 : Int32) (0 : Int32) (0 : Int32) v9
def ff_X7_findingOfThrees_78 (x1 : Int32) (x2 : Nat) (x3 : Int32) (h : hh_) (K78_79 : Int32 → Option (Int32)) : Option (Int32) :=
  K78_79 (0 : Int32)
def ff_X7_findingOfThrees_79 (x1 : Int32) (x2 : Nat) (x3 : Int32) (y0 : Int32) (h : hh_) (K79_41 : Int32 → Option (Int32)) : Option (Int32) :=
  gd_ (bo_ h.2.2.1) <|
  gd_ (bi_ x3 40) <|
  (ff_X2_has h.2.2.1 (0 : Int32) (h.1 x2 (Int32.toNatClampNeg x3)) h).bind fun v9 =>
  if v9 = 0 then
    some (3 : Int32)
  else
    gd_ (bi_ (x3 + (1 : Int32)) 40) <|
    if (ff_X7_isPlace (h.1 x2 (Int32.toNatClampNeg (x3 + (1 : Int32))))) = 0 then
      some (3 : Int32)
    else
      if y0 = 0 then
        some (3 : Int32)
      else
        K79_41 (x3 + (3 : Int32))
def ff_X7_findingOfThrees_41 (x1 : Int32) (x2 : Nat) (h : hh_) : Nat → Int32 → Option (Int32)
  | 0, _ => none
  | n9 + 1, x3 =>
    gd_ (bi_ x1 6) <|
    if (h.1 10 (Int32.toNatClampNeg x1)) ≤ (x3 + (2 : Int32)) then
      some (0 : Int32)
    else
      gd_ (bi_ (x3 + (2 : Int32)) 40) <|
      if (h.1 x2 (Int32.toNatClampNeg (x3 + (2 : Int32)))) < 0 then
        ff_X7_findingOfThrees_78 x1 x2 x3 h (fun q6 =>
          ff_X7_findingOfThrees_79 x1 x2 x3 q6 h (fun z3 => ff_X7_findingOfThrees_41 x1 x2 h n9 z3))
      else
        if (9 : Int32) < (h.1 x2 (Int32.toNatClampNeg (x3 + (2 : Int32)))) then
          ff_X7_findingOfThrees_78 x1 x2 x3 h (fun q12 =>
            ff_X7_findingOfThrees_79 x1 x2 x3 q12 h (fun z3 => ff_X7_findingOfThrees_41 x1 x2 h n9 z3))
        else
          ff_X7_findingOfThrees_79 x1 x2 x3 (1 : Int32) h (fun z3 => ff_X7_findingOfThrees_41 x1 x2 h n9 z3)
def ff_X7_findingOfThrees (a1 : Int32) (h : hh_) : Option (Int32) :=
  (ff_X5r_lacks a1 h).bind fun v1 =>
  if v1 = 0 then
    gd_ (bi_ a1 6) <|
    if ((h.1 10 (Int32.toNatClampNeg a1)) - (h.1 10 (Int32.toNatClampNeg a1)) / (3 : Int32) * (3 : Int32)) = 0 then
      ff_X7_findingOfThrees_41 a1 (4 + Int32.toNatClampNeg a1) h FU_ (0 : Int32)
    else
      some (5 : Int32)
  else
    some (1 : Int32)
def ff_X7_threesFit_52 (x1 : Int32) (x2 : Int32) (x3 : Int32) (x4 : Int32) (x5 : Nat) (x6 : Int32) (x7 : Int32) (y0 : Int32) (y1 : Int32) (h : hh_) (K52_14 : Int32 → Option (Int32)) : Option (Int32) :=
  gd_ (bo_ h.2.2.1) <|
  gd_ (bi_ x6 40) <|
  (ff_X2_felt h.2.2.1 (h.1 x5 (Int32.toNatClampNeg x6)) x7 (0 : Int32) h).bind fun v6 =>
  (ff_X2_middle y0 y1 v6 h).bind fun v8 =>
  gd_ (bi_ (x6 + (2 : Int32)) 40) <|
  if (if 0 ≤ ((h.1 x5 (Int32.toNatClampNeg (x6 + (2 : Int32)))) - v8) then ((h.1 x5 (Int32.toNatClampNeg (x6 + (2 : Int32)))) - v8) else 0 - ((h.1 x5 (Int32.toNatClampNeg (x6 + (2 : Int32)))) - v8)) ≤ x3 then
    K52_14 (x6 + (3 : Int32))
  else
    some (0 : Int32)
def ff_X7_threesFit_14 (x1 : Int32) (x2 : Int32) (x3 : Int32) (x4 : Int32) (x5 : Nat) (h : hh_) : Nat → Int32 → Option (Int32)
  | 0, _ => none
  | n9 + 1, x6 =>
    gd_ (bi_ x1 6) <|
    if (h.1 10 (Int32.toNatClampNeg x1)) ≤ (x6 + (2 : Int32)) then
      some (1 : Int32)
    else
      gd_ (bi_ (x6 + (1 : Int32)) 40) <|
      if (h.1 x5 (Int32.toNatClampNeg (x6 + (1 : Int32)))) = x4 then
        ff_X7_threesFit_52 x1 x2 x3 x4 x5 x6 (h.1 x5 (Int32.toNatClampNeg (x6 + (1 : Int32)))) x2 (1 : Int32) h (fun z6 => ff_X7_threesFit_14 x1 x2 x3 x4 x5 h n9 z6)
      else
        ff_X7_threesFit_52 x1 x2 x3 x4 x5 x6 (h.1 x5 (Int32.toNatClampNeg (x6 + (1 : Int32)))) x2 (0 : Int32) h (fun z6 => ff_X7_threesFit_14 x1 x2 x3 x4 x5 h n9 z6)
def ff_X7_threesFit (a1 : Int32) (a2 : Int32) (a3 : Int32) (a4 : Int32) (h : hh_) : Option (Int32) :=
  gd_ (bi_ a1 6) <|
  ff_X7_threesFit_14 a1 a2 a3 a4 (4 + Int32.toNatClampNeg a1) h FU_ (0 : Int32)
def ff_X7_learn_60 (x1 : Int32) (x2 : Int32) (x6 : Int32) (h : hh_) (K60_103 : Int32 → Int32 → Option (Int32 × hh_)) : Nat → Int32 → Int32 → Int32 → Option (Int32 × hh_)
  | 0, _, _, _ => none
  | n9 + 1, x4, x5, x7 =>
    if (4 : Int32) ≤ x7 then
      K60_103 x4 x5
    else
      (ff_X7_threesFit x1 x6 x2 x7 h).bind fun v3 =>
      if v3 = 0 then
        ff_X7_learn_60 x1 x2 x6 h K60_103 n9 x4 x5 (x7 + (1 : Int32))
      else
        ff_X7_learn_60 x1 x2 x6 h K60_103 n9 (x4 ||| ((1 : Int32) <<< (x6 &&& 31))) (x5 ||| ((1 : Int32) <<< (x7 &&& 31))) (x7 + (1 : Int32))
def ff_X7_learn_50 (x1 : Int32) (x2 : Int32) (h : hh_) : Nat → Int32 → Int32 → Int32 → Option (Int32 × hh_)
  | 0, _, _, _ => none
  | n9 + 1, x4, x5, x6 =>
    if (6 : Int32) ≤ x6 then
      some (x4, (ff_X6_tell x5 h).2)
    else
      ff_X7_learn_60 x1 x2 x6 h (fun u5 u6 =>
        ff_X7_learn_50 x1 x2 h n9 u5 u6 (x6 + (1 : Int32))) FU_ x4 x5 (0 : Int32)
def ff_X7_learn (a1 : Int32) (a2 : Int32) (h : hh_) : Option (Int32 × hh_) :=
  if (ff_X5r_allows a1 h) = 0 then
    some ((-1 : Int32), h)
  else
    if a2 < 0 then
      some ((-1 : Int32), h)
    else
      if a2 ≤ (2 : Int32) then
        (ff_X7_findingOfThrees a1 h).bind fun v1 =>
        if v1 = 0 then
          ff_X7_learn_50 a1 a2 h FU_ (0 : Int32) (0 : Int32) (0 : Int32)
        else
          (ff_X6_refuse v1 h).bind fun v7 =>
          some (v7.1, v7.2)
      else
        some ((-1 : Int32), h)
def ff_X7_findingOfFates_38 (x1 : Int32) (h : hh_) : Nat → Int32 → Option (Int32)
  | 0, _ => none
  | n9 + 1, x2 =>
    gd_ (bi_ x1 6) <|
    if (h.1 10 (Int32.toNatClampNeg x1)) ≤ x2 then
      some (0 : Int32)
    else
      gd_ (bi_ x2 40) <|
      if (h.1 (4 + Int32.toNatClampNeg x1) (Int32.toNatClampNeg x2)) = 0 then
        ff_X7_findingOfFates_38 x1 h n9 (x2 + (1 : Int32))
      else
        if (h.1 (4 + Int32.toNatClampNeg x1) (Int32.toNatClampNeg x2)) = (1 : Int32) then
          ff_X7_findingOfFates_38 x1 h n9 (x2 + (1 : Int32))
        else
          some (3 : Int32)
def ff_X7_findingOfFates (a1 : Int32) (h : hh_) : Option (Int32) :=
  (ff_X5r_lacks a1 h).bind fun v1 =>
  if v1 = 0 then
    gd_ (bi_ a1 6) <|
    gd_ (bo_ h.2.2.1) <|
    if (h.1 10 (Int32.toNatClampNeg a1)) = (h.1 (h.2.2.1 + 23) (Int32.toNatClampNeg (0 : Int32))) then
      ff_X7_findingOfFates_38 a1 h FU_ (0 : Int32)
    else
      some (5 : Int32)
  else
    some (1 : Int32)
def ff_X2_placesAbove_5 (x0 : Nat) (x1 : Int32) (x2 : Int32) (h : hh_) : Nat → Int32 → Int32 → Option (Int32)
  | 0, _, _ => none
  | n9 + 1, x3, x4 =>
    if (4 : Int32) ≤ x4 then
      some (x3)
    else
      gd_ (bi_ x1 5) <|
      gd_ (bi_ x4 5) <|
      gd_ (bi_ x2 5) <|
      if (h.1 (x0 + 8 + Int32.toNatClampNeg x1) (Int32.toNatClampNeg x4)) ≤ (h.1 (x0 + 8 + Int32.toNatClampNeg x2) (Int32.toNatClampNeg x4)) then
        ff_X2_placesAbove_5 x0 x1 x2 h n9 x3 (x4 + (1 : Int32))
      else
        ff_X2_placesAbove_5 x0 x1 x2 h n9 (x3 ||| ((1 : Int32) <<< (x4 &&& 31))) (x4 + (1 : Int32))
def ff_X2_placesAbove (o : Nat) (a1 : Int32) (a2 : Int32) (h : hh_) : Option (Int32) :=
  ff_X2_placesAbove_5 o a1 a2 h FU_ (0 : Int32) (0 : Int32)
def ff_X7_tells_58 (x1 : Int32) (x5 : Int32) (h : hh_) (K58_154 : Int32 → Int32 → Option (Int32 × hh_)) : Nat → Int32 → Int32 → Int32 → Option (Int32 × hh_)
  | 0, _, _, _ => none
  | n9 + 1, x3, x4, x6 =>
    gd_ (bo_ h.2.2.1) <|
    if (h.1 (h.2.2.1 + 23) (Int32.toNatClampNeg (0 : Int32))) ≤ x6 then
      K58_154 x3 x4
    else
      gd_ (bi_ x1 6) <|
      gd_ (bi_ x5 40) <|
      if (h.1 (4 + Int32.toNatClampNeg x1) (Int32.toNatClampNeg x5)) = (1 : Int32) then
        gd_ (bi_ x6 40) <|
        if (h.1 (4 + Int32.toNatClampNeg x1) (Int32.toNatClampNeg x6)) = 0 then
          (ff_X2_placesAbove h.2.2.1 x5 x6 h).bind fun v8 =>
          (ff_X2_together h.2.2.1 x5 h).bind fun v10 =>
          (ff_X2_together h.2.2.1 x6 h).bind fun v12 =>
          if v10 ≤ v12 then
            ff_X7_tells_58 x1 x5 h K58_154 n9 (x3 &&& v8) (x4 + (0 : Int32)) (x6 + (1 : Int32))
          else
            ff_X7_tells_58 x1 x5 h K58_154 n9 (x3 &&& v8) (x4 + (1 : Int32)) (x6 + (1 : Int32))
        else
          ff_X7_tells_58 x1 x5 h K58_154 n9 x3 x4 (x6 + (1 : Int32))
      else
        ff_X7_tells_58 x1 x5 h K58_154 n9 x3 x4 (x6 + (1 : Int32))
def ff_X7_tells_41 (x1 : Int32) (h : hh_) : Nat → Int32 → Int32 → Int32 → Option (Int32 × hh_)
  | 0, _, _, _ => none
  | n9 + 1, x3, x4, x5 =>
    gd_ (bo_ h.2.2.1) <|
    if (h.1 (h.2.2.1 + 23) (Int32.toNatClampNeg (0 : Int32))) ≤ x5 then
      some (x3, (ff_X6_tell x4 h).2)
    else
      ff_X7_tells_58 x1 x5 h (fun u14 u15 =>
        ff_X7_tells_41 x1 h n9 u14 u15 (x5 + (1 : Int32))) FU_ x3 x4 (0 : Int32)
def ff_X7_tells (a1 : Int32) (h : hh_) : Option (Int32 × hh_) :=
  if (ff_X5r_allows a1 h) = 0 then
    some ((-1 : Int32), h)
  else
    (ff_X7_findingOfFates a1 h).bind fun v1 =>
    if v1 = 0 then
      ff_X7_tells_41 a1 h FU_ (15 : Int32) (0 : Int32) (0 : Int32)
    else
      (ff_X6_refuse v1 h).bind fun v16 =>
      some (v16.1, v16.2)
def ff_X7_nextLot (a0 : Int64) : Option (Int64) :=
  some (((48271 : Int64) * a0) - ((48271 : Int64) * a0) / (2147483647 : Int64) * (2147483647 : Int64))
def ff_X7_lots_92 (x1 : Int32) (x2 : Int32) (x4 : Int32) (x5 : Int32) (x8 : Int32) (x9 : Int32) (K92_149 : Int64 → hh_ → Option (Int32 × hh_)) : Nat → Int64 → Int32 → hh_ → Option (Int32 × hh_)
  | 0, _, _, _ => none
  | n9 + 1, x6, x10, h =>
    if (4 : Int32) ≤ x10 then
      K92_149 x6 h
    else
      (ff_X7_nextLot x6).bind fun v7 =>
      gd_ (bo_ h.2.2.1) <|
      (ff_X2_least h.2.2.1 x1 x9 x10 (0 : Int32) h).bind fun v10 =>
      (ff_X2_ways h.2.2.1 x1 x9 x10 h).bind fun v12 =>
      gd_ (bm_ (Int32.toInt64 v12)) <|
      gd_ (bi_ x10 4) <|
      ff_X7_lots_92 x1 x2 x4 x5 x8 x9 K92_149 n9 v7 (x10 + (1 : Int32)) (hh_sI h 38 (Int32.toNatClampNeg x10) (v10 + (Int64.toInt32 (v7 - v7 / (Int32.toInt64 v12) * (Int32.toInt64 v12)))))
def ff_X7_lots_67 (x1 : Int32) (x2 : Int32) (x4 : Int32) : Nat → Int32 → Int64 → Int32 → hh_ → Option (Int32 × hh_)
  | 0, _, _, _, _ => none
  | n9 + 1, x5, x6, x8, h =>
    if x2 ≤ x8 then
      some (x5, h)
    else
      (ff_X7_nextLot x6).bind fun v4 =>
      gd_ (bm_ (Int32.toInt64 x4)) <|
      ff_X7_lots_92 x1 x2 x4 x5 x8 (Int64.toInt32 (v4 - v4 / (Int32.toInt64 x4) * (Int32.toInt64 x4))) (fun u16 k17 =>
        gd_ (bo_ k17.2.2.1) <|
        (ff_X2_headsThatFit k17.2.2.1 x1 38 k17).bind fun v19 =>
        if v19 = ((1 : Int32) <<< ((Int64.toInt32 (v4 - v4 / (Int32.toInt64 x4) * (Int32.toInt64 x4))) &&& 31)) then
          ff_X7_lots_67 x1 x2 x4 n9 (x5 + (1 : Int32)) u16 (x8 + (1 : Int32)) k17
        else
          ff_X7_lots_67 x1 x2 x4 n9 (x5 + (0 : Int32)) u16 (x8 + (1 : Int32)) k17) FU_ v4 (0 : Int32) h
def ff_X7_lots (a1 : Int32) (a2 : Int32) (a3 : Int32) (h : hh_) : Option (Int32 × hh_) :=
  gd_ (bo_ h.2.2.1) <|
  (ff_X2_has h.2.2.1 (1 : Int32) a1 h).bind fun v2 =>
  if v2 = 0 then
    some ((-1 : Int32), h)
  else
    if a2 < (1 : Int32) then
      some ((-1 : Int32), h)
    else
      if (5 : Int32) < a2 then
        some ((-1 : Int32), h)
      else
        if a3 < (1 : Int32) then
          some ((-1 : Int32), h)
        else
          if (lg_cmp (Int32.toInt64 a3) (2147483647 : Int64)) < 0 then
            if (h.1 (h.2.2.1 + 23) (Int32.toNatClampNeg (0 : Int32))) = 0 then
              some ((-4 : Int32), h)
            else
              ff_X7_lots_67 a1 a2 (h.1 (h.2.2.1 + 23) (Int32.toNatClampNeg (0 : Int32))) FU_ (0 : Int32) (Int32.toInt64 a3) (0 : Int32) h
          else
            some ((-1 : Int32), h)
def ff_X7_asked (h : hh_) : Int32 :=
  (h.1 36 2)
def ff_X7_upper (h : hh_) : Int64 :=
  (h.2.1 36 3)
def ff_X7_lower (h : hh_) : Int64 :=
  (h.2.1 36 4)
def ff_X7_presentOffices_4 (h : hh_) : Nat → Int32 → Int32 → Option (Int32)
  | 0, _, _ => none
  | n9 + 1, x1, x2 =>
    if (3 : Int32) ≤ x2 then
      some (x1)
    else
      gd_ (bi_ x2 3) <|
      if (h.1 (89 + 3 * Int32.toNatClampNeg x2) 2) = (-1 : Int32) then
        ff_X7_presentOffices_4 h n9 (x1 + (0 : Int32)) (x2 + (1 : Int32))
      else
        ff_X7_presentOffices_4 h n9 (x1 + (1 : Int32)) (x2 + (1 : Int32))
def ff_X7_presentOffices (h : hh_) : Option (Int32) :=
  ff_X7_presentOffices_4 h FU_ (0 : Int32) (0 : Int32)
def ff_X5t_present_4 (h : hh_) : Nat → Int32 → Int32 → Option (Int32)
  | 0, _, _ => none
  | n9 + 1, x1, x2 =>
    if (4 : Int32) ≤ x2 then
      some (x1)
    else
      (ff_X5t_lacks x2 h).bind fun v1 =>
      if v1 = 0 then
        ff_X5t_present_4 h n9 (x1 + (1 : Int32)) (x2 + (1 : Int32))
      else
        ff_X5t_present_4 h n9 (x1 + (0 : Int32)) (x2 + (1 : Int32))
def ff_X5t_present (h : hh_) : Option (Int32) :=
  ff_X5t_present_4 h FU_ (0 : Int32) (0 : Int32)
def ff_X5r_present_4 (h : hh_) : Nat → Int32 → Int32 → Option (Int32)
  | 0, _, _ => none
  | n9 + 1, x1, x2 =>
    if (6 : Int32) ≤ x2 then
      some (x1)
    else
      (ff_X5r_lacks x2 h).bind fun v1 =>
      if v1 = 0 then
        ff_X5r_present_4 h n9 (x1 + (1 : Int32)) (x2 + (1 : Int32))
      else
        ff_X5r_present_4 h n9 (x1 + (0 : Int32)) (x2 + (1 : Int32))
def ff_X5r_present (h : hh_) : Option (Int32) :=
  ff_X5r_present_4 h FU_ (0 : Int32) (0 : Int32)
def ff_X2_wishingOnes_4 (x0 : Nat) (h : hh_) : Nat → Int32 → Int32 → Option (Int32)
  | 0, _, _ => none
  | n9 + 1, x1, x2 =>
    if (h.1 (x0 + 23) (Int32.toNatClampNeg (1 : Int32))) ≤ x2 then
      some (x1)
    else
      (ff_X2_isOf x0 x2 (3 : Int32) h).bind fun v1 =>
      if v1 = 0 then
        ff_X2_wishingOnes_4 x0 h n9 (x1 + (0 : Int32)) (x2 + (1 : Int32))
      else
        ff_X2_wishingOnes_4 x0 h n9 (x1 + (1 : Int32)) (x2 + (1 : Int32))
def ff_X2_wishingOnes (o : Nat) (h : hh_) : Option (Int32) :=
  ff_X2_wishingOnes_4 o h FU_ (0 : Int32) (0 : Int32)
def ff_X2_allTogether_4 (x0 : Nat) (h : hh_) : Nat → Int32 → Int32 → Option (Int32)
  | 0, _, _ => none
  | n9 + 1, x1, x2 =>
    if (h.1 (x0 + 23) (Int32.toNatClampNeg (0 : Int32))) ≤ x2 then
      some (x1)
    else
      (ff_X2_together x0 x2 h).bind fun v1 =>
      ff_X2_allTogether_4 x0 h n9 (x1 + v1) (x2 + (1 : Int32))
def ff_X2_allTogether (o : Nat) (h : hh_) : Option (Int32) :=
  ff_X2_allTogether_4 o h FU_ (0 : Int32) (0 : Int32)
def ff_X7_count (a1 : Int32) (h : hh_) : Option (Int32) :=
  if a1 = (0 : Int32) then
    gd_ (bo_ h.2.2.1) <|
    some (h.1 (h.2.2.1 + 23) (Int32.toNatClampNeg (0 : Int32)))
  else
    if a1 = (1 : Int32) then
      gd_ (bo_ h.2.2.1) <|
      some (h.1 (h.2.2.1 + 23) (Int32.toNatClampNeg (1 : Int32)))
    else
      if a1 = (2 : Int32) then
        gd_ (bo_ h.2.2.1) <|
        some (h.1 (h.2.2.1 + 23) (Int32.toNatClampNeg (2 : Int32)))
      else
        if a1 = (3 : Int32) then
          gd_ (bo_ h.2.2.1) <|
          some (h.1 h.2.2.1 6)
        else
          if a1 = (4 : Int32) then
            gd_ (bo_ h.2.2.1) <|
            (ff_X2_allTogether h.2.2.1 h).bind fun v11 =>
            some (v11)
          else
            if a1 = (5 : Int32) then
              gd_ (bo_ h.2.2.1) <|
              (ff_X2_wishingOnes h.2.2.1 h).bind fun v8 =>
              some (v8)
            else
              if a1 = (6 : Int32) then
                (ff_X5r_present h).bind fun v5 =>
                some (v5)
              else
                if a1 = (7 : Int32) then
                  (ff_X5t_present h).bind fun v3 =>
                  some (v3)
                else
                  if a1 = (8 : Int32) then
                    (ff_X7_presentOffices h).bind fun v1 =>
                    some (v1)
                  else
                    some (-1 : Int32)
def ff_X7_finding (h : hh_) : Int32 :=
  (h.1 36 1)
def ff_X7_findings (a1 : Int32) (h : hh_) : Option (Int32) :=
  if a1 < (1 : Int32) then
    some (-1 : Int32)
  else
    if a1 ≤ (5 : Int32) then
      gd_ (bi_ a1 6) <|
      some (h.1 37 (Int32.toNatClampNeg a1))
    else
      some (-1 : Int32)
def ff_X2_mix_15 (x0 : Nat) (x3 : Int32) (h : hh_) (K15_42 : Int64 → Option (Int64)) : Nat → Int64 → Int32 → Option (Int64)
  | 0, _, _ => none
  | n9 + 1, x1, x4 =>
    if (5 : Int32) < x4 then
      K15_42 x1
    else
      (ff_X2_ofHead x0 x3 x4 h).bind fun v1 =>
      ff_X2_mix_15 x0 x3 h K15_42 n9 (((31 : Int64) * x1) + (Int32.toInt64 v1)) (x4 + (1 : Int32))
def ff_X2_mix_2 (x0 : Nat) (h : hh_) (K2_48 : Int64 → Option (Int64)) : Nat → Int64 → Int32 → Option (Int64)
  | 0, _, _ => none
  | n9 + 1, x1, x3 =>
    if (h.1 (x0 + 23) (Int32.toNatClampNeg (0 : Int32))) ≤ x3 then
      K2_48 x1
    else
      ff_X2_mix_15 x0 x3 h (fun u3 =>
        ff_X2_mix_2 x0 h K2_48 n9 u3 (x3 + (1 : Int32))) FU_ x1 (0 : Int32)
def ff_X2_mix_63 (x0 : Nat) (x3 : Int32) (h : hh_) (K63_92 : Int64 → Option (Int64)) : Nat → Int64 → Int32 → Option (Int64)
  | 0, _, _ => none
  | n9 + 1, x1, x4 =>
    if (2 : Int32) < x4 then
      K63_92 x1
    else
      gd_ (bi_ x3 4) <|
      gd_ (bi_ x4 3) <|
      ff_X2_mix_63 x0 x3 h K63_92 n9 (((31 : Int64) * x1) + (Int32.toInt64 (h.1 (x0 + 14 + Int32.toNatClampNeg x3) (Int32.toNatClampNeg x4)))) (x4 + (1 : Int32))
def ff_X2_mix_50 (x0 : Nat) (h : hh_) (K50_98 : Int64 → Option (Int64)) : Nat → Int64 → Int32 → Option (Int64)
  | 0, _, _ => none
  | n9 + 1, x1, x3 =>
    if (h.1 (x0 + 23) (Int32.toNatClampNeg (1 : Int32))) ≤ x3 then
      K50_98 x1
    else
      ff_X2_mix_63 x0 x3 h (fun u7 =>
        ff_X2_mix_50 x0 h K50_98 n9 u7 (x3 + (1 : Int32))) FU_ x1 (0 : Int32)
def ff_X2_mix_113 (x0 : Nat) (x3 : Int32) (h : hh_) (K113_142 : Int64 → Option (Int64)) : Nat → Int64 → Int32 → Option (Int64)
  | 0, _, _ => none
  | n9 + 1, x1, x4 =>
    if (4 : Int32) < x4 then
      K113_142 x1
    else
      gd_ (bi_ x3 4) <|
      gd_ (bi_ x4 5) <|
      ff_X2_mix_113 x0 x3 h K113_142 n9 (((31 : Int64) * x1) + (Int32.toInt64 (h.1 (x0 + 19 + Int32.toNatClampNeg x3) (Int32.toNatClampNeg x4)))) (x4 + (1 : Int32))
def ff_X2_mix_100 (x0 : Nat) (h : hh_) : Nat → Int64 → Int32 → Option (Int64)
  | 0, _, _ => none
  | n9 + 1, x1, x3 =>
    if (h.1 (x0 + 23) (Int32.toNatClampNeg (2 : Int32))) ≤ x3 then
      some (x1)
    else
      ff_X2_mix_113 x0 x3 h (fun u11 =>
        ff_X2_mix_100 x0 h n9 u11 (x3 + (1 : Int32))) FU_ x1 (0 : Int32)
def ff_X2_mix (o : Nat) (a1 : Int64) (h : hh_) : Option (Int64) :=
  ff_X2_mix_2 o h (fun u4 =>
    ff_X2_mix_50 o h (fun u8 =>
      ff_X2_mix_100 o h FU_ u8 (0 : Int32)) FU_ u4 (0 : Int32)) FU_ a1 (0 : Int32)
def ff_X5r_mix_28 (x3 : Int32) (h : hh_) (K28_62 : Int64 → Option (Int64)) : Nat → Int64 → Int32 → Option (Int64)
  | 0, _, _ => none
  | n9 + 1, x1, x4 =>
    gd_ (bi_ x3 6) <|
    if (h.1 10 (Int32.toNatClampNeg x3)) ≤ x4 then
      K28_62 x1
    else
      gd_ (bi_ x4 40) <|
      ff_X5r_mix_28 x3 h K28_62 n9 (((31 : Int64) * x1) + (Int32.toInt64 (h.1 (4 + Int32.toNatClampNeg x3) (Int32.toNatClampNeg x4)))) (x4 + (1 : Int32))
def ff_X5r_mix_2 (h : hh_) : Nat → Int64 → Int32 → Option (Int64)
  | 0, _, _ => none
  | n9 + 1, x1, x3 =>
    if (6 : Int32) ≤ x3 then
      some (x1)
    else
      gd_ (bi_ x3 6) <|
      ff_X5r_mix_28 x3 h (fun u4 =>
        ff_X5r_mix_2 h n9 u4 (x3 + (1 : Int32))) FU_ (((31 : Int64) * x1) + (Int32.toInt64 (h.1 10 (Int32.toNatClampNeg x3)))) (0 : Int32)
def ff_X5r_mix (a1 : Int64) (h : hh_) : Option (Int64) :=
  ff_X5r_mix_2 h FU_ a1 (0 : Int32)
def ff_X5t_mix_28 (x3 : Int32) (h : hh_) (K28_62 : Int64 → Option (Int64)) : Nat → Int64 → Int32 → Option (Int64)
  | 0, _, _ => none
  | n9 + 1, x1, x4 =>
    gd_ (bi_ x3 4) <|
    if (h.1 17 (Int32.toNatClampNeg x3)) ≤ x4 then
      K28_62 x1
    else
      gd_ (bi_ x4 80) <|
      ff_X5t_mix_28 x3 h K28_62 n9 (((31 : Int64) * x1) + (Int32.toInt64 (h.1 (13 + Int32.toNatClampNeg x3) (Int32.toNatClampNeg x4)))) (x4 + (1 : Int32))
def ff_X5t_mix_2 (h : hh_) : Nat → Int64 → Int32 → Option (Int64)
  | 0, _, _ => none
  | n9 + 1, x1, x3 =>
    if (4 : Int32) ≤ x3 then
      some (x1)
    else
      gd_ (bi_ x3 4) <|
      ff_X5t_mix_28 x3 h (fun u4 =>
        ff_X5t_mix_2 h n9 u4 (x3 + (1 : Int32))) FU_ (((31 : Int64) * x1) + (Int32.toInt64 (h.1 17 (Int32.toNatClampNeg x3)))) (0 : Int32)
def ff_X5t_mix (a1 : Int64) (h : hh_) : Option (Int64) :=
  ff_X5t_mix_2 h FU_ a1 (0 : Int32)
def ff_X7_digest_6 (h : hh_) (K6_31 : Int64 → Option (Int64)) : Nat → Int64 → Int32 → Option (Int64)
  | 0, _, _ => none
  | n9 + 1, x1, x3 =>
    if (8 : Int32) < x3 then
      K6_31 x1
    else
      (ff_X7_count x3 h).bind fun v1 =>
      ff_X7_digest_6 h K6_31 n9 (((31 : Int64) * x1) + (Int32.toInt64 v1)) (x3 + (1 : Int32))
def ff_X7_digest_42 (h : hh_) : Nat → Int64 → Int32 → Option (Int64)
  | 0, _, _ => none
  | n9 + 1, x1, x3 =>
    if (3 : Int32) ≤ x3 then
      (ff_X5r_mix x1 h).bind fun v7 =>
      (ff_X5t_mix v7 h).bind fun v9 =>
      some (v9)
    else
      gd_ (bi_ x3 3) <|
      ff_X7_digest_42 h n9 (((31 : Int64) * x1) + (Int32.toInt64 (h.1 (89 + 3 * Int32.toNatClampNeg x3) 2))) (x3 + (1 : Int32))
def ff_X7_digest (h : hh_) : Option (Int64) :=
  ff_X7_digest_6 h (fun u3 =>
    gd_ (bo_ h.2.2.1) <|
    (ff_X2_mix h.2.2.1 u3 h).bind fun v5 =>
    ff_X7_digest_42 h FU_ v5 (0 : Int32)) FU_ (17 : Int64) (0 : Int32)
def ff_X8_in (a0 : Int32) (a1 : Int32) (a2 : Int32) : Int32 :=
  if a0 < a1 then
    (0 : Int32)
  else
    if a2 < a0 then
      (0 : Int32)
    else
      (1 : Int32)
def ff_X8_meet (a1 : Int32) (h : hh_) : Option (Int32 × hh_) :=
  gd_ (bi_ a1 6) <|
  some ((-3 : Int32), (hh_sI (hh_sI h 98 0 a1) 99 (Int32.toNatClampNeg a1) (((hh_sI h 98 0 a1).1 99 (Int32.toNatClampNeg a1)) + (1 : Int32))))
def ff_X8_ask (a1 : Int32) (a2 : Int32) (h : hh_) : Int32 × hh_ :=
  (a2, (hh_sI h 98 2 a1))
def ff_X8_has (a0 : Int32) (a1 : Int32) : Int32 :=
  if ((a0 >>> (a1 &&& 31)) &&& (1 : Int32)) = (1 : Int32) then
    (1 : Int32)
  else
    (0 : Int32)
def ff_X8_lesser (a0 : Int32) (a1 : Int32) : Int32 :=
  if a1 ≤ a0 then
    a1
  else
    a0
def ff_X8_greater (a0 : Int32) (a1 : Int32) : Int32 :=
  if a0 ≤ a1 then
    a1
  else
    a0
def ff_X8_part_6 (x1 : Int64) (x3 : Int64) (h : hh_) : Nat → Int64 → Int64 → Option (Int32 × hh_)
  | 0, _, _ => none
  | n9 + 1, x5, x7 =>
    if (lg_cmp x7 (0 : Int64)) = 0 then
      gd_ (bm_ x5) <|
      some ((1 : Int32), (hh_sL (hh_sL h 98 3 (x1 / x5)) 98 4 (x3 / x5)))
    else
      gd_ (bm_ x7) <|
      ff_X8_part_6 x1 x3 h n9 x7 (x5 - x5 / x7 * x7)
def ff_X8_part (a1 : Int64) (a3 : Int64) (h : hh_) : Option (Int32 × hh_) :=
  ff_X8_part_6 a1 a3 h FU_ a1 a3
def ff_X8_isRow (a0 : Int32) : Int32 :=
  (ff_X8_in a0 (0 : Int32) (5 : Int32))
def ff_X8_isText (a0 : Int32) : Int32 :=
  (ff_X8_in a0 (0 : Int32) (3 : Int32))
def ff_X8_askedRow (a1 : Int32) (h : hh_) : Option (Int32 × hh_) :=
  if (ff_X8_isRow a1) = 0 then
    some ((-1 : Int32), h)
  else
    gd_ (bi_ a1 6) <|
    if 0 ≤ (h.1 100 (Int32.toNatClampNeg a1)) then
      some ((0 : Int32), h)
    else
      (ff_X8_meet (1 : Int32) h).bind fun v2 =>
      some (v2.1, v2.2)
def ff_X8_askedText (a1 : Int32) (h : hh_) : Option (Int32 × hh_) :=
  if (ff_X8_isText a1) = 0 then
    some ((-1 : Int32), h)
  else
    gd_ (bi_ a1 4) <|
    if 0 ≤ (h.1 103 (Int32.toNatClampNeg a1)) then
      some ((0 : Int32), h)
    else
      (ff_X8_meet (1 : Int32) h).bind fun v2 =>
      some (v2.1, v2.2)
def ff_X8_rowAt (a1 : Int32) (a2 : Int32) (h : hh_) : Option (Int32) :=
  gd_ (bi_ (((40 : Int32) * a1) + a2) 240) <|
  some (h.1 101 (Int32.toNatClampNeg (((40 : Int32) * a1) + a2)))
def ff_X8_setRow (a1 : Int32) (a2 : Int32) (a3 : Int32) (h : hh_) : Option (hh_) :=
  gd_ (bi_ (((40 : Int32) * a1) + a2) 240) <|
  some (hh_sI h 101 (Int32.toNatClampNeg (((40 : Int32) * a1) + a2)) a3)
def ff_X8_row_34 (x1 : Int32) (x2 : Int32) : Nat → Int32 → hh_ → Option (Int32 × hh_)
  | 0, _, _ => none
  | n9 + 1, x3, h =>
    if (40 : Int32) ≤ x3 then
      some (x2, h)
    else
      (ff_X8_setRow x1 x3 (0 : Int32) h).bind fun v2 =>
      ff_X8_row_34 x1 x2 n9 (x3 + (1 : Int32)) v2
def ff_X8_row (a1 : Int32) (a2 : Int32) (h : hh_) : Option (Int32 × hh_) :=
  if (ff_X8_isRow a1) = 0 then
    some ((-1 : Int32), h)
  else
    if a2 ≤ (40 : Int32) then
      if 0 ≤ a2 then
        gd_ (bi_ a1 6) <|
        ff_X8_row_34 a1 a2 FU_ (0 : Int32) (hh_sI h 100 (Int32.toNatClampNeg a1) a2)
      else
        (ff_X8_meet (5 : Int32) h).bind fun v4 =>
        some (v4.1, v4.2)
    else
      some ((-1 : Int32), h)
def ff_X8_at (a1 : Int32) (a2 : Int32) (h : hh_) : Option (Int32 × hh_) :=
  (ff_X8_askedRow a1 h).bind fun v1 =>
  if 0 ≤ v1.1 then
    gd_ (bi_ a1 6) <|
    if (ff_X8_in a2 (0 : Int32) ((v1.2.1 100 (Int32.toNatClampNeg a1)) - (1 : Int32))) = 0 then
      (ff_X8_meet (2 : Int32) v1.2).bind fun v4 =>
      some (v4.1, v4.2)
    else
      (ff_X8_rowAt a1 a2 v1.2).bind fun v6 =>
      some ((ff_X8_ask v6 (1 : Int32) v1.2).1, (ff_X8_ask v6 (1 : Int32) v1.2).2)
  else
    some (v1.1, v1.2)
def ff_X8_lay (a1 : Int32) (a2 : Int32) (a3 : Int32) (h : hh_) : Option (Int32 × hh_) :=
  (ff_X8_at a1 a2 h).bind fun v1 =>
  if 0 ≤ v1.1 then
    (ff_X8_setRow a1 a2 a3 v1.2).bind fun v3 =>
    some ((1 : Int32), v3)
  else
    some (v1.1, v1.2)
def ff_X8_tear (a1 : Int32) (h : hh_) : Option (Int32 × hh_) :=
  (ff_X8_askedRow a1 h).bind fun v1 =>
  if 0 ≤ v1.1 then
    gd_ (bi_ a1 6) <|
    some ((1 : Int32), (hh_sI v1.2 100 (Int32.toNatClampNeg a1) (-9 : Int32)))
  else
    some (v1.1, v1.2)
def ff_X8_copy_104 (x1 : Int32) (x2 : Int32) (x3 : Int32) (x4 : Int32) (x5 : Int32) (K104_133 : hh_ → Option (Int32 × hh_)) : Nat → Int32 → hh_ → Option (Int32 × hh_)
  | 0, _, _ => none
  | n9 + 1, x6, h =>
    if x5 ≤ x6 then
      K104_133 h
    else
      (ff_X8_rowAt x1 (x2 + x6) h).bind fun v11 =>
      gd_ (bi_ x6 40) <|
      ff_X8_copy_104 x1 x2 x3 x4 x5 K104_133 n9 (x6 + (1 : Int32)) (hh_sI h 102 (Int32.toNatClampNeg x6) v11)
def ff_X8_copy_136 (x3 : Int32) (x4 : Int32) (x5 : Int32) : Nat → Int32 → hh_ → Option (Int32 × hh_)
  | 0, _, _ => none
  | n9 + 1, x6, h =>
    if x5 ≤ x6 then
      some ((1 : Int32), h)
    else
      gd_ (bi_ x6 40) <|
      (ff_X8_setRow x3 (x4 + x6) (h.1 102 (Int32.toNatClampNeg x6)) h).bind fun v16 =>
      ff_X8_copy_136 x3 x4 x5 n9 (x6 + (1 : Int32)) v16
def ff_X8_copy (a1 : Int32) (a2 : Int32) (a3 : Int32) (a4 : Int32) (a5 : Int32) (h : hh_) : Option (Int32 × hh_) :=
  if (ff_X8_isRow a1) = 0 then
    some ((-1 : Int32), h)
  else
    if (ff_X8_isRow a3) = 0 then
      some ((-1 : Int32), h)
    else
      if 0 ≤ a5 then
        gd_ (bi_ a1 6) <|
        if (h.1 100 (Int32.toNatClampNeg a1)) < 0 then
          (ff_X8_meet (1 : Int32) h).bind fun v2 =>
          some (v2.1, v2.2)
        else
          gd_ (bi_ a3 6) <|
          if 0 ≤ (h.1 100 (Int32.toNatClampNeg a3)) then
            if a2 < 0 then
              (ff_X8_meet (2 : Int32) h).bind fun v5 =>
              some (v5.1, v5.2)
            else
              if a4 < 0 then
                (ff_X8_meet (2 : Int32) h).bind fun v7 =>
                some (v7.1, v7.2)
              else
                if 0 < (lg_cmp ((Int32.toInt64 a2) + (Int32.toInt64 a5)) (Int32.toInt64 (h.1 100 (Int32.toNatClampNeg a1)))) then
                  (ff_X8_meet (2 : Int32) h).bind fun v9 =>
                  some (v9.1, v9.2)
                else
                  if (lg_cmp ((Int32.toInt64 a4) + (Int32.toInt64 a5)) (Int32.toInt64 (h.1 100 (Int32.toNatClampNeg a3)))) ≤ 0 then
                    ff_X8_copy_104 a1 a2 a3 a4 a5 (fun k14 =>
                      ff_X8_copy_136 a3 a4 a5 FU_ (0 : Int32) k14) FU_ (0 : Int32) h
                  else
                    (ff_X8_meet (2 : Int32) h).bind fun v18 =>
                    some (v18.1, v18.2)
          else
            (ff_X8_meet (1 : Int32) h).bind fun v20 =>
            some (v20.1, v20.2)
      else
        (ff_X8_meet (5 : Int32) h).bind fun v22 =>
        some (v22.1, v22.2)
def ff_X8_mean_17 (x1 : Int32) (h : hh_) (K17_45 : Int64 → Option (Int32 × hh_)) : Nat → Int64 → Int32 → Option (Int32 × hh_)
  | 0, _, _ => none
  | n9 + 1, x3, x5 =>
    gd_ (bi_ x1 6) <|
    if (h.1 100 (Int32.toNatClampNeg x1)) ≤ x5 then
      K17_45 x3
    else
      (ff_X8_rowAt x1 x5 h).bind fun v4 =>
      ff_X8_mean_17 x1 h K17_45 n9 (x3 + (Int32.toInt64 v4)) (x5 + (1 : Int32))
def ff_X8_mean (a1 : Int32) (h : hh_) : Option (Int32 × hh_) :=
  (ff_X8_askedRow a1 h).bind fun v1 =>
  if 0 ≤ v1.1 then
    ff_X8_mean_17 a1 v1.2 (fun u6 =>
      gd_ (bi_ a1 6) <|
      if (v1.2.1 100 (Int32.toNatClampNeg a1)) = 0 then
        (ff_X8_meet (4 : Int32) v1.2).bind fun v9 =>
        some (v9.1, v9.2)
      else
        gd_ (bm_ (Int32.toInt64 (v1.2.1 100 (Int32.toNatClampNeg a1)))) <|
        some ((ff_X8_ask (Int64.toInt32 (u6 / (Int32.toInt64 (v1.2.1 100 (Int32.toNatClampNeg a1))))) (1 : Int32) v1.2).1, (ff_X8_ask (Int64.toInt32 (u6 / (Int32.toInt64 (v1.2.1 100 (Int32.toNatClampNeg a1))))) (1 : Int32) v1.2).2)) FU_ (0 : Int64) (0 : Int32)
  else
    some (v1.1, v1.2)
def ff_X8_text_34 (x1 : Int32) (x2 : Int32) : Nat → Int32 → hh_ → Option (Int32 × hh_)
  | 0, _, _ => none
  | n9 + 1, x3, h =>
    if (80 : Int32) ≤ x3 then
      some (x2, h)
    else
      gd_ (bi_ (((80 : Int32) * x1) + x3) 320) <|
      ff_X8_text_34 x1 x2 n9 (x3 + (1 : Int32)) (hh_sI h 104 (Int32.toNatClampNeg (((80 : Int32) * x1) + x3)) (32 : Int32))
def ff_X8_text (a1 : Int32) (a2 : Int32) (h : hh_) : Option (Int32 × hh_) :=
  if (ff_X8_isText a1) = 0 then
    some ((-1 : Int32), h)
  else
    if a2 ≤ (80 : Int32) then
      if 0 ≤ a2 then
        gd_ (bi_ a1 4) <|
        ff_X8_text_34 a1 a2 FU_ (0 : Int32) (hh_sI h 103 (Int32.toNatClampNeg a1) a2)
      else
        (ff_X8_meet (5 : Int32) h).bind fun v3 =>
        some (v3.1, v3.2)
    else
      some ((-1 : Int32), h)
def ff_X8_put (a1 : Int32) (a2 : Int32) (a3 : Int32) (h : hh_) : Option (Int32 × hh_) :=
  (ff_X8_askedText a1 h).bind fun v1 =>
  if 0 ≤ v1.1 then
    gd_ (bi_ a1 4) <|
    if (ff_X8_in a2 (0 : Int32) ((v1.2.1 103 (Int32.toNatClampNeg a1)) - (1 : Int32))) = 0 then
      (ff_X8_meet (2 : Int32) v1.2).bind fun v5 =>
      some (v5.1, v5.2)
    else
      gd_ (bi_ (((80 : Int32) * a1) + a2) 320) <|
      some (((v1.2.1 104 (Int32.toNatClampNeg (((80 : Int32) * a1) + a2))) + (1000 : Int32)), (hh_sI v1.2 104 (Int32.toNatClampNeg (((80 : Int32) * a1) + a2)) (Int8.toInt32 (Int32.toInt8 a3))))
  else
    some (v1.1, v1.2)
def ff_X8_here (a1 : Int32) (h : hh_) : Option (Int32) :=
  gd_ (bi_ a1 4) <|
  if (h.1 103 (Int32.toNatClampNeg a1)) ≤ (h.1 98 16) then
    some (-9 : Int32)
  else
    gd_ (bi_ (((80 : Int32) * a1) + (h.1 98 16)) 320) <|
    some (h.1 104 (Int32.toNatClampNeg (((80 : Int32) * a1) + (h.1 98 16))))
def ff_X8_figure (a1 : Int32) (a2 : Int32) (a3 : Int32) (a4 : Int32) (h : hh_) : Option (Int32 × hh_) :=
  (ff_X8_here a1 h).bind fun v1 =>
  if (ff_X8_in (v1 - (48 : Int32)) a3 a4) = 0 then
    some ((0 : Int32), h)
  else
    gd_ (bi_ a2 60) <|
    some ((1 : Int32), (hh_sI (hh_sI h 108 (Int32.toNatClampNeg a2) (v1 - (48 : Int32))) 98 16 (((hh_sI h 108 (Int32.toNatClampNeg a2) (v1 - (48 : Int32))).1 98 16) + (1 : Int32))))
def ff_X8_kindOf (a0 : Int32) : Int32 :=
  if a0 = (116 : Int32) then
    (0 : Int32)
  else
    if a0 = (118 : Int32) then
      (1 : Int32)
    else
      if a0 = (108 : Int32) then
        (2 : Int32)
      else
        if a0 = (119 : Int32) then
          (3 : Int32)
        else
          if a0 = (99 : Int32) then
            (4 : Int32)
          else
            if a0 = (100 : Int32) then
              (5 : Int32)
            else
              (-9 : Int32)
def ff_X8_readsHead_36 (x1 : Int32) (K36_76 : Int32 → hh_ → Option (Int32 × hh_)) : Nat → Int32 → Int32 → hh_ → Option (Int32 × hh_)
  | 0, _, _, _ => none
  | n9 + 1, x2, x3, h =>
    if (5 : Int32) ≤ x3 then
      K36_76 x2 h
    else
      if x2 = 0 then
        K36_76 x2 h
      else
        if (4 : Int32) ≤ x3 then
          (ff_X8_figure x1 (((5 : Int32) * (h.1 98 17)) + x3) (0 : Int32) (3 : Int32) h).bind fun v1 =>
          ff_X8_readsHead_36 x1 K36_76 n9 v1.1 (x3 + (1 : Int32)) v1.2
        else
          (ff_X8_figure x1 (((5 : Int32) * (h.1 98 17)) + x3) (0 : Int32) (5 : Int32) h).bind fun v3 =>
          ff_X8_readsHead_36 x1 K36_76 n9 v3.1 (x3 + (1 : Int32)) v3.2
def ff_X8_readsHead_76 (x2 : Int32) (h : hh_) : Option (Int32 × hh_) :=
  if x2 = 0 then
    gd_ (bz_ x2) <|
    some (x2, (hh_sI h 98 17 ((h.1 98 17) + (0 : Int32))))
  else
    gd_ (bz_ x2) <|
    some (x2, (hh_sI h 98 17 ((h.1 98 17) + (1 : Int32))))
def ff_X8_readsHead (a1 : Int32) (h : hh_) : Option (Int32 × hh_) :=
  if (h.1 98 17) = (5 : Int32) then
    some ((0 : Int32), h)
  else
    if ((h.1 98 18) + (h.1 98 19)) ≤ 0 then
      ff_X8_readsHead_36 a1 (fun u5 k6 =>
        ff_X8_readsHead_76 u5 k6) FU_ (1 : Int32) (0 : Int32) (hh_sI h 98 16 ((h.1 98 16) + (1 : Int32)))
    else
      some ((0 : Int32), h)
def ff_X8_readsThumb_96 (h : hh_) (K96_97 : Int32 → Option (Int32 × hh_)) : Option (Int32 × hh_) :=
  K96_97 (0 : Int32)
def ff_X8_readsThumb_97 (y0 : Int32) (h : hh_) : Option (Int32 × hh_) :=
  if y0 = 0 then
    gd_ (bz_ y0) <|
    some (y0, (hh_sI h 98 18 ((h.1 98 18) + (0 : Int32))))
  else
    gd_ (bz_ y0) <|
    some (y0, (hh_sI h 98 18 ((h.1 98 18) + (1 : Int32))))
def ff_X8_readsThumb (a1 : Int32) (h : hh_) : Option (Int32 × hh_) :=
  (ff_X8_here a1 h).bind fun v1 =>
  if (ff_X8_kindOf v1) = (-9 : Int32) then
    some ((0 : Int32), h)
  else
    if (h.1 98 17) = 0 then
      some ((0 : Int32), h)
    else
      if (h.1 98 18) = (4 : Int32) then
        some ((0 : Int32), h)
      else
        if (h.1 98 19) ≤ 0 then
          gd_ (bi_ ((25 : Int32) + ((3 : Int32) * ((hh_sI h 98 16 ((h.1 98 16) + (1 : Int32))).1 98 18))) 60) <|
          (ff_X8_figure a1 (((25 : Int32) + ((3 : Int32) * ((hh_sI h 98 16 ((h.1 98 16) + (1 : Int32))).1 98 18))) + (1 : Int32)) (0 : Int32) (2 : Int32) (hh_sI (hh_sI h 98 16 ((h.1 98 16) + (1 : Int32))) 108 (Int32.toNatClampNeg ((25 : Int32) + ((3 : Int32) * ((hh_sI h 98 16 ((h.1 98 16) + (1 : Int32))).1 98 18)))) (ff_X8_kindOf v1))).bind fun v4 =>
          if v4.1 = 0 then
            ff_X8_readsThumb_96 v4.2 (fun q6 =>
              ff_X8_readsThumb_97 q6 v4.2)
          else
            (ff_X8_figure a1 (((25 : Int32) + ((3 : Int32) * ((hh_sI h 98 16 ((h.1 98 16) + (1 : Int32))).1 98 18))) + (2 : Int32)) (0 : Int32) (3 : Int32) v4.2).bind fun v9 =>
            if v9.1 = 0 then
              ff_X8_readsThumb_96 v9.2 (fun q11 =>
                ff_X8_readsThumb_97 q11 v9.2)
            else
              ff_X8_readsThumb_97 (1 : Int32) v9.2
        else
          some ((0 : Int32), h)
def ff_X8_readsPost_63 (x1 : Int32) (x3 : Int32) (y0 : Nat) (y1 : Int32) (y2 : Int32) (y3 : Int32) (h : hh_) (K63_31 : Int32 → Int32 → hh_ → Option (Int32 × hh_)) : Option (Int32 × hh_) :=
  if (4 : Int32) ≤ x3 then
    (ff_X8_figure y1 y2 y3 (9 : Int32) h).bind fun v1 =>
    K63_31 v1.1 (x3 + (1 : Int32)) v1.2
  else
    (ff_X8_figure y1 y2 y3 (6 : Int32) h).bind fun v3 =>
    K63_31 v3.1 (x3 + (1 : Int32)) v3.2
def ff_X8_readsPost_31 (x1 : Int32) (K31_85 : Int32 → hh_ → Option (Int32 × hh_)) : Nat → Int32 → Int32 → hh_ → Option (Int32 × hh_)
  | 0, _, _, _ => none
  | n9 + 1, x2, x3, h =>
    if (5 : Int32) ≤ x3 then
      K31_85 x2 h
    else
      if x2 = 0 then
        K31_85 x2 h
      else
        if (4 : Int32) ≤ x3 then
          ff_X8_readsPost_63 x1 x3 98 x1 (((37 : Int32) + ((5 : Int32) * (h.1 98 19))) + x3) (1 : Int32) h (fun z2 z3 h8 => ff_X8_readsPost_31 x1 K31_85 n9 z2 z3 h8)
        else
          ff_X8_readsPost_63 x1 x3 98 x1 (((37 : Int32) + ((5 : Int32) * (h.1 98 19))) + x3) (0 : Int32) h (fun z2 z3 h8 => ff_X8_readsPost_31 x1 K31_85 n9 z2 z3 h8)
def ff_X8_readsPost_85 (x2 : Int32) (h : hh_) : Option (Int32 × hh_) :=
  if x2 = 0 then
    gd_ (bz_ x2) <|
    some (x2, (hh_sI h 98 19 ((h.1 98 19) + (0 : Int32))))
  else
    gd_ (bz_ x2) <|
    some (x2, (hh_sI h 98 19 ((h.1 98 19) + (1 : Int32))))
def ff_X8_readsPost (a1 : Int32) (h : hh_) : Option (Int32 × hh_) :=
  if (h.1 98 17) = 0 then
    some ((0 : Int32), h)
  else
    if (h.1 98 19) = (4 : Int32) then
      some ((0 : Int32), h)
    else
      ff_X8_readsPost_31 a1 (fun u5 k6 =>
        ff_X8_readsPost_85 u5 k6) FU_ (1 : Int32) (0 : Int32) (hh_sI h 98 16 ((h.1 98 16) + (1 : Int32)))
def ff_X8_goesOn_20 (x1 : Int32) (K20_108 : hh_ → Option (Int32 × hh_)) : Nat → hh_ → Option (Int32 × hh_)
  | 0, _ => none
  | n9 + 1, h =>
    gd_ (bi_ x1 4) <|
    if (h.1 103 (Int32.toNatClampNeg x1)) ≤ (h.1 98 16) then
      K20_108 h
    else
      (ff_X8_here x1 h).bind fun v2 =>
      if v2 = (32 : Int32) then
        ff_X8_goesOn_20 x1 K20_108 n9 (hh_sI h 98 16 ((h.1 98 16) + (1 : Int32)))
      else
        if v2 = (104 : Int32) then
          (ff_X8_readsHead x1 h).bind fun v8 =>
          if v8.1 = 0 then
            some ((v8.2.1 98 16), v8.2)
          else
            ff_X8_goesOn_20 x1 K20_108 n9 v8.2
        else
          if v2 = (112 : Int32) then
            (ff_X8_readsPost x1 h).bind fun v6 =>
            if v6.1 = 0 then
              some ((v6.2.1 98 16), v6.2)
            else
              ff_X8_goesOn_20 x1 K20_108 n9 v6.2
          else
            (ff_X8_readsThumb x1 h).bind fun v4 =>
            if v4.1 = 0 then
              some ((v4.2.1 98 16), v4.2)
            else
              ff_X8_goesOn_20 x1 K20_108 n9 v4.2
def ff_X8_goesOn (a1 : Int32) (h : hh_) : Option (Int32 × hh_) :=
  ff_X8_goesOn_20 a1 (fun k10 =>
    if (k10.1 98 17) = 0 then
      gd_ (bi_ a1 4) <|
      some ((k10.1 103 (Int32.toNatClampNeg a1)), k10)
    else
      some ((-9 : Int32), k10)) FU_ (hh_sI (hh_sI (hh_sI (hh_sI h 98 16 (0 : Int32)) 98 17 (0 : Int32)) 98 18 (0 : Int32)) 98 19 (0 : Int32))
def ff_X8_fault (a1 : Int32) (h : hh_) : Option (Int32 × hh_) :=
  (ff_X8_askedText a1 h).bind fun v1 =>
  if 0 ≤ v1.1 then
    (ff_X8_goesOn a1 v1.2).bind fun v3 =>
    some (v3.1, v3.2)
  else
    some (v1.1, v1.2)
def ff_X8_office_51 (K51_75 : hh_ → Option (Int32 × hh_)) : Nat → Int32 → hh_ → Option (Int32 × hh_)
  | 0, _, _ => none
  | n9 + 1, x3, h =>
    if (25 : Int32) ≤ x3 then
      K51_75 h
    else
      gd_ (bi_ x3 60) <|
      gd_ (bi_ x3 25) <|
      ff_X8_office_51 K51_75 n9 (x3 + (1 : Int32)) (hh_sI h 105 (Int32.toNatClampNeg x3) (h.1 108 (Int32.toNatClampNeg x3)))
def ff_X8_office_77 (K77_104 : hh_ → Option (Int32 × hh_)) : Nat → Int32 → hh_ → Option (Int32 × hh_)
  | 0, _, _ => none
  | n9 + 1, x3, h =>
    if (12 : Int32) ≤ x3 then
      K77_104 h
    else
      gd_ (bi_ ((25 : Int32) + x3) 60) <|
      gd_ (bi_ x3 12) <|
      ff_X8_office_77 K77_104 n9 (x3 + (1 : Int32)) (hh_sI h 106 (Int32.toNatClampNeg x3) (h.1 108 (Int32.toNatClampNeg ((25 : Int32) + x3))))
def ff_X8_office_106 (K106_133 : hh_ → Option (Int32 × hh_)) : Nat → Int32 → hh_ → Option (Int32 × hh_)
  | 0, _, _ => none
  | n9 + 1, x3, h =>
    if (20 : Int32) ≤ x3 then
      K106_133 h
    else
      gd_ (bi_ ((37 : Int32) + x3) 60) <|
      gd_ (bi_ x3 20) <|
      ff_X8_office_106 K106_133 n9 (x3 + (1 : Int32)) (hh_sI h 107 (Int32.toNatClampNeg x3) (h.1 108 (Int32.toNatClampNeg ((37 : Int32) + x3))))
def ff_X8_office_140 : Nat → Int32 → hh_ → Option (Int32 × hh_)
  | 0, _, _ => none
  | n9 + 1, x3, h =>
    if (3 : Int32) ≤ x3 then
      some ((h.1 98 10), h)
    else
      gd_ (bi_ ((1030 : Int32) * x3) 3090) <|
      ff_X8_office_140 n9 (x3 + (1 : Int32)) (hh_sI h 110 (Int32.toNatClampNeg ((1030 : Int32) * x3)) (-9 : Int32))
def ff_X8_office (a1 : Int32) (h : hh_) : Option (Int32 × hh_) :=
  (ff_X8_askedText a1 h).bind fun v1 =>
  if 0 ≤ v1.1 then
    (ff_X8_goesOn a1 v1.2).bind fun v3 =>
    if v3.1 = (-9 : Int32) then
      ff_X8_office_51 (fun k7 =>
        ff_X8_office_77 (fun k10 =>
          ff_X8_office_106 (fun k13 =>
            ff_X8_office_140 FU_ (0 : Int32) (hh_sI k13 98 21 (0 : Int32))) FU_ (0 : Int32) k10) FU_ (0 : Int32) k7) FU_ (0 : Int32) (hh_sI (hh_sI (hh_sI v3.2 98 10 (v3.2.1 98 17)) 98 11 ((hh_sI v3.2 98 10 (v3.2.1 98 17)).1 98 18)) 98 12 ((hh_sI (hh_sI v3.2 98 10 (v3.2.1 98 17)) 98 11 ((hh_sI v3.2 98 10 (v3.2.1 98 17)).1 98 18)).1 98 19))
    else
      some ((-4 : Int32), v3.2)
  else
    some (v1.1, v1.2)
def ff_X8_isHead (a1 : Int32) (h : hh_) : Int32 :=
  (ff_X8_in a1 (0 : Int32) ((h.1 98 10) - (1 : Int32)))
def ff_X8_isThumb (a1 : Int32) (h : hh_) : Int32 :=
  (ff_X8_in a1 (0 : Int32) ((h.1 98 11) - (1 : Int32)))
def ff_X8_isPost (a1 : Int32) (h : hh_) : Int32 :=
  (ff_X8_in a1 (0 : Int32) ((h.1 98 12) - (1 : Int32)))
def ff_X8_isPlace (a0 : Int32) : Int32 :=
  (ff_X8_in a0 (0 : Int32) (3 : Int32))
def ff_X8_bump (a1 : Int32) (a2 : Int32) (h : hh_) : Option (Int32) :=
  gd_ (bi_ (((5 : Int32) * a1) + a2) 25) <|
  some (h.1 105 (Int32.toNatClampNeg (((5 : Int32) * a1) + a2)))
def ff_X8_bumps (a1 : Int32) (h : hh_) : Option (Int32) :=
  (ff_X8_bump a1 (0 : Int32) h).bind fun v1 =>
  (ff_X8_bump a1 (1 : Int32) h).bind fun v3 =>
  (ff_X8_bump a1 (2 : Int32) h).bind fun v5 =>
  (ff_X8_bump a1 (3 : Int32) h).bind fun v7 =>
  some (((v1 + v3) + v5) + v7)
def ff_X8_headOf (a1 : Int32) (a2 : Int32) (h : hh_) : Option (Int32) :=
  if (5 : Int32) ≤ a2 then
    (ff_X8_bumps a1 h).bind fun v1 =>
    some (v1)
  else
    gd_ (bi_ (((5 : Int32) * a1) + a2) 25) <|
    some (h.1 105 (Int32.toNatClampNeg (((5 : Int32) * a1) + a2)))
def ff_X8_head (a1 : Int32) (a2 : Int32) (h : hh_) : Option (Int32 × hh_) :=
  if (ff_X8_isHead a1 h) = 0 then
    some ((-1 : Int32), h)
  else
    if (ff_X8_in a2 (0 : Int32) (5 : Int32)) = 0 then
      some ((-1 : Int32), h)
    else
      (ff_X8_headOf a1 a2 h).bind fun v1 =>
      some ((ff_X8_ask v1 (1 : Int32) h).1, (ff_X8_ask v1 (1 : Int32) h).2)
def ff_X8_thumb (a1 : Int32) (a2 : Int32) (h : hh_) : Option (Int32 × hh_) :=
  if (ff_X8_isThumb a1 h) = 0 then
    some ((-1 : Int32), h)
  else
    if (ff_X8_in a2 (0 : Int32) (2 : Int32)) = 0 then
      some ((-1 : Int32), h)
    else
      gd_ (bi_ (((3 : Int32) * a1) + a2) 12) <|
      some ((ff_X8_ask (h.1 106 (Int32.toNatClampNeg (((3 : Int32) * a1) + a2))) (1 : Int32) h).1, (ff_X8_ask (h.1 106 (Int32.toNatClampNeg (((3 : Int32) * a1) + a2))) (1 : Int32) h).2)
def ff_X8_post (a1 : Int32) (a2 : Int32) (h : hh_) : Option (Int32 × hh_) :=
  if (ff_X8_isPost a1 h) = 0 then
    some ((-1 : Int32), h)
  else
    if (ff_X8_in a2 (0 : Int32) (4 : Int32)) = 0 then
      some ((-1 : Int32), h)
    else
      gd_ (bi_ (((5 : Int32) * a1) + a2) 20) <|
      some ((ff_X8_ask (h.1 107 (Int32.toNatClampNeg (((5 : Int32) * a1) + a2))) (1 : Int32) h).1, (ff_X8_ask (h.1 107 (Int32.toNatClampNeg (((5 : Int32) * a1) + a2))) (1 : Int32) h).2)
def ff_X8_isA_24 (x2 : Int32) (x3 : Int32) (h : hh_) : Option (Int32) :=
  if x2 = (3 : Int32) then
    if x3 = (4 : Int32) then
      some (1 : Int32)
    else
      some (0 : Int32)
  else
    some (0 : Int32)
def ff_X8_isA (a1 : Int32) (a2 : Int32) (h : hh_) : Option (Int32) :=
  gd_ (bi_ ((3 : Int32) * a1) 12) <|
  if (h.1 106 (Int32.toNatClampNeg ((3 : Int32) * a1))) = a2 then
    some (1 : Int32)
  else
    if a2 = (1 : Int32) then
      if (h.1 106 (Int32.toNatClampNeg ((3 : Int32) * a1))) = (5 : Int32) then
        some (1 : Int32)
      else
        ff_X8_isA_24 a2 (h.1 106 (Int32.toNatClampNeg ((3 : Int32) * a1))) h
    else
      ff_X8_isA_24 a2 (h.1 106 (Int32.toNatClampNeg ((3 : Int32) * a1))) h
def ff_X8_felt (a1 : Int32) (a2 : Int32) (h : hh_) : Option (Int32) :=
  (ff_X8_bump a1 a2 h).bind fun v1 =>
  gd_ (bi_ (((5 : Int32) * a1) + (4 : Int32)) 25) <|
  if (h.1 105 (Int32.toNatClampNeg (((5 : Int32) * a1) + (4 : Int32)))) ≤ (1 : Int32) then
    some (ff_X8_greater (0 : Int32) (v1 - (0 : Int32)))
  else
    some (ff_X8_greater (0 : Int32) (v1 - (1 : Int32)))
def ff_X8_middleOf (a0 : Int32) (a1 : Int32) (a2 : Int32) (a3 : Int32) : Int32 :=
  if a0 = (1 : Int32) then
    (ff_X8_greater (0 : Int32) (a2 - (1 : Int32)))
  else
    if a0 = (2 : Int32) then
      (a2 + (1 : Int32))
    else
      if a0 = (3 : Int32) then
        if a3 = a1 then
          (a2 + (1 : Int32))
        else
          (a2 + (0 : Int32))
      else
        if a0 = (4 : Int32) then
          if a3 = a1 then
            (a2 + (2 : Int32))
          else
            (a2 + (1 : Int32))
        else
          if a0 = (5 : Int32) then
            (ff_X8_lesser (3 : Int32) (ff_X8_greater (0 : Int32) (a2 - (1 : Int32))))
          else
            a2
def ff_X8_middle (a1 : Int32) (a2 : Int32) (a3 : Int32) (h : hh_) : Option (Int32) :=
  gd_ (bi_ ((3 : Int32) * a1) 12) <|
  gd_ (bi_ (((3 : Int32) * a1) + (2 : Int32)) 12) <|
  (ff_X8_felt a2 a3 h).bind fun v3 =>
  some (ff_X8_middleOf (h.1 106 (Int32.toNatClampNeg ((3 : Int32) * a1))) (h.1 106 (Int32.toNatClampNeg (((3 : Int32) * a1) + (2 : Int32)))) v3 a3)
def ff_X8_least (a1 : Int32) (a2 : Int32) (a3 : Int32) (h : hh_) : Option (Int32) :=
  (ff_X8_middle a1 a2 a3 h).bind fun v1 =>
  gd_ (bi_ (((3 : Int32) * a1) + (1 : Int32)) 12) <|
  some (ff_X8_greater (0 : Int32) (v1 - (h.1 106 (Int32.toNatClampNeg (((3 : Int32) * a1) + (1 : Int32))))))
def ff_X8_most (a1 : Int32) (a2 : Int32) (a3 : Int32) (h : hh_) : Option (Int32) :=
  (ff_X8_middle a1 a2 a3 h).bind fun v1 =>
  gd_ (bi_ (((3 : Int32) * a1) + (1 : Int32)) 12) <|
  some (v1 + (h.1 106 (Int32.toNatClampNeg (((3 : Int32) * a1) + (1 : Int32)))))
def ff_X8_marked_75 (x1 : Int32) (x2 : Int32) (x3 : Int32) (x4 : Int32) (x5 : Int32) (x7 : Int32) (h : hh_) (K75_76 : Int32 → Option (Int32)) : Option (Int32) :=
  K75_76 (0 : Int32)
def ff_X8_marked_99 (x1 : Int32) (x2 : Int32) (x4 : Int32) (x5 : Int32) (x6 : Int32) (x7 : Int32) (y0 : Int32) (h : hh_) (K99_100 : Int32 → Int32 → Option (Int32)) : Option (Int32) :=
  K99_100 y0 (0 : Int32)
def ff_X8_marked_153 (x1 : Int32) (x2 : Int32) (x4 : Int32) (x5 : Int32) (x6 : Int32) (x7 : Int32) (y0 : Int32) (y1 : Int32) (h : hh_) (K153_32 : Int32 → Int32 → Option (Int32)) : Option (Int32) :=
  if x2 = (5 : Int32) then
    (ff_X8_middle x1 x4 x7 h).bind fun v5 =>
    if v5 = (3 : Int32) then
      K153_32 ((y0 + y1) + (1 : Int32)) (x7 + (1 : Int32))
    else
      K153_32 ((y0 + y1) + (0 : Int32)) (x7 + (1 : Int32))
  else
    K153_32 ((y0 + y1) + (0 : Int32)) (x7 + (1 : Int32))
def ff_X8_marked_124 (x1 : Int32) (x2 : Int32) (x4 : Int32) (x5 : Int32) (x6 : Int32) (x7 : Int32) (y0 : Int32) (h : hh_) (K124_32 : Int32 → Int32 → Option (Int32)) : Option (Int32) :=
  if x2 = (4 : Int32) then
    (ff_X8_least x1 x4 x7 h).bind fun v7 =>
    (ff_X8_felt x4 x7 h).bind fun v9 =>
    ff_X8_marked_153 x1 x2 x4 x5 x6 x7 y0 (v7 - v9) h K124_32
  else
    ff_X8_marked_153 x1 x2 x4 x5 x6 x7 y0 (0 : Int32) h K124_32
def ff_X8_marked_100 (x1 : Int32) (x2 : Int32) (x4 : Int32) (x5 : Int32) (x6 : Int32) (x7 : Int32) (y0 : Int32) (y1 : Int32) (h : hh_) (K100_32 : Int32 → Int32 → Option (Int32)) : Option (Int32) :=
  if x2 = (2 : Int32) then
    (ff_X8_most x1 x4 x7 h).bind fun v11 =>
    ff_X8_marked_124 x1 x2 x4 x5 x6 x7 (ff_X8_greater (y0 + y1) v11) h K100_32
  else
    ff_X8_marked_124 x1 x2 x4 x5 x6 x7 (y0 + y1) h K100_32
def ff_X8_marked_76 (x1 : Int32) (x2 : Int32) (x3 : Int32) (x4 : Int32) (x5 : Int32) (x7 : Int32) (y0 : Int32) (h : hh_) (K76_32 : Int32 → Int32 → Int32 → Option (Int32)) : Option (Int32) :=
  if x2 = (1 : Int32) then
    (ff_X8_felt x4 x7 h).bind fun v15 =>
    if v15 = 0 then
      ff_X8_marked_100 x1 x2 x4 x5 y0 x7 x3 (1 : Int32) h (fun u21 u22 =>
        K76_32 u21 y0 u22)
    else
      ff_X8_marked_99 x1 x2 x4 x5 y0 x7 x3 h (fun q17 q18 =>
        ff_X8_marked_100 x1 x2 x4 x5 y0 x7 q17 q18 h (fun u19 u20 =>
          K76_32 u19 y0 u20))
  else
    ff_X8_marked_99 x1 x2 x4 x5 y0 x7 x3 h (fun q3 q4 =>
      ff_X8_marked_100 x1 x2 x4 x5 y0 x7 q3 q4 h (fun u13 u14 =>
        K76_32 u13 y0 u14))
def ff_X8_marked_71 (x1 : Int32) (x2 : Int32) (x3 : Int32) (x4 : Int32) (x5 : Int32) (x7 : Int32) (h : hh_) (K71_76 : Int32 → Option (Int32)) : Option (Int32) :=
  K71_76 (1 : Int32)
def ff_X8_marked_32 (x1 : Int32) (x2 : Int32) (x4 : Int32) (x5 : Int32) (h : hh_) (K32_187 : Int32 → Int32 → Option (Int32)) : Nat → Int32 → Int32 → Int32 → Option (Int32)
  | 0, _, _, _ => none
  | n9 + 1, x3, x6, x7 =>
    if (4 : Int32) ≤ x7 then
      K32_187 x3 x6
    else
      if x6 = 0 then
        ff_X8_marked_75 x1 x2 x3 x4 x5 x7 h (fun q2 =>
          ff_X8_marked_76 x1 x2 x3 x4 x5 x7 q2 h (fun z3 z6 z7 => ff_X8_marked_32 x1 x2 x4 x5 h K32_187 n9 z3 z6 z7))
      else
        if x7 = x5 then
          ff_X8_marked_71 x1 x2 x3 x4 x5 x7 h (fun q23 =>
            ff_X8_marked_76 x1 x2 x3 x4 x5 x7 q23 h (fun z3 z6 z7 => ff_X8_marked_32 x1 x2 x4 x5 h K32_187 n9 z3 z6 z7))
        else
          (ff_X8_least x1 x4 x5 h).bind fun v24 =>
          (ff_X8_least x1 x4 x7 h).bind fun v26 =>
          if v24 ≤ v26 then
            ff_X8_marked_75 x1 x2 x3 x4 x5 x7 h (fun q28 =>
              ff_X8_marked_76 x1 x2 x3 x4 x5 x7 q28 h (fun z3 z6 z7 => ff_X8_marked_32 x1 x2 x4 x5 h K32_187 n9 z3 z6 z7))
          else
            ff_X8_marked_71 x1 x2 x3 x4 x5 x7 h (fun q29 =>
              ff_X8_marked_76 x1 x2 x3 x4 x5 x7 q29 h (fun z3 z6 z7 => ff_X8_marked_32 x1 x2 x4 x5 h K32_187 n9 z3 z6 z7))
def ff_X8_marked_5 (x1 : Int32) (x2 : Int32) (h : hh_) : Nat → Int32 → Int32 → Option (Int32)
  | 0, _, _ => none
  | n9 + 1, x3, x4 =>
    if (h.1 98 10) ≤ x4 then
      some (x3)
    else
      gd_ (bi_ (((3 : Int32) * x1) + (2 : Int32)) 12) <|
      ff_X8_marked_32 x1 x2 x4 (h.1 106 (Int32.toNatClampNeg (((3 : Int32) * x1) + (2 : Int32)))) h (fun u30 u31 =>
        if x2 = (3 : Int32) then
          if u31 = 0 then
            ff_X8_marked_5 x1 x2 h n9 (u30 + (0 : Int32)) (x4 + (1 : Int32))
          else
            ff_X8_marked_5 x1 x2 h n9 (u30 + (1 : Int32)) (x4 + (1 : Int32))
        else
          ff_X8_marked_5 x1 x2 h n9 (u30 + (0 : Int32)) (x4 + (1 : Int32))) FU_ x3 (1 : Int32) (0 : Int32)
def ff_X8_marked (a1 : Int32) (a2 : Int32) (h : hh_) : Option (Int32) :=
  ff_X8_marked_5 a1 a2 h FU_ (0 : Int32) (0 : Int32)
def ff_X8_mark (a1 : Int32) (a2 : Int32) (h : hh_) : Option (Int32 × hh_) :=
  if (ff_X8_isThumb a1 h) = 0 then
    some ((-1 : Int32), h)
  else
    if (ff_X8_in a2 (1 : Int32) (5 : Int32)) = 0 then
      some ((-1 : Int32), h)
    else
      (ff_X8_isA a1 a2 h).bind fun v1 =>
      if v1 = 0 then
        (ff_X8_meet (3 : Int32) h).bind fun v3 =>
        some (v3.1, v3.2)
      else
        (ff_X8_marked a1 a2 h).bind fun v5 =>
        some (v5, h)
def ff_X8_error (a1 : Int32) (a2 : Int32) (h : hh_) : Option (Int32 × hh_) :=
  if (ff_X8_isThumb a1 h) = 0 then
    some ((-1 : Int32), h)
  else
    if (ff_X8_in a2 (0 : Int32) (2 : Int32)) = 0 then
      some ((-1 : Int32), h)
    else
      gd_ (bi_ (((3 : Int32) * a1) + (1 : Int32)) 12) <|
      some ((h.1 106 (Int32.toNatClampNeg (((3 : Int32) * a1) + (1 : Int32)))), (hh_sI h 106 (Int32.toNatClampNeg (((3 : Int32) * a1) + (1 : Int32))) a2))
def ff_X8_write_2 (x1 : Nat) (x2 : Int32) : Nat → Int32 → hh_ → Option (hh_)
  | 0, _, _ => none
  | n9 + 1, x3, h =>
    if (25 : Int32) ≤ x3 then
      some (h)
    else
      gd_ (bi_ x3 25) <|
      gd_ (bp_ x1 (x2 + x3)) <|
      ff_X8_write_2 x1 x2 n9 (x3 + (1 : Int32)) (hh_sI h x1 (Int32.toNatClampNeg (x2 + x3)) (h.1 105 (Int32.toNatClampNeg x3)))
def ff_X8_write (a1 : Nat) (a2 : Int32) (h : hh_) : Option (hh_) :=
  ff_X8_write_2 a1 a2 FU_ (0 : Int32) h
def ff_X8_readBack_2 (x1 : Nat) (x2 : Int32) : Nat → Int32 → hh_ → Option (hh_)
  | 0, _, _ => none
  | n9 + 1, x3, h =>
    if (25 : Int32) ≤ x3 then
      some (h)
    else
      gd_ (bp_ x1 (x2 + x3)) <|
      gd_ (bi_ x3 25) <|
      ff_X8_readBack_2 x1 x2 n9 (x3 + (1 : Int32)) (hh_sI h 105 (Int32.toNatClampNeg x3) (h.1 x1 (Int32.toNatClampNeg (x2 + x3))))
def ff_X8_readBack (a1 : Nat) (a2 : Int32) (h : hh_) : Option (hh_) :=
  ff_X8_readBack_2 a1 a2 FU_ (0 : Int32) h
def ff_X8_note (h : hh_) : Option (hh_) :=
  (ff_X8_write 109 ((25 : Int32) * (h.1 98 21)) h).bind fun v1 =>
  some (hh_sI v1 98 21 ((v1.1 98 21) + (1 : Int32)))
def ff_X8_pad (a1 : Int32) (a2 : Int32) (h : hh_) : Option (Int32 × hh_) :=
  if (ff_X8_isHead a1 h) = 0 then
    some ((-1 : Int32), h)
  else
    if (ff_X8_isPlace a2) = 0 then
      some ((-1 : Int32), h)
    else
      (ff_X8_bump a1 a2 h).bind fun v1 =>
      if v1 = (5 : Int32) then
        some ((-4 : Int32), h)
      else
        if (h.1 98 21) = (40 : Int32) then
          some ((-2 : Int32), h)
        else
          (ff_X8_note h).bind fun v3 =>
          gd_ (bi_ (((5 : Int32) * a1) + a2) 25) <|
          (ff_X8_bump a1 a2 (hh_sI v3 105 (Int32.toNatClampNeg (((5 : Int32) * a1) + a2)) ((v3.1 105 (Int32.toNatClampNeg (((5 : Int32) * a1) + a2))) + (1 : Int32)))).bind fun v6 =>
          some (v6, (hh_sI v3 105 (Int32.toNatClampNeg (((5 : Int32) * a1) + a2)) ((v3.1 105 (Int32.toNatClampNeg (((5 : Int32) * a1) + a2))) + (1 : Int32))))
def ff_X8_grow_28 (x1 : Int32) : Nat → Int32 → hh_ → Option (Int32 × hh_)
  | 0, _, _ => none
  | n9 + 1, x2, h =>
    if (4 : Int32) ≤ x2 then
      (ff_X8_bumps x1 h).bind fun v3 =>
      some (v3, h)
    else
      (ff_X8_bump x1 x2 h).bind fun v5 =>
      gd_ (bi_ (((5 : Int32) * x1) + x2) 25) <|
      ff_X8_grow_28 x1 n9 (x2 + (1 : Int32)) (hh_sI h 105 (Int32.toNatClampNeg (((5 : Int32) * x1) + x2)) (ff_X8_lesser (5 : Int32) (v5 + (1 : Int32))))
def ff_X8_grow (a1 : Int32) (h : hh_) : Option (Int32 × hh_) :=
  if (ff_X8_isHead a1 h) = 0 then
    some ((-1 : Int32), h)
  else
    if (h.1 98 21) = (40 : Int32) then
      some ((-2 : Int32), h)
    else
      (ff_X8_note h).bind fun v1 =>
      ff_X8_grow_28 a1 FU_ (0 : Int32) v1
def ff_X8_cut (a1 : Int32) (a2 : Int32) (h : hh_) : Option (Int32 × hh_) :=
  if (ff_X8_isHead a1 h) = 0 then
    some ((-1 : Int32), h)
  else
    if (ff_X8_in a2 (0 : Int32) (2 : Int32)) = 0 then
      some ((-1 : Int32), h)
    else
      gd_ (bi_ (((5 : Int32) * a1) + (4 : Int32)) 25) <|
      if a2 < (h.1 105 (Int32.toNatClampNeg (((5 : Int32) * a1) + (4 : Int32)))) then
        if (h.1 98 21) = (40 : Int32) then
          some ((-2 : Int32), h)
        else
          (ff_X8_note h).bind fun v2 =>
          some ((h.1 105 (Int32.toNatClampNeg (((5 : Int32) * a1) + (4 : Int32)))), (hh_sI v2 105 (Int32.toNatClampNeg (((5 : Int32) * a1) + (4 : Int32))) a2))
      else
        some ((-4 : Int32), h)
def ff_X8_undo (a1 : Int32) (h : hh_) : Option (Int32 × hh_) :=
  if (ff_X8_in a1 (0 : Int32) (h.1 98 21)) = 0 then
    some ((-1 : Int32), h)
  else
    if ((h.1 98 21) - a1) ≤ 0 then
      some (((h.1 98 21) - a1), h)
    else
      (ff_X8_readBack 109 ((25 : Int32) * a1) h).bind fun v1 =>
      some (((h.1 98 21) - a1), (hh_sI v1 98 21 a1))
def ff_X8_keep_39 (x2 : Int32) (K39_70 : hh_ → Option (Int32 × hh_)) : Nat → Int32 → hh_ → Option (Int32 × hh_)
  | 0, _, _ => none
  | n9 + 1, x3, h =>
    if (4 : Int32) ≤ x3 then
      K39_70 h
    else
      gd_ (bi_ (((3 : Int32) * x3) + (1 : Int32)) 12) <|
      gd_ (bi_ ((x2 + (1 : Int32)) + x3) 3090) <|
      ff_X8_keep_39 x2 K39_70 n9 (x3 + (1 : Int32)) (hh_sI h 110 (Int32.toNatClampNeg ((x2 + (1 : Int32)) + x3)) (h.1 106 (Int32.toNatClampNeg (((3 : Int32) * x3) + (1 : Int32)))))
def ff_X8_keep_83 (x2 : Int32) : Nat → Int32 → hh_ → Option (Int32 × hh_)
  | 0, _, _ => none
  | n9 + 1, x3, h =>
    if (1000 : Int32) ≤ x3 then
      some ((h.1 98 21), h)
    else
      gd_ (bi_ x3 1000) <|
      gd_ (bi_ ((x2 + (30 : Int32)) + x3) 3090) <|
      ff_X8_keep_83 x2 n9 (x3 + (1 : Int32)) (hh_sI h 110 (Int32.toNatClampNeg ((x2 + (30 : Int32)) + x3)) (h.1 109 (Int32.toNatClampNeg x3)))
def ff_X8_keep (a1 : Int32) (h : hh_) : Option (Int32 × hh_) :=
  if (ff_X8_in a1 (0 : Int32) (2 : Int32)) = 0 then
    some ((-1 : Int32), h)
  else
    if (h.1 98 10) = 0 then
      some ((-4 : Int32), h)
    else
      gd_ (bi_ ((1030 : Int32) * a1) 3090) <|
      ff_X8_keep_39 ((1030 : Int32) * a1) (fun k4 =>
        (ff_X8_write 110 (((1030 : Int32) * a1) + (5 : Int32)) k4).bind fun v5 =>
        ff_X8_keep_83 ((1030 : Int32) * a1) FU_ (0 : Int32) v5) FU_ (0 : Int32) (hh_sI h 110 (Int32.toNatClampNeg ((1030 : Int32) * a1)) (h.1 98 21))
def ff_X8_on_46 (x2 : Int32) (K46_77 : hh_ → Option (Int32 × hh_)) : Nat → Int32 → hh_ → Option (Int32 × hh_)
  | 0, _, _ => none
  | n9 + 1, x3, h =>
    if (4 : Int32) ≤ x3 then
      K46_77 h
    else
      gd_ (bi_ ((x2 + (1 : Int32)) + x3) 3090) <|
      gd_ (bi_ (((3 : Int32) * x3) + (1 : Int32)) 12) <|
      ff_X8_on_46 x2 K46_77 n9 (x3 + (1 : Int32)) (hh_sI h 106 (Int32.toNatClampNeg (((3 : Int32) * x3) + (1 : Int32))) (h.1 110 (Int32.toNatClampNeg ((x2 + (1 : Int32)) + x3))))
def ff_X8_on_90 (x2 : Int32) : Nat → Int32 → hh_ → Option (Int32 × hh_)
  | 0, _, _ => none
  | n9 + 1, x3, h =>
    if (1000 : Int32) ≤ x3 then
      some ((h.1 98 21), h)
    else
      gd_ (bi_ ((x2 + (30 : Int32)) + x3) 3090) <|
      gd_ (bi_ x3 1000) <|
      ff_X8_on_90 x2 n9 (x3 + (1 : Int32)) (hh_sI h 109 (Int32.toNatClampNeg x3) (h.1 110 (Int32.toNatClampNeg ((x2 + (30 : Int32)) + x3))))
def ff_X8_on (a1 : Int32) (h : hh_) : Option (Int32 × hh_) :=
  if (ff_X8_in a1 (0 : Int32) (2 : Int32)) = 0 then
    some ((-1 : Int32), h)
  else
    gd_ (bi_ ((1030 : Int32) * a1) 3090) <|
    if (h.1 110 (Int32.toNatClampNeg ((1030 : Int32) * a1))) = (-9 : Int32) then
      (ff_X8_meet (1 : Int32) h).bind fun v9 =>
      some (v9.1, v9.2)
    else
      ff_X8_on_46 ((1030 : Int32) * a1) (fun k4 =>
        (ff_X8_readBack 110 (((1030 : Int32) * a1) + (5 : Int32)) k4).bind fun v5 =>
        ff_X8_on_90 ((1030 : Int32) * a1) FU_ (0 : Int32) v5) FU_ (0 : Int32) (hh_sI h 98 21 (h.1 110 (Int32.toNatClampNeg ((1030 : Int32) * a1))))
def ff_X8_reads (a1 : Int32) (a2 : Int32) (a3 : Int32) (h : hh_) : Option (Int32 × hh_) :=
  if (ff_X8_isThumb a1 h) = 0 then
    some ((-1 : Int32), h)
  else
    if (ff_X8_isHead a2 h) = 0 then
      some ((-1 : Int32), h)
    else
      if (ff_X8_isPlace a3) = 0 then
        some ((-1 : Int32), h)
      else
        (ff_X8_most a1 a2 a3 h).bind fun v1 =>
        (ff_X8_least a1 a2 a3 h).bind fun v3 =>
        some ((ff_X8_ask v1 v3 h).1, (ff_X8_ask v1 v3 h).2)
def ff_X8_askedReading_30 (x1 : Int32) (h : hh_) : Nat → Int32 → Option (Int32 × hh_)
  | 0, _ => none
  | n9 + 1, x3 =>
    if (4 : Int32) ≤ x3 then
      some ((0 : Int32), h)
    else
      (ff_X8_rowAt x1 x3 h).bind fun v4 =>
      if (ff_X8_in v4 (0 : Int32) (9 : Int32)) = 0 then
        (ff_X8_meet (3 : Int32) h).bind fun v6 =>
        some (v6.1, v6.2)
      else
        ff_X8_askedReading_30 x1 h n9 (x3 + (1 : Int32))
def ff_X8_askedReading (a1 : Int32) (h : hh_) : Option (Int32 × hh_) :=
  (ff_X8_askedRow a1 h).bind fun v1 =>
  if 0 ≤ v1.1 then
    gd_ (bi_ a1 6) <|
    if (v1.2.1 100 (Int32.toNatClampNeg a1)) = (4 : Int32) then
      ff_X8_askedReading_30 a1 v1.2 FU_ (0 : Int32)
    else
      (ff_X8_meet (5 : Int32) v1.2).bind fun v8 =>
      some (v8.1, v8.2)
  else
    some (v1.1, v1.2)
def ff_X8_doesFit_6 (x1 : Int32) (x2 : Int32) (x3 : Int32) (h : hh_) : Nat → Int32 → Int32 → Option (Int32)
  | 0, _, _ => none
  | n9 + 1, x4, x5 =>
    if (4 : Int32) ≤ x5 then
      gd_ (bz_ x4) <|
      some (x4)
    else
      if x4 = 0 then
        ff_X8_doesFit_6 x1 x2 x3 h n9 (0 : Int32) (x5 + (1 : Int32))
      else
        (ff_X8_rowAt x3 x5 h).bind fun v2 =>
        (ff_X8_least x1 x2 x5 h).bind fun v4 =>
        (ff_X8_most x1 x2 x5 h).bind fun v6 =>
        if (ff_X8_in v2 v4 v6) = 0 then
          ff_X8_doesFit_6 x1 x2 x3 h n9 (0 : Int32) (x5 + (1 : Int32))
        else
          ff_X8_doesFit_6 x1 x2 x3 h n9 (1 : Int32) (x5 + (1 : Int32))
def ff_X8_doesFit (a1 : Int32) (a2 : Int32) (a3 : Int32) (h : hh_) : Option (Int32) :=
  ff_X8_doesFit_6 a1 a2 a3 h FU_ (1 : Int32) (0 : Int32)
def ff_X8_fits (a1 : Int32) (a2 : Int32) (a3 : Int32) (h : hh_) : Option (Int32 × hh_) :=
  if (ff_X8_isThumb a1 h) = 0 then
    some ((-1 : Int32), h)
  else
    if (ff_X8_isHead a2 h) = 0 then
      some ((-1 : Int32), h)
    else
      (ff_X8_askedReading a3 h).bind fun v1 =>
      if 0 ≤ v1.1 then
        (ff_X8_doesFit a1 a2 a3 v1.2).bind fun v3 =>
        if v3 = 0 then
          some ((0 : Int32), v1.2)
        else
          some ((1 : Int32), v1.2)
      else
        some (v1.1, v1.2)
def ff_X8_headsBy_5 (x1 : Int32) (x2 : Int32) (h : hh_) : Nat → Int32 → Int32 → Option (Int32)
  | 0, _, _ => none
  | n9 + 1, x3, x4 =>
    if (h.1 98 10) ≤ x4 then
      some (x3)
    else
      (ff_X8_doesFit x1 x4 x2 h).bind fun v1 =>
      if v1 = 0 then
        ff_X8_headsBy_5 x1 x2 h n9 (x3 ||| (0 : Int32)) (x4 + (1 : Int32))
      else
        ff_X8_headsBy_5 x1 x2 h n9 (x3 ||| ((1 : Int32) <<< (x4 &&& 31))) (x4 + (1 : Int32))
def ff_X8_headsBy (a1 : Int32) (a2 : Int32) (h : hh_) : Option (Int32) :=
  ff_X8_headsBy_5 a1 a2 h FU_ (0 : Int32) (0 : Int32)
def ff_X8_whose_28 (x1 : Int32) (x2 : Int32) (h : hh_) : Nat → Int32 → Int32 → Option (Int32 × hh_)
  | 0, _, _ => none
  | n9 + 1, x4, x5 =>
    if (h.1 98 11) ≤ x5 then
      (ff_X8_headsBy x1 x2 h).bind fun v3 =>
      some ((ff_X8_ask x4 v3 h).1, (ff_X8_ask x4 v3 h).2)
    else
      (ff_X8_headsBy x5 x2 h).bind fun v5 =>
      ff_X8_whose_28 x1 x2 h n9 (x4 ||| v5) (x5 + (1 : Int32))
def ff_X8_whose (a1 : Int32) (a2 : Int32) (h : hh_) : Option (Int32 × hh_) :=
  if (ff_X8_isThumb a1 h) = 0 then
    some ((-1 : Int32), h)
  else
    (ff_X8_askedReading a2 h).bind fun v1 =>
    if 0 ≤ v1.1 then
      ff_X8_whose_28 a1 a2 v1.2 FU_ (0 : Int32) (0 : Int32)
    else
      some (v1.1, v1.2)
def ff_X8_who_28 (x1 : Int32) (x2 : Int32) (h : hh_) : Nat → Int32 → Int32 → Option (Int32 × hh_)
  | 0, _, _ => none
  | n9 + 1, x4, x5 =>
    if (h.1 98 11) ≤ x5 then
      some (x4, h)
    else
      (ff_X8_doesFit x5 x1 x2 h).bind fun v3 =>
      if v3 = 0 then
        ff_X8_who_28 x1 x2 h n9 (x4 ||| (0 : Int32)) (x5 + (1 : Int32))
      else
        ff_X8_who_28 x1 x2 h n9 (x4 ||| ((1 : Int32) <<< (x5 &&& 31))) (x5 + (1 : Int32))
def ff_X8_who (a1 : Int32) (a2 : Int32) (h : hh_) : Option (Int32 × hh_) :=
  if (ff_X8_isHead a1 h) = 0 then
    some ((-1 : Int32), h)
  else
    (ff_X8_askedReading a2 h).bind fun v1 =>
    if 0 ≤ v1.1 then
      ff_X8_who_28 a1 a2 v1.2 FU_ (0 : Int32) (0 : Int32)
    else
      some (v1.1, v1.2)
def ff_X8_spread (a1 : Int32) (a2 : Int32) (a3 : Int32) (h : hh_) : Option (Int32) :=
  (ff_X8_most a1 a2 a3 h).bind fun v1 =>
  (ff_X8_least a1 a2 a3 h).bind fun v3 =>
  some ((v1 - v3) + (1 : Int32))
def ff_X8_weight_20 (x1 : Int32) (x2 : Int32) (h : hh_) : Nat → Int64 → Int32 → Option (Int64)
  | 0, _, _ => none
  | n9 + 1, x4, x6 =>
    if (4 : Int32) ≤ x6 then
      some (x4)
    else
      (ff_X8_spread x1 x2 x6 h).bind fun v3 =>
      gd_ (bn_ v3) <|
      ff_X8_weight_20 x1 x2 h n9 (x4 * (Int32.toInt64 ((60 : Int32) / v3))) (x6 + (1 : Int32))
def ff_X8_weight_15 (x1 : Int32) (x2 : Int32) (y0 : Int64) (h : hh_) : Option (Int64) :=
  ff_X8_weight_20 x1 x2 h FU_ y0 (0 : Int32)
def ff_X8_weight (a1 : Int32) (a2 : Int32) (a3 : Int32) (h : hh_) : Option (Int64) :=
  (ff_X8_doesFit a1 a2 a3 h).bind fun v1 =>
  if v1 = 0 then
    ff_X8_weight_15 a1 a2 (0 : Int64) h
  else
    ff_X8_weight_15 a1 a2 (1 : Int64) h
def ff_X8_odds_39 (x1 : Int32) (x2 : Int32) (x3 : Int32) (h : hh_) (K39_67 : Int64 → Option (Int32 × hh_)) : Nat → Int64 → Int32 → Option (Int32 × hh_)
  | 0, _, _ => none
  | n9 + 1, x5, x7 =>
    if (h.1 98 10) ≤ x7 then
      K39_67 x5
    else
      (ff_X8_weight x1 x7 x3 h).bind fun v3 =>
      ff_X8_odds_39 x1 x2 x3 h K39_67 n9 (x5 + v3) (x7 + (1 : Int32))
def ff_X8_odds (a1 : Int32) (a2 : Int32) (a3 : Int32) (h : hh_) : Option (Int32 × hh_) :=
  if (ff_X8_isThumb a1 h) = 0 then
    some ((-1 : Int32), h)
  else
    if (ff_X8_isHead a2 h) = 0 then
      some ((-1 : Int32), h)
    else
      (ff_X8_askedReading a3 h).bind fun v1 =>
      if 0 ≤ v1.1 then
        ff_X8_odds_39 a1 a2 a3 v1.2 (fun u5 =>
          if (lg_cmp u5 (0 : Int64)) = 0 then
            (ff_X8_meet (4 : Int32) v1.2).bind fun v10 =>
            some (v10.1, v10.2)
          else
            (ff_X8_weight a1 a2 a3 v1.2).bind fun v6 =>
            (ff_X8_part v6 u5 v1.2).bind fun v8 =>
            some (v8.1, v8.2)) FU_ (0 : Int64) (0 : Int32)
      else
        some (v1.1, v1.2)
def ff_X8_areApart (a1 : Int32) (a2 : Int32) (a3 : Int32) (a4 : Int32) (h : hh_) : Option (Int32) :=
  (ff_X8_most a1 a2 a4 h).bind fun v1 =>
  (ff_X8_least a1 a3 a4 h).bind fun v3 =>
  if v1 < v3 then
    some (1 : Int32)
  else
    (ff_X8_most a1 a3 a4 h).bind fun v5 =>
    (ff_X8_least a1 a2 a4 h).bind fun v7 =>
    if v7 ≤ v5 then
      some (0 : Int32)
    else
      some (1 : Int32)
def ff_X8_look_44 (x1 : Int32) (x2 : Int32) (x3 : Int32) (x4 : Int32) (x6 : Int32) (h : hh_) (K44_83 : Int32 → Option (Int32 × hh_)) : Nat → Int32 → Int32 → Option (Int32 × hh_)
  | 0, _, _ => none
  | n9 + 1, x5, x7 =>
    if (h.1 98 10) ≤ x7 then
      K44_83 x5
    else
      (ff_X8_areApart x1 x6 x7 x4 h).bind fun v1 =>
      if v1 = 0 then
        ff_X8_look_44 x1 x2 x3 x4 x6 h K44_83 n9 (x5 + (0 : Int32)) (x7 + (1 : Int32))
      else
        ff_X8_look_44 x1 x2 x3 x4 x6 h K44_83 n9 (x5 + (1 : Int32)) (x7 + (1 : Int32))
def ff_X8_look_29 (x1 : Int32) (x2 : Int32) (x3 : Int32) (x4 : Int32) (h : hh_) (K29_89 : Int32 → Option (Int32 × hh_)) : Nat → Int32 → Int32 → Option (Int32 × hh_)
  | 0, _, _ => none
  | n9 + 1, x5, x6 =>
    if (h.1 98 10) ≤ x6 then
      K29_89 x5
    else
      ff_X8_look_44 x1 x2 x3 x4 x6 h (fun u3 =>
        ff_X8_look_29 x1 x2 x3 x4 h K29_89 n9 u3 (x6 + (1 : Int32))) FU_ x5 (x6 + (1 : Int32))
def ff_X8_look_17 (x1 : Int32) (h : hh_) : Nat → Int32 → Int32 → Int32 → Option (Int32 × hh_)
  | 0, _, _, _ => none
  | n9 + 1, x2, x3, x4 =>
    if (4 : Int32) ≤ x4 then
      some ((ff_X8_ask x3 x2 h).1, (ff_X8_ask x3 x2 h).2)
    else
      ff_X8_look_29 x1 x2 x3 x4 h (fun u4 =>
        if u4 ≤ x3 then
          ff_X8_look_17 x1 h n9 x2 (ff_X8_greater u4 x3) (x4 + (1 : Int32))
        else
          ff_X8_look_17 x1 h n9 x4 (ff_X8_greater u4 x3) (x4 + (1 : Int32))) FU_ (0 : Int32) (0 : Int32)
def ff_X8_look (a1 : Int32) (h : hh_) : Option (Int32 × hh_) :=
  if (ff_X8_isThumb a1 h) = 0 then
    some ((-1 : Int32), h)
  else
    ff_X8_look_17 a1 h FU_ (0 : Int32) (0 : Int32) (0 : Int32)
def ff_X8_alike_38 (x1 : Int32) (x2 : Int32) (x3 : Int32) (x4 : Int32) (h : hh_) (K38_75 : Int32 → Option (Int32)) : Nat → Int32 → Int32 → Option (Int32)
  | 0, _, _ => none
  | n9 + 1, x5, x6 =>
    if (4 : Int32) ≤ x6 then
      K38_75 x5
    else
      if x5 = 0 then
        (ff_X8_areApart x1 x4 x2 x6 h).bind fun v1 =>
        if v1 = 0 then
          ff_X8_alike_38 x1 x2 x3 x4 h K38_75 n9 (0 : Int32) (x6 + (1 : Int32))
        else
          ff_X8_alike_38 x1 x2 x3 x4 h K38_75 n9 (1 : Int32) (x6 + (1 : Int32))
      else
        ff_X8_alike_38 x1 x2 x3 x4 h K38_75 n9 (1 : Int32) (x6 + (1 : Int32))
def ff_X8_alike_23 (x1 : Int32) (x2 : Int32) (h : hh_) : Nat → Int32 → Int32 → Option (Int32)
  | 0, _, _ => none
  | n9 + 1, x3, x4 =>
    if (h.1 98 10) ≤ x4 then
      some (x3)
    else
      ff_X8_alike_38 x1 x2 x3 x4 h (fun u3 =>
        if u3 = 0 then
          ff_X8_alike_23 x1 x2 h n9 (x3 ||| ((1 : Int32) <<< (x4 &&& 31))) (x4 + (1 : Int32))
        else
          ff_X8_alike_23 x1 x2 h n9 (x3 ||| (0 : Int32)) (x4 + (1 : Int32))) FU_ (0 : Int32) (0 : Int32)
def ff_X8_alike (a1 : Int32) (a2 : Int32) (h : hh_) : Option (Int32) :=
  if (ff_X8_isThumb a1 h) = 0 then
    some (-1 : Int32)
  else
    if (ff_X8_isHead a2 h) = 0 then
      some (-1 : Int32)
    else
      ff_X8_alike_23 a1 a2 h FU_ (0 : Int32) (0 : Int32)
def ff_X8_need (a1 : Int32) (a2 : Int32) (h : hh_) : Option (Int32) :=
  gd_ (bi_ (((5 : Int32) * a1) + a2) 20) <|
  some (h.1 107 (Int32.toNatClampNeg (((5 : Int32) * a1) + a2)))
def ff_X8_suitsOf_42 (x1 : Int32) (x2 : Int32) (x3 : Int32) (x5 : Int32) (x6 : Int32) (h : hh_) (K42_43 : Int32 → Option (Int32)) : Option (Int32) :=
  K42_43 (0 : Int32)
def ff_X8_suitsOf_43 (x1 : Int32) (x2 : Int32) (x3 : Int32) (x5 : Int32) (x6 : Int32) (y0 : Int32) (h : hh_) (K43_9 : Int32 → Int32 → Int32 → Option (Int32)) : Option (Int32) :=
  if x5 = 0 then
    K43_9 y0 (0 : Int32) (x6 + (1 : Int32))
  else
    (ff_X8_most x1 x2 x6 h).bind fun v2 =>
    (ff_X8_need x3 x6 h).bind fun v4 =>
    if v2 < v4 then
      K43_9 y0 (0 : Int32) (x6 + (1 : Int32))
    else
      K43_9 y0 (1 : Int32) (x6 + (1 : Int32))
def ff_X8_suitsOf_9 (x1 : Int32) (x2 : Int32) (x3 : Int32) (h : hh_) (K9_81 : Int32 → Int32 → Option (Int32)) : Nat → Int32 → Int32 → Int32 → Option (Int32)
  | 0, _, _, _ => none
  | n9 + 1, x4, x5, x6 =>
    if (4 : Int32) ≤ x6 then
      K9_81 x4 x5
    else
      if x4 = 0 then
        ff_X8_suitsOf_42 x1 x2 x3 x5 x6 h (fun q1 =>
          ff_X8_suitsOf_43 x1 x2 x3 x5 x6 q1 h (fun z4 z5 z6 => ff_X8_suitsOf_9 x1 x2 x3 h K9_81 n9 z4 z5 z6))
      else
        (ff_X8_least x1 x2 x6 h).bind fun v6 =>
        (ff_X8_need x3 x6 h).bind fun v8 =>
        if v6 < v8 then
          ff_X8_suitsOf_42 x1 x2 x3 x5 x6 h (fun q10 =>
            ff_X8_suitsOf_43 x1 x2 x3 x5 x6 q10 h (fun z4 z5 z6 => ff_X8_suitsOf_9 x1 x2 x3 h K9_81 n9 z4 z5 z6))
        else
          ff_X8_suitsOf_43 x1 x2 x3 x5 x6 (1 : Int32) h (fun z4 z5 z6 => ff_X8_suitsOf_9 x1 x2 x3 h K9_81 n9 z4 z5 z6)
def ff_X8_suitsOf (a1 : Int32) (a2 : Int32) (a3 : Int32) (h : hh_) : Option (Int32) :=
  ff_X8_suitsOf_9 a1 a2 a3 h (fun u11 u12 =>
    if u11 = 0 then
      if u12 = 0 then
        some (0 : Int32)
      else
        some (1 : Int32)
    else
      some (2 : Int32)) FU_ (1 : Int32) (1 : Int32) (0 : Int32)
def ff_X8_suits (a1 : Int32) (a2 : Int32) (a3 : Int32) (h : hh_) : Option (Int32) :=
  if (ff_X8_isThumb a1 h) = 0 then
    some (-1 : Int32)
  else
    if (ff_X8_isHead a2 h) = 0 then
      some (-1 : Int32)
    else
      if (ff_X8_isPost a3 h) = 0 then
        some (-1 : Int32)
      else
        (ff_X8_suitsOf a1 a2 a3 h).bind fun v1 =>
        some (v1)
def ff_X8_luck_35 (x1 : Int32) (x2 : Int32) (x3 : Int32) (h : hh_) : Nat → Int64 → Int64 → Int32 → Option (Int32 × hh_)
  | 0, _, _, _ => none
  | n9 + 1, x4, x6, x8 =>
    if (4 : Int32) ≤ x8 then
      (ff_X8_part x4 x6 h).bind fun v1 =>
      some (v1.1, v1.2)
    else
      (ff_X8_least x1 x2 x8 h).bind fun v3 =>
      (ff_X8_need x3 x8 h).bind fun v5 =>
      (ff_X8_most x1 x2 x8 h).bind fun v7 =>
      (ff_X8_spread x1 x2 x8 h).bind fun v9 =>
      ff_X8_luck_35 x1 x2 x3 h n9 (x4 * (Int32.toInt64 (ff_X8_greater (0 : Int32) ((v7 - (ff_X8_greater v3 v5)) + (1 : Int32))))) (x6 * (Int32.toInt64 v9)) (x8 + (1 : Int32))
def ff_X8_luck (a1 : Int32) (a2 : Int32) (a3 : Int32) (h : hh_) : Option (Int32 × hh_) :=
  if (ff_X8_isThumb a1 h) = 0 then
    some ((-1 : Int32), h)
  else
    if (ff_X8_isHead a2 h) = 0 then
      some ((-1 : Int32), h)
    else
      if (ff_X8_isPost a3 h) = 0 then
        some ((-1 : Int32), h)
      else
        ff_X8_luck_35 a1 a2 a3 h FU_ (1 : Int64) (1 : Int64) (0 : Int32)
def ff_X8_padsAt_16 (x1 : Int32) (x2 : Int32) (x3 : Int32) (x4 : Int32) (x5 : Int32) : Nat → Int32 → Int32 → hh_ → Option (Int32 × hh_)
  | 0, _, _, _ => none
  | n9 + 1, x6, x7, h =>
    if x7 < x5 then
      gd_ (bi_ (((5 : Int32) * x2) + x4) 25) <|
      some (x6, (hh_sI h 105 (Int32.toNatClampNeg (((5 : Int32) * x2) + x4)) x5))
    else
      gd_ (bi_ (((5 : Int32) * x2) + x4) 25) <|
      (ff_X8_least x1 x2 x4 (hh_sI h 105 (Int32.toNatClampNeg (((5 : Int32) * x2) + x4)) x7)).bind fun v5 =>
      (ff_X8_need x3 x4 (hh_sI h 105 (Int32.toNatClampNeg (((5 : Int32) * x2) + x4)) x7)).bind fun v7 =>
      if v5 < v7 then
        ff_X8_padsAt_16 x1 x2 x3 x4 x5 n9 x6 (x7 + (-1 : Int32)) (hh_sI h 105 (Int32.toNatClampNeg (((5 : Int32) * x2) + x4)) x7)
      else
        ff_X8_padsAt_16 x1 x2 x3 x4 x5 n9 (x7 - x5) (x7 + (-1 : Int32)) (hh_sI h 105 (Int32.toNatClampNeg (((5 : Int32) * x2) + x4)) x7)
def ff_X8_padsAt (a1 : Int32) (a2 : Int32) (a3 : Int32) (a4 : Int32) (h : hh_) : Option (Int32 × hh_) :=
  (ff_X8_bump a2 a4 h).bind fun v1 =>
  ff_X8_padsAt_16 a1 a2 a3 a4 v1 FU_ (-9 : Int32) (5 : Int32) h
def ff_X8_pads_40 (x1 : Int32) (x2 : Int32) (x3 : Int32) (x4 : Int32) (K40_80 : Int32 → hh_ → Option (Int32 × hh_)) : Nat → Int32 → Int32 → hh_ → Option (Int32 × hh_)
  | 0, _, _, _ => none
  | n9 + 1, x5, x6, h =>
    if (4 : Int32) ≤ x6 then
      K40_80 x5 h
    else
      (ff_X8_padsAt x1 x2 x3 x6 h).bind fun v1 =>
      if v1.1 = (-9 : Int32) then
        some ((-9 : Int32), v1.2)
      else
        ff_X8_pads_40 x1 x2 x3 x4 K40_80 n9 (x5 + v1.1) (x6 + (1 : Int32)) v1.2
def ff_X8_pads_91 (x1 : Int32) (x2 : Int32) (x3 : Int32) (x4 : Int32) (x5 : Int32) : Nat → Int32 → hh_ → Option (Int32 × hh_)
  | 0, _, _ => none
  | n9 + 1, x6, h =>
    if (4 : Int32) ≤ x6 then
      some (x5, h)
    else
      (ff_X8_padsAt x1 x2 x3 x6 h).bind fun v7 =>
      (ff_X8_setRow x4 x6 v7.1 v7.2).bind fun v9 =>
      ff_X8_pads_91 x1 x2 x3 x4 x5 n9 (x6 + (1 : Int32)) v9
def ff_X8_pads (a1 : Int32) (a2 : Int32) (a3 : Int32) (a4 : Int32) (h : hh_) : Option (Int32 × hh_) :=
  if (ff_X8_isThumb a1 h) = 0 then
    some ((-1 : Int32), h)
  else
    if (ff_X8_isHead a2 h) = 0 then
      some ((-1 : Int32), h)
    else
      if (ff_X8_isPost a3 h) = 0 then
        some ((-1 : Int32), h)
      else
        if (ff_X8_isRow a4) = 0 then
          some ((-1 : Int32), h)
        else
          ff_X8_pads_40 a1 a2 a3 a4 (fun u3 k4 =>
            (ff_X8_row a4 (4 : Int32) k4).bind fun v5 =>
            ff_X8_pads_91 a1 a2 a3 a4 u3 FU_ (0 : Int32) v5.2) FU_ (0 : Int32) (0 : Int32) h
def ff_X8_all_45 (x1 : Int32) (x2 : Int32) (x3 : Int32) (x4 : Int32) (K45_91 : Int32 → hh_ → Option (Int32 × hh_)) : Nat → Int32 → Int32 → hh_ → Option (Int32 × hh_)
  | 0, _, _, _ => none
  | n9 + 1, x5, x6, h =>
    if (h.1 98 11) ≤ x6 then
      K45_91 x5 h
    else
      (ff_X8_padsAt x6 x1 x2 x4 h).bind fun v1 =>
      if v1.1 = (-9 : Int32) then
        some ((-9 : Int32), v1.2)
      else
        ff_X8_all_45 x1 x2 x3 x4 K45_91 n9 (ff_X8_greater x5 v1.1) (x6 + (1 : Int32)) v1.2
def ff_X8_all_33 (x1 : Int32) (x2 : Int32) : Nat → Int32 → Int32 → hh_ → Option (Int32 × hh_)
  | 0, _, _, _ => none
  | n9 + 1, x3, x4, h =>
    if (4 : Int32) ≤ x4 then
      some (x3, h)
    else
      ff_X8_all_45 x1 x2 x3 x4 (fun u3 k4 =>
        ff_X8_all_33 x1 x2 n9 (x3 + u3) (x4 + (1 : Int32)) k4) FU_ (0 : Int32) (0 : Int32) h
def ff_X8_all (a1 : Int32) (a2 : Int32) (h : hh_) : Option (Int32 × hh_) :=
  if (ff_X8_isHead a1 h) = 0 then
    some ((-1 : Int32), h)
  else
    if (ff_X8_isPost a2 h) = 0 then
      some ((-1 : Int32), h)
    else
      if (h.1 98 11) = 0 then
        some ((-4 : Int32), h)
      else
        ff_X8_all_33 a1 a2 FU_ (0 : Int32) (0 : Int32) h
def ff_X8_finds_115 (x1 : Int32) (x2 : Int32) (x3 : Int32) (x4 : Int32) (x5 : Int32) (h : hh_) (K115_120 : Int32 → Option (Int32 × hh_)) : Option (Int32 × hh_) :=
  K115_120 (1 : Int32)
def ff_X8_finds_120 (x1 : Int32) (x2 : Int32) (x3 : Int32) (x4 : Int32) (x5 : Int32) (y0 : Int32) (h : hh_) (K120_50 : Int32 → Int32 → hh_ → Option (Int32 × hh_)) : Option (Int32 × hh_) :=
  gd_ (bi_ (((5 : Int32) * x2) + x3) 25) <|
  if x5 = x1 then
    K120_50 x4 (x5 + (-1 : Int32)) (hh_sI h 105 (Int32.toNatClampNeg (((5 : Int32) * x2) + x3)) ((h.1 105 (Int32.toNatClampNeg (((5 : Int32) * x2) + x3))) - (1 : Int32)))
  else
    if y0 = 0 then
      K120_50 x4 (x5 + (-1 : Int32)) (hh_sI h 105 (Int32.toNatClampNeg (((5 : Int32) * x2) + x3)) ((h.1 105 (Int32.toNatClampNeg (((5 : Int32) * x2) + x3))) - (1 : Int32)))
    else
      K120_50 x5 (x5 + (-1 : Int32)) (hh_sI h 105 (Int32.toNatClampNeg (((5 : Int32) * x2) + x3)) ((h.1 105 (Int32.toNatClampNeg (((5 : Int32) * x2) + x3))) - (1 : Int32)))
def ff_X8_finds_50 (x1 : Int32) (x2 : Int32) (x3 : Int32) : Nat → Int32 → Int32 → hh_ → Option (Int32 × hh_)
  | 0, _, _, _ => none
  | n9 + 1, x4, x5, h =>
    if x5 < 0 then
      some (x4, h)
    else
      (ff_X8_most x5 x2 x3 h).bind fun v3 =>
      (ff_X8_least x5 x2 x3 h).bind fun v5 =>
      gd_ (bi_ (((5 : Int32) * x2) + x3) 25) <|
      (ff_X8_least x5 x2 x3 (hh_sI h 105 (Int32.toNatClampNeg (((5 : Int32) * x2) + x3)) ((h.1 105 (Int32.toNatClampNeg (((5 : Int32) * x2) + x3))) + (1 : Int32)))).bind fun v8 =>
      if v3 < v8 then
        ff_X8_finds_115 x1 x2 x3 x4 x5 (hh_sI h 105 (Int32.toNatClampNeg (((5 : Int32) * x2) + x3)) ((h.1 105 (Int32.toNatClampNeg (((5 : Int32) * x2) + x3))) + (1 : Int32))) (fun q10 =>
          ff_X8_finds_120 x1 x2 x3 x4 x5 q10 (hh_sI h 105 (Int32.toNatClampNeg (((5 : Int32) * x2) + x3)) ((h.1 105 (Int32.toNatClampNeg (((5 : Int32) * x2) + x3))) + (1 : Int32))) (fun z4 z5 h8 => ff_X8_finds_50 x1 x2 x3 n9 z4 z5 h8))
      else
        (ff_X8_most x5 x2 x3 (hh_sI h 105 (Int32.toNatClampNeg (((5 : Int32) * x2) + x3)) ((h.1 105 (Int32.toNatClampNeg (((5 : Int32) * x2) + x3))) + (1 : Int32)))).bind fun v12 =>
        if v5 ≤ v12 then
          ff_X8_finds_120 x1 x2 x3 x4 x5 (0 : Int32) (hh_sI h 105 (Int32.toNatClampNeg (((5 : Int32) * x2) + x3)) ((h.1 105 (Int32.toNatClampNeg (((5 : Int32) * x2) + x3))) + (1 : Int32))) (fun z4 z5 h8 => ff_X8_finds_50 x1 x2 x3 n9 z4 z5 h8)
        else
          ff_X8_finds_115 x1 x2 x3 x4 x5 (hh_sI h 105 (Int32.toNatClampNeg (((5 : Int32) * x2) + x3)) ((h.1 105 (Int32.toNatClampNeg (((5 : Int32) * x2) + x3))) + (1 : Int32))) (fun q14 =>
            ff_X8_finds_120 x1 x2 x3 x4 x5 q14 (hh_sI h 105 (Int32.toNatClampNeg (((5 : Int32) * x2) + x3)) ((h.1 105 (Int32.toNatClampNeg (((5 : Int32) * x2) + x3))) + (1 : Int32))) (fun z4 z5 h8 => ff_X8_finds_50 x1 x2 x3 n9 z4 z5 h8))
def ff_X8_finds (a1 : Int32) (a2 : Int32) (a3 : Int32) (h : hh_) : Option (Int32 × hh_) :=
  if (ff_X8_isThumb a1 h) = 0 then
    some ((-1 : Int32), h)
  else
    if (ff_X8_isHead a2 h) = 0 then
      some ((-1 : Int32), h)
    else
      if (ff_X8_isPlace a3) = 0 then
        some ((-1 : Int32), h)
      else
        (ff_X8_bump a2 a3 h).bind fun v1 =>
        if v1 = (5 : Int32) then
          some ((-4 : Int32), h)
        else
          ff_X8_finds_50 a1 a2 a3 FU_ (-9 : Int32) ((h.1 98 11) - (1 : Int32)) h
def ff_X8_posts_56 (x1 : Int32) (x2 : Int32) (x4 : Int32) (x5 : Int32) (y0 : Int32) (y1 : Int32) (h : hh_) (K56_26 : Int32 → Int32 → Int32 → Option (Int32 × hh_)) : Option (Int32 × hh_) :=
  (ff_X8_suitsOf x1 x2 x5 h).bind fun v3 =>
  if v3 ≤ 0 then
    K56_26 (y0 ||| y1) (x4 ||| (0 : Int32)) (x5 + (1 : Int32))
  else
    K56_26 (y0 ||| y1) (x4 ||| ((1 : Int32) <<< (x5 &&& 31))) (x5 + (1 : Int32))
def ff_X8_posts_26 (x1 : Int32) (x2 : Int32) (h : hh_) : Nat → Int32 → Int32 → Int32 → Option (Int32 × hh_)
  | 0, _, _, _ => none
  | n9 + 1, x3, x4, x5 =>
    if (h.1 98 12) ≤ x5 then
      some ((ff_X8_ask x4 x3 h).1, (ff_X8_ask x4 x3 h).2)
    else
      (ff_X8_suitsOf x1 x2 x5 h).bind fun v1 =>
      if v1 = (2 : Int32) then
        ff_X8_posts_56 x1 x2 x4 x5 x3 ((1 : Int32) <<< (x5 &&& 31)) h (fun z3 z4 z5 => ff_X8_posts_26 x1 x2 h n9 z3 z4 z5)
      else
        ff_X8_posts_56 x1 x2 x4 x5 x3 (0 : Int32) h (fun z3 z4 z5 => ff_X8_posts_26 x1 x2 h n9 z3 z4 z5)
def ff_X8_posts (a1 : Int32) (a2 : Int32) (h : hh_) : Option (Int32 × hh_) :=
  if (ff_X8_isThumb a1 h) = 0 then
    some ((-1 : Int32), h)
  else
    if (ff_X8_isHead a2 h) = 0 then
      some ((-1 : Int32), h)
    else
      ff_X8_posts_26 a1 a2 h FU_ (0 : Int32) (0 : Int32) (0 : Int32)
def ff_X8_layMay_59 (x1 : Int32) (x2 : Int32) (x3 : Int32) (x5 : Int32) (h : hh_) (K59_75 : Option (hh_)) (K59_71 : Option (hh_)) : Option (hh_) :=
  (ff_X8_suitsOf x5 x2 x3 h).bind fun v2 =>
  if v2 = (2 : Int32) then
    K59_71
  else
    K59_75
def ff_X8_layMay_33 (x1 : Int32) (x2 : Int32) (x3 : Int32) (h : hh_) (K33_84 : Int32 → Option (hh_)) : Nat → Int32 → Int32 → Option (hh_)
  | 0, _, _ => none
  | n9 + 1, x4, x5 =>
    if (h.1 98 11) ≤ x5 then
      K33_84 x4
    else
      if x4 = 0 then
        ff_X8_layMay_33 x1 x2 x3 h K33_84 n9 (0 : Int32) (x5 + (1 : Int32))
      else
        if x1 = (-9 : Int32) then
          ff_X8_layMay_59 x1 x2 x3 x5 h (
            ff_X8_layMay_33 x1 x2 x3 h K33_84 n9 (0 : Int32) (x5 + (1 : Int32))) (
            ff_X8_layMay_33 x1 x2 x3 h K33_84 n9 (1 : Int32) (x5 + (1 : Int32)))
        else
          if x5 = x1 then
            ff_X8_layMay_59 x1 x2 x3 x5 h (
              ff_X8_layMay_33 x1 x2 x3 h K33_84 n9 (0 : Int32) (x5 + (1 : Int32))) (
              ff_X8_layMay_33 x1 x2 x3 h K33_84 n9 (1 : Int32) (x5 + (1 : Int32)))
          else
            ff_X8_layMay_33 x1 x2 x3 h K33_84 n9 (1 : Int32) (x5 + (1 : Int32))
def ff_X8_layMay_19 (x1 : Int32) (x2 : Int32) (K19_111 : hh_ → Option (hh_)) : Nat → Int32 → hh_ → Option (hh_)
  | 0, _, _ => none
  | n9 + 1, x3, h =>
    if (h.1 98 12) ≤ x3 then
      K19_111 h
    else
      ff_X8_layMay_33 x1 x2 x3 h (fun u4 =>
        gd_ (bi_ x2 5) <|
        if u4 = 0 then
          ff_X8_layMay_19 x1 x2 K19_111 n9 (x3 + (1 : Int32)) (hh_sI h 111 (Int32.toNatClampNeg x2) ((h.1 111 (Int32.toNatClampNeg x2)) ||| (0 : Int32)))
        else
          ff_X8_layMay_19 x1 x2 K19_111 n9 (x3 + (1 : Int32)) (hh_sI h 111 (Int32.toNatClampNeg x2) ((h.1 111 (Int32.toNatClampNeg x2)) ||| ((1 : Int32) <<< (x3 &&& 31))))) FU_ (1 : Int32) (0 : Int32)
def ff_X8_layMay_2 (x1 : Int32) : Nat → Int32 → hh_ → Option (hh_)
  | 0, _, _ => none
  | n9 + 1, x2, h =>
    if (h.1 98 10) ≤ x2 then
      some (h)
    else
      gd_ (bi_ x2 5) <|
      ff_X8_layMay_19 x1 x2 (fun k6 =>
        ff_X8_layMay_2 x1 n9 (x2 + (1 : Int32)) k6) FU_ (0 : Int32) (hh_sI h 111 (Int32.toNatClampNeg x2) (0 : Int32))
def ff_X8_layMay (a1 : Int32) (h : hh_) : Option (hh_) :=
  ff_X8_layMay_2 a1 FU_ (0 : Int32) h
def ff_X8_planOn_67 (x1 : Int32) (x2 : Int32) (x3 : Int32) (rc9 : Int32 → Int32 → Int32 → hh_ → Option (hh_)) : Nat → Int32 → hh_ → Option (hh_)
  | 0, _, _ => none
  | n9 + 1, x4, h =>
    if (h.1 98 12) ≤ x4 then
      gd_ (bi_ x1 5) <|
      (rc9 (x1 + (1 : Int32)) x2 x3 (hh_sI h 112 (Int32.toNatClampNeg x1) (-9 : Int32))).bind fun v2 =>
      some (v2)
    else
      gd_ (bi_ x1 5) <|
      if (ff_X8_has ((h.1 111 (Int32.toNatClampNeg x1)) &&& x2) x4) = 0 then
        ff_X8_planOn_67 x1 x2 x3 rc9 n9 (x4 + (1 : Int32)) h
      else
        gd_ (bi_ (((5 : Int32) * x4) + (4 : Int32)) 20) <|
        (rc9 (x1 + (1 : Int32)) (x2 &&& (((1 : Int32) <<< (x4 &&& 31)) ^^^ (-1 : Int32))) (x3 + ((hh_sI h 112 (Int32.toNatClampNeg x1) x4).1 107 (Int32.toNatClampNeg (((5 : Int32) * x4) + (4 : Int32))))) (hh_sI h 112 (Int32.toNatClampNeg x1) x4)).bind fun v6 =>
        ff_X8_planOn_67 x1 x2 x3 rc9 n9 (x4 + (1 : Int32)) v6
def ff_X8_planOn_34 (rc9 : Int32 → Int32 → Int32 → hh_ → Option (hh_)) : Nat → Int32 → hh_ → Option (hh_)
  | 0, _, _ => none
  | n9 + 1, x4, h =>
    if (h.1 98 10) ≤ x4 then
      some (h)
    else
      gd_ (bi_ x4 5) <|
      ff_X8_planOn_34 rc9 n9 (x4 + (1 : Int32)) (hh_sI h 113 (Int32.toNatClampNeg x4) (h.1 112 (Int32.toNatClampNeg x4)))
def ff_X8_planOn : Nat → Int32 → Int32 → Int32 → hh_ → Option (hh_)
  | 0, _, _, _, _ => none
  | n8 + 1, a1, a2, a3, h =>
    if a1 = (h.1 98 10) then
      if a3 ≤ ((hh_sL h 98 28 ((h.2.1 98 28) + (1 : Int64))).1 98 27) then
        some (hh_sL h 98 28 ((h.2.1 98 28) + (1 : Int64)))
      else
        ff_X8_planOn_34 (ff_X8_planOn n8) FU_ (0 : Int32) (hh_sI (hh_sL h 98 28 ((h.2.1 98 28) + (1 : Int64))) 98 27 a3)
    else
      ff_X8_planOn_67 a1 a2 a3 (ff_X8_planOn n8) FU_ (0 : Int32) h
def ff_X8_goPlans (a1 : Int32) (h : hh_) : Option (hh_) :=
  (ff_X8_layMay a1 h).bind fun v1 =>
  (ff_X8_planOn 10 (0 : Int32) (((1 : Int32) <<< (((hh_sL (hh_sI v1 98 27 (-1 : Int32)) 98 28 (0 : Int64)).1 98 12) &&& 31)) - (1 : Int32)) (0 : Int32) (hh_sL (hh_sI v1 98 27 (-1 : Int32)) 98 28 (0 : Int64))).bind fun v3 =>
  some (v3)
def ff_X8_layPlan_12 (x1 : Int32) : Nat → Int32 → hh_ → Option (Int32 × hh_)
  | 0, _, _ => none
  | n9 + 1, x2, h =>
    if (h.1 98 10) ≤ x2 then
      some ((h.1 98 27), h)
    else
      gd_ (bi_ x2 5) <|
      (ff_X8_setRow x1 x2 (h.1 113 (Int32.toNatClampNeg x2)) h).bind fun v4 =>
      ff_X8_layPlan_12 x1 n9 (x2 + (1 : Int32)) v4
def ff_X8_layPlan (a1 : Int32) (h : hh_) : Option (Int32 × hh_) :=
  (ff_X8_row a1 (h.1 98 10) h).bind fun v1 =>
  ff_X8_layPlan_12 a1 FU_ (0 : Int32) v1.2
def ff_X8_plan (a1 : Int32) (a2 : Int32) (h : hh_) : Option (Int32 × hh_) :=
  if (ff_X8_isThumb a1 h) = 0 then
    some ((-1 : Int32), h)
  else
    if (ff_X8_isRow a2) = 0 then
      some ((-1 : Int32), h)
    else
      (ff_X8_goPlans a1 h).bind fun v1 =>
      (ff_X8_layPlan a2 v1).bind fun v3 =>
      some (v3.1, v3.2)
def ff_X8_plans (a1 : Int32) (h : hh_) : Option (Int32 × hh_) :=
  if (ff_X8_isThumb a1 h) = 0 then
    some ((-1 : Int32), h)
  else
    (ff_X8_goPlans a1 h).bind fun v1 =>
    (ff_X8_part (v1.2.1 98 28) (1 : Int64) v1).bind fun v3 =>
    some (v3.1, v3.2)
def ff_X8_safest (a1 : Int32) (h : hh_) : Option (Int32 × hh_) :=
  if (ff_X8_isRow a1) = 0 then
    some ((-1 : Int32), h)
  else
    if (h.1 98 10) = 0 then
      some ((-4 : Int32), h)
    else
      (ff_X8_goPlans (-9 : Int32) h).bind fun v1 =>
      (ff_X8_layPlan a1 v1).bind fun v3 =>
      some (v3.1, v3.2)
def ff_X8_gain_108 (x1 : Int32) (x2 : Int32) (x3 : Int32) (x5 : Int32) (x6 : Int32) (y0 : Int32) (h : hh_) (K108_123 : Int32 → Int32 → Option (Int32 × hh_)) : Option (Int32 × hh_) :=
  K108_123 y0 (ff_X8_greater x5 ((h.1 98 27) - x3))
def ff_X8_gain_38 (x1 : Int32) (x2 : Int32) (x3 : Int32) (K38_129 : Int32 → Int32 → hh_ → Option (Int32 × hh_)) : Nat → Int32 → Int32 → Int32 → hh_ → Option (Int32 × hh_)
  | 0, _, _, _, _ => none
  | n9 + 1, x4, x5, x6, h =>
    if (4 : Int32) ≤ x6 then
      K38_129 x4 x5 h
    else
      (ff_X8_bump x2 x6 h).bind fun v3 =>
      if (5 : Int32) ≤ v3 then
        ff_X8_gain_38 x1 x2 x3 K38_129 n9 x4 x5 (x6 + (1 : Int32)) h
      else
        gd_ (bi_ (((5 : Int32) * x2) + x6) 25) <|
        (ff_X8_goPlans x1 (hh_sI h 105 (Int32.toNatClampNeg (((5 : Int32) * x2) + x6)) ((h.1 105 (Int32.toNatClampNeg (((5 : Int32) * x2) + x6))) + (1 : Int32)))).bind fun v6 =>
        if (((hh_sI v6 105 (Int32.toNatClampNeg (((5 : Int32) * x2) + x6)) ((v6.1 105 (Int32.toNatClampNeg (((5 : Int32) * x2) + x6))) - (1 : Int32))).1 98 27) - x3) ≤ x5 then
          ff_X8_gain_108 x1 x2 x3 x5 x6 x4 (hh_sI v6 105 (Int32.toNatClampNeg (((5 : Int32) * x2) + x6)) ((v6.1 105 (Int32.toNatClampNeg (((5 : Int32) * x2) + x6))) - (1 : Int32))) (fun u8 u9 =>
            ff_X8_gain_38 x1 x2 x3 K38_129 n9 u8 u9 (x6 + (1 : Int32)) (hh_sI v6 105 (Int32.toNatClampNeg (((5 : Int32) * x2) + x6)) ((v6.1 105 (Int32.toNatClampNeg (((5 : Int32) * x2) + x6))) - (1 : Int32))))
        else
          ff_X8_gain_108 x1 x2 x3 x5 x6 x6 (hh_sI v6 105 (Int32.toNatClampNeg (((5 : Int32) * x2) + x6)) ((v6.1 105 (Int32.toNatClampNeg (((5 : Int32) * x2) + x6))) - (1 : Int32))) (fun u10 u11 =>
            ff_X8_gain_38 x1 x2 x3 K38_129 n9 u10 u11 (x6 + (1 : Int32)) (hh_sI v6 105 (Int32.toNatClampNeg (((5 : Int32) * x2) + x6)) ((v6.1 105 (Int32.toNatClampNeg (((5 : Int32) * x2) + x6))) - (1 : Int32))))
def ff_X8_gain (a1 : Int32) (a2 : Int32) (h : hh_) : Option (Int32 × hh_) :=
  if (ff_X8_isThumb a1 h) = 0 then
    some ((-1 : Int32), h)
  else
    if (ff_X8_isHead a2 h) = 0 then
      some ((-1 : Int32), h)
    else
      (ff_X8_goPlans a1 h).bind fun v1 =>
      ff_X8_gain_38 a1 a2 (v1.1 98 27) (fun u12 u13 k14 =>
        if u12 = (-9 : Int32) then
          some ((-9 : Int32), k14)
        else
          some ((ff_X8_ask u12 u13 k14).1, (ff_X8_ask u12 u13 k14).2)) FU_ (-9 : Int32) (0 : Int32) (0 : Int32) v1
def ff_X8_doesLearn_6 (x1 : Int32) (x2 : Int32) (x3 : Int32) (x4 : Int32) (h : hh_) : Nat → Int32 → Int32 → Option (Int32)
  | 0, _, _ => none
  | n9 + 1, x5, x6 =>
    gd_ (bi_ x1 6) <|
    if (h.1 100 (Int32.toNatClampNeg x1)) ≤ x6 then
      gd_ (bz_ x5) <|
      some (x5)
    else
      (ff_X8_rowAt x1 (x6 + (1 : Int32)) h).bind fun v3 =>
      (ff_X8_rowAt x1 x6 h).bind fun v5 =>
      (ff_X8_felt v5 v3 h).bind fun v7 =>
      if x5 = 0 then
        ff_X8_doesLearn_6 x1 x2 x3 x4 h n9 (0 : Int32) (x6 + (3 : Int32))
      else
        (ff_X8_rowAt x1 (x6 + (2 : Int32)) h).bind fun v9 =>
        if (ff_X8_in v9 (ff_X8_greater (0 : Int32) ((ff_X8_middleOf x2 x3 v7 v3) - x4)) ((ff_X8_middleOf x2 x3 v7 v3) + x4)) = 0 then
          ff_X8_doesLearn_6 x1 x2 x3 x4 h n9 (0 : Int32) (x6 + (3 : Int32))
        else
          ff_X8_doesLearn_6 x1 x2 x3 x4 h n9 (1 : Int32) (x6 + (3 : Int32))
def ff_X8_doesLearn (a1 : Int32) (a2 : Int32) (a3 : Int32) (a4 : Int32) (h : hh_) : Option (Int32) :=
  ff_X8_doesLearn_6 a1 a2 a3 a4 h FU_ (1 : Int32) (0 : Int32)
def ff_X8_learn_50 (x1 : Int32) (x2 : Int32) (h : hh_) (K50_120 : Option (Int32 × hh_)) : Nat → Int32 → Option (Int32 × hh_)
  | 0, _ => none
  | n9 + 1, x4 =>
    gd_ (bi_ x1 6) <|
    if (h.1 100 (Int32.toNatClampNeg x1)) ≤ x4 then
      K50_120
    else
      (ff_X8_rowAt x1 x4 h).bind fun v5 =>
      if (ff_X8_isHead v5 h) = 0 then
        (ff_X8_meet (3 : Int32) h).bind fun v7 =>
        some (v7.1, v7.2)
      else
        (ff_X8_rowAt x1 (x4 + (1 : Int32)) h).bind fun v9 =>
        if (ff_X8_isPlace v9) = 0 then
          (ff_X8_meet (3 : Int32) h).bind fun v11 =>
          some (v11.1, v11.2)
        else
          (ff_X8_rowAt x1 (x4 + (2 : Int32)) h).bind fun v13 =>
          if (ff_X8_in v13 (0 : Int32) (9 : Int32)) = 0 then
            (ff_X8_meet (3 : Int32) h).bind fun v15 =>
            some (v15.1, v15.2)
          else
            ff_X8_learn_50 x1 x2 h K50_120 n9 (x4 + (3 : Int32))
def ff_X8_learn_169 (x1 : Int32) (x2 : Int32) (x5 : Int32) (x6 : Int32) (x7 : Int32) (y0 : Int32) (y1 : Int32) (h : hh_) (K169_129 : Int32 → Int32 → Int32 → Option (Int32 × hh_)) : Option (Int32 × hh_) :=
  if x7 = 0 then
    K169_129 (y0 ||| y1) (x5 ||| (0 : Int32)) (x6 + (1 : Int32))
  else
    K169_129 (y0 ||| y1) (x5 ||| ((1 : Int32) <<< ((x6 - x6 / (4 : Int32) * (4 : Int32)) &&& 31))) (x6 + (1 : Int32))
def ff_X8_learn_129 (x1 : Int32) (x2 : Int32) (h : hh_) : Nat → Int32 → Int32 → Int32 → Option (Int32 × hh_)
  | 0, _, _, _ => none
  | n9 + 1, x4, x5, x6 =>
    if (24 : Int32) ≤ x6 then
      some ((ff_X8_ask x5 x4 h).1, (ff_X8_ask x5 x4 h).2)
    else
      (ff_X8_doesLearn x1 (x6 / (4 : Int32)) (x6 - x6 / (4 : Int32) * (4 : Int32)) x2 h).bind fun v17 =>
      if v17 = 0 then
        ff_X8_learn_169 x1 x2 x5 x6 v17 x4 (0 : Int32) h (fun z4 z5 z6 => ff_X8_learn_129 x1 x2 h n9 z4 z5 z6)
      else
        ff_X8_learn_169 x1 x2 x5 x6 v17 x4 ((1 : Int32) <<< ((x6 / (4 : Int32)) &&& 31)) h (fun z4 z5 z6 => ff_X8_learn_129 x1 x2 h n9 z4 z5 z6)
def ff_X8_learn (a1 : Int32) (a2 : Int32) (h : hh_) : Option (Int32 × hh_) :=
  if (ff_X8_isRow a1) = 0 then
    some ((-1 : Int32), h)
  else
    if (ff_X8_in a2 (0 : Int32) (2 : Int32)) = 0 then
      some ((-1 : Int32), h)
    else
      (ff_X8_askedRow a1 h).bind fun v1 =>
      if 0 ≤ v1.1 then
        gd_ (bi_ a1 6) <|
        if ((v1.2.1 100 (Int32.toNatClampNeg a1)) - (v1.2.1 100 (Int32.toNatClampNeg a1)) / (3 : Int32) * (3 : Int32)) = 0 then
          ff_X8_learn_50 a1 a2 v1.2 (
            ff_X8_learn_129 a1 a2 v1.2 FU_ (0 : Int32) (0 : Int32) (0 : Int32)) FU_ (0 : Int32)
        else
          (ff_X8_meet (5 : Int32) v1.2).bind fun v19 =>
          some (v19.1, v19.2)
      else
        some (v1.1, v1.2)
def ff_X8_tells_33 (x1 : Int32) (h : hh_) (K33_67 : Option (Int32 × hh_)) : Nat → Int32 → Option (Int32 × hh_)
  | 0, _ => none
  | n9 + 1, x3 =>
    if (h.1 98 10) ≤ x3 then
      K33_67
    else
      (ff_X8_rowAt x1 x3 h).bind fun v4 =>
      if (ff_X8_in v4 (0 : Int32) (1 : Int32)) = 0 then
        (ff_X8_meet (3 : Int32) h).bind fun v6 =>
        some (v6.1, v6.2)
      else
        ff_X8_tells_33 x1 h K33_67 n9 (x3 + (1 : Int32))
def ff_X8_tells_122 (x1 : Int32) (x3 : Int32) (x4 : Int32) (x5 : Int32) (x6 : Int32) (h : hh_) (K122_123 : Int32 → Option (Int32 × hh_)) : Option (Int32 × hh_) :=
  K122_123 (0 : Int32)
def ff_X8_tells_151 (x1 : Int32) (x3 : Int32) (x5 : Int32) (x6 : Int32) (x7 : Int32) (y0 : Int32) (h : hh_) (K151_152 : Int32 → Int32 → Option (Int32 × hh_)) : Option (Int32 × hh_) :=
  K151_152 y0 (0 : Int32)
def ff_X8_tells_158 (x1 : Int32) (x4 : Int32) (x5 : Int32) (x6 : Int32) (x7 : Int32) (h : hh_) (K158_207 : Int32 → Option (Int32 × hh_)) : Nat → Int32 → Int32 → Option (Int32 × hh_)
  | 0, _, _ => none
  | n9 + 1, x3, x8 =>
    if (4 : Int32) ≤ x8 then
      K158_207 x3
    else
      if x7 = 0 then
        ff_X8_tells_158 x1 x4 x5 x6 x7 h K158_207 n9 (x3 &&& (-1 : Int32)) (x8 + (1 : Int32))
      else
        (ff_X8_bump x5 x8 h).bind fun v13 =>
        (ff_X8_bump x6 x8 h).bind fun v15 =>
        if v15 < v13 then
          ff_X8_tells_158 x1 x4 x5 x6 x7 h K158_207 n9 (x3 &&& (-1 : Int32)) (x8 + (1 : Int32))
        else
          ff_X8_tells_158 x1 x4 x5 x6 x7 h K158_207 n9 (x3 &&& (((1 : Int32) <<< (x8 &&& 31)) ^^^ (-1 : Int32))) (x8 + (1 : Int32))
def ff_X8_tells_152 (x1 : Int32) (x3 : Int32) (x5 : Int32) (x6 : Int32) (x7 : Int32) (y0 : Int32) (y1 : Int32) (h : hh_) (K152_88 : Int32 → Int32 → Int32 → Option (Int32 × hh_)) : Option (Int32 × hh_) :=
  ff_X8_tells_158 x1 (y0 + y1) x5 x6 x7 h (fun u17 =>
    K152_88 u17 (y0 + y1) (x6 + (1 : Int32))) FU_ x3 (0 : Int32)
def ff_X8_tells_123 (x1 : Int32) (x3 : Int32) (x4 : Int32) (x5 : Int32) (x6 : Int32) (y0 : Int32) (h : hh_) (K123_88 : Int32 → Int32 → Int32 → Option (Int32 × hh_)) : Option (Int32 × hh_) :=
  if y0 = 0 then
    ff_X8_tells_151 x1 x3 x5 x6 y0 x4 h (fun q11 q12 =>
      ff_X8_tells_152 x1 x3 x5 x6 y0 q11 q12 h K123_88)
  else
    (ff_X8_bumps x5 h).bind fun v18 =>
    (ff_X8_bumps x6 h).bind fun v20 =>
    if v18 ≤ v20 then
      ff_X8_tells_151 x1 x3 x5 x6 y0 x4 h (fun q22 q23 =>
        ff_X8_tells_152 x1 x3 x5 x6 y0 q22 q23 h K123_88)
    else
      ff_X8_tells_152 x1 x3 x5 x6 y0 x4 (1 : Int32) h K123_88
def ff_X8_tells_88 (x1 : Int32) (x5 : Int32) (h : hh_) (K88_213 : Int32 → Int32 → Option (Int32 × hh_)) : Nat → Int32 → Int32 → Int32 → Option (Int32 × hh_)
  | 0, _, _, _ => none
  | n9 + 1, x3, x4, x6 =>
    if (h.1 98 10) ≤ x6 then
      K88_213 x3 x4
    else
      (ff_X8_rowAt x1 x5 h).bind fun v8 =>
      if v8 = (1 : Int32) then
        (ff_X8_rowAt x1 x6 h).bind fun v24 =>
        if v24 = 0 then
          ff_X8_tells_123 x1 x3 x4 x5 x6 (1 : Int32) h (fun z3 z4 z6 => ff_X8_tells_88 x1 x5 h K88_213 n9 z3 z4 z6)
        else
          ff_X8_tells_122 x1 x3 x4 x5 x6 h (fun q26 =>
            ff_X8_tells_123 x1 x3 x4 x5 x6 q26 h (fun z3 z4 z6 => ff_X8_tells_88 x1 x5 h K88_213 n9 z3 z4 z6))
      else
        ff_X8_tells_122 x1 x3 x4 x5 x6 h (fun q10 =>
          ff_X8_tells_123 x1 x3 x4 x5 x6 q10 h (fun z3 z4 z6 => ff_X8_tells_88 x1 x5 h K88_213 n9 z3 z4 z6))
def ff_X8_tells_76 (x1 : Int32) (h : hh_) : Nat → Int32 → Int32 → Int32 → Option (Int32 × hh_)
  | 0, _, _, _ => none
  | n9 + 1, x3, x4, x5 =>
    if (h.1 98 10) ≤ x5 then
      some ((ff_X8_ask x4 x3 h).1, (ff_X8_ask x4 x3 h).2)
    else
      ff_X8_tells_88 x1 x5 h (fun u27 u28 =>
        ff_X8_tells_76 x1 h n9 u27 u28 (x5 + (1 : Int32))) FU_ x3 x4 (0 : Int32)
def ff_X8_tells (a1 : Int32) (h : hh_) : Option (Int32 × hh_) :=
  (ff_X8_askedRow a1 h).bind fun v1 =>
  if 0 ≤ v1.1 then
    gd_ (bi_ a1 6) <|
    if (v1.2.1 100 (Int32.toNatClampNeg a1)) = (v1.2.1 98 10) then
      ff_X8_tells_33 a1 v1.2 (
        ff_X8_tells_76 a1 v1.2 FU_ (15 : Int32) (0 : Int32) (0 : Int32)) FU_ (0 : Int32)
    else
      (ff_X8_meet (5 : Int32) v1.2).bind fun v29 =>
      some (v29.1, v29.2)
  else
    some (v1.1, v1.2)
def ff_X8_isAlone_20 (x1 : Int32) (x2 : Int32) (x3 : Int32) (x4 : Int32) (h : hh_) (K20_75 : Int32 → Option (Int32)) : Nat → Int32 → Int32 → Option (Int32)
  | 0, _, _ => none
  | n9 + 1, x5, x6 =>
    if (4 : Int32) ≤ x6 then
      K20_75 x5
    else
      if x5 = 0 then
        ff_X8_isAlone_20 x1 x2 x3 x4 h K20_75 n9 (0 : Int32) (x6 + (1 : Int32))
      else
        gd_ (bi_ x6 4) <|
        (ff_X8_least x1 x4 x6 h).bind fun v3 =>
        (ff_X8_most x1 x4 x6 h).bind fun v5 =>
        if (ff_X8_in (h.1 114 (Int32.toNatClampNeg x6)) v3 v5) = 0 then
          ff_X8_isAlone_20 x1 x2 x3 x4 h K20_75 n9 (0 : Int32) (x6 + (1 : Int32))
        else
          ff_X8_isAlone_20 x1 x2 x3 x4 h K20_75 n9 (1 : Int32) (x6 + (1 : Int32))
def ff_X8_isAlone_5 (x1 : Int32) (x2 : Int32) (h : hh_) : Nat → Int32 → Int32 → Option (Int32)
  | 0, _, _ => none
  | n9 + 1, x3, x4 =>
    if (h.1 98 10) ≤ x4 then
      gd_ (bz_ x3) <|
      some (x3)
    else
      ff_X8_isAlone_20 x1 x2 x3 x4 h (fun u7 =>
        if x3 = 0 then
          ff_X8_isAlone_5 x1 x2 h n9 (0 : Int32) (x4 + (1 : Int32))
        else
          if x4 = x2 then
            if u7 = (1 : Int32) then
              ff_X8_isAlone_5 x1 x2 h n9 (1 : Int32) (x4 + (1 : Int32))
            else
              ff_X8_isAlone_5 x1 x2 h n9 (0 : Int32) (x4 + (1 : Int32))
          else
            if u7 = (0 : Int32) then
              ff_X8_isAlone_5 x1 x2 h n9 (1 : Int32) (x4 + (1 : Int32))
            else
              ff_X8_isAlone_5 x1 x2 h n9 (0 : Int32) (x4 + (1 : Int32))) FU_ (1 : Int32) (0 : Int32)
def ff_X8_isAlone (a1 : Int32) (a2 : Int32) (h : hh_) : Option (Int32) :=
  ff_X8_isAlone_5 a1 a2 h FU_ (1 : Int32) (0 : Int32)
def ff_X8_lots_72 (x1 : Int32) (x2 : Int32) (x6 : Int32) (x7 : Int32) (x8 : Int32) (K72_127 : Int64 → hh_ → Option (Int32 × hh_)) : Nat → Int64 → Int32 → hh_ → Option (Int32 × hh_)
  | 0, _, _, _ => none
  | n9 + 1, x4, x9, h =>
    if (4 : Int32) ≤ x9 then
      K72_127 x4 h
    else
      (ff_X8_least x1 x8 x9 h).bind fun v2 =>
      (ff_X8_spread x1 x8 x9 h).bind fun v4 =>
      gd_ (bm_ (Int32.toInt64 v4)) <|
      gd_ (bi_ x9 4) <|
      ff_X8_lots_72 x1 x2 x6 x7 x8 K72_127 n9 (((48271 : Int64) * x4) - ((48271 : Int64) * x4) / (2147483647 : Int64) * (2147483647 : Int64)) (x9 + (1 : Int32)) (hh_sI h 114 (Int32.toNatClampNeg x9) (v2 + (Int64.toInt32 ((((48271 : Int64) * x4) - ((48271 : Int64) * x4) / (2147483647 : Int64) * (2147483647 : Int64)) - (((48271 : Int64) * x4) - ((48271 : Int64) * x4) / (2147483647 : Int64) * (2147483647 : Int64)) / (Int32.toInt64 v4) * (Int32.toInt64 v4)))))
def ff_X8_lots_40 (x1 : Int32) (x2 : Int32) : Nat → Int64 → Int32 → Int32 → hh_ → Option (Int32 × hh_)
  | 0, _, _, _, _ => none
  | n9 + 1, x4, x6, x7, h =>
    if x2 ≤ x7 then
      some (x6, h)
    else
      gd_ (bm_ (Int32.toInt64 (h.1 98 10))) <|
      ff_X8_lots_72 x1 x2 x6 x7 (Int64.toInt32 ((((48271 : Int64) * x4) - ((48271 : Int64) * x4) / (2147483647 : Int64) * (2147483647 : Int64)) - (((48271 : Int64) * x4) - ((48271 : Int64) * x4) / (2147483647 : Int64) * (2147483647 : Int64)) / (Int32.toInt64 (h.1 98 10)) * (Int32.toInt64 (h.1 98 10)))) (fun u8 k9 =>
        (ff_X8_isAlone x1 (Int64.toInt32 ((((48271 : Int64) * x4) - ((48271 : Int64) * x4) / (2147483647 : Int64) * (2147483647 : Int64)) - (((48271 : Int64) * x4) - ((48271 : Int64) * x4) / (2147483647 : Int64) * (2147483647 : Int64)) / (Int32.toInt64 (h.1 98 10)) * (Int32.toInt64 (h.1 98 10)))) k9).bind fun v10 =>
        if v10 = 0 then
          ff_X8_lots_40 x1 x2 n9 u8 (x6 + (0 : Int32)) (x7 + (1 : Int32)) k9
        else
          ff_X8_lots_40 x1 x2 n9 u8 (x6 + (1 : Int32)) (x7 + (1 : Int32)) k9) FU_ (((48271 : Int64) * x4) - ((48271 : Int64) * x4) / (2147483647 : Int64) * (2147483647 : Int64)) (0 : Int32) h
def ff_X8_lots (a1 : Int32) (a2 : Int32) (a3 : Int32) (h : hh_) : Option (Int32 × hh_) :=
  if (ff_X8_isThumb a1 h) = 0 then
    some ((-1 : Int32), h)
  else
    if (ff_X8_in a2 (1 : Int32) (5 : Int32)) = 0 then
      some ((-1 : Int32), h)
    else
      if (ff_X8_in a3 (1 : Int32) (2147483646 : Int32)) = 0 then
        some ((-1 : Int32), h)
      else
        ff_X8_lots_40 a1 a2 FU_ (Int32.toInt64 a3) (0 : Int32) (0 : Int32) h
def ff_X8_asked (h : hh_) : Int32 :=
  (h.1 98 2)
def ff_X8_upper (h : hh_) : Int64 :=
  (h.2.1 98 3)
def ff_X8_lower (h : hh_) : Int64 :=
  (h.2.1 98 4)
def ff_X8_tellsOf_99 (x1 : Int32) (x3 : Int32) (x4 : Int32) (y0 : Int32) (h : hh_) (K99_127 : Int32 → Option (Int32)) (K99_132 : Int32 → Int32 → Option (Int32)) : Option (Int32) :=
  if x1 = (8 : Int32) then
    if (3 : Int32) ≤ x4 then
      K99_132 y0 (0 : Int32)
    else
      gd_ (bi_ ((1030 : Int32) * x4) 3090) <|
      if (h.1 110 (Int32.toNatClampNeg ((1030 : Int32) * x4))) = (-9 : Int32) then
        K99_132 y0 (0 : Int32)
      else
        K99_127 y0
  else
    K99_132 y0 (0 : Int32)
def ff_X8_tellsOf_77 (x1 : Int32) (x3 : Int32) (x4 : Int32) (y0 : Int32) (h : hh_) (K77_127 : Int32 → Option (Int32)) (K77_132 : Int32 → Int32 → Option (Int32)) : Option (Int32) :=
  if x1 = (7 : Int32) then
    if (4 : Int32) ≤ x4 then
      ff_X8_tellsOf_99 x1 x3 x4 y0 h K77_127 K77_132
    else
      gd_ (bi_ x4 4) <|
      if 0 ≤ (h.1 103 (Int32.toNatClampNeg x4)) then
        K77_127 y0
      else
        ff_X8_tellsOf_99 x1 x3 x4 y0 h K77_127 K77_132
  else
    ff_X8_tellsOf_99 x1 x3 x4 y0 h K77_127 K77_132
def ff_X8_tellsOf_61 (x1 : Int32) (x3 : Int32) (x4 : Int32) (y0 : Int32) (h : hh_) (K61_127 : Int32 → Option (Int32)) (K61_132 : Int32 → Int32 → Option (Int32)) : Option (Int32) :=
  if x1 = (6 : Int32) then
    gd_ (bi_ x4 6) <|
    if 0 ≤ (h.1 100 (Int32.toNatClampNeg x4)) then
      K61_127 y0
    else
      ff_X8_tellsOf_77 x1 x3 x4 y0 h K61_127 K61_132
  else
    ff_X8_tellsOf_77 x1 x3 x4 y0 h K61_127 K61_132
def ff_X8_tellsOf_34 (x1 : Int32) (x2 : Int32) (x4 : Int32) (y0 : Int32) (y1 : Int32) (h : hh_) (K34_7 : Int32 → Int32 → Int32 → Option (Int32)) : Option (Int32) :=
  if x1 = (5 : Int32) then
    if (h.1 98 11) ≤ x4 then
      ff_X8_tellsOf_61 x1 (y0 + y1) x4 x2 h (fun q7 =>
        K34_7 (q7 + (1 : Int32)) (y0 + y1) (x4 + (1 : Int32))) (fun q8 q9 =>
        K34_7 (q8 + q9) (y0 + y1) (x4 + (1 : Int32)))
    else
      (ff_X8_isA x4 (3 : Int32) h).bind fun v10 =>
      if v10 = 0 then
        ff_X8_tellsOf_61 x1 (y0 + y1) x4 x2 h (fun q12 =>
          K34_7 (q12 + (1 : Int32)) (y0 + y1) (x4 + (1 : Int32))) (fun q13 q14 =>
          K34_7 (q13 + q14) (y0 + y1) (x4 + (1 : Int32)))
      else
        K34_7 (x2 + (1 : Int32)) (y0 + y1) (x4 + (1 : Int32))
  else
    ff_X8_tellsOf_61 x1 (y0 + y1) x4 x2 h (fun q4 =>
      K34_7 (q4 + (1 : Int32)) (y0 + y1) (x4 + (1 : Int32))) (fun q5 q6 =>
      K34_7 (q5 + q6) (y0 + y1) (x4 + (1 : Int32)))
def ff_X8_tellsOf_7 (x1 : Int32) (h : hh_) (K7_140 : Int32 → Int32 → Option (Int32)) : Nat → Int32 → Int32 → Int32 → Option (Int32)
  | 0, _, _, _ => none
  | n9 + 1, x2, x3, x4 =>
    if (6 : Int32) ≤ x4 then
      K7_140 x2 x3
    else
      if (h.1 98 10) ≤ x4 then
        ff_X8_tellsOf_34 x1 x2 x4 x3 (0 : Int32) h (fun z2 z3 z4 => ff_X8_tellsOf_7 x1 h K7_140 n9 z2 z3 z4)
      else
        (ff_X8_bumps x4 h).bind fun v15 =>
        ff_X8_tellsOf_34 x1 x2 x4 x3 v15 h (fun z2 z3 z4 => ff_X8_tellsOf_7 x1 h K7_140 n9 z2 z3 z4)
def ff_X8_tellsOf (a1 : Int32) (h : hh_) : Option (Int32) :=
  ff_X8_tellsOf_7 a1 h (fun u17 u18 =>
    if a1 = (0 : Int32) then
      some (h.1 98 10)
    else
      if a1 = (1 : Int32) then
        some (h.1 98 11)
      else
        if a1 = (2 : Int32) then
          some (h.1 98 12)
        else
          if a1 = (3 : Int32) then
            some (h.1 98 21)
          else
            if a1 = (4 : Int32) then
              some (u18)
            else
              some (u17)) FU_ (0 : Int32) (0 : Int32) (0 : Int32)
def ff_X8_count (a1 : Int32) (h : hh_) : Option (Int32) :=
  if (ff_X8_in a1 (0 : Int32) (8 : Int32)) = 0 then
    some (-1 : Int32)
  else
    (ff_X8_tellsOf a1 h).bind fun v1 =>
    some (v1)
def ff_X8_finding (h : hh_) : Int32 :=
  (h.1 98 0)
def ff_X8_findings (a1 : Int32) (h : hh_) : Option (Int32) :=
  if (ff_X8_in a1 (1 : Int32) (5 : Int32)) = 0 then
    some (-1 : Int32)
  else
    gd_ (bi_ a1 6) <|
    some (h.1 99 (Int32.toNatClampNeg a1))
def ff_X8_mix (a1 : Int32) (h : hh_) : hh_ :=
  (hh_sL h 98 30 (((31 : Int64) * (h.2.1 98 30)) + (Int32.toInt64 a1)))
def ff_X8_mixOffice_12 (x1 : Int32) (K12_33 : hh_ → Option (hh_)) : Nat → Int32 → hh_ → Option (hh_)
  | 0, _, _ => none
  | n9 + 1, x2, h =>
    if (5 : Int32) < x2 then
      K12_33 h
    else
      (ff_X8_headOf x1 x2 h).bind fun v1 =>
      ff_X8_mixOffice_12 x1 K12_33 n9 (x2 + (1 : Int32)) (ff_X8_mix v1 h)
def ff_X8_mixOffice_2 (K2_39 : hh_ → Option (hh_)) : Nat → Int32 → hh_ → Option (hh_)
  | 0, _, _ => none
  | n9 + 1, x1, h =>
    if (h.1 98 10) ≤ x1 then
      K2_39 h
    else
      ff_X8_mixOffice_12 x1 (fun k3 =>
        ff_X8_mixOffice_2 K2_39 n9 (x1 + (1 : Int32)) k3) FU_ (0 : Int32) h
def ff_X8_mixOffice_41 (K41_67 : hh_ → Option (hh_)) : Nat → Int32 → hh_ → Option (hh_)
  | 0, _, _ => none
  | n9 + 1, x1, h =>
    if ((3 : Int32) * (h.1 98 11)) ≤ x1 then
      K41_67 h
    else
      gd_ (bi_ x1 12) <|
      ff_X8_mixOffice_41 K41_67 n9 (x1 + (1 : Int32)) (ff_X8_mix (h.1 106 (Int32.toNatClampNeg x1)) h)
def ff_X8_mixOffice_69 (K69_95 : hh_ → Option (hh_)) : Nat → Int32 → hh_ → Option (hh_)
  | 0, _, _ => none
  | n9 + 1, x1, h =>
    if ((5 : Int32) * (h.1 98 12)) ≤ x1 then
      K69_95 h
    else
      gd_ (bi_ x1 20) <|
      ff_X8_mixOffice_69 K69_95 n9 (x1 + (1 : Int32)) (ff_X8_mix (h.1 107 (Int32.toNatClampNeg x1)) h)
def ff_X8_mixOffice_97 : Nat → Int32 → hh_ → Option (hh_)
  | 0, _, _ => none
  | n9 + 1, x1, h =>
    if (3 : Int32) ≤ x1 then
      some (h)
    else
      gd_ (bi_ ((1030 : Int32) * x1) 3090) <|
      if (h.1 110 (Int32.toNatClampNeg ((1030 : Int32) * x1))) = (-9 : Int32) then
        ff_X8_mixOffice_97 n9 (x1 + (1 : Int32)) (ff_X8_mix (-1 : Int32) h)
      else
        ff_X8_mixOffice_97 n9 (x1 + (1 : Int32)) (ff_X8_mix (h.1 110 (Int32.toNatClampNeg ((1030 : Int32) * x1))) h)
def ff_X8_mixOffice (h : hh_) : Option (hh_) :=
  ff_X8_mixOffice_2 (fun k4 =>
    ff_X8_mixOffice_41 (fun k6 =>
      ff_X8_mixOffice_69 (fun k8 =>
        ff_X8_mixOffice_97 FU_ (0 : Int32) k8) FU_ (0 : Int32) k6) FU_ (0 : Int32) k4) FU_ (0 : Int32) h
def ff_X8_digest_9 (K9_30 : hh_ → Option (Int64 × hh_)) : Nat → Int32 → hh_ → Option (Int64 × hh_)
  | 0, _, _ => none
  | n9 + 1, x1, h =>
    if (8 : Int32) < x1 then
      K9_30 h
    else
      (ff_X8_tellsOf x1 h).bind fun v1 =>
      ff_X8_digest_9 K9_30 n9 (x1 + (1 : Int32)) (ff_X8_mix v1 h)
def ff_X8_digest_67 (x1 : Int32) (K67_93 : hh_ → Option (Int64 × hh_)) : Nat → Int32 → hh_ → Option (Int64 × hh_)
  | 0, _, _ => none
  | n9 + 1, x2, h =>
    gd_ (bi_ x1 6) <|
    if (h.1 100 (Int32.toNatClampNeg x1)) ≤ x2 then
      K67_93 h
    else
      (ff_X8_rowAt x1 x2 h).bind fun v8 =>
      ff_X8_digest_67 x1 K67_93 n9 (x2 + (1 : Int32)) (ff_X8_mix v8 h)
def ff_X8_digest_62 (x1 : Int32) (y0 : Nat) (y1 : Int32) (h : hh_) (K62_36 : Int32 → hh_ → Option (Int64 × hh_)) : Option (Int64 × hh_) :=
  ff_X8_digest_67 x1 (fun k10 =>
    K62_36 (x1 + (1 : Int32)) k10) FU_ (0 : Int32) (ff_X8_mix y1 h)
def ff_X8_digest_36 (K36_99 : hh_ → Option (Int64 × hh_)) : Nat → Int32 → hh_ → Option (Int64 × hh_)
  | 0, _, _ => none
  | n9 + 1, x1, h =>
    if (6 : Int32) ≤ x1 then
      K36_99 h
    else
      gd_ (bi_ x1 6) <|
      if 0 ≤ (h.1 100 (Int32.toNatClampNeg x1)) then
        ff_X8_digest_62 x1 98 (h.1 100 (Int32.toNatClampNeg x1)) h (fun z1 h8 => ff_X8_digest_36 K36_99 n9 z1 h8)
      else
        ff_X8_digest_62 x1 98 (-1 : Int32) h (fun z1 h8 => ff_X8_digest_36 K36_99 n9 z1 h8)
def ff_X8_digest_131 (x1 : Int32) (K131_162 : hh_ → Option (Int64 × hh_)) : Nat → Int32 → hh_ → Option (Int64 × hh_)
  | 0, _, _ => none
  | n9 + 1, x2, h =>
    gd_ (bi_ x1 4) <|
    if (h.1 103 (Int32.toNatClampNeg x1)) ≤ x2 then
      K131_162 h
    else
      gd_ (bi_ (((80 : Int32) * x1) + x2) 320) <|
      ff_X8_digest_131 x1 K131_162 n9 (x2 + (1 : Int32)) (ff_X8_mix (h.1 104 (Int32.toNatClampNeg (((80 : Int32) * x1) + x2))) h)
def ff_X8_digest_126 (x1 : Int32) (y0 : Nat) (y1 : Int32) (h : hh_) (K126_101 : Int32 → hh_ → Option (Int64 × hh_)) : Option (Int64 × hh_) :=
  ff_X8_digest_131 x1 (fun k15 =>
    K126_101 (x1 + (1 : Int32)) k15) FU_ (0 : Int32) (ff_X8_mix y1 h)
def ff_X8_digest_101 : Nat → Int32 → hh_ → Option (Int64 × hh_)
  | 0, _, _ => none
  | n9 + 1, x1, h =>
    if (4 : Int32) ≤ x1 then
      some ((h.2.1 98 30), h)
    else
      gd_ (bi_ x1 4) <|
      if 0 ≤ (h.1 103 (Int32.toNatClampNeg x1)) then
        ff_X8_digest_126 x1 98 (h.1 103 (Int32.toNatClampNeg x1)) h (fun z1 h8 => ff_X8_digest_101 n9 z1 h8)
      else
        ff_X8_digest_126 x1 98 (-1 : Int32) h (fun z1 h8 => ff_X8_digest_101 n9 z1 h8)
def ff_X8_digest (h : hh_) : Option (Int64 × hh_) :=
  ff_X8_digest_9 (fun k3 =>
    (ff_X8_mixOffice k3).bind fun v4 =>
    ff_X8_digest_36 (fun k11 =>
      ff_X8_digest_101 FU_ (0 : Int32) k11) FU_ (0 : Int32) v4) FU_ (0 : Int32) (hh_sL h 98 30 (17 : Int64))
end
