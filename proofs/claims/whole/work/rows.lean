section
-- ===== PART A: goes FIRST, ahead of the names: the tables' words, and 'selects' of the private methods out of them =====
/-- a private method of a class that the tables say can be made, by its rows of tables_1 -/
def lw_okq (q : MethodName × Nat) : Prop := (q.1.cls ≠ "java/lang/invoke/MethodHandle" ∧ q.1.cls ≠ "java/lang/invoke/VarHandle") ∧ Cond.instantiable q.1.cls q.2 ∈ tables_1 ∧ Cond.privateMethod q.1 ∈ tables_1 ∧ Cond.instanceMethod q.1 ∈ tables_1
theorem lw_p0 : lw_okq (⟨"NotationDesk", "forgetModule", "()V"⟩, 17) := ⟨⟨by decide +kernel, by decide +kernel⟩, List.mem_of_getElem? (i := 23) (by decide +kernel), List.mem_of_getElem? (i := 261) (by decide +kernel), List.mem_of_getElem? (i := 262) (by decide +kernel)⟩
theorem lw_p1 : lw_okq (⟨"NotationDesk$Compiler", "readDefinition", "()V"⟩, 10) := ⟨⟨by decide +kernel, by decide +kernel⟩, List.mem_of_getElem? (i := 31) (by decide +kernel), List.mem_of_getElem? (i := 284) (by decide +kernel), List.mem_of_getElem? (i := 285) (by decide +kernel)⟩
theorem lw_p2 : lw_okq (⟨"NotationDesk$Compiler", "nextCharacter", "()I"⟩, 10) := ⟨⟨by decide +kernel, by decide +kernel⟩, List.mem_of_getElem? (i := 31) (by decide +kernel), List.mem_of_getElem? (i := 288) (by decide +kernel), List.mem_of_getElem? (i := 289) (by decide +kernel)⟩
theorem lw_p3 : lw_okq (⟨"NotationDesk$Compiler", "refuse", "(II)V"⟩, 10) := ⟨⟨by decide +kernel, by decide +kernel⟩, List.mem_of_getElem? (i := 31) (by decide +kernel), List.mem_of_getElem? (i := 295) (by decide +kernel), List.mem_of_getElem? (i := 296) (by decide +kernel)⟩
theorem lw_p4 : lw_okq (⟨"NotationDesk$Compiler", "pass", "(C)Z"⟩, 10) := ⟨⟨by decide +kernel, by decide +kernel⟩, List.mem_of_getElem? (i := 31) (by decide +kernel), List.mem_of_getElem? (i := 299) (by decide +kernel), List.mem_of_getElem? (i := 300) (by decide +kernel)⟩
theorem lw_p5 : lw_okq (⟨"NotationDesk$Compiler", "readType", "(I)LNotationDesk$Type;"⟩, 10) := ⟨⟨by decide +kernel, by decide +kernel⟩, List.mem_of_getElem? (i := 31) (by decide +kernel), List.mem_of_getElem? (i := 303) (by decide +kernel), List.mem_of_getElem? (i := 304) (by decide +kernel)⟩
theorem lw_p6 : lw_okq (⟨"NotationDesk$Compiler", "readTag", "()LNotationDesk$Type;"⟩, 10) := ⟨⟨by decide +kernel, by decide +kernel⟩, List.mem_of_getElem? (i := 31) (by decide +kernel), List.mem_of_getElem? (i := 307) (by decide +kernel), List.mem_of_getElem? (i := 308) (by decide +kernel)⟩
theorem lw_p7 : lw_okq (⟨"NotationDesk$Compiler", "newType", "(I)LNotationDesk$Type;"⟩, 10) := ⟨⟨by decide +kernel, by decide +kernel⟩, List.mem_of_getElem? (i := 31) (by decide +kernel), List.mem_of_getElem? (i := 314) (by decide +kernel), List.mem_of_getElem? (i := 315) (by decide +kernel)⟩
theorem lw_p8 : lw_okq (⟨"NotationDesk$Compiler", "readUntagged", "(I)LNotationDesk$Type;"⟩, 10) := ⟨⟨by decide +kernel, by decide +kernel⟩, List.mem_of_getElem? (i := 31) (by decide +kernel), List.mem_of_getElem? (i := 408) (by decide +kernel), List.mem_of_getElem? (i := 409) (by decide +kernel)⟩
theorem lw_p9 : lw_okq (⟨"NotationDesk$Compiler", "readReference", "(II)LNotationDesk$Type;"⟩, 10) := ⟨⟨by decide +kernel, by decide +kernel⟩, List.mem_of_getElem? (i := 31) (by decide +kernel), List.mem_of_getElem? (i := 412) (by decide +kernel), List.mem_of_getElem? (i := 413) (by decide +kernel)⟩
theorem lw_p10 : lw_okq (⟨"NotationDesk$Compiler", "readMembers", "(LNotationDesk$Type;I)Z"⟩, 10) := ⟨⟨by decide +kernel, by decide +kernel⟩, List.mem_of_getElem? (i := 31) (by decide +kernel), List.mem_of_getElem? (i := 419) (by decide +kernel), List.mem_of_getElem? (i := 420) (by decide +kernel)⟩
theorem lw_p11 : lw_okq (⟨"NotationDesk$Compiler", "readMember", "(LNotationDesk$Type;I)Z"⟩, 10) := ⟨⟨by decide +kernel, by decide +kernel⟩, List.mem_of_getElem? (i := 31) (by decide +kernel), List.mem_of_getElem? (i := 423) (by decide +kernel), List.mem_of_getElem? (i := 424) (by decide +kernel)⟩
theorem lw_p12 : lw_okq (⟨"NotationDesk$Compiler", "newMember", "(LNotationDesk$Type;)LNotationDesk$Component;"⟩, 10) := ⟨⟨by decide +kernel, by decide +kernel⟩, List.mem_of_getElem? (i := 31) (by decide +kernel), List.mem_of_getElem? (i := 427) (by decide +kernel), List.mem_of_getElem? (i := 428) (by decide +kernel)⟩
theorem lw_p13 : lw_okq (⟨"NotationDesk$Compiler", "readMode", "(LNotationDesk$Component;LNotationDesk$Type;)Z"⟩, 10) := ⟨⟨by decide +kernel, by decide +kernel⟩, List.mem_of_getElem? (i := 31) (by decide +kernel), List.mem_of_getElem? (i := 495) (by decide +kernel), List.mem_of_getElem? (i := 496) (by decide +kernel)⟩
theorem lw_p14 : lw_okq (⟨"NotationDesk$Compiler", "readNumber", "()Z"⟩, 10) := ⟨⟨by decide +kernel, by decide +kernel⟩, List.mem_of_getElem? (i := 31) (by decide +kernel), List.mem_of_getElem? (i := 499) (by decide +kernel), List.mem_of_getElem? (i := 500) (by decide +kernel)⟩
theorem lw_p15 : lw_okq (⟨"NotationDesk$Compiler", "closeMembers", "(LNotationDesk$Type;)Z"⟩, 10) := ⟨⟨by decide +kernel, by decide +kernel⟩, List.mem_of_getElem? (i := 31) (by decide +kernel), List.mem_of_getElem? (i := 510) (by decide +kernel), List.mem_of_getElem? (i := 511) (by decide +kernel)⟩
def lw_privs_1 : List (MethodName × Nat) := [(⟨"NotationDesk", "forgetModule", "()V"⟩, 17), (⟨"NotationDesk$Compiler", "readDefinition", "()V"⟩, 10), (⟨"NotationDesk$Compiler", "nextCharacter", "()I"⟩, 10), (⟨"NotationDesk$Compiler", "refuse", "(II)V"⟩, 10), (⟨"NotationDesk$Compiler", "pass", "(C)Z"⟩, 10), (⟨"NotationDesk$Compiler", "readType", "(I)LNotationDesk$Type;"⟩, 10), (⟨"NotationDesk$Compiler", "readTag", "()LNotationDesk$Type;"⟩, 10), (⟨"NotationDesk$Compiler", "newType", "(I)LNotationDesk$Type;"⟩, 10), (⟨"NotationDesk$Compiler", "readUntagged", "(I)LNotationDesk$Type;"⟩, 10), (⟨"NotationDesk$Compiler", "readReference", "(II)LNotationDesk$Type;"⟩, 10), (⟨"NotationDesk$Compiler", "readMembers", "(LNotationDesk$Type;I)Z"⟩, 10), (⟨"NotationDesk$Compiler", "readMember", "(LNotationDesk$Type;I)Z"⟩, 10), (⟨"NotationDesk$Compiler", "newMember", "(LNotationDesk$Type;)LNotationDesk$Component;"⟩, 10), (⟨"NotationDesk$Compiler", "readMode", "(LNotationDesk$Component;LNotationDesk$Type;)Z"⟩, 10), (⟨"NotationDesk$Compiler", "readNumber", "()Z"⟩, 10), (⟨"NotationDesk$Compiler", "closeMembers", "(LNotationDesk$Type;)Z"⟩, 10)]
theorem lw_r1 : ∀ q ∈ lw_privs_1, lw_okq q := List.forall_mem_cons.mpr ⟨lw_p0, List.forall_mem_cons.mpr ⟨lw_p1, List.forall_mem_cons.mpr ⟨lw_p2, List.forall_mem_cons.mpr ⟨lw_p3, List.forall_mem_cons.mpr ⟨lw_p4, List.forall_mem_cons.mpr ⟨lw_p5, List.forall_mem_cons.mpr ⟨lw_p6, List.forall_mem_cons.mpr ⟨lw_p7, List.forall_mem_cons.mpr ⟨lw_p8, List.forall_mem_cons.mpr ⟨lw_p9, List.forall_mem_cons.mpr ⟨lw_p10, List.forall_mem_cons.mpr ⟨lw_p11, List.forall_mem_cons.mpr ⟨lw_p12, List.forall_mem_cons.mpr ⟨lw_p13, List.forall_mem_cons.mpr ⟨lw_p14, List.forall_mem_cons.mpr ⟨lw_p15, fun _ h => absurd h List.not_mem_nil⟩⟩⟩⟩⟩⟩⟩⟩⟩⟩⟩⟩⟩⟩⟩⟩
theorem lw_p16 : lw_okq (⟨"NotationDesk$Compiler", "readBounds", "(LNotationDesk$Type;)Z"⟩, 10) := ⟨⟨by decide +kernel, by decide +kernel⟩, List.mem_of_getElem? (i := 31) (by decide +kernel), List.mem_of_getElem? (i := 532) (by decide +kernel), List.mem_of_getElem? (i := 533) (by decide +kernel)⟩
theorem lw_p17 : lw_okq (⟨"NotationDesk$Compiler", "readItems", "(LNotationDesk$Type;I)Z"⟩, 10) := ⟨⟨by decide +kernel, by decide +kernel⟩, List.mem_of_getElem? (i := 31) (by decide +kernel), List.mem_of_getElem? (i := 540) (by decide +kernel), List.mem_of_getElem? (i := 541) (by decide +kernel)⟩
theorem lw_p18 : lw_okq (⟨"java/lang/Throwable", "fillInStackTrace", "(I)Ljava/lang/Throwable;"⟩, 6) := ⟨⟨by decide +kernel, by decide +kernel⟩, List.mem_of_getElem? (i := 607) (by decide +kernel), List.mem_of_getElem? (i := 605) (by decide +kernel), List.mem_of_getElem? (i := 606) (by decide +kernel)⟩
theorem lw_p19 : lw_okq (⟨"NotationDesk", "readBuffer", "(LNotationDesk$Type;II)Z"⟩, 17) := ⟨⟨by decide +kernel, by decide +kernel⟩, List.mem_of_getElem? (i := 23) (by decide +kernel), List.mem_of_getElem? (i := 703) (by decide +kernel), List.mem_of_getElem? (i := 704) (by decide +kernel)⟩
theorem lw_p20 : lw_okq (⟨"NotationDesk$PackedReader", "readValue", "(LNotationDesk$Type;III)Z"⟩, 4) := ⟨⟨by decide +kernel, by decide +kernel⟩, List.mem_of_getElem? (i := 140) (by decide +kernel), List.mem_of_getElem? (i := 712) (by decide +kernel), List.mem_of_getElem? (i := 713) (by decide +kernel)⟩
theorem lw_p21 : lw_okq (⟨"NotationDesk$PackedReader", "takeBits", "(I)I"⟩, 4) := ⟨⟨by decide +kernel, by decide +kernel⟩, List.mem_of_getElem? (i := 140) (by decide +kernel), List.mem_of_getElem? (i := 720) (by decide +kernel), List.mem_of_getElem? (i := 721) (by decide +kernel)⟩
theorem lw_p22 : lw_okq (⟨"NotationDesk$PackedReader", "readBounded", "(LNotationDesk$Type;I)Z"⟩, 4) := ⟨⟨by decide +kernel, by decide +kernel⟩, List.mem_of_getElem? (i := 140) (by decide +kernel), List.mem_of_getElem? (i := 724) (by decide +kernel), List.mem_of_getElem? (i := 725) (by decide +kernel)⟩
theorem lw_p23 : lw_okq (⟨"NotationDesk$PackedReader", "takeNumber", "(I)I"⟩, 4) := ⟨⟨by decide +kernel, by decide +kernel⟩, List.mem_of_getElem? (i := 140) (by decide +kernel), List.mem_of_getElem? (i := 728) (by decide +kernel), List.mem_of_getElem? (i := 729) (by decide +kernel)⟩
theorem lw_p24 : lw_okq (⟨"NotationDesk$PackedReader", "align", "()Z"⟩, 4) := ⟨⟨by decide +kernel, by decide +kernel⟩, List.mem_of_getElem? (i := 140) (by decide +kernel), List.mem_of_getElem? (i := 732) (by decide +kernel), List.mem_of_getElem? (i := 733) (by decide +kernel)⟩
theorem lw_p25 : lw_okq (⟨"NotationDesk$PackedReader", "readUnbounded", "(I)Z"⟩, 4) := ⟨⟨by decide +kernel, by decide +kernel⟩, List.mem_of_getElem? (i := 140) (by decide +kernel), List.mem_of_getElem? (i := 739) (by decide +kernel), List.mem_of_getElem? (i := 740) (by decide +kernel)⟩
theorem lw_p26 : lw_okq (⟨"NotationDesk$PackedReader", "takeByte", "()I"⟩, 4) := ⟨⟨by decide +kernel, by decide +kernel⟩, List.mem_of_getElem? (i := 140) (by decide +kernel), List.mem_of_getElem? (i := 743) (by decide +kernel), List.mem_of_getElem? (i := 744) (by decide +kernel)⟩
theorem lw_p27 : lw_okq (⟨"NotationDesk$PackedReader", "readOctets", "(LNotationDesk$Type;I)Z"⟩, 4) := ⟨⟨by decide +kernel, by decide +kernel⟩, List.mem_of_getElem? (i := 140) (by decide +kernel), List.mem_of_getElem? (i := 753) (by decide +kernel), List.mem_of_getElem? (i := 754) (by decide +kernel)⟩
theorem lw_p28 : lw_okq (⟨"NotationDesk$PackedReader", "takeCount", "(LNotationDesk$Type;)I"⟩, 4) := ⟨⟨by decide +kernel, by decide +kernel⟩, List.mem_of_getElem? (i := 140) (by decide +kernel), List.mem_of_getElem? (i := 757) (by decide +kernel), List.mem_of_getElem? (i := 758) (by decide +kernel)⟩
theorem lw_p29 : lw_okq (⟨"NotationDesk$PackedReader", "readComponents", "(LNotationDesk$Type;II)Z"⟩, 4) := ⟨⟨by decide +kernel, by decide +kernel⟩, List.mem_of_getElem? (i := 140) (by decide +kernel), List.mem_of_getElem? (i := 769) (by decide +kernel), List.mem_of_getElem? (i := 770) (by decide +kernel)⟩
theorem lw_p30 : lw_okq (⟨"NotationDesk$PackedReader", "takePresence", "(LNotationDesk$Type;)I"⟩, 4) := ⟨⟨by decide +kernel, by decide +kernel⟩, List.mem_of_getElem? (i := 140) (by decide +kernel), List.mem_of_getElem? (i := 773) (by decide +kernel), List.mem_of_getElem? (i := 774) (by decide +kernel)⟩
theorem lw_p31 : lw_okq (⟨"NotationDesk$PackedReader", "readItems", "(LNotationDesk$Type;II)Z"⟩, 4) := ⟨⟨by decide +kernel, by decide +kernel⟩, List.mem_of_getElem? (i := 140) (by decide +kernel), List.mem_of_getElem? (i := 787) (by decide +kernel), List.mem_of_getElem? (i := 788) (by decide +kernel)⟩
def lw_privs_2 : List (MethodName × Nat) := [(⟨"NotationDesk$Compiler", "readBounds", "(LNotationDesk$Type;)Z"⟩, 10), (⟨"NotationDesk$Compiler", "readItems", "(LNotationDesk$Type;I)Z"⟩, 10), (⟨"java/lang/Throwable", "fillInStackTrace", "(I)Ljava/lang/Throwable;"⟩, 6), (⟨"NotationDesk", "readBuffer", "(LNotationDesk$Type;II)Z"⟩, 17), (⟨"NotationDesk$PackedReader", "readValue", "(LNotationDesk$Type;III)Z"⟩, 4), (⟨"NotationDesk$PackedReader", "takeBits", "(I)I"⟩, 4), (⟨"NotationDesk$PackedReader", "readBounded", "(LNotationDesk$Type;I)Z"⟩, 4), (⟨"NotationDesk$PackedReader", "takeNumber", "(I)I"⟩, 4), (⟨"NotationDesk$PackedReader", "align", "()Z"⟩, 4), (⟨"NotationDesk$PackedReader", "readUnbounded", "(I)Z"⟩, 4), (⟨"NotationDesk$PackedReader", "takeByte", "()I"⟩, 4), (⟨"NotationDesk$PackedReader", "readOctets", "(LNotationDesk$Type;I)Z"⟩, 4), (⟨"NotationDesk$PackedReader", "takeCount", "(LNotationDesk$Type;)I"⟩, 4), (⟨"NotationDesk$PackedReader", "readComponents", "(LNotationDesk$Type;II)Z"⟩, 4), (⟨"NotationDesk$PackedReader", "takePresence", "(LNotationDesk$Type;)I"⟩, 4), (⟨"NotationDesk$PackedReader", "readItems", "(LNotationDesk$Type;II)Z"⟩, 4)]
theorem lw_r2 : ∀ q ∈ lw_privs_2, lw_okq q := List.forall_mem_cons.mpr ⟨lw_p16, List.forall_mem_cons.mpr ⟨lw_p17, List.forall_mem_cons.mpr ⟨lw_p18, List.forall_mem_cons.mpr ⟨lw_p19, List.forall_mem_cons.mpr ⟨lw_p20, List.forall_mem_cons.mpr ⟨lw_p21, List.forall_mem_cons.mpr ⟨lw_p22, List.forall_mem_cons.mpr ⟨lw_p23, List.forall_mem_cons.mpr ⟨lw_p24, List.forall_mem_cons.mpr ⟨lw_p25, List.forall_mem_cons.mpr ⟨lw_p26, List.forall_mem_cons.mpr ⟨lw_p27, List.forall_mem_cons.mpr ⟨lw_p28, List.forall_mem_cons.mpr ⟨lw_p29, List.forall_mem_cons.mpr ⟨lw_p30, List.forall_mem_cons.mpr ⟨lw_p31, fun _ h => absurd h List.not_mem_nil⟩⟩⟩⟩⟩⟩⟩⟩⟩⟩⟩⟩⟩⟩⟩⟩
theorem lw_p32 : lw_okq (⟨"NotationDesk$PackedReader", "readChoice", "(LNotationDesk$Type;II)Z"⟩, 4) := ⟨⟨by decide +kernel, by decide +kernel⟩, List.mem_of_getElem? (i := 140) (by decide +kernel), List.mem_of_getElem? (i := 791) (by decide +kernel), List.mem_of_getElem? (i := 792) (by decide +kernel)⟩
theorem lw_p33 : lw_okq (⟨"NotationDesk$OpenReader", "readElement", "(LNotationDesk$Type;IIIII)Z"⟩, 4) := ⟨⟨by decide +kernel, by decide +kernel⟩, List.mem_of_getElem? (i := 121) (by decide +kernel), List.mem_of_getElem? (i := 803) (by decide +kernel), List.mem_of_getElem? (i := 804) (by decide +kernel)⟩
theorem lw_p34 : lw_okq (⟨"NotationDesk$OpenReader", "readTagged", "(LNotationDesk$Type;IIIII)Z"⟩, 4) := ⟨⟨by decide +kernel, by decide +kernel⟩, List.mem_of_getElem? (i := 121) (by decide +kernel), List.mem_of_getElem? (i := 807) (by decide +kernel), List.mem_of_getElem? (i := 808) (by decide +kernel)⟩
theorem lw_p35 : lw_okq (⟨"NotationDesk$OpenReader", "readHeader", "(IZI)I"⟩, 4) := ⟨⟨by decide +kernel, by decide +kernel⟩, List.mem_of_getElem? (i := 121) (by decide +kernel), List.mem_of_getElem? (i := 815) (by decide +kernel), List.mem_of_getElem? (i := 816) (by decide +kernel)⟩
theorem lw_p36 : lw_okq (⟨"NotationDesk$OpenReader", "readLongLength", "(II)I"⟩, 4) := ⟨⟨by decide +kernel, by decide +kernel⟩, List.mem_of_getElem? (i := 121) (by decide +kernel), List.mem_of_getElem? (i := 819) (by decide +kernel), List.mem_of_getElem? (i := 820) (by decide +kernel)⟩
theorem lw_p37 : lw_okq (⟨"NotationDesk$OpenReader", "readContentEnd", "(II)Z"⟩, 4) := ⟨⟨by decide +kernel, by decide +kernel⟩, List.mem_of_getElem? (i := 121) (by decide +kernel), List.mem_of_getElem? (i := 823) (by decide +kernel), List.mem_of_getElem? (i := 824) (by decide +kernel)⟩
theorem lw_p38 : lw_okq (⟨"NotationDesk$OpenReader", "readChoice", "(LNotationDesk$Type;IIII)Z"⟩, 4) := ⟨⟨by decide +kernel, by decide +kernel⟩, List.mem_of_getElem? (i := 121) (by decide +kernel), List.mem_of_getElem? (i := 827) (by decide +kernel), List.mem_of_getElem? (i := 828) (by decide +kernel)⟩
theorem lw_p39 : lw_okq (⟨"NotationDesk$OpenReader", "nextTagBit", "(I)I"⟩, 4) := ⟨⟨by decide +kernel, by decide +kernel⟩, List.mem_of_getElem? (i := 121) (by decide +kernel), List.mem_of_getElem? (i := 831) (by decide +kernel), List.mem_of_getElem? (i := 832) (by decide +kernel)⟩
theorem lw_p40 : lw_okq (⟨"NotationDesk$OpenReader", "readPlain", "(LNotationDesk$Type;II)Z"⟩, 4) := ⟨⟨by decide +kernel, by decide +kernel⟩, List.mem_of_getElem? (i := 121) (by decide +kernel), List.mem_of_getElem? (i := 845) (by decide +kernel), List.mem_of_getElem? (i := 846) (by decide +kernel)⟩
theorem lw_p41 : lw_okq (⟨"NotationDesk$OpenReader", "readBoolean", "(I)Z"⟩, 4) := ⟨⟨by decide +kernel, by decide +kernel⟩, List.mem_of_getElem? (i := 121) (by decide +kernel), List.mem_of_getElem? (i := 849) (by decide +kernel), List.mem_of_getElem? (i := 850) (by decide +kernel)⟩
theorem lw_p42 : lw_okq (⟨"NotationDesk$OpenReader", "readInteger", "(LNotationDesk$Type;II)Z"⟩, 4) := ⟨⟨by decide +kernel, by decide +kernel⟩, List.mem_of_getElem? (i := 121) (by decide +kernel), List.mem_of_getElem? (i := 853) (by decide +kernel), List.mem_of_getElem? (i := 854) (by decide +kernel)⟩
theorem lw_p43 : lw_okq (⟨"NotationDesk$OpenReader", "readOctets", "(II)Z"⟩, 4) := ⟨⟨by decide +kernel, by decide +kernel⟩, List.mem_of_getElem? (i := 121) (by decide +kernel), List.mem_of_getElem? (i := 860) (by decide +kernel), List.mem_of_getElem? (i := 861) (by decide +kernel)⟩
theorem lw_p44 : lw_okq (⟨"NotationDesk$OpenReader", "readItems", "(LNotationDesk$Type;III)Z"⟩, 4) := ⟨⟨by decide +kernel, by decide +kernel⟩, List.mem_of_getElem? (i := 121) (by decide +kernel), List.mem_of_getElem? (i := 865) (by decide +kernel), List.mem_of_getElem? (i := 866) (by decide +kernel)⟩
theorem lw_p45 : lw_okq (⟨"NotationDesk$OpenReader", "readComponents", "(LNotationDesk$Type;III)Z"⟩, 4) := ⟨⟨by decide +kernel, by decide +kernel⟩, List.mem_of_getElem? (i := 121) (by decide +kernel), List.mem_of_getElem? (i := 869) (by decide +kernel), List.mem_of_getElem? (i := 870) (by decide +kernel)⟩
theorem lw_p46 : lw_okq (⟨"NotationDesk", "writeFound", "(LNotationDesk$Type;II)I"⟩, 17) := ⟨⟨by decide +kernel, by decide +kernel⟩, List.mem_of_getElem? (i := 23) (by decide +kernel), List.mem_of_getElem? (i := 876) (by decide +kernel), List.mem_of_getElem? (i := 877) (by decide +kernel)⟩
theorem lw_p47 : lw_okq (⟨"NotationDesk$PackedWriter", "writeValue", "(LNotationDesk$Type;I)V"⟩, 5) := ⟨⟨by decide +kernel, by decide +kernel⟩, List.mem_of_getElem? (i := 181) (by decide +kernel), List.mem_of_getElem? (i := 884) (by decide +kernel), List.mem_of_getElem? (i := 885) (by decide +kernel)⟩
def lw_privs_3 : List (MethodName × Nat) := [(⟨"NotationDesk$PackedReader", "readChoice", "(LNotationDesk$Type;II)Z"⟩, 4), (⟨"NotationDesk$OpenReader", "readElement", "(LNotationDesk$Type;IIIII)Z"⟩, 4), (⟨"NotationDesk$OpenReader", "readTagged", "(LNotationDesk$Type;IIIII)Z"⟩, 4), (⟨"NotationDesk$OpenReader", "readHeader", "(IZI)I"⟩, 4), (⟨"NotationDesk$OpenReader", "readLongLength", "(II)I"⟩, 4), (⟨"NotationDesk$OpenReader", "readContentEnd", "(II)Z"⟩, 4), (⟨"NotationDesk$OpenReader", "readChoice", "(LNotationDesk$Type;IIII)Z"⟩, 4), (⟨"NotationDesk$OpenReader", "nextTagBit", "(I)I"⟩, 4), (⟨"NotationDesk$OpenReader", "readPlain", "(LNotationDesk$Type;II)Z"⟩, 4), (⟨"NotationDesk$OpenReader", "readBoolean", "(I)Z"⟩, 4), (⟨"NotationDesk$OpenReader", "readInteger", "(LNotationDesk$Type;II)Z"⟩, 4), (⟨"NotationDesk$OpenReader", "readOctets", "(II)Z"⟩, 4), (⟨"NotationDesk$OpenReader", "readItems", "(LNotationDesk$Type;III)Z"⟩, 4), (⟨"NotationDesk$OpenReader", "readComponents", "(LNotationDesk$Type;III)Z"⟩, 4), (⟨"NotationDesk", "writeFound", "(LNotationDesk$Type;II)I"⟩, 17), (⟨"NotationDesk$PackedWriter", "writeValue", "(LNotationDesk$Type;I)V"⟩, 5)]
theorem lw_r3 : ∀ q ∈ lw_privs_3, lw_okq q := List.forall_mem_cons.mpr ⟨lw_p32, List.forall_mem_cons.mpr ⟨lw_p33, List.forall_mem_cons.mpr ⟨lw_p34, List.forall_mem_cons.mpr ⟨lw_p35, List.forall_mem_cons.mpr ⟨lw_p36, List.forall_mem_cons.mpr ⟨lw_p37, List.forall_mem_cons.mpr ⟨lw_p38, List.forall_mem_cons.mpr ⟨lw_p39, List.forall_mem_cons.mpr ⟨lw_p40, List.forall_mem_cons.mpr ⟨lw_p41, List.forall_mem_cons.mpr ⟨lw_p42, List.forall_mem_cons.mpr ⟨lw_p43, List.forall_mem_cons.mpr ⟨lw_p44, List.forall_mem_cons.mpr ⟨lw_p45, List.forall_mem_cons.mpr ⟨lw_p46, List.forall_mem_cons.mpr ⟨lw_p47, fun _ h => absurd h List.not_mem_nil⟩⟩⟩⟩⟩⟩⟩⟩⟩⟩⟩⟩⟩⟩⟩⟩
theorem lw_p48 : lw_okq (⟨"NotationDesk$PackedWriter", "appendBits", "(II)V"⟩, 5) := ⟨⟨by decide +kernel, by decide +kernel⟩, List.mem_of_getElem? (i := 181) (by decide +kernel), List.mem_of_getElem? (i := 888) (by decide +kernel), List.mem_of_getElem? (i := 889) (by decide +kernel)⟩
theorem lw_p49 : lw_okq (⟨"NotationDesk$PackedWriter", "writeInteger", "(LNotationDesk$Type;I)V"⟩, 5) := ⟨⟨by decide +kernel, by decide +kernel⟩, List.mem_of_getElem? (i := 181) (by decide +kernel), List.mem_of_getElem? (i := 892) (by decide +kernel), List.mem_of_getElem? (i := 893) (by decide +kernel)⟩
theorem lw_p50 : lw_okq (⟨"NotationDesk$PackedWriter", "appendNumber", "(II)V"⟩, 5) := ⟨⟨by decide +kernel, by decide +kernel⟩, List.mem_of_getElem? (i := 181) (by decide +kernel), List.mem_of_getElem? (i := 896) (by decide +kernel), List.mem_of_getElem? (i := 897) (by decide +kernel)⟩
theorem lw_p51 : lw_okq (⟨"NotationDesk$PackedWriter", "align", "()V"⟩, 5) := ⟨⟨by decide +kernel, by decide +kernel⟩, List.mem_of_getElem? (i := 181) (by decide +kernel), List.mem_of_getElem? (i := 900) (by decide +kernel), List.mem_of_getElem? (i := 901) (by decide +kernel)⟩
theorem lw_p52 : lw_okq (⟨"NotationDesk$PackedWriter", "writeOctets", "(LNotationDesk$Type;I)V"⟩, 5) := ⟨⟨by decide +kernel, by decide +kernel⟩, List.mem_of_getElem? (i := 181) (by decide +kernel), List.mem_of_getElem? (i := 908) (by decide +kernel), List.mem_of_getElem? (i := 909) (by decide +kernel)⟩
theorem lw_p53 : lw_okq (⟨"NotationDesk$PackedWriter", "appendCount", "(LNotationDesk$Type;I)V"⟩, 5) := ⟨⟨by decide +kernel, by decide +kernel⟩, List.mem_of_getElem? (i := 181) (by decide +kernel), List.mem_of_getElem? (i := 912) (by decide +kernel), List.mem_of_getElem? (i := 913) (by decide +kernel)⟩
theorem lw_p54 : lw_okq (⟨"NotationDesk$PackedWriter", "writeComponents", "(LNotationDesk$Type;II)V"⟩, 5) := ⟨⟨by decide +kernel, by decide +kernel⟩, List.mem_of_getElem? (i := 181) (by decide +kernel), List.mem_of_getElem? (i := 921) (by decide +kernel), List.mem_of_getElem? (i := 922) (by decide +kernel)⟩
theorem lw_p55 : lw_okq (⟨"NotationDesk$PackedWriter", "writeItems", "(LNotationDesk$Type;II)V"⟩, 5) := ⟨⟨by decide +kernel, by decide +kernel⟩, List.mem_of_getElem? (i := 181) (by decide +kernel), List.mem_of_getElem? (i := 929) (by decide +kernel), List.mem_of_getElem? (i := 930) (by decide +kernel)⟩
theorem lw_p56 : lw_okq (⟨"NotationDesk$PackedWriter", "writeChoice", "(LNotationDesk$Type;II)V"⟩, 5) := ⟨⟨by decide +kernel, by decide +kernel⟩, List.mem_of_getElem? (i := 181) (by decide +kernel), List.mem_of_getElem? (i := 933) (by decide +kernel), List.mem_of_getElem? (i := 934) (by decide +kernel)⟩
theorem lw_p57 : lw_okq (⟨"NotationDesk$StrictWriter", "writeElement", "(LNotationDesk$Type;II)V"⟩, 5) := ⟨⟨by decide +kernel, by decide +kernel⟩, List.mem_of_getElem? (i := 159) (by decide +kernel), List.mem_of_getElem? (i := 945) (by decide +kernel), List.mem_of_getElem? (i := 946) (by decide +kernel)⟩
theorem lw_p58 : lw_okq (⟨"NotationDesk$StrictWriter", "writeChoice", "(LNotationDesk$Type;I)V"⟩, 5) := ⟨⟨by decide +kernel, by decide +kernel⟩, List.mem_of_getElem? (i := 159) (by decide +kernel), List.mem_of_getElem? (i := 949) (by decide +kernel), List.mem_of_getElem? (i := 950) (by decide +kernel)⟩
theorem lw_p59 : lw_okq (⟨"NotationDesk$StrictWriter", "beginElement", "(I)I"⟩, 5) := ⟨⟨by decide +kernel, by decide +kernel⟩, List.mem_of_getElem? (i := 159) (by decide +kernel), List.mem_of_getElem? (i := 955) (by decide +kernel), List.mem_of_getElem? (i := 956) (by decide +kernel)⟩
theorem lw_p60 : lw_okq (⟨"NotationDesk$StrictWriter", "append", "(I)V"⟩, 5) := ⟨⟨by decide +kernel, by decide +kernel⟩, List.mem_of_getElem? (i := 159) (by decide +kernel), List.mem_of_getElem? (i := 959) (by decide +kernel), List.mem_of_getElem? (i := 960) (by decide +kernel)⟩
theorem lw_p61 : lw_okq (⟨"NotationDesk$StrictWriter", "writeContent", "(LNotationDesk$Type;I)V"⟩, 5) := ⟨⟨by decide +kernel, by decide +kernel⟩, List.mem_of_getElem? (i := 159) (by decide +kernel), List.mem_of_getElem? (i := 963) (by decide +kernel), List.mem_of_getElem? (i := 964) (by decide +kernel)⟩
theorem lw_p62 : lw_okq (⟨"NotationDesk$StrictWriter", "writeInteger", "(I)V"⟩, 5) := ⟨⟨by decide +kernel, by decide +kernel⟩, List.mem_of_getElem? (i := 159) (by decide +kernel), List.mem_of_getElem? (i := 967) (by decide +kernel), List.mem_of_getElem? (i := 968) (by decide +kernel)⟩
theorem lw_p63 : lw_okq (⟨"NotationDesk$StrictWriter", "writeComponents", "(LNotationDesk$Type;II)V"⟩, 5) := ⟨⟨by decide +kernel, by decide +kernel⟩, List.mem_of_getElem? (i := 159) (by decide +kernel), List.mem_of_getElem? (i := 973) (by decide +kernel), List.mem_of_getElem? (i := 974) (by decide +kernel)⟩
def lw_privs_4 : List (MethodName × Nat) := [(⟨"NotationDesk$PackedWriter", "appendBits", "(II)V"⟩, 5), (⟨"NotationDesk$PackedWriter", "writeInteger", "(LNotationDesk$Type;I)V"⟩, 5), (⟨"NotationDesk$PackedWriter", "appendNumber", "(II)V"⟩, 5), (⟨"NotationDesk$PackedWriter", "align", "()V"⟩, 5), (⟨"NotationDesk$PackedWriter", "writeOctets", "(LNotationDesk$Type;I)V"⟩, 5), (⟨"NotationDesk$PackedWriter", "appendCount", "(LNotationDesk$Type;I)V"⟩, 5), (⟨"NotationDesk$PackedWriter", "writeComponents", "(LNotationDesk$Type;II)V"⟩, 5), (⟨"NotationDesk$PackedWriter", "writeItems", "(LNotationDesk$Type;II)V"⟩, 5), (⟨"NotationDesk$PackedWriter", "writeChoice", "(LNotationDesk$Type;II)V"⟩, 5), (⟨"NotationDesk$StrictWriter", "writeElement", "(LNotationDesk$Type;II)V"⟩, 5), (⟨"NotationDesk$StrictWriter", "writeChoice", "(LNotationDesk$Type;I)V"⟩, 5), (⟨"NotationDesk$StrictWriter", "beginElement", "(I)I"⟩, 5), (⟨"NotationDesk$StrictWriter", "append", "(I)V"⟩, 5), (⟨"NotationDesk$StrictWriter", "writeContent", "(LNotationDesk$Type;I)V"⟩, 5), (⟨"NotationDesk$StrictWriter", "writeInteger", "(I)V"⟩, 5), (⟨"NotationDesk$StrictWriter", "writeComponents", "(LNotationDesk$Type;II)V"⟩, 5)]
theorem lw_r4 : ∀ q ∈ lw_privs_4, lw_okq q := List.forall_mem_cons.mpr ⟨lw_p48, List.forall_mem_cons.mpr ⟨lw_p49, List.forall_mem_cons.mpr ⟨lw_p50, List.forall_mem_cons.mpr ⟨lw_p51, List.forall_mem_cons.mpr ⟨lw_p52, List.forall_mem_cons.mpr ⟨lw_p53, List.forall_mem_cons.mpr ⟨lw_p54, List.forall_mem_cons.mpr ⟨lw_p55, List.forall_mem_cons.mpr ⟨lw_p56, List.forall_mem_cons.mpr ⟨lw_p57, List.forall_mem_cons.mpr ⟨lw_p58, List.forall_mem_cons.mpr ⟨lw_p59, List.forall_mem_cons.mpr ⟨lw_p60, List.forall_mem_cons.mpr ⟨lw_p61, List.forall_mem_cons.mpr ⟨lw_p62, List.forall_mem_cons.mpr ⟨lw_p63, fun _ h => absurd h List.not_mem_nil⟩⟩⟩⟩⟩⟩⟩⟩⟩⟩⟩⟩⟩⟩⟩⟩
theorem lw_p64 : lw_okq (⟨"NotationDesk$StrictWriter", "endElement", "(I)V"⟩, 5) := ⟨⟨by decide +kernel, by decide +kernel⟩, List.mem_of_getElem? (i := 159) (by decide +kernel), List.mem_of_getElem? (i := 978) (by decide +kernel), List.mem_of_getElem? (i := 979) (by decide +kernel)⟩
theorem lw_p65 : lw_okq (⟨"NotationDesk", "keepWritten", "(I)V"⟩, 17) := ⟨⟨by decide +kernel, by decide +kernel⟩, List.mem_of_getElem? (i := 23) (by decide +kernel), List.mem_of_getElem? (i := 1005) (by decide +kernel), List.mem_of_getElem? (i := 1006) (by decide +kernel)⟩
theorem lw_p66 : lw_okq (⟨"NotationDesk", "refuseMessage", "(II)I"⟩, 17) := ⟨⟨by decide +kernel, by decide +kernel⟩, List.mem_of_getElem? (i := 23) (by decide +kernel), List.mem_of_getElem? (i := 1042) (by decide +kernel), List.mem_of_getElem? (i := 1043) (by decide +kernel)⟩
theorem lw_p67 : lw_okq (⟨"NotationDesk", "wasServed", "(I)Z"⟩, 17) := ⟨⟨by decide +kernel, by decide +kernel⟩, List.mem_of_getElem? (i := 23) (by decide +kernel), List.mem_of_getElem? (i := 1046) (by decide +kernel), List.mem_of_getElem? (i := 1047) (by decide +kernel)⟩
theorem lw_p68 : lw_okq (⟨"NotationDesk", "markServed", "(I)V"⟩, 17) := ⟨⟨by decide +kernel, by decide +kernel⟩, List.mem_of_getElem? (i := 23) (by decide +kernel), List.mem_of_getElem? (i := 1050) (by decide +kernel), List.mem_of_getElem? (i := 1051) (by decide +kernel)⟩
theorem lw_p69 : lw_okq (⟨"NotationDesk", "sayNoValue", "(I)I"⟩, 17) := ⟨⟨by decide +kernel, by decide +kernel⟩, List.mem_of_getElem? (i := 23) (by decide +kernel), List.mem_of_getElem? (i := 1054) (by decide +kernel), List.mem_of_getElem? (i := 1055) (by decide +kernel)⟩
theorem lw_p70 : lw_okq (⟨"NotationDeskModel", "leave", "()V"⟩, 59) := ⟨⟨by decide +kernel, by decide +kernel⟩, List.mem_of_getElem? (i := 1058) (by decide +kernel), List.mem_of_getElem? (i := 1064) (by decide +kernel), List.mem_of_getElem? (i := 1065) (by decide +kernel)⟩
theorem lw_p71 : lw_okq (⟨"NotationDeskModel", "definition", "()V"⟩, 59) := ⟨⟨by decide +kernel, by decide +kernel⟩, List.mem_of_getElem? (i := 1058) (by decide +kernel), List.mem_of_getElem? (i := 1263) (by decide +kernel), List.mem_of_getElem? (i := 1264) (by decide +kernel)⟩
theorem lw_p72 : lw_okq (⟨"NotationDeskModel", "look", "()I"⟩, 59) := ⟨⟨by decide +kernel, by decide +kernel⟩, List.mem_of_getElem? (i := 1058) (by decide +kernel), List.mem_of_getElem? (i := 1267) (by decide +kernel), List.mem_of_getElem? (i := 1268) (by decide +kernel)⟩
theorem lw_p73 : lw_okq (⟨"NotationDeskModel", "stop", "(II)I"⟩, 59) := ⟨⟨by decide +kernel, by decide +kernel⟩, List.mem_of_getElem? (i := 1058) (by decide +kernel), List.mem_of_getElem? (i := 1274) (by decide +kernel), List.mem_of_getElem? (i := 1275) (by decide +kernel)⟩
theorem lw_p74 : lw_okq (⟨"NotationDeskModel", "need", "(I)Z"⟩, 59) := ⟨⟨by decide +kernel, by decide +kernel⟩, List.mem_of_getElem? (i := 1058) (by decide +kernel), List.mem_of_getElem? (i := 1278) (by decide +kernel), List.mem_of_getElem? (i := 1279) (by decide +kernel)⟩
theorem lw_p75 : lw_okq (⟨"NotationDeskModel", "whole", "()I"⟩, 59) := ⟨⟨by decide +kernel, by decide +kernel⟩, List.mem_of_getElem? (i := 1058) (by decide +kernel), List.mem_of_getElem? (i := 1282) (by decide +kernel), List.mem_of_getElem? (i := 1283) (by decide +kernel)⟩
theorem lw_p76 : lw_okq (⟨"NotationDeskModel", "begin", "()I"⟩, 59) := ⟨⟨by decide +kernel, by decide +kernel⟩, List.mem_of_getElem? (i := 1058) (by decide +kernel), List.mem_of_getElem? (i := 1286) (by decide +kernel), List.mem_of_getElem? (i := 1287) (by decide +kernel)⟩
theorem lw_p77 : lw_okq (⟨"NotationDeskModel", "tagged", "()I"⟩, 59) := ⟨⟨by decide +kernel, by decide +kernel⟩, List.mem_of_getElem? (i := 1058) (by decide +kernel), List.mem_of_getElem? (i := 1290) (by decide +kernel), List.mem_of_getElem? (i := 1291) (by decide +kernel)⟩
theorem lw_p78 : lw_okq (⟨"NotationDeskModel", "add", "(I)I"⟩, 59) := ⟨⟨by decide +kernel, by decide +kernel⟩, List.mem_of_getElem? (i := 1058) (by decide +kernel), List.mem_of_getElem? (i := 1294) (by decide +kernel), List.mem_of_getElem? (i := 1295) (by decide +kernel)⟩
theorem lw_p79 : lw_okq (⟨"NotationDeskModel", "push", "(I)I"⟩, 59) := ⟨⟨by decide +kernel, by decide +kernel⟩, List.mem_of_getElem? (i := 1058) (by decide +kernel), List.mem_of_getElem? (i := 1298) (by decide +kernel), List.mem_of_getElem? (i := 1299) (by decide +kernel)⟩
def lw_privs_5 : List (MethodName × Nat) := [(⟨"NotationDesk$StrictWriter", "endElement", "(I)V"⟩, 5), (⟨"NotationDesk", "keepWritten", "(I)V"⟩, 17), (⟨"NotationDesk", "refuseMessage", "(II)I"⟩, 17), (⟨"NotationDesk", "wasServed", "(I)Z"⟩, 17), (⟨"NotationDesk", "markServed", "(I)V"⟩, 17), (⟨"NotationDesk", "sayNoValue", "(I)I"⟩, 17), (⟨"NotationDeskModel", "leave", "()V"⟩, 59), (⟨"NotationDeskModel", "definition", "()V"⟩, 59), (⟨"NotationDeskModel", "look", "()I"⟩, 59), (⟨"NotationDeskModel", "stop", "(II)I"⟩, 59), (⟨"NotationDeskModel", "need", "(I)Z"⟩, 59), (⟨"NotationDeskModel", "whole", "()I"⟩, 59), (⟨"NotationDeskModel", "begin", "()I"⟩, 59), (⟨"NotationDeskModel", "tagged", "()I"⟩, 59), (⟨"NotationDeskModel", "add", "(I)I"⟩, 59), (⟨"NotationDeskModel", "push", "(I)I"⟩, 59)]
theorem lw_r5 : ∀ q ∈ lw_privs_5, lw_okq q := List.forall_mem_cons.mpr ⟨lw_p64, List.forall_mem_cons.mpr ⟨lw_p65, List.forall_mem_cons.mpr ⟨lw_p66, List.forall_mem_cons.mpr ⟨lw_p67, List.forall_mem_cons.mpr ⟨lw_p68, List.forall_mem_cons.mpr ⟨lw_p69, List.forall_mem_cons.mpr ⟨lw_p70, List.forall_mem_cons.mpr ⟨lw_p71, List.forall_mem_cons.mpr ⟨lw_p72, List.forall_mem_cons.mpr ⟨lw_p73, List.forall_mem_cons.mpr ⟨lw_p74, List.forall_mem_cons.mpr ⟨lw_p75, List.forall_mem_cons.mpr ⟨lw_p76, List.forall_mem_cons.mpr ⟨lw_p77, List.forall_mem_cons.mpr ⟨lw_p78, List.forall_mem_cons.mpr ⟨lw_p79, fun _ h => absurd h List.not_mem_nil⟩⟩⟩⟩⟩⟩⟩⟩⟩⟩⟩⟩⟩⟩⟩⟩
theorem lw_p80 : lw_okq (⟨"NotationDeskModel", "named", "(I)I"⟩, 59) := ⟨⟨by decide +kernel, by decide +kernel⟩, List.mem_of_getElem? (i := 1058) (by decide +kernel), List.mem_of_getElem? (i := 1302) (by decide +kernel), List.mem_of_getElem? (i := 1303) (by decide +kernel)⟩
theorem lw_p81 : lw_okq (⟨"NotationDeskModel", "ranged", "(IZ)V"⟩, 59) := ⟨⟨by decide +kernel, by decide +kernel⟩, List.mem_of_getElem? (i := 1058) (by decide +kernel), List.mem_of_getElem? (i := 1306) (by decide +kernel), List.mem_of_getElem? (i := 1307) (by decide +kernel)⟩
theorem lw_p82 : lw_okq (⟨"NotationDeskModel", "numeral", "()Z"⟩, 59) := ⟨⟨by decide +kernel, by decide +kernel⟩, List.mem_of_getElem? (i := 1058) (by decide +kernel), List.mem_of_getElem? (i := 1310) (by decide +kernel), List.mem_of_getElem? (i := 1311) (by decide +kernel)⟩
theorem lw_p83 : lw_okq (⟨"NotationDeskModel", "end", "(I)I"⟩, 59) := ⟨⟨by decide +kernel, by decide +kernel⟩, List.mem_of_getElem? (i := 1058) (by decide +kernel), List.mem_of_getElem? (i := 1315) (by decide +kernel), List.mem_of_getElem? (i := 1316) (by decide +kernel)⟩
theorem lw_p84 : lw_okq (⟨"NotationDeskModel", "component", "(II)V"⟩, 59) := ⟨⟨by decide +kernel, by decide +kernel⟩, List.mem_of_getElem? (i := 1058) (by decide +kernel), List.mem_of_getElem? (i := 1319) (by decide +kernel), List.mem_of_getElem? (i := 1320) (by decide +kernel)⟩
theorem lw_p85 : lw_okq (⟨"NotationDeskModel", "unwrap", "(I)V"⟩, 59) := ⟨⟨by decide +kernel, by decide +kernel⟩, List.mem_of_getElem? (i := 1058) (by decide +kernel), List.mem_of_getElem? (i := 1323) (by decide +kernel), List.mem_of_getElem? (i := 1324) (by decide +kernel)⟩
theorem lw_p86 : lw_okq (⟨"NotationDeskModel", "clashes", "(I)Z"⟩, 59) := ⟨⟨by decide +kernel, by decide +kernel⟩, List.mem_of_getElem? (i := 1058) (by decide +kernel), List.mem_of_getElem? (i := 1327) (by decide +kernel), List.mem_of_getElem? (i := 1328) (by decide +kernel)⟩
theorem lw_p87 : lw_okq (⟨"NotationDeskModel", "asked", "(ZC)I"⟩, 59) := ⟨⟨by decide +kernel, by decide +kernel⟩, List.mem_of_getElem? (i := 1058) (by decide +kernel), List.mem_of_getElem? (i := 1348) (by decide +kernel), List.mem_of_getElem? (i := 1349) (by decide +kernel)⟩
theorem lw_p88 : lw_okq (⟨"NotationDeskModel", "typeOf", "(C)I"⟩, 59) := ⟨⟨by decide +kernel, by decide +kernel⟩, List.mem_of_getElem? (i := 1058) (by decide +kernel), List.mem_of_getElem? (i := 1352) (by decide +kernel), List.mem_of_getElem? (i := 1353) (by decide +kernel)⟩
theorem lw_p89 : lw_okq (⟨"NotationDeskModel", "load", "(I)V"⟩, 59) := ⟨⟨by decide +kernel, by decide +kernel⟩, List.mem_of_getElem? (i := 1058) (by decide +kernel), List.mem_of_getElem? (i := 1356) (by decide +kernel), List.mem_of_getElem? (i := 1357) (by decide +kernel)⟩
theorem lw_p90 : lw_okq (⟨"NotationDeskModel", "isValue", "(II)Z"⟩, 59) := ⟨⟨by decide +kernel, by decide +kernel⟩, List.mem_of_getElem? (i := 1058) (by decide +kernel), List.mem_of_getElem? (i := 1360) (by decide +kernel), List.mem_of_getElem? (i := 1361) (by decide +kernel)⟩
theorem lw_p91 : lw_okq (⟨"NotationDeskModel", "element", "(III)V"⟩, 59) := ⟨⟨by decide +kernel, by decide +kernel⟩, List.mem_of_getElem? (i := 1058) (by decide +kernel), List.mem_of_getElem? (i := 1364) (by decide +kernel), List.mem_of_getElem? (i := 1365) (by decide +kernel)⟩
theorem lw_p92 : lw_okq (⟨"NotationDeskModel", "next", "()I"⟩, 59) := ⟨⟨by decide +kernel, by decide +kernel⟩, List.mem_of_getElem? (i := 1058) (by decide +kernel), List.mem_of_getElem? (i := 1368) (by decide +kernel), List.mem_of_getElem? (i := 1369) (by decide +kernel)⟩
theorem lw_p93 : lw_okq (⟨"NotationDeskModel", "bound", "()I"⟩, 59) := ⟨⟨by decide +kernel, by decide +kernel⟩, List.mem_of_getElem? (i := 1058) (by decide +kernel), List.mem_of_getElem? (i := 1372) (by decide +kernel), List.mem_of_getElem? (i := 1373) (by decide +kernel)⟩
theorem lw_p94 : lw_okq (⟨"NotationDeskModel", "enter", "(I)V"⟩, 59) := ⟨⟨by decide +kernel, by decide +kernel⟩, List.mem_of_getElem? (i := 1058) (by decide +kernel), List.mem_of_getElem? (i := 1376) (by decide +kernel), List.mem_of_getElem? (i := 1377) (by decide +kernel)⟩
theorem lw_p95 : lw_okq (⟨"NotationDeskModel", "length", "(Z)I"⟩, 59) := ⟨⟨by decide +kernel, by decide +kernel⟩, List.mem_of_getElem? (i := 1058) (by decide +kernel), List.mem_of_getElem? (i := 1380) (by decide +kernel), List.mem_of_getElem? (i := 1381) (by decide +kernel)⟩
def lw_privs_6 : List (MethodName × Nat) := [(⟨"NotationDeskModel", "named", "(I)I"⟩, 59), (⟨"NotationDeskModel", "ranged", "(IZ)V"⟩, 59), (⟨"NotationDeskModel", "numeral", "()Z"⟩, 59), (⟨"NotationDeskModel", "end", "(I)I"⟩, 59), (⟨"NotationDeskModel", "component", "(II)V"⟩, 59), (⟨"NotationDeskModel", "unwrap", "(I)V"⟩, 59), (⟨"NotationDeskModel", "clashes", "(I)Z"⟩, 59), (⟨"NotationDeskModel", "asked", "(ZC)I"⟩, 59), (⟨"NotationDeskModel", "typeOf", "(C)I"⟩, 59), (⟨"NotationDeskModel", "load", "(I)V"⟩, 59), (⟨"NotationDeskModel", "isValue", "(II)Z"⟩, 59), (⟨"NotationDeskModel", "element", "(III)V"⟩, 59), (⟨"NotationDeskModel", "next", "()I"⟩, 59), (⟨"NotationDeskModel", "bound", "()I"⟩, 59), (⟨"NotationDeskModel", "enter", "(I)V"⟩, 59), (⟨"NotationDeskModel", "length", "(Z)I"⟩, 59)]
theorem lw_r6 : ∀ q ∈ lw_privs_6, lw_okq q := List.forall_mem_cons.mpr ⟨lw_p80, List.forall_mem_cons.mpr ⟨lw_p81, List.forall_mem_cons.mpr ⟨lw_p82, List.forall_mem_cons.mpr ⟨lw_p83, List.forall_mem_cons.mpr ⟨lw_p84, List.forall_mem_cons.mpr ⟨lw_p85, List.forall_mem_cons.mpr ⟨lw_p86, List.forall_mem_cons.mpr ⟨lw_p87, List.forall_mem_cons.mpr ⟨lw_p88, List.forall_mem_cons.mpr ⟨lw_p89, List.forall_mem_cons.mpr ⟨lw_p90, List.forall_mem_cons.mpr ⟨lw_p91, List.forall_mem_cons.mpr ⟨lw_p92, List.forall_mem_cons.mpr ⟨lw_p93, List.forall_mem_cons.mpr ⟨lw_p94, List.forall_mem_cons.mpr ⟨lw_p95, fun _ h => absurd h List.not_mem_nil⟩⟩⟩⟩⟩⟩⟩⟩⟩⟩⟩⟩⟩⟩⟩⟩
theorem lw_p96 : lw_okq (⟨"NotationDeskModel", "frame", "(IIZ)V"⟩, 59) := ⟨⟨by decide +kernel, by decide +kernel⟩, List.mem_of_getElem? (i := 1058) (by decide +kernel), List.mem_of_getElem? (i := 1384) (by decide +kernel), List.mem_of_getElem? (i := 1385) (by decide +kernel)⟩
theorem lw_p97 : lw_okq (⟨"NotationDeskModel", "adds", "(IIII)I"⟩, 59) := ⟨⟨by decide +kernel, by decide +kernel⟩, List.mem_of_getElem? (i := 1058) (by decide +kernel), List.mem_of_getElem? (i := 1391) (by decide +kernel), List.mem_of_getElem? (i := 1392) (by decide +kernel)⟩
theorem lw_p98 : lw_okq (⟨"NotationDeskModel", "inner", "(III)V"⟩, 59) := ⟨⟨by decide +kernel, by decide +kernel⟩, List.mem_of_getElem? (i := 1058) (by decide +kernel), List.mem_of_getElem? (i := 1395) (by decide +kernel), List.mem_of_getElem? (i := 1396) (by decide +kernel)⟩
theorem lw_p99 : lw_okq (⟨"NotationDeskModel", "want", "(III)V"⟩, 59) := ⟨⟨by decide +kernel, by decide +kernel⟩, List.mem_of_getElem? (i := 1058) (by decide +kernel), List.mem_of_getElem? (i := 1404) (by decide +kernel), List.mem_of_getElem? (i := 1405) (by decide +kernel)⟩
theorem lw_p100 : lw_okq (⟨"NotationDeskModel", "ranging", "(II)I"⟩, 59) := ⟨⟨by decide +kernel, by decide +kernel⟩, List.mem_of_getElem? (i := 1058) (by decide +kernel), List.mem_of_getElem? (i := 1408) (by decide +kernel), List.mem_of_getElem? (i := 1409) (by decide +kernel)⟩
theorem lw_p101 : lw_okq (⟨"NotationDeskModel", "align", "()V"⟩, 59) := ⟨⟨by decide +kernel, by decide +kernel⟩, List.mem_of_getElem? (i := 1058) (by decide +kernel), List.mem_of_getElem? (i := 1412) (by decide +kernel), List.mem_of_getElem? (i := 1413) (by decide +kernel)⟩
theorem lw_p102 : lw_okq (⟨"NotationDeskModel", "some", "(I)I"⟩, 59) := ⟨⟨by decide +kernel, by decide +kernel⟩, List.mem_of_getElem? (i := 1058) (by decide +kernel), List.mem_of_getElem? (i := 1419) (by decide +kernel), List.mem_of_getElem? (i := 1420) (by decide +kernel)⟩
theorem lw_p103 : lw_okq (⟨"NotationDeskModel", "bit", "()I"⟩, 59) := ⟨⟨by decide +kernel, by decide +kernel⟩, List.mem_of_getElem? (i := 1058) (by decide +kernel), List.mem_of_getElem? (i := 1423) (by decide +kernel), List.mem_of_getElem? (i := 1424) (by decide +kernel)⟩
theorem lw_p104 : lw_okq (⟨"NotationDeskModel", "rank", "(II)I"⟩, 59) := ⟨⟨by decide +kernel, by decide +kernel⟩, List.mem_of_getElem? (i := 1058) (by decide +kernel), List.mem_of_getElem? (i := 1427) (by decide +kernel), List.mem_of_getElem? (i := 1428) (by decide +kernel)⟩
theorem lw_p105 : lw_okq (⟨"NotationDeskModel", "counted", "(I)I"⟩, 59) := ⟨⟨by decide +kernel, by decide +kernel⟩, List.mem_of_getElem? (i := 1058) (by decide +kernel), List.mem_of_getElem? (i := 1431) (by decide +kernel), List.mem_of_getElem? (i := 1432) (by decide +kernel)⟩
theorem lw_p106 : lw_okq (⟨"NotationDeskModel", "goOn", "()V"⟩, 59) := ⟨⟨by decide +kernel, by decide +kernel⟩, List.mem_of_getElem? (i := 1058) (by decide +kernel), List.mem_of_getElem? (i := 1435) (by decide +kernel), List.mem_of_getElem? (i := 1436) (by decide +kernel)⟩
theorem lw_p107 : lw_okq (⟨"NotationDeskModel", "isEnd", "()Z"⟩, 59) := ⟨⟨by decide +kernel, by decide +kernel⟩, List.mem_of_getElem? (i := 1058) (by decide +kernel), List.mem_of_getElem? (i := 1439) (by decide +kernel), List.mem_of_getElem? (i := 1440) (by decide +kernel)⟩
theorem lw_p108 : lw_okq (⟨"NotationDeskModel", "baseOf", "(I)I"⟩, 59) := ⟨⟨by decide +kernel, by decide +kernel⟩, List.mem_of_getElem? (i := 1058) (by decide +kernel), List.mem_of_getElem? (i := 1443) (by decide +kernel), List.mem_of_getElem? (i := 1444) (by decide +kernel)⟩
theorem lw_p109 : lw_okq (⟨"NotationDeskModel", "leaveFrame", "()V"⟩, 59) := ⟨⟨by decide +kernel, by decide +kernel⟩, List.mem_of_getElem? (i := 1058) (by decide +kernel), List.mem_of_getElem? (i := 1447) (by decide +kernel), List.mem_of_getElem? (i := 1448) (by decide +kernel)⟩
theorem lw_p110 : lw_okq (⟨"NotationDeskModel", "absent", "(III)V"⟩, 59) := ⟨⟨by decide +kernel, by decide +kernel⟩, List.mem_of_getElem? (i := 1058) (by decide +kernel), List.mem_of_getElem? (i := 1451) (by decide +kernel), List.mem_of_getElem? (i := 1452) (by decide +kernel)⟩
theorem lw_p111 : lw_okq (⟨"NotationDeskModel", "goOnPacked", "()V"⟩, 59) := ⟨⟨by decide +kernel, by decide +kernel⟩, List.mem_of_getElem? (i := 1058) (by decide +kernel), List.mem_of_getElem? (i := 1455) (by decide +kernel), List.mem_of_getElem? (i := 1456) (by decide +kernel)⟩
def lw_privs_7 : List (MethodName × Nat) := [(⟨"NotationDeskModel", "frame", "(IIZ)V"⟩, 59), (⟨"NotationDeskModel", "adds", "(IIII)I"⟩, 59), (⟨"NotationDeskModel", "inner", "(III)V"⟩, 59), (⟨"NotationDeskModel", "want", "(III)V"⟩, 59), (⟨"NotationDeskModel", "ranging", "(II)I"⟩, 59), (⟨"NotationDeskModel", "align", "()V"⟩, 59), (⟨"NotationDeskModel", "some", "(I)I"⟩, 59), (⟨"NotationDeskModel", "bit", "()I"⟩, 59), (⟨"NotationDeskModel", "rank", "(II)I"⟩, 59), (⟨"NotationDeskModel", "counted", "(I)I"⟩, 59), (⟨"NotationDeskModel", "goOn", "()V"⟩, 59), (⟨"NotationDeskModel", "isEnd", "()Z"⟩, 59), (⟨"NotationDeskModel", "baseOf", "(I)I"⟩, 59), (⟨"NotationDeskModel", "leaveFrame", "()V"⟩, 59), (⟨"NotationDeskModel", "absent", "(III)V"⟩, 59), (⟨"NotationDeskModel", "goOnPacked", "()V"⟩, 59)]
theorem lw_r7 : ∀ q ∈ lw_privs_7, lw_okq q := List.forall_mem_cons.mpr ⟨lw_p96, List.forall_mem_cons.mpr ⟨lw_p97, List.forall_mem_cons.mpr ⟨lw_p98, List.forall_mem_cons.mpr ⟨lw_p99, List.forall_mem_cons.mpr ⟨lw_p100, List.forall_mem_cons.mpr ⟨lw_p101, List.forall_mem_cons.mpr ⟨lw_p102, List.forall_mem_cons.mpr ⟨lw_p103, List.forall_mem_cons.mpr ⟨lw_p104, List.forall_mem_cons.mpr ⟨lw_p105, List.forall_mem_cons.mpr ⟨lw_p106, List.forall_mem_cons.mpr ⟨lw_p107, List.forall_mem_cons.mpr ⟨lw_p108, List.forall_mem_cons.mpr ⟨lw_p109, List.forall_mem_cons.mpr ⟨lw_p110, List.forall_mem_cons.mpr ⟨lw_p111, fun _ h => absurd h List.not_mem_nil⟩⟩⟩⟩⟩⟩⟩⟩⟩⟩⟩⟩⟩⟩⟩⟩
theorem lw_p112 : lw_okq (⟨"NotationDeskModel", "settle", "()V"⟩, 59) := ⟨⟨by decide +kernel, by decide +kernel⟩, List.mem_of_getElem? (i := 1058) (by decide +kernel), List.mem_of_getElem? (i := 1459) (by decide +kernel), List.mem_of_getElem? (i := 1460) (by decide +kernel)⟩
theorem lw_p113 : lw_okq (⟨"NotationDeskModel", "write", "(I)V"⟩, 59) := ⟨⟨by decide +kernel, by decide +kernel⟩, List.mem_of_getElem? (i := 1058) (by decide +kernel), List.mem_of_getElem? (i := 1463) (by decide +kernel), List.mem_of_getElem? (i := 1464) (by decide +kernel)⟩
theorem lw_p114 : lw_okq (⟨"NotationDeskModel", "isLeft", "(I)Z"⟩, 59) := ⟨⟨by decide +kernel, by decide +kernel⟩, List.mem_of_getElem? (i := 1058) (by decide +kernel), List.mem_of_getElem? (i := 1467) (by decide +kernel), List.mem_of_getElem? (i := 1468) (by decide +kernel)⟩
theorem lw_p115 : lw_okq (⟨"NotationDeskModel", "encode", "(I)V"⟩, 59) := ⟨⟨by decide +kernel, by decide +kernel⟩, List.mem_of_getElem? (i := 1058) (by decide +kernel), List.mem_of_getElem? (i := 1471) (by decide +kernel), List.mem_of_getElem? (i := 1472) (by decide +kernel)⟩
theorem lw_p116 : lw_okq (⟨"NotationDeskModel", "make", "(I)V"⟩, 59) := ⟨⟨by decide +kernel, by decide +kernel⟩, List.mem_of_getElem? (i := 1058) (by decide +kernel), List.mem_of_getElem? (i := 1475) (by decide +kernel), List.mem_of_getElem? (i := 1476) (by decide +kernel)⟩
theorem lw_p117 : lw_okq (⟨"NotationDeskModel", "packed", "(I)V"⟩, 59) := ⟨⟨by decide +kernel, by decide +kernel⟩, List.mem_of_getElem? (i := 1058) (by decide +kernel), List.mem_of_getElem? (i := 1479) (by decide +kernel), List.mem_of_getElem? (i := 1480) (by decide +kernel)⟩
theorem lw_p118 : lw_okq (⟨"NotationDeskModel", "bring", "(II)V"⟩, 59) := ⟨⟨by decide +kernel, by decide +kernel⟩, List.mem_of_getElem? (i := 1058) (by decide +kernel), List.mem_of_getElem? (i := 1483) (by decide +kernel), List.mem_of_getElem? (i := 1484) (by decide +kernel)⟩
theorem lw_p119 : lw_okq (⟨"NotationDeskModel", "bringCount", "(II)V"⟩, 59) := ⟨⟨by decide +kernel, by decide +kernel⟩, List.mem_of_getElem? (i := 1058) (by decide +kernel), List.mem_of_getElem? (i := 1487) (by decide +kernel), List.mem_of_getElem? (i := 1488) (by decide +kernel)⟩
theorem lw_p120 : lw_okq (⟨"NotationDeskModel", "fill", "()V"⟩, 59) := ⟨⟨by decide +kernel, by decide +kernel⟩, List.mem_of_getElem? (i := 1058) (by decide +kernel), List.mem_of_getElem? (i := 1491) (by decide +kernel), List.mem_of_getElem? (i := 1492) (by decide +kernel)⟩
theorem lw_p121 : lw_okq (⟨"NotationDeskModel", "bringOf", "(III)V"⟩, 59) := ⟨⟨by decide +kernel, by decide +kernel⟩, List.mem_of_getElem? (i := 1058) (by decide +kernel), List.mem_of_getElem? (i := 1495) (by decide +kernel), List.mem_of_getElem? (i := 1496) (by decide +kernel)⟩
theorem lw_p122 : lw_okq (⟨"NotationDeskModel", "marks", "(II)V"⟩, 59) := ⟨⟨by decide +kernel, by decide +kernel⟩, List.mem_of_getElem? (i := 1058) (by decide +kernel), List.mem_of_getElem? (i := 1499) (by decide +kernel), List.mem_of_getElem? (i := 1500) (by decide +kernel)⟩
theorem lw_p123 : lw_okq (⟨"NotationDeskModel", "fails", "(I)I"⟩, 59) := ⟨⟨by decide +kernel, by decide +kernel⟩, List.mem_of_getElem? (i := 1058) (by decide +kernel), List.mem_of_getElem? (i := 1503) (by decide +kernel), List.mem_of_getElem? (i := 1504) (by decide +kernel)⟩
theorem lw_p124 : lw_okq (⟨"NotationDeskModel", "keep", "()V"⟩, 59) := ⟨⟨by decide +kernel, by decide +kernel⟩, List.mem_of_getElem? (i := 1058) (by decide +kernel), List.mem_of_getElem? (i := 1507) (by decide +kernel), List.mem_of_getElem? (i := 1508) (by decide +kernel)⟩
theorem lw_p125 : lw_okq (⟨"NotationDeskModel", "reply", "(IIII)I"⟩, 59) := ⟨⟨by decide +kernel, by decide +kernel⟩, List.mem_of_getElem? (i := 1058) (by decide +kernel), List.mem_of_getElem? (i := 1531) (by decide +kernel), List.mem_of_getElem? (i := 1532) (by decide +kernel)⟩
def lw_privs_8 : List (MethodName × Nat) := [(⟨"NotationDeskModel", "settle", "()V"⟩, 59), (⟨"NotationDeskModel", "write", "(I)V"⟩, 59), (⟨"NotationDeskModel", "isLeft", "(I)Z"⟩, 59), (⟨"NotationDeskModel", "encode", "(I)V"⟩, 59), (⟨"NotationDeskModel", "make", "(I)V"⟩, 59), (⟨"NotationDeskModel", "packed", "(I)V"⟩, 59), (⟨"NotationDeskModel", "bring", "(II)V"⟩, 59), (⟨"NotationDeskModel", "bringCount", "(II)V"⟩, 59), (⟨"NotationDeskModel", "fill", "()V"⟩, 59), (⟨"NotationDeskModel", "bringOf", "(III)V"⟩, 59), (⟨"NotationDeskModel", "marks", "(II)V"⟩, 59), (⟨"NotationDeskModel", "fails", "(I)I"⟩, 59), (⟨"NotationDeskModel", "keep", "()V"⟩, 59), (⟨"NotationDeskModel", "reply", "(IIII)I"⟩, 59)]
theorem lw_r8 : ∀ q ∈ lw_privs_8, lw_okq q := List.forall_mem_cons.mpr ⟨lw_p112, List.forall_mem_cons.mpr ⟨lw_p113, List.forall_mem_cons.mpr ⟨lw_p114, List.forall_mem_cons.mpr ⟨lw_p115, List.forall_mem_cons.mpr ⟨lw_p116, List.forall_mem_cons.mpr ⟨lw_p117, List.forall_mem_cons.mpr ⟨lw_p118, List.forall_mem_cons.mpr ⟨lw_p119, List.forall_mem_cons.mpr ⟨lw_p120, List.forall_mem_cons.mpr ⟨lw_p121, List.forall_mem_cons.mpr ⟨lw_p122, List.forall_mem_cons.mpr ⟨lw_p123, List.forall_mem_cons.mpr ⟨lw_p124, List.forall_mem_cons.mpr ⟨lw_p125, fun _ h => absurd h List.not_mem_nil⟩⟩⟩⟩⟩⟩⟩⟩⟩⟩⟩⟩⟩⟩
def lw_privs : List (MethodName × Nat) := lw_privs_1 ++ (lw_privs_2 ++ (lw_privs_3 ++ (lw_privs_4 ++ (lw_privs_5 ++ (lw_privs_6 ++ (lw_privs_7 ++ (lw_privs_8)))))))
def lw_tbl : List Cond := k2_sels lw_privs ++ tables_1
theorem lw_privs_ok : ∀ q ∈ lw_privs, lw_okq q := by
  show ∀ q ∈ lw_privs_1 ++ (lw_privs_2 ++ (lw_privs_3 ++ (lw_privs_4 ++ (lw_privs_5 ++ (lw_privs_6 ++ (lw_privs_7 ++ (lw_privs_8))))))), lw_okq q
  exact List.forall_mem_append.mpr ⟨lw_r1, List.forall_mem_append.mpr ⟨lw_r2, List.forall_mem_append.mpr ⟨lw_r3, List.forall_mem_append.mpr ⟨lw_r4, List.forall_mem_append.mpr ⟨lw_r5, List.forall_mem_append.mpr ⟨lw_r6, List.forall_mem_append.mpr ⟨lw_r7, lw_r8⟩⟩⟩⟩⟩⟩⟩
end
section
/-! NAMES: by program (tools/gen_names.py) out of JAVAP.txt and the tables' words. Classes by number; their fields; kinds of fields (0 an int, 1 a reference, 2 a long); types of arrays. -/
abbrev zm : Type := MethodName × ByteArray × Nat × Option FieldType
def TC : u_T := fun k => match k with
  | 0 => ("NotationDesk$Compiler", "text", "[C", true)
  | 1 => ("NotationDesk$Compiler", "defined", "[LNotationDesk$Type;", true)
  | 2 => ("NotationDesk$Compiler", "types", "[LNotationDesk$Type;", true)
  | 3 => ("NotationDesk$Compiler", "members", "[LNotationDesk$Component;", true)
  | 4 => ("NotationDesk$Compiler", "typeCount", "I", false)
  | 5 => ("NotationDesk$Compiler", "memberCount", "I", false)
  | 6 => ("NotationDesk$Compiler", "length", "I", false)
  | 7 => ("NotationDesk$Compiler", "position", "I", false)
  | 8 => ("NotationDesk$Compiler", "fault", "I", false)
  | _ => ("NotationDesk$Compiler", "number", "I", false)
def tyC : Nat → FieldType := fun k => match k with
  | 0 => .array .char
  | 1 => .array (.object "NotationDesk$Type")
  | 2 => .array (.object "NotationDesk$Type")
  | 3 => .array (.object "NotationDesk$Component")
  | 4 => .int
  | 5 => .int
  | 6 => .int
  | 7 => .int
  | 8 => .int
  | _ => .int
def TK : u_T := fun k => match k with
  | 0 => ("NotationDesk$Component", "type", "LNotationDesk$Type;", false)
  | 1 => ("NotationDesk$Component", "index", "I", false)
  | 2 => ("NotationDesk$Component", "mode", "I", false)
  | 3 => ("NotationDesk$Component", "number", "I", false)
  | 4 => ("NotationDesk$Component", "rank", "I", false)
  | _ => ("NotationDesk$Component", "next", "LNotationDesk$Component;", false)
def tyK : Nat → FieldType := fun k => match k with
  | 0 => .object "NotationDesk$Type"
  | 1 => .int
  | 2 => .int
  | 3 => .int
  | 4 => .int
  | _ => .object "NotationDesk$Component"
def TO : u_T := fun k => match k with
  | 0 => ("NotationDesk$OpenReader", "bytes", "[I", true)
  | 1 => ("NotationDesk$OpenReader", "value", "LNotationDesk$Value;", true)
  | 2 => ("NotationDesk$OpenReader", "strict", "Z", false)
  | _ => ("NotationDesk$OpenReader", "position", "I", false)
def tyO : Nat → FieldType := fun k => match k with
  | 0 => .array .int
  | 1 => .object "NotationDesk$Value"
  | 2 => .boolean
  | _ => .int
def TP : u_T := fun k => match k with
  | 0 => ("NotationDesk$PackedReader", "bytes", "[I", true)
  | 1 => ("NotationDesk$PackedReader", "value", "LNotationDesk$Value;", true)
  | 2 => ("NotationDesk$PackedReader", "bit", "I", false)
  | _ => ("NotationDesk$PackedReader", "endBit", "I", false)
def tyP : Nat → FieldType := fun k => match k with
  | 0 => .array .int
  | 1 => .object "NotationDesk$Value"
  | 2 => .int
  | _ => .int
def TQ : u_T := fun k => match k with
  | 0 => ("NotationDesk$PackedWriter", "bytes", "[I", true)
  | 1 => ("NotationDesk$PackedWriter", "value", "LNotationDesk$Value;", true)
  | 2 => ("NotationDesk$PackedWriter", "bit", "I", false)
  | 3 => ("NotationDesk$PackedWriter", "nextPart", "I", false)
  | _ => ("NotationDesk$PackedWriter", "full", "Z", false)
def tyQ : Nat → FieldType := fun k => match k with
  | 0 => .array .int
  | 1 => .object "NotationDesk$Value"
  | 2 => .int
  | 3 => .int
  | _ => .boolean
def TS : u_T := fun k => match k with
  | 0 => ("NotationDesk$StrictWriter", "bytes", "[I", true)
  | 1 => ("NotationDesk$StrictWriter", "value", "LNotationDesk$Value;", true)
  | 2 => ("NotationDesk$StrictWriter", "position", "I", false)
  | 3 => ("NotationDesk$StrictWriter", "nextPart", "I", false)
  | _ => ("NotationDesk$StrictWriter", "full", "Z", false)
def tyS : Nat → FieldType := fun k => match k with
  | 0 => .array .int
  | 1 => .object "NotationDesk$Value"
  | 2 => .int
  | 3 => .int
  | _ => .boolean
def TT : u_T := fun k => match k with
  | 0 => ("NotationDesk$Type", "kind", "I", false)
  | 1 => ("NotationDesk$Type", "bounded", "Z", false)
  | 2 => ("NotationDesk$Type", "low", "I", false)
  | 3 => ("NotationDesk$Type", "high", "I", false)
  | 4 => ("NotationDesk$Type", "digit", "I", false)
  | 5 => ("NotationDesk$Type", "explicit", "Z", false)
  | 6 => ("NotationDesk$Type", "tags", "I", false)
  | 7 => ("NotationDesk$Type", "height", "I", false)
  | 8 => ("NotationDesk$Type", "memberCount", "I", false)
  | 9 => ("NotationDesk$Type", "inner", "LNotationDesk$Type;", false)
  | 10 => ("NotationDesk$Type", "first", "LNotationDesk$Component;", false)
  | _ => ("NotationDesk$Type", "last", "LNotationDesk$Component;", false)
def tyT : Nat → FieldType := fun k => match k with
  | 0 => .int
  | 1 => .boolean
  | 2 => .int
  | 3 => .int
  | 4 => .int
  | 5 => .boolean
  | 6 => .int
  | 7 => .int
  | 8 => .int
  | 9 => .object "NotationDesk$Type"
  | 10 => .object "NotationDesk$Component"
  | _ => .object "NotationDesk$Component"
def TV : u_T := fun k => match k with
  | 0 => ("NotationDesk$Value", "count", "I", false)
  | 1 => ("NotationDesk$Value", "kind", "[I", true)
  | 2 => ("NotationDesk$Value", "number", "[I", true)
  | 3 => ("NotationDesk$Value", "place", "[I", true)
  | 4 => ("NotationDesk$Value", "parent", "[I", true)
  | 5 => ("NotationDesk$Value", "firstOctet", "[I", true)
  | 6 => ("NotationDesk$Value", "shown", "[I", true)
  | 7 => ("NotationDesk$Value", "octets", "[I", true)
  | _ => ("NotationDesk$Value", "octetCount", "I", false)
def tyV : Nat → FieldType := fun k => match k with
  | 0 => .int
  | 1 => .array .int
  | 2 => .array .int
  | 3 => .array .int
  | 4 => .array .int
  | 5 => .array .int
  | 6 => .array .int
  | 7 => .array .int
  | _ => .int
def TD : u_T := fun k => match k with
  | 0 => ("NotationDesk", "text", "[C", true)
  | 1 => ("NotationDesk", "textLength", "I", false)
  | 2 => ("NotationDesk", "compiler", "LNotationDesk$Compiler;", true)
  | 3 => ("NotationDesk", "compiled", "Z", false)
  | 4 => ("NotationDesk", "buffer", "[I", true)
  | 5 => ("NotationDesk", "length", "I", false)
  | 6 => ("NotationDesk", "written", "[I", true)
  | 7 => ("NotationDesk", "value", "LNotationDesk$Value;", true)
  | 8 => ("NotationDesk", "found", "LNotationDesk$Value;", true)
  | 9 => ("NotationDesk", "openReader", "LNotationDesk$OpenReader;", true)
  | 10 => ("NotationDesk", "packedReader", "LNotationDesk$PackedReader;", true)
  | 11 => ("NotationDesk", "strictWriter", "LNotationDesk$StrictWriter;", true)
  | 12 => ("NotationDesk", "packedWriter", "LNotationDesk$PackedWriter;", true)
  | 13 => ("NotationDesk", "operationTypes", "[LNotationDesk$Type;", true)
  | 14 => ("NotationDesk", "argumentRules", "[I", true)
  | 15 => ("NotationDesk", "answerRules", "[I", true)
  | _ => ("NotationDesk", "served", "[J", true)
def tyD : Nat → FieldType := fun k => match k with
  | 0 => .array .char
  | 1 => .int
  | 2 => .object "NotationDesk$Compiler"
  | 3 => .boolean
  | 4 => .array .int
  | 5 => .int
  | 6 => .array .int
  | 7 => .object "NotationDesk$Value"
  | 8 => .object "NotationDesk$Value"
  | 9 => .object "NotationDesk$OpenReader"
  | 10 => .object "NotationDesk$PackedReader"
  | 11 => .object "NotationDesk$StrictWriter"
  | 12 => .object "NotationDesk$PackedWriter"
  | 13 => .array (.object "NotationDesk$Type")
  | 14 => .array .int
  | 15 => .array .int
  | _ => .array .long
def TM : u_T := fun k => match k with
  | 0 => ("NotationDeskModel", "code", "I", false)
  | 1 => ("NotationDeskModel", "module", "Z", false)
  | 2 => ("NotationDeskModel", "size", "I", false)
  | 3 => ("NotationDeskModel", "place", "I", false)
  | 4 => ("NotationDeskModel", "fault", "I", false)
  | 5 => ("NotationDeskModel", "depth", "I", false)
  | 6 => ("NotationDeskModel", "told", "I", false)
  | 7 => ("NotationDeskModel", "text", "[C", true)
  | 8 => ("NotationDeskModel", "open", "[I", true)
  | 9 => ("NotationDeskModel", "names", "[I", true)
  | 10 => ("NotationDeskModel", "types", "I", false)
  | 11 => ("NotationDeskModel", "kind", "[I", true)
  | 12 => ("NotationDeskModel", "low", "[I", true)
  | 13 => ("NotationDeskModel", "high", "[I", true)
  | 14 => ("NotationDeskModel", "digit", "[I", true)
  | 15 => ("NotationDeskModel", "count", "[I", true)
  | 16 => ("NotationDeskModel", "begins", "[I", true)
  | 17 => ("NotationDeskModel", "height", "[I", true)
  | 18 => ("NotationDeskModel", "sized", "[Z", true)
  | 19 => ("NotationDeskModel", "implicit", "[Z", true)
  | 20 => ("NotationDeskModel", "child", "[I", true)
  | 21 => ("NotationDeskModel", "flag", "[I", true)
  | 22 => ("NotationDeskModel", "given", "[I", true)
  | 23 => ("NotationDeskModel", "base", "I", false)
  | 24 => ("NotationDeskModel", "tags", "I", false)
  | 25 => ("NotationDeskModel", "tag", "[I", true)
  | 26 => ("NotationDeskModel", "around", "[I", true)
  | 27 => ("NotationDeskModel", "buffered", "I", false)
  | 28 => ("NotationDeskModel", "sources", "I", false)
  | 29 => ("NotationDeskModel", "makes", "I", false)
  | 30 => ("NotationDeskModel", "bits", "I", false)
  | 31 => ("NotationDeskModel", "buffer", "[I", true)
  | 32 => ("NotationDeskModel", "source", "[I", true)
  | 33 => ("NotationDeskModel", "made", "[I", true)
  | 34 => ("NotationDeskModel", "many", "I", false)
  | 35 => ("NotationDeskModel", "held", "I", false)
  | 36 => ("NotationDeskModel", "type", "[I", true)
  | 37 => ("NotationDeskModel", "number", "[I", true)
  | 38 => ("NotationDeskModel", "which", "[I", true)
  | 39 => ("NotationDeskModel", "parent", "[I", true)
  | 40 => ("NotationDeskModel", "from", "[I", true)
  | 41 => ("NotationDeskModel", "below", "[I", true)
  | 42 => ("NotationDeskModel", "start", "[I", true)
  | 43 => ("NotationDeskModel", "octets", "[I", true)
  | 44 => ("NotationDeskModel", "parts", "I", false)
  | 45 => ("NotationDeskModel", "shown", "[I", true)
  | 46 => ("NotationDeskModel", "spelled", "[I", true)
  | 47 => ("NotationDeskModel", "at", "I", false)
  | 48 => ("NotationDeskModel", "frames", "I", false)
  | 49 => ("NotationDeskModel", "good", "Z", false)
  | 50 => ("NotationDeskModel", "framePart", "[I", true)
  | 51 => ("NotationDeskModel", "frameEnd", "[I", true)
  | 52 => ("NotationDeskModel", "frameNext", "[I", true)
  | 53 => ("NotationDeskModel", "frameBits", "[I", true)
  | 54 => ("NotationDeskModel", "loose", "[Z", true)
  | 55 => ("NotationDeskModel", "operationType", "[I", true)
  | 56 => ("NotationDeskModel", "takes", "[I", true)
  | 57 => ("NotationDeskModel", "answers", "[I", true)
  | _ => ("NotationDeskModel", "served", "[Z", true)
def tyM : Nat → FieldType := fun k => match k with
  | 0 => .int
  | 1 => .boolean
  | 2 => .int
  | 3 => .int
  | 4 => .int
  | 5 => .int
  | 6 => .int
  | 7 => .array .char
  | 8 => .array .int
  | 9 => .array .int
  | 10 => .int
  | 11 => .array .int
  | 12 => .array .int
  | 13 => .array .int
  | 14 => .array .int
  | 15 => .array .int
  | 16 => .array .int
  | 17 => .array .int
  | 18 => .array .boolean
  | 19 => .array .boolean
  | 20 => .array .int
  | 21 => .array .int
  | 22 => .array .int
  | 23 => .int
  | 24 => .int
  | 25 => .array .int
  | 26 => .array .int
  | 27 => .int
  | 28 => .int
  | 29 => .int
  | 30 => .int
  | 31 => .array .int
  | 32 => .array .int
  | 33 => .array .int
  | 34 => .int
  | 35 => .int
  | 36 => .array .int
  | 37 => .array .int
  | 38 => .array .int
  | 39 => .array .int
  | 40 => .array .int
  | 41 => .array .int
  | 42 => .array .int
  | 43 => .array .int
  | 44 => .int
  | 45 => .array .int
  | 46 => .array .int
  | 47 => .int
  | 48 => .int
  | 49 => .boolean
  | 50 => .array .int
  | 51 => .array .int
  | 52 => .array .int
  | 53 => .array .int
  | 54 => .array .boolean
  | 55 => .array .int
  | 56 => .array .int
  | 57 => .array .int
  | _ => .array .boolean
def zcl : List vw_C := [("NotationDesk$Compiler", TC, 10), ("NotationDesk$Component", TK, 6), ("NotationDesk$OpenReader", TO, 4), ("NotationDesk$PackedReader", TP, 4), ("NotationDesk$PackedWriter", TQ, 5), ("NotationDesk$StrictWriter", TS, 5), ("NotationDesk$Type", TT, 12), ("NotationDesk$Value", TV, 9), ("NotationDesk", TD, 17), ("NotationDeskModel", TM, 59)]
def zkd : Nat → List Nat := fun ci => match ci with
  | 0 => [1, 1, 1, 1, 0, 0, 0, 0, 0, 0]
  | 1 => [1, 0, 0, 0, 0, 1]
  | 2 => [1, 1, 0, 0]
  | 3 => [1, 1, 0, 0]
  | 4 => [1, 1, 0, 0, 0]
  | 5 => [1, 1, 0, 0, 0]
  | 6 => [0, 0, 0, 0, 0, 0, 0, 0, 0, 1, 1, 1]
  | 7 => [0, 1, 1, 1, 1, 1, 1, 1, 0]
  | 8 => [1, 0, 1, 0, 1, 0, 1, 1, 1, 1, 1, 1, 1, 1, 1, 1, 1]
  | 9 => [0, 0, 0, 0, 0, 0, 0, 1, 1, 1, 0, 1, 1, 1, 1, 1, 1, 1, 1, 1, 1, 1, 1, 0, 0, 1, 1, 0, 0, 0, 0, 1, 1, 1, 0, 0, 1, 1, 1, 1, 1, 1, 1, 1, 0, 1, 1, 0, 0, 0, 1, 1, 1, 1, 1, 1, 1, 1, 1]
  | _ => []
def zAT : List FieldType := [.int, .char, .long, .boolean, .object "NotationDesk$Type", .object "NotationDesk$Component"]
def zAO : List String := ["NotationDesk$Type", "NotationDesk$Component"]
/-- the words that go from a method to those that it calls -/
def zCW : List Cond := lw_tbl.filter goodWord
theorem zCW_good : ∀ w ∈ zCW, (w.onTables && w.keeps) = true ∨ ∃ ty, w = .arrayClass ty := fun w h => good_of_word (List.mem_filter.mp h).2
theorem zin (i : Nat) {w : Cond} (h : tables_1[i]? = some w) (hg : goodWord w = true) : w ∈ zCW := List.mem_filter.mpr ⟨List.mem_append_right _ (List.mem_of_getElem? h), hg⟩
theorem zsel (i : Nat) {y : MethodName} {n : Nat} (h : lw_privs[i]? = some (y, n)) (hg : goodWord (Cond.selects y.cls y y) = true) : Cond.selects y.cls y y ∈ zCW := List.mem_filter.mpr ⟨List.mem_append_left _ (List.mem_map.mpr ⟨(y, n), List.mem_of_getElem? h, rfl⟩), hg⟩
def mD_init : zm := (⟨"NotationDesk", "<init>", "()V"⟩, prog_1_method_1_code, 1, none)
def mD_type : zm := (⟨"NotationDesk", "type", "(C)Z"⟩, prog_1_method_2_code, 2, some .boolean)
def mD_clear : zm := (⟨"NotationDesk", "clear", "()I"⟩, prog_1_method_3_code, 2, some .int)
def mD_compile : zm := (⟨"NotationDesk", "compile", "()I"⟩, prog_1_method_4_code, 2, some .int)
def mD_put : zm := (⟨"NotationDesk", "put", "(JI)Z"⟩, prog_1_method_5_code, 5, some .boolean)
def mD_wipe : zm := (⟨"NotationDesk", "wipe", "()I"⟩, prog_1_method_6_code, 2, some .int)
def mD_at : zm := (⟨"NotationDesk", "at", "(I)I"⟩, prog_1_method_7_code, 2, some .int)
def mD_transcode : zm := (⟨"NotationDesk", "transcode", "(CII)I"⟩, prog_1_method_8_code, 6, some .int)
def mD_parts : zm := (⟨"NotationDesk", "parts", "()I"⟩, prog_1_method_9_code, 1, some .int)
def mD_part : zm := (⟨"NotationDesk", "part", "(II)I"⟩, prog_1_method_10_code, 3, some .int)
def mD_octet : zm := (⟨"NotationDesk", "octet", "(II)I"⟩, prog_1_method_11_code, 4, some .int)
def mD_operation : zm := (⟨"NotationDesk", "operation", "(ICII)V"⟩, prog_1_method_12_code, 6, none)
def mD_serve : zm := (⟨"NotationDesk", "serve", "()I"⟩, prog_1_method_13_code, 4, some .int)
def mD_sayNoValue : zm := (⟨"NotationDesk", "sayNoValue", "(I)I"⟩, prog_1_method_14_code, 2, some .int)
def mD_refuseMessage : zm := (⟨"NotationDesk", "refuseMessage", "(II)I"⟩, prog_1_method_15_code, 3, some .int)
def mD_wasServed : zm := (⟨"NotationDesk", "wasServed", "(I)Z"⟩, prog_1_method_16_code, 2, some .boolean)
def mD_markServed : zm := (⟨"NotationDesk", "markServed", "(I)V"⟩, prog_1_method_17_code, 2, none)
def mD_forgetModule : zm := (⟨"NotationDesk", "forgetModule", "()V"⟩, prog_1_method_18_code, 2, none)
def mD_areRules : zm := (⟨"NotationDesk", "areRules", "(II)Z"⟩, prog_1_method_19_code, 2, some .boolean)
def mD_readBuffer : zm := (⟨"NotationDesk", "readBuffer", "(LNotationDesk$Type;II)Z"⟩, prog_1_method_20_code, 4, some .boolean)
def mD_writeFound : zm := (⟨"NotationDesk", "writeFound", "(LNotationDesk$Type;II)I"⟩, prog_1_method_21_code, 4, some .int)
def mD_keepWritten : zm := (⟨"NotationDesk", "keepWritten", "(I)V"⟩, prog_1_method_22_code, 2, none)
def mM_init : zm := (⟨"NotationDeskModel", "<init>", "()V"⟩, prog_12_method_1_code, 1, none)
def mM_thrown : zm := (⟨"NotationDeskModel", "thrown", "()I"⟩, prog_12_method_2_code, 1, some .int)
def mM_fails : zm := (⟨"NotationDeskModel", "fails", "(I)I"⟩, prog_12_method_3_code, 2, some .int)
def mM_in : zm := (⟨"NotationDeskModel", "in", "(III)Z"⟩, prog_12_method_4_code, 3, some .boolean)
def mM_leave : zm := (⟨"NotationDeskModel", "leave", "()V"⟩, prog_12_method_5_code, 2, none)
def mM_type : zm := (⟨"NotationDeskModel", "type", "(C)Z"⟩, prog_12_method_6_code, 2, some .boolean)
def mM_clear : zm := (⟨"NotationDeskModel", "clear", "()I"⟩, prog_12_method_7_code, 2, some .int)
def mM_look : zm := (⟨"NotationDeskModel", "look", "()I"⟩, prog_12_method_8_code, 1, some .int)
def mM_stop : zm := (⟨"NotationDeskModel", "stop", "(II)I"⟩, prog_12_method_9_code, 3, some .int)
def mM_need : zm := (⟨"NotationDeskModel", "need", "(I)Z"⟩, prog_12_method_10_code, 2, some .boolean)
def mM_compile : zm := (⟨"NotationDeskModel", "compile", "()I"⟩, prog_12_method_11_code, 2, some .int)
def mM_definition : zm := (⟨"NotationDeskModel", "definition", "()V"⟩, prog_12_method_12_code, 3, none)
def mM_whole : zm := (⟨"NotationDeskModel", "whole", "()I"⟩, prog_12_method_13_code, 2, some .int)
def mM_add : zm := (⟨"NotationDeskModel", "add", "(I)I"⟩, prog_12_method_14_code, 4, some .int)
def mM_push : zm := (⟨"NotationDeskModel", "push", "(I)I"⟩, prog_12_method_15_code, 2, some .int)
def mM_begin : zm := (⟨"NotationDeskModel", "begin", "()I"⟩, prog_12_method_16_code, 4, some .int)
def mM_tagged : zm := (⟨"NotationDeskModel", "tagged", "()I"⟩, prog_12_method_17_code, 2, some .int)
def mM_named : zm := (⟨"NotationDeskModel", "named", "(I)I"⟩, prog_12_method_18_code, 2, some .int)
def mM_numeral : zm := (⟨"NotationDeskModel", "numeral", "()Z"⟩, prog_12_method_19_code, 4, some .boolean)
def mM_ranged : zm := (⟨"NotationDeskModel", "ranged", "(IZ)V"⟩, prog_12_method_20_code, 4, none)
def mM_end : zm := (⟨"NotationDeskModel", "end", "(I)I"⟩, prog_12_method_21_code, 4, some .int)
def mM_component : zm := (⟨"NotationDeskModel", "component", "(II)V"⟩, prog_12_method_22_code, 4, none)
def mM_clashes : zm := (⟨"NotationDeskModel", "clashes", "(I)Z"⟩, prog_12_method_23_code, 5, some .boolean)
def mM_unwrap : zm := (⟨"NotationDeskModel", "unwrap", "(I)V"⟩, prog_12_method_24_code, 6, none)
def mM_put : zm := (⟨"NotationDeskModel", "put", "(JI)Z"⟩, prog_12_method_25_code, 5, some .boolean)
def mM_wipe : zm := (⟨"NotationDeskModel", "wipe", "()I"⟩, prog_12_method_26_code, 2, some .int)
def mM_at : zm := (⟨"NotationDeskModel", "at", "(I)I"⟩, prog_12_method_27_code, 2, some .int)
def mM_adds : zm := (⟨"NotationDeskModel", "adds", "(IIII)I"⟩, prog_12_method_28_code, 5, some .int)
def mM_frame : zm := (⟨"NotationDeskModel", "frame", "(IIZ)V"⟩, prog_12_method_29_code, 4, none)
def mM_isValue : zm := (⟨"NotationDeskModel", "isValue", "(II)Z"⟩, prog_12_method_30_code, 4, some .boolean)
def mM_bound : zm := (⟨"NotationDeskModel", "bound", "()I"⟩, prog_12_method_31_code, 1, some .int)
def mM_next : zm := (⟨"NotationDeskModel", "next", "()I"⟩, prog_12_method_32_code, 1, some .int)
def mM_length : zm := (⟨"NotationDeskModel", "length", "(Z)I"⟩, prog_12_method_33_code, 3, some .int)
def mM_bitOf : zm := (⟨"NotationDeskModel", "bitOf", "(I)I"⟩, prog_12_method_34_code, 1, some .int)
def mM_enter : zm := (⟨"NotationDeskModel", "enter", "(I)V"⟩, prog_12_method_35_code, 3, none)
def mM_element : zm := (⟨"NotationDeskModel", "element", "(III)V"⟩, prog_12_method_36_code, 11, none)
def mM_inner : zm := (⟨"NotationDeskModel", "inner", "(III)V"⟩, prog_12_method_37_code, 10, none)
def mM_bytesOf : zm := (⟨"NotationDeskModel", "bytesOf", "(I)I"⟩, prog_12_method_38_code, 1, some .int)
def mM_isEnd : zm := (⟨"NotationDeskModel", "isEnd", "()Z"⟩, prog_12_method_39_code, 1, some .boolean)
def mM_leaveFrame : zm := (⟨"NotationDeskModel", "leaveFrame", "()V"⟩, prog_12_method_40_code, 1, none)
def mM_goOn : zm := (⟨"NotationDeskModel", "goOn", "()V"⟩, prog_12_method_41_code, 7, none)
def mM_absent : zm := (⟨"NotationDeskModel", "absent", "(III)V"⟩, prog_12_method_42_code, 5, none)
def mM_bit : zm := (⟨"NotationDeskModel", "bit", "()I"⟩, prog_12_method_43_code, 1, some .int)
def mM_some : zm := (⟨"NotationDeskModel", "some", "(I)I"⟩, prog_12_method_44_code, 4, some .int)
def mM_align : zm := (⟨"NotationDeskModel", "align", "()V"⟩, prog_12_method_45_code, 1, none)
def mM_width : zm := (⟨"NotationDeskModel", "width", "(I)I"⟩, prog_12_method_46_code, 2, some .int)
def mM_ranging : zm := (⟨"NotationDeskModel", "ranging", "(II)I"⟩, prog_12_method_47_code, 5, some .int)
def mM_counted : zm := (⟨"NotationDeskModel", "counted", "(I)I"⟩, prog_12_method_48_code, 3, some .int)
def mM_rank : zm := (⟨"NotationDeskModel", "rank", "(II)I"⟩, prog_12_method_49_code, 6, some .int)
def mM_want : zm := (⟨"NotationDeskModel", "want", "(III)V"⟩, prog_12_method_50_code, 10, none)
def mM_goOnPacked : zm := (⟨"NotationDeskModel", "goOnPacked", "()V"⟩, prog_12_method_51_code, 5, none)
def mM_baseOf : zm := (⟨"NotationDeskModel", "baseOf", "(I)I"⟩, prog_12_method_52_code, 2, some .int)
def mM_isLeft : zm := (⟨"NotationDeskModel", "isLeft", "(I)Z"⟩, prog_12_method_53_code, 4, some .boolean)
def mM_settle : zm := (⟨"NotationDeskModel", "settle", "()V"⟩, prog_12_method_54_code, 3, none)
def mM_make : zm := (⟨"NotationDeskModel", "make", "(I)V"⟩, prog_12_method_55_code, 2, none)
def mM_encode : zm := (⟨"NotationDeskModel", "encode", "(I)V"⟩, prog_12_method_56_code, 5, none)
def mM_write : zm := (⟨"NotationDeskModel", "write", "(I)V"⟩, prog_12_method_57_code, 3, none)
def mM_bring : zm := (⟨"NotationDeskModel", "bring", "(II)V"⟩, prog_12_method_58_code, 4, none)
def mM_fill : zm := (⟨"NotationDeskModel", "fill", "()V"⟩, prog_12_method_59_code, 1, none)
def mM_bringOf : zm := (⟨"NotationDeskModel", "bringOf", "(III)V"⟩, prog_12_method_60_code, 5, none)
def mM_bringCount : zm := (⟨"NotationDeskModel", "bringCount", "(II)V"⟩, prog_12_method_61_code, 3, none)
def mM_packed : zm := (⟨"NotationDeskModel", "packed", "(I)V"⟩, prog_12_method_62_code, 6, none)
def mM_marks : zm := (⟨"NotationDeskModel", "marks", "(II)V"⟩, prog_12_method_63_code, 6, none)
def mM_keep : zm := (⟨"NotationDeskModel", "keep", "()V"⟩, prog_12_method_64_code, 2, none)
def mM_typeOf : zm := (⟨"NotationDeskModel", "typeOf", "(C)I"⟩, prog_12_method_65_code, 2, some .int)
def mM_asked : zm := (⟨"NotationDeskModel", "asked", "(ZC)I"⟩, prog_12_method_66_code, 3, some .int)
def mM_load : zm := (⟨"NotationDeskModel", "load", "(I)V"⟩, prog_12_method_67_code, 3, none)
def mM_transcode : zm := (⟨"NotationDeskModel", "transcode", "(CII)I"⟩, prog_12_method_68_code, 5, some .int)
def mM_parts : zm := (⟨"NotationDeskModel", "parts", "()I"⟩, prog_12_method_69_code, 1, some .int)
def mM_part : zm := (⟨"NotationDeskModel", "part", "(II)I"⟩, prog_12_method_70_code, 3, some .int)
def mM_octet : zm := (⟨"NotationDeskModel", "octet", "(II)I"⟩, prog_12_method_71_code, 3, some .int)
def mM_operation : zm := (⟨"NotationDeskModel", "operation", "(ICII)V"⟩, prog_12_method_72_code, 5, none)
def mM_reply : zm := (⟨"NotationDeskModel", "reply", "(IIII)I"⟩, prog_12_method_73_code, 5, some .int)
def mM_serve : zm := (⟨"NotationDeskModel", "serve", "()I"⟩, prog_12_method_74_code, 5, some .int)
def mC_init : zm := (⟨"NotationDesk$Compiler", "<init>", "([C)V"⟩, prog_2_method_1_code, 2, none)
def mC_typeNamed : zm := (⟨"NotationDesk$Compiler", "typeNamed", "(C)LNotationDesk$Type;"⟩, prog_2_method_2_code, 2, some (.object "NotationDesk$Type"))
def mC_translate : zm := (⟨"NotationDesk$Compiler", "translate", "(I)I"⟩, prog_2_method_3_code, 3, some .int)
def mC_readDefinition : zm := (⟨"NotationDesk$Compiler", "readDefinition", "()V"⟩, prog_2_method_4_code, 3, none)
def mC_readType : zm := (⟨"NotationDesk$Compiler", "readType", "(I)LNotationDesk$Type;"⟩, prog_2_method_5_code, 6, some (.object "NotationDesk$Type"))
def mC_setHeights : zm := (⟨"NotationDesk$Compiler", "setHeights", "(LNotationDesk$Type;LNotationDesk$Type;I)V"⟩, prog_2_method_6_code, 5, none)
def mC_readTag : zm := (⟨"NotationDesk$Compiler", "readTag", "()LNotationDesk$Type;"⟩, prog_2_method_7_code, 4, some (.object "NotationDesk$Type"))
def mC_readUntagged : zm := (⟨"NotationDesk$Compiler", "readUntagged", "(I)LNotationDesk$Type;"⟩, prog_2_method_8_code, 6, some (.object "NotationDesk$Type"))
def mC_kindOf : zm := (⟨"NotationDesk$Compiler", "kindOf", "(I)I"⟩, prog_2_method_9_code, 1, some .int)
def mC_readReference : zm := (⟨"NotationDesk$Compiler", "readReference", "(II)LNotationDesk$Type;"⟩, prog_2_method_10_code, 4, some (.object "NotationDesk$Type"))
def mC_readItems : zm := (⟨"NotationDesk$Compiler", "readItems", "(LNotationDesk$Type;I)Z"⟩, prog_2_method_11_code, 4, some .boolean)
def mC_readBounds : zm := (⟨"NotationDesk$Compiler", "readBounds", "(LNotationDesk$Type;)Z"⟩, prog_2_method_12_code, 2, some .boolean)
def mC_areBounds : zm := (⟨"NotationDesk$Compiler", "areBounds", "(LNotationDesk$Type;)Z"⟩, prog_2_method_13_code, 1, some .boolean)
def mC_readNumber : zm := (⟨"NotationDesk$Compiler", "readNumber", "()Z"⟩, prog_2_method_14_code, 4, some .boolean)
def mC_readMembers : zm := (⟨"NotationDesk$Compiler", "readMembers", "(LNotationDesk$Type;I)Z"⟩, prog_2_method_15_code, 4, some .boolean)
def mC_readMember : zm := (⟨"NotationDesk$Compiler", "readMember", "(LNotationDesk$Type;I)Z"⟩, prog_2_method_16_code, 5, some .boolean)
def mC_readMode : zm := (⟨"NotationDesk$Compiler", "readMode", "(LNotationDesk$Component;LNotationDesk$Type;)Z"⟩, prog_2_method_17_code, 3, some .boolean)
def mC_isDefault : zm := (⟨"NotationDesk$Compiler", "isDefault", "(LNotationDesk$Type;I)Z"⟩, prog_2_method_18_code, 2, some .boolean)
def mC_closeMembers : zm := (⟨"NotationDesk$Compiler", "closeMembers", "(LNotationDesk$Type;)Z"⟩, prog_2_method_19_code, 3, some .boolean)
def mC_alternativesClash : zm := (⟨"NotationDesk$Compiler", "alternativesClash", "(LNotationDesk$Type;)Z"⟩, prog_2_method_20_code, 3, some .boolean)
def mC_componentsClash : zm := (⟨"NotationDesk$Compiler", "componentsClash", "(LNotationDesk$Type;)Z"⟩, prog_2_method_21_code, 3, some .boolean)
def mC_gatherAlternatives : zm := (⟨"NotationDesk$Compiler", "gatherAlternatives", "(LNotationDesk$Type;)V"⟩, prog_2_method_22_code, 3, none)
def mC_newType : zm := (⟨"NotationDesk$Compiler", "newType", "(I)LNotationDesk$Type;"⟩, prog_2_method_23_code, 3, some (.object "NotationDesk$Type"))
def mC_newMember : zm := (⟨"NotationDesk$Compiler", "newMember", "(LNotationDesk$Type;)LNotationDesk$Component;"⟩, prog_2_method_24_code, 3, some (.object "NotationDesk$Component"))
def mC_nextCharacter : zm := (⟨"NotationDesk$Compiler", "nextCharacter", "()I"⟩, prog_2_method_25_code, 1, some .int)
def mC_pass : zm := (⟨"NotationDesk$Compiler", "pass", "(C)Z"⟩, prog_2_method_26_code, 2, some .boolean)
def mC_refuse : zm := (⟨"NotationDesk$Compiler", "refuse", "(II)V"⟩, prog_2_method_27_code, 3, none)
def mC_isName : zm := (⟨"NotationDesk$Compiler", "isName", "(I)Z"⟩, prog_2_method_28_code, 1, some .boolean)
def mC_isDigit : zm := (⟨"NotationDesk$Compiler", "isDigit", "(I)Z"⟩, prog_2_method_29_code, 1, some .boolean)
def mK_init : zm := (⟨"NotationDesk$Component", "<init>", "()V"⟩, prog_3_method_1_code, 1, none)
def mK_begin : zm := (⟨"NotationDesk$Component", "begin", "(LNotationDesk$Type;)V"⟩, prog_3_method_2_code, 2, none)
def mK_tags : zm := (⟨"NotationDesk$Component", "tags", "()I"⟩, prog_3_method_3_code, 1, some .int)
def mK_leastTag : zm := (⟨"NotationDesk$Component", "leastTag", "()I"⟩, prog_3_method_4_code, 1, some .int)
def mI_areBytesOfOne : zm := (⟨"NotationDesk$Integers", "areBytesOfOne", "([III)Z"⟩, prog_4_method_2_code, 4, some .boolean)
def mI_fromBytes : zm := (⟨"NotationDesk$Integers", "fromBytes", "([III)I"⟩, prog_4_method_3_code, 5, some .int)
def mI_byteCount : zm := (⟨"NotationDesk$Integers", "byteCount", "(I)I"⟩, prog_4_method_4_code, 2, some .int)
def mI_bitsOfNumbersTo : zm := (⟨"NotationDesk$Integers", "bitsOfNumbersTo", "(I)I"⟩, prog_4_method_5_code, 2, some .int)
def mO_init : zm := (⟨"NotationDesk$OpenReader", "<init>", "([ILNotationDesk$Value;)V"⟩, prog_5_method_1_code, 3, none)
def mO_readAll : zm := (⟨"NotationDesk$OpenReader", "readAll", "(LNotationDesk$Type;IIZ)Z"⟩, prog_5_method_2_code, 5, some .boolean)
def mO_readElement : zm := (⟨"NotationDesk$OpenReader", "readElement", "(LNotationDesk$Type;IIIII)Z"⟩, prog_5_method_3_code, 12, some .boolean)
def mO_readTagged : zm := (⟨"NotationDesk$OpenReader", "readTagged", "(LNotationDesk$Type;IIIII)Z"⟩, prog_5_method_4_code, 9, some .boolean)
def mO_readChoice : zm := (⟨"NotationDesk$OpenReader", "readChoice", "(LNotationDesk$Type;IIII)Z"⟩, prog_5_method_5_code, 8, some .boolean)
def mO_readComponents : zm := (⟨"NotationDesk$OpenReader", "readComponents", "(LNotationDesk$Type;III)Z"⟩, prog_5_method_6_code, 7, some .boolean)
def mO_readItems : zm := (⟨"NotationDesk$OpenReader", "readItems", "(LNotationDesk$Type;III)Z"⟩, prog_5_method_7_code, 6, some .boolean)
def mO_readPlain : zm := (⟨"NotationDesk$OpenReader", "readPlain", "(LNotationDesk$Type;II)Z"⟩, prog_5_method_8_code, 5, some .boolean)
def mO_readBoolean : zm := (⟨"NotationDesk$OpenReader", "readBoolean", "(I)Z"⟩, prog_5_method_9_code, 3, some .boolean)
def mO_readInteger : zm := (⟨"NotationDesk$OpenReader", "readInteger", "(LNotationDesk$Type;II)Z"⟩, prog_5_method_10_code, 5, some .boolean)
def mO_readOctets : zm := (⟨"NotationDesk$OpenReader", "readOctets", "(II)Z"⟩, prog_5_method_11_code, 4, some .boolean)
def mO_readHeader : zm := (⟨"NotationDesk$OpenReader", "readHeader", "(IZI)I"⟩, prog_5_method_12_code, 6, some .int)
def mO_readLongLength : zm := (⟨"NotationDesk$OpenReader", "readLongLength", "(II)I"⟩, prog_5_method_13_code, 5, some .int)
def mO_readContentEnd : zm := (⟨"NotationDesk$OpenReader", "readContentEnd", "(II)Z"⟩, prog_5_method_14_code, 3, some .boolean)
def mO_nextTagBit : zm := (⟨"NotationDesk$OpenReader", "nextTagBit", "(I)I"⟩, prog_5_method_15_code, 2, some .int)
def mO_tagBitOf : zm := (⟨"NotationDesk$OpenReader", "tagBitOf", "(I)I"⟩, prog_5_method_16_code, 1, some .int)
def mP_init : zm := (⟨"NotationDesk$PackedReader", "<init>", "([ILNotationDesk$Value;)V"⟩, prog_6_method_1_code, 3, none)
def mP_readAll : zm := (⟨"NotationDesk$PackedReader", "readAll", "(LNotationDesk$Type;II)Z"⟩, prog_6_method_2_code, 4, some .boolean)
def mP_readValue : zm := (⟨"NotationDesk$PackedReader", "readValue", "(LNotationDesk$Type;III)Z"⟩, prog_6_method_3_code, 6, some .boolean)
def mP_readBounded : zm := (⟨"NotationDesk$PackedReader", "readBounded", "(LNotationDesk$Type;I)Z"⟩, prog_6_method_4_code, 4, some .boolean)
def mP_readUnbounded : zm := (⟨"NotationDesk$PackedReader", "readUnbounded", "(I)Z"⟩, prog_6_method_5_code, 4, some .boolean)
def mP_readOctets : zm := (⟨"NotationDesk$PackedReader", "readOctets", "(LNotationDesk$Type;I)Z"⟩, prog_6_method_6_code, 6, some .boolean)
def mP_readComponents : zm := (⟨"NotationDesk$PackedReader", "readComponents", "(LNotationDesk$Type;II)Z"⟩, prog_6_method_7_code, 7, some .boolean)
def mP_takePresence : zm := (⟨"NotationDesk$PackedReader", "takePresence", "(LNotationDesk$Type;)I"⟩, prog_6_method_8_code, 5, some .int)
def mP_readItems : zm := (⟨"NotationDesk$PackedReader", "readItems", "(LNotationDesk$Type;II)Z"⟩, prog_6_method_9_code, 6, some .boolean)
def mP_readChoice : zm := (⟨"NotationDesk$PackedReader", "readChoice", "(LNotationDesk$Type;II)Z"⟩, prog_6_method_10_code, 5, some .boolean)
def mP_takeCount : zm := (⟨"NotationDesk$PackedReader", "takeCount", "(LNotationDesk$Type;)I"⟩, prog_6_method_11_code, 3, some .int)
def mP_takeNumber : zm := (⟨"NotationDesk$PackedReader", "takeNumber", "(I)I"⟩, prog_6_method_12_code, 3, some .int)
def mP_takeByte : zm := (⟨"NotationDesk$PackedReader", "takeByte", "()I"⟩, prog_6_method_13_code, 1, some .int)
def mP_takeBits : zm := (⟨"NotationDesk$PackedReader", "takeBits", "(I)I"⟩, prog_6_method_14_code, 4, some .int)
def mP_align : zm := (⟨"NotationDesk$PackedReader", "align", "()Z"⟩, prog_6_method_15_code, 2, some .boolean)
def mQ_init : zm := (⟨"NotationDesk$PackedWriter", "<init>", "([ILNotationDesk$Value;)V"⟩, prog_7_method_1_code, 3, none)
def mQ_writeAll : zm := (⟨"NotationDesk$PackedWriter", "writeAll", "(LNotationDesk$Type;I)I"⟩, prog_7_method_2_code, 3, some .int)
def mQ_writeValue : zm := (⟨"NotationDesk$PackedWriter", "writeValue", "(LNotationDesk$Type;I)V"⟩, prog_7_method_3_code, 5, none)
def mQ_writeInteger : zm := (⟨"NotationDesk$PackedWriter", "writeInteger", "(LNotationDesk$Type;I)V"⟩, prog_7_method_4_code, 4, none)
def mQ_writeOctets : zm := (⟨"NotationDesk$PackedWriter", "writeOctets", "(LNotationDesk$Type;I)V"⟩, prog_7_method_5_code, 4, none)
def mQ_writeComponents : zm := (⟨"NotationDesk$PackedWriter", "writeComponents", "(LNotationDesk$Type;II)V"⟩, prog_7_method_6_code, 5, none)
def mQ_writeItems : zm := (⟨"NotationDesk$PackedWriter", "writeItems", "(LNotationDesk$Type;II)V"⟩, prog_7_method_7_code, 5, none)
def mQ_writeChoice : zm := (⟨"NotationDesk$PackedWriter", "writeChoice", "(LNotationDesk$Type;II)V"⟩, prog_7_method_8_code, 5, none)
def mQ_appendCount : zm := (⟨"NotationDesk$PackedWriter", "appendCount", "(LNotationDesk$Type;I)V"⟩, prog_7_method_9_code, 3, none)
def mQ_appendNumber : zm := (⟨"NotationDesk$PackedWriter", "appendNumber", "(II)V"⟩, prog_7_method_10_code, 3, none)
def mQ_appendBits : zm := (⟨"NotationDesk$PackedWriter", "appendBits", "(II)V"⟩, prog_7_method_11_code, 5, none)
def mQ_align : zm := (⟨"NotationDesk$PackedWriter", "align", "()V"⟩, prog_7_method_12_code, 1, none)
def mS_init : zm := (⟨"NotationDesk$StrictWriter", "<init>", "([ILNotationDesk$Value;)V"⟩, prog_8_method_1_code, 3, none)
def mS_writeAll : zm := (⟨"NotationDesk$StrictWriter", "writeAll", "(LNotationDesk$Type;I)I"⟩, prog_8_method_2_code, 3, some .int)
def mS_writeElement : zm := (⟨"NotationDesk$StrictWriter", "writeElement", "(LNotationDesk$Type;II)V"⟩, prog_8_method_3_code, 5, none)
def mS_writeChoice : zm := (⟨"NotationDesk$StrictWriter", "writeChoice", "(LNotationDesk$Type;I)V"⟩, prog_8_method_4_code, 4, none)
def mS_writeContent : zm := (⟨"NotationDesk$StrictWriter", "writeContent", "(LNotationDesk$Type;I)V"⟩, prog_8_method_5_code, 5, none)
def mS_writeInteger : zm := (⟨"NotationDesk$StrictWriter", "writeInteger", "(I)V"⟩, prog_8_method_6_code, 3, none)
def mS_writeComponents : zm := (⟨"NotationDesk$StrictWriter", "writeComponents", "(LNotationDesk$Type;II)V"⟩, prog_8_method_7_code, 5, none)
def mS_beginElement : zm := (⟨"NotationDesk$StrictWriter", "beginElement", "(I)I"⟩, prog_8_method_8_code, 2, some .int)
def mS_endElement : zm := (⟨"NotationDesk$StrictWriter", "endElement", "(I)V"⟩, prog_8_method_9_code, 2, none)
def mS_append : zm := (⟨"NotationDesk$StrictWriter", "append", "(I)V"⟩, prog_8_method_10_code, 2, none)
def mT_init : zm := (⟨"NotationDesk$Type", "<init>", "()V"⟩, prog_9_method_1_code, 1, none)
def mT_begin : zm := (⟨"NotationDesk$Type", "begin", "(I)V"⟩, prog_9_method_2_code, 2, none)
def mT_tagsOf : zm := (⟨"NotationDesk$Type", "tagsOf", "(I)I"⟩, prog_9_method_3_code, 1, some .int)
def mT_beginTag : zm := (⟨"NotationDesk$Type", "beginTag", "(IZ)V"⟩, prog_9_method_4_code, 3, none)
def mT_addMember : zm := (⟨"NotationDesk$Type", "addMember", "(LNotationDesk$Component;)V"⟩, prog_9_method_5_code, 2, none)
def mT_allows : zm := (⟨"NotationDesk$Type", "allows", "(I)Z"⟩, prog_9_method_6_code, 2, some .boolean)
def mT_untagged : zm := (⟨"NotationDesk$Type", "untagged", "()LNotationDesk$Type;"⟩, prog_9_method_7_code, 3, some (.object "NotationDesk$Type"))
def mT_tagByte : zm := (⟨"NotationDesk$Type", "tagByte", "(I)I"⟩, prog_9_method_8_code, 3, some .int)
def mT_memberAt : zm := (⟨"NotationDesk$Type", "memberAt", "(I)LNotationDesk$Component;"⟩, prog_9_method_9_code, 3, some (.object "NotationDesk$Component"))
def mT_memberRanked : zm := (⟨"NotationDesk$Type", "memberRanked", "(I)LNotationDesk$Component;"⟩, prog_9_method_10_code, 3, some (.object "NotationDesk$Component"))
def mT_memberWithTag : zm := (⟨"NotationDesk$Type", "memberWithTag", "(I)LNotationDesk$Component;"⟩, prog_9_method_11_code, 3, some (.object "NotationDesk$Component"))
def mT_isAlignedOctets : zm := (⟨"NotationDesk$Type", "isAlignedOctets", "()Z"⟩, prog_9_method_12_code, 1, some .boolean)
def mV_init : zm := (⟨"NotationDesk$Value", "<init>", "()V"⟩, prog_10_method_1_code, 1, none)
def mV_empty : zm := (⟨"NotationDesk$Value", "empty", "()V"⟩, prog_10_method_2_code, 1, none)
def mV_copyOf : zm := (⟨"NotationDesk$Value", "copyOf", "(LNotationDesk$Value;)V"⟩, prog_10_method_3_code, 2, none)
def mV_addPart : zm := (⟨"NotationDesk$Value", "addPart", "(III)I"⟩, prog_10_method_4_code, 5, some .int)
def mV_addOctet : zm := (⟨"NotationDesk$Value", "addOctet", "(II)Z"⟩, prog_10_method_5_code, 3, some .boolean)
def mV_octetAt : zm := (⟨"NotationDesk$Value", "octetAt", "(II)I"⟩, prog_10_method_6_code, 3, some .int)
def mV_takeComponent : zm := (⟨"NotationDesk$Value", "takeComponent", "(LNotationDesk$Component;IIZ)Z"⟩, prog_10_method_7_code, 5, some .boolean)
def mV_leaveOutComponent : zm := (⟨"NotationDesk$Value", "leaveOutComponent", "(LNotationDesk$Component;I)Z"⟩, prog_10_method_8_code, 4, some .boolean)
def mV_shows : zm := (⟨"NotationDesk$Value", "shows", "(ILNotationDesk$Component;)Z"⟩, prog_10_method_9_code, 3, some .boolean)
def mL_at : zm := (⟨"NotationDeskLaw", "at", "(LNotationDesk;I[J)I"⟩, method_3_code, 4, some .int)
def mL_transcode : zm := (⟨"NotationDeskLaw", "transcode", "(LNotationDesk;CII[J)I"⟩, method_4_code, 6, some .int)
def mL_part : zm := (⟨"NotationDeskLaw", "part", "(LNotationDesk;II[J)I"⟩, method_5_code, 5, some .int)
def mL_octet : zm := (⟨"NotationDeskLaw", "octet", "(LNotationDesk;II[J)I"⟩, method_6_code, 5, some .int)
def mL_operation : zm := (⟨"NotationDeskLaw", "operation", "(LNotationDesk;ICII)I"⟩, method_7_code, 6, some .int)
def mL_serve : zm := (⟨"NotationDeskLaw", "serve", "(LNotationDesk;[J)I"⟩, method_8_code, 3, some .int)
def mL_law : zm := (⟨"NotationDeskLaw", "law", "([I)Z"⟩, code, 7, some .boolean)
end
section
/-! DECODE: each method's instructions, by place -/
theorem dq {b : ByteArray} {l : List (Nat × Instr × Nat)} (h : ∀ q ∈ l, decode b q.1 = .ok q.2) (k : Nat) {pc : Nat} {i : Instr} {len : Nat} (hk : l[k]? = some (pc, i, len)) : decode b pc = .ok (i, len) := h (pc, i, len) (List.mem_of_getElem? hk)
def lD_init : List (Nat × Instr × Nat) := [(0, .aload_n 0, 1), (1, .invokespecial 1, 3), (4, .aload_n 0, 1), (5, .sipush 150, 3), (8, .newarray .char, 2), (10, .putfield 9, 3), (13, .aload_n 0, 1), (14, .new 13, 3), (17, .dup, 1), (18, .aload_n 0, 1), (19, .getfield 9, 3), (22, .invokespecial 15, 3), (25, .putfield 18, 3), (28, .aload_n 0, 1), (29, .bipush 120, 2), (31, .newarray .int, 2), (33, .putfield 22, 3), (36, .aload_n 0, 1), (37, .bipush 120, 2), (39, .newarray .int, 2), (41, .putfield 26, 3), (44, .aload_n 0, 1), (45, .new 29, 3), (48, .dup, 1), (49, .invokespecial 31, 3), (52, .putfield 32, 3), (55, .aload_n 0, 1), (56, .new 29, 3), (59, .dup, 1), (60, .invokespecial 31, 3), (63, .putfield 36, 3), (66, .aload_n 0, 1), (67, .new 39, 3), (70, .dup, 1), (71, .aload_n 0, 1), (72, .getfield 22, 3), (75, .aload_n 0, 1), (76, .getfield 36, 3), (79, .invokespecial 41, 3), (82, .putfield 44, 3), (85, .aload_n 0, 1), (86, .new 48, 3), (89, .dup, 1), (90, .aload_n 0, 1), (91, .getfield 22, 3), (94, .aload_n 0, 1), (95, .getfield 36, 3), (98, .invokespecial 50, 3), (101, .putfield 51, 3), (104, .aload_n 0, 1), (105, .new 55, 3), (108, .dup, 1), (109, .aload_n 0, 1), (110, .getfield 26, 3), (113, .aload_n 0, 1), (114, .getfield 36, 3), (117, .invokespecial 57, 3), (120, .putfield 58, 3), (123, .aload_n 0, 1), (124, .new 62, 3), (127, .dup, 1), (128, .aload_n 0, 1), (129, .getfield 26, 3), (132, .aload_n 0, 1), (133, .getfield 36, 3), (136, .invokespecial 64, 3), (139, .putfield 65, 3), (142, .aload_n 0, 1), (143, .bipush 8, 2), (145, .anewarray 69, 3), (148, .putfield 71, 3), (151, .aload_n 0, 1), (152, .bipush 8, 2), (154, .newarray .int, 2), (156, .putfield 75, 3), (159, .aload_n 0, 1), (160, .bipush 8, 2), (162, .newarray .int, 2), (164, .putfield 78, 3), (167, .aload_n 0, 1), (168, .iconst 4, 1), (169, .newarray .long, 2), (171, .putfield 81, 3), (174, .return_, 1)]
set_option maxRecDepth 100000 in
theorem dD_init : ∀ q ∈ lD_init, decode prog_1_method_1_code q.1 = .ok q.2 := by decide +kernel
def lD_type : List (Nat × Instr × Nat) := [(0, .aload_n 0, 1), (1, .getfield 85, 3), (4, .sipush 150, 3), (7, .if_icmp .lt 5, 3), (10, .iconst 0, 1), (11, .ireturn, 1), (12, .aload_n 0, 1), (13, .getfield 9, 3), (16, .aload_n 0, 1), (17, .getfield 85, 3), (20, .iload_n 1, 1), (21, .castore, 1), (22, .aload_n 0, 1), (23, .dup, 1), (24, .getfield 85, 3), (27, .iconst 1, 1), (28, .iadd, 1), (29, .putfield 85, 3), (32, .aload_n 0, 1), (33, .invokevirtual 89, 3), (36, .iconst 1, 1), (37, .ireturn, 1)]
set_option maxRecDepth 100000 in
theorem dD_type : ∀ q ∈ lD_type, decode prog_1_method_2_code q.1 = .ok q.2 := by decide +kernel
def lD_clear : List (Nat × Instr × Nat) := [(0, .aload_n 0, 1), (1, .getfield 85, 3), (4, .istore_n 1, 1), (5, .aload_n 0, 1), (6, .iconst 0, 1), (7, .putfield 85, 3), (10, .aload_n 0, 1), (11, .invokevirtual 89, 3), (14, .iload_n 1, 1), (15, .ireturn, 1)]
set_option maxRecDepth 100000 in
theorem dD_clear : ∀ q ∈ lD_clear, decode prog_1_method_3_code q.1 = .ok q.2 := by decide +kernel
def lD_compile : List (Nat × Instr × Nat) := [(0, .aload_n 0, 1), (1, .invokevirtual 89, 3), (4, .aload_n 0, 1), (5, .getfield 18, 3), (8, .aload_n 0, 1), (9, .getfield 85, 3), (12, .invokevirtual 92, 3), (15, .istore_n 1, 1), (16, .aload_n 0, 1), (17, .iload_n 1, 1), (18, .ifCond .ne 7, 3), (21, .iconst 1, 1), (22, .goto 4, 3), (25, .iconst 0, 1), (26, .putfield 96, 3), (29, .iload_n 1, 1), (30, .ireturn, 1)]
set_option maxRecDepth 100000 in
theorem dD_compile : ∀ q ∈ lD_compile, decode prog_1_method_4_code q.1 = .ok q.2 := by decide +kernel
def lD_put : List (Nat × Instr × Nat) := [(0, .iload_n 3, 1), (1, .iconst 1, 1), (2, .if_icmp .lt 20, 3), (5, .iload_n 3, 1), (6, .bipush 8, 2), (8, .if_icmp .gt 14, 3), (11, .aload_n 0, 1), (12, .getfield 100, 3), (15, .iload_n 3, 1), (16, .iadd, 1), (17, .bipush 120, 2), (19, .if_icmp .le 5, 3), (22, .iconst 0, 1), (23, .ireturn, 1), (24, .bipush 8, 2), (26, .iload_n 3, 1), (27, .iconst 1, 1), (28, .isub, 1), (29, .imul, 1), (30, .istore 4, 2), (32, .iload 4, 2), (34, .ifCond .lt 37, 3), (37, .aload_n 0, 1), (38, .getfield 22, 3), (41, .aload_n 0, 1), (42, .getfield 100, 3), (45, .lload_n 1, 1), (46, .iload 4, 2), (48, .lushr, 1), (49, .l2i, 1), (50, .sipush 255, 3), (53, .iand, 1), (54, .iastore, 1), (55, .aload_n 0, 1), (56, .dup, 1), (57, .getfield 100, 3), (60, .iconst 1, 1), (61, .iadd, 1), (62, .putfield 100, 3), (65, .iinc 4 (-8), 3), (68, .goto (-36), 3), (71, .iconst 1, 1), (72, .ireturn, 1)]
set_option maxRecDepth 100000 in
theorem dD_put : ∀ q ∈ lD_put, decode prog_1_method_5_code q.1 = .ok q.2 := by decide +kernel
def lD_wipe : List (Nat × Instr × Nat) := [(0, .aload_n 0, 1), (1, .getfield 100, 3), (4, .istore_n 1, 1), (5, .aload_n 0, 1), (6, .iconst 0, 1), (7, .putfield 100, 3), (10, .iload_n 1, 1), (11, .ireturn, 1)]
set_option maxRecDepth 100000 in
theorem dD_wipe : ∀ q ∈ lD_wipe, decode prog_1_method_6_code q.1 = .ok q.2 := by decide +kernel
def lD_at : List (Nat × Instr × Nat) := [(0, .iload_n 1, 1), (1, .iconst (-1), 1), (2, .if_icmp .ne 8, 3), (5, .aload_n 0, 1), (6, .getfield 100, 3), (9, .ireturn, 1), (10, .iload_n 1, 1), (11, .ifCond .lt 11, 3), (14, .iload_n 1, 1), (15, .aload_n 0, 1), (16, .getfield 100, 3), (19, .if_icmp .lt 13, 3), (22, .new 103, 3), (25, .dup, 1), (26, .ldc 105, 2), (28, .invokespecial 107, 3), (31, .athrow, 1), (32, .aload_n 0, 1), (33, .getfield 22, 3), (36, .iload_n 1, 1), (37, .iaload, 1), (38, .ireturn, 1)]
set_option maxRecDepth 100000 in
theorem dD_at : ∀ q ∈ lD_at, decode prog_1_method_7_code q.1 = .ok q.2 := by decide +kernel
def lD_transcode : List (Nat × Instr × Nat) := [(0, .iload_n 2, 1), (1, .iload_n 3, 1), (2, .invokestatic 110, 3), (5, .ifCond .ne 13, 3), (8, .new 114, 3), (11, .dup, 1), (12, .ldc 116, 2), (14, .invokespecial 118, 3), (17, .athrow, 1), (18, .aload_n 0, 1), (19, .getfield 96, 3), (22, .ifCond .ne 13, 3), (25, .new 119, 3), (28, .dup, 1), (29, .ldc 121, 2), (31, .invokespecial 123, 3), (34, .athrow, 1), (35, .aload_n 0, 1), (36, .getfield 18, 3), (39, .iload_n 1, 1), (40, .invokevirtual 124, 3), (43, .astore 4, 2), (45, .aload 4, 2), (47, .ifnonnull 13, 3), (50, .new 128, 3), (53, .dup, 1), (54, .ldc 130, 2), (56, .invokespecial 132, 3), (59, .athrow, 1), (60, .aload_n 0, 1), (61, .aload 4, 2), (63, .iload_n 2, 1), (64, .iconst 0, 1), (65, .invokevirtual 133, 3), (68, .ifCond .ne 5, 3), (71, .iconst (-1), 1), (72, .ireturn, 1), (73, .aload_n 0, 1), (74, .aload 4, 2), (76, .iload_n 3, 1), (77, .iconst 0, 1), (78, .invokevirtual 137, 3), (81, .istore 5, 2), (83, .iload 5, 2), (85, .iconst (-1), 1), (86, .if_icmp .ne 13, 3), (89, .new 141, 3), (92, .dup, 1), (93, .ldc 143, 2), (95, .invokespecial 145, 3), (98, .athrow, 1), (99, .aload_n 0, 1), (100, .getfield 32, 3), (103, .aload_n 0, 1), (104, .getfield 36, 3), (107, .invokevirtual 146, 3), (110, .aload_n 0, 1), (111, .iload 5, 2), (113, .invokevirtual 150, 3), (116, .iload 5, 2), (118, .ireturn, 1)]
set_option maxRecDepth 100000 in
theorem dD_transcode : ∀ q ∈ lD_transcode, decode prog_1_method_8_code q.1 = .ok q.2 := by decide +kernel
def lD_parts : List (Nat × Instr × Nat) := [(0, .aload_n 0, 1), (1, .getfield 32, 3), (4, .getfield 154, 3), (7, .ireturn, 1)]
set_option maxRecDepth 100000 in
theorem dD_parts : ∀ q ∈ lD_parts, decode prog_1_method_9_code q.1 = .ok q.2 := by decide +kernel
def lD_part : List (Nat × Instr × Nat) := [(0, .iload_n 2, 1), (1, .ifCond .lt 8, 3), (4, .iload_n 2, 1), (5, .iconst 3, 1), (6, .if_icmp .le 13, 3), (9, .new 114, 3), (12, .dup, 1), (13, .ldc 157, 2), (15, .invokespecial 118, 3), (18, .athrow, 1), (19, .iload_n 1, 1), (20, .ifCond .lt 14, 3), (23, .iload_n 1, 1), (24, .aload_n 0, 1), (25, .getfield 32, 3), (28, .getfield 154, 3), (31, .if_icmp .lt 13, 3), (34, .new 128, 3), (37, .dup, 1), (38, .ldc 159, 2), (40, .invokespecial 132, 3), (43, .athrow, 1), (44, .iload_n 2, 1), (45, .tableswitch 57 0 2 #[27, 37, 47], 27), (72, .aload_n 0, 1), (73, .getfield 32, 3), (76, .getfield 161, 3), (79, .iload_n 1, 1), (80, .iaload, 1), (81, .ireturn, 1), (82, .aload_n 0, 1), (83, .getfield 32, 3), (86, .getfield 164, 3), (89, .iload_n 1, 1), (90, .iaload, 1), (91, .ireturn, 1), (92, .aload_n 0, 1), (93, .getfield 32, 3), (96, .getfield 167, 3), (99, .iload_n 1, 1), (100, .iaload, 1), (101, .ireturn, 1), (102, .aload_n 0, 1), (103, .getfield 32, 3), (106, .getfield 170, 3), (109, .iload_n 1, 1), (110, .iaload, 1), (111, .ireturn, 1)]
set_option maxRecDepth 100000 in
theorem dD_part : ∀ q ∈ lD_part, decode prog_1_method_10_code q.1 = .ok q.2 := by decide +kernel
def lD_octet : List (Nat × Instr × Nat) := [(0, .aload_n 0, 1), (1, .getfield 32, 3), (4, .iload_n 1, 1), (5, .iload_n 2, 1), (6, .invokevirtual 173, 3), (9, .istore_n 3, 1), (10, .iload_n 3, 1), (11, .iconst (-1), 1), (12, .if_icmp .ne 13, 3), (15, .new 128, 3), (18, .dup, 1), (19, .ldc 105, 2), (21, .invokespecial 132, 3), (24, .athrow, 1), (25, .iload_n 3, 1), (26, .ireturn, 1)]
set_option maxRecDepth 100000 in
theorem dD_octet : ∀ q ∈ lD_octet, decode prog_1_method_11_code q.1 = .ok q.2 := by decide +kernel
def lD_operation : List (Nat × Instr × Nat) := [(0, .iload_n 1, 1), (1, .ifCond .lt 18, 3), (4, .iload_n 1, 1), (5, .bipush 8, 2), (7, .if_icmp .ge 12, 3), (10, .iload_n 3, 1), (11, .iload 4, 2), (13, .invokestatic 110, 3), (16, .ifCond .ne 13, 3), (19, .new 114, 3), (22, .dup, 1), (23, .ldc 177, 2), (25, .invokespecial 118, 3), (28, .athrow, 1), (29, .aload_n 0, 1), (30, .getfield 96, 3), (33, .ifCond .ne 13, 3), (36, .new 119, 3), (39, .dup, 1), (40, .ldc 121, 2), (42, .invokespecial 123, 3), (45, .athrow, 1), (46, .aload_n 0, 1), (47, .getfield 18, 3), (50, .iload_n 2, 1), (51, .invokevirtual 124, 3), (54, .astore 5, 2), (56, .aload 5, 2), (58, .ifnonnull 13, 3), (61, .new 128, 3), (64, .dup, 1), (65, .ldc 130, 2), (67, .invokespecial 132, 3), (70, .athrow, 1), (71, .aload_n 0, 1), (72, .getfield 71, 3), (75, .iload_n 1, 1), (76, .aload 5, 2), (78, .aastore, 1), (79, .aload_n 0, 1), (80, .getfield 75, 3), (83, .iload_n 1, 1), (84, .iload_n 3, 1), (85, .iastore, 1), (86, .aload_n 0, 1), (87, .getfield 78, 3), (90, .iload_n 1, 1), (91, .iload 4, 2), (93, .iastore, 1), (94, .return_, 1)]
set_option maxRecDepth 100000 in
theorem dD_operation : ∀ q ∈ lD_operation, decode prog_1_method_12_code q.1 = .ok q.2 := by decide +kernel
def lD_serve : List (Nat × Instr × Nat) := [(0, .aload_n 0, 1), (1, .getfield 96, 3), (4, .ifCond .ne 13, 3), (7, .new 119, 3), (10, .dup, 1), (11, .ldc 121, 2), (13, .invokespecial 123, 3), (16, .athrow, 1), (17, .aload_n 0, 1), (18, .getfield 100, 3), (21, .iconst 1, 1), (22, .if_icmp .le 12, 3), (25, .aload_n 0, 1), (26, .getfield 22, 3), (29, .iconst 1, 1), (30, .iaload, 1), (31, .goto 4, 3), (34, .iconst 0, 1), (35, .istore_n 1, 1), (36, .aload_n 0, 1), (37, .getfield 100, 3), (40, .iconst 3, 1), (41, .if_icmp .lt 13, 3), (44, .aload_n 0, 1), (45, .getfield 22, 3), (48, .iconst 0, 1), (49, .iaload, 1), (50, .iconst 1, 1), (51, .if_icmp .eq 10, 3), (54, .aload_n 0, 1), (55, .iload_n 1, 1), (56, .iconst 1, 1), (57, .invokevirtual 179, 3), (60, .ireturn, 1), (61, .aload_n 0, 1), (62, .getfield 22, 3), (65, .iconst 2, 1), (66, .iaload, 1), (67, .istore_n 2, 1), (68, .iload_n 2, 1), (69, .ifCond .lt 18, 3), (72, .iload_n 2, 1), (73, .bipush 8, 2), (75, .if_icmp .ge 12, 3), (78, .aload_n 0, 1), (79, .getfield 71, 3), (82, .iload_n 2, 1), (83, .aaload, 1), (84, .ifnonnull 10, 3), (87, .aload_n 0, 1), (88, .iload_n 1, 1), (89, .iconst 2, 1), (90, .invokevirtual 179, 3), (93, .ireturn, 1), (94, .aload_n 0, 1), (95, .iload_n 1, 1), (96, .invokevirtual 182, 3), (99, .ifCond .eq 10, 3), (102, .aload_n 0, 1), (103, .iload_n 1, 1), (104, .iconst 3, 1), (105, .invokevirtual 179, 3), (108, .ireturn, 1), (109, .aload_n 0, 1), (110, .aload_n 0, 1), (111, .getfield 71, 3), (114, .iload_n 2, 1), (115, .aaload, 1), (116, .aload_n 0, 1), (117, .getfield 75, 3), (120, .iload_n 2, 1), (121, .iaload, 1), (122, .iconst 3, 1), (123, .invokevirtual 133, 3), (126, .ifCond .ne 14, 3), (129, .aload_n 0, 1), (130, .iload_n 1, 1), (131, .invokevirtual 186, 3), (134, .aload_n 0, 1), (135, .iload_n 1, 1), (136, .invokevirtual 189, 3), (139, .ireturn, 1), (140, .aload_n 0, 1), (141, .aload_n 0, 1), (142, .getfield 71, 3), (145, .iload_n 2, 1), (146, .aaload, 1), (147, .aload_n 0, 1), (148, .getfield 78, 3), (151, .iload_n 2, 1), (152, .iaload, 1), (153, .iconst 3, 1), (154, .invokevirtual 137, 3), (157, .istore_n 3, 1), (158, .iload_n 3, 1), (159, .iconst (-1), 1), (160, .if_icmp .ne 10, 3), (163, .aload_n 0, 1), (164, .iload_n 1, 1), (165, .iconst 4, 1), (166, .invokevirtual 179, 3), (169, .ireturn, 1), (170, .aload_n 0, 1), (171, .iload_n 1, 1), (172, .invokevirtual 186, 3), (175, .aload_n 0, 1), (176, .getfield 32, 3), (179, .aload_n 0, 1), (180, .getfield 36, 3), (183, .invokevirtual 146, 3), (186, .aload_n 0, 1), (187, .getfield 26, 3), (190, .iconst 0, 1), (191, .iconst 2, 1), (192, .iastore, 1), (193, .aload_n 0, 1), (194, .getfield 26, 3), (197, .iconst 1, 1), (198, .iload_n 1, 1), (199, .iastore, 1), (200, .aload_n 0, 1), (201, .getfield 26, 3), (204, .iconst 2, 1), (205, .iload_n 2, 1), (206, .iastore, 1), (207, .aload_n 0, 1), (208, .iload_n 3, 1), (209, .invokevirtual 150, 3), (212, .iconst 2, 1), (213, .ireturn, 1)]
set_option maxRecDepth 100000 in
theorem dD_serve : ∀ q ∈ lD_serve, decode prog_1_method_13_code q.1 = .ok q.2 := by decide +kernel
def lD_sayNoValue : List (Nat × Instr × Nat) := [(0, .aload_n 0, 1), (1, .getfield 22, 3), (4, .iconst 0, 1), (5, .iconst 3, 1), (6, .iastore, 1), (7, .aload_n 0, 1), (8, .getfield 22, 3), (11, .iconst 1, 1), (12, .iload_n 1, 1), (13, .iastore, 1), (14, .aload_n 0, 1), (15, .iconst 2, 1), (16, .putfield 100, 3), (19, .iconst 3, 1), (20, .ireturn, 1)]
set_option maxRecDepth 100000 in
theorem dD_sayNoValue : ∀ q ∈ lD_sayNoValue, decode prog_1_method_14_code q.1 = .ok q.2 := by decide +kernel
def lD_refuseMessage : List (Nat × Instr × Nat) := [(0, .aload_n 0, 1), (1, .getfield 22, 3), (4, .iconst 0, 1), (5, .iconst 4, 1), (6, .iastore, 1), (7, .aload_n 0, 1), (8, .getfield 22, 3), (11, .iconst 1, 1), (12, .iload_n 1, 1), (13, .iastore, 1), (14, .aload_n 0, 1), (15, .getfield 22, 3), (18, .iconst 2, 1), (19, .iload_n 2, 1), (20, .iastore, 1), (21, .aload_n 0, 1), (22, .iconst 3, 1), (23, .putfield 100, 3), (26, .iconst 4, 1), (27, .ireturn, 1)]
set_option maxRecDepth 100000 in
theorem dD_refuseMessage : ∀ q ∈ lD_refuseMessage, decode prog_1_method_15_code q.1 = .ok q.2 := by decide +kernel
def lD_wasServed : List (Nat × Instr × Nat) := [(0, .aload_n 0, 1), (1, .getfield 81, 3), (4, .iload_n 1, 1), (5, .bipush 6, 2), (7, .ishr, 1), (8, .iconst 3, 1), (9, .iand, 1), (10, .laload, 1), (11, .lconst 1, 1), (12, .iload_n 1, 1), (13, .bipush 63, 2), (15, .iand, 1), (16, .lshl, 1), (17, .land, 1), (18, .lconst 0, 1), (19, .lcmp, 1), (20, .ifCond .eq 7, 3), (23, .iconst 1, 1), (24, .goto 4, 3), (27, .iconst 0, 1), (28, .ireturn, 1)]
set_option maxRecDepth 100000 in
theorem dD_wasServed : ∀ q ∈ lD_wasServed, decode prog_1_method_16_code q.1 = .ok q.2 := by decide +kernel
def lD_markServed : List (Nat × Instr × Nat) := [(0, .aload_n 0, 1), (1, .getfield 81, 3), (4, .iload_n 1, 1), (5, .bipush 6, 2), (7, .ishr, 1), (8, .iconst 3, 1), (9, .iand, 1), (10, .dup2, 1), (11, .laload, 1), (12, .lconst 1, 1), (13, .iload_n 1, 1), (14, .bipush 63, 2), (16, .iand, 1), (17, .lshl, 1), (18, .lor, 1), (19, .lastore, 1), (20, .return_, 1)]
set_option maxRecDepth 100000 in
theorem dD_markServed : ∀ q ∈ lD_markServed, decode prog_1_method_17_code q.1 = .ok q.2 := by decide +kernel
def lD_forgetModule : List (Nat × Instr × Nat) := [(0, .aload_n 0, 1), (1, .iconst 0, 1), (2, .putfield 96, 3), (5, .aload_n 0, 1), (6, .getfield 32, 3), (9, .invokevirtual 192, 3), (12, .iconst 0, 1), (13, .istore_n 1, 1), (14, .iload_n 1, 1), (15, .bipush 8, 2), (17, .if_icmp .ge 16, 3), (20, .aload_n 0, 1), (21, .getfield 71, 3), (24, .iload_n 1, 1), (25, .aconst_null, 1), (26, .aastore, 1), (27, .iinc 1 1, 3), (30, .goto (-16), 3), (33, .iconst 0, 1), (34, .istore_n 1, 1), (35, .iload_n 1, 1), (36, .aload_n 0, 1), (37, .getfield 81, 3), (40, .arraylength, 1), (41, .if_icmp .ge 16, 3), (44, .aload_n 0, 1), (45, .getfield 81, 3), (48, .iload_n 1, 1), (49, .lconst 0, 1), (50, .lastore, 1), (51, .iinc 1 1, 3), (54, .goto (-19), 3), (57, .return_, 1)]
set_option maxRecDepth 100000 in
theorem dD_forgetModule : ∀ q ∈ lD_forgetModule, decode prog_1_method_18_code q.1 = .ok q.2 := by decide +kernel
def lD_areRules : List (Nat × Instr × Nat) := [(0, .iload_n 0, 1), (1, .ifCond .lt 22, 3), (4, .iload_n 0, 1), (5, .iconst 2, 1), (6, .if_icmp .gt 17, 3), (9, .iload_n 1, 1), (10, .iconst 1, 1), (11, .if_icmp .lt 12, 3), (14, .iload_n 1, 1), (15, .iconst 2, 1), (16, .if_icmp .gt 7, 3), (19, .iconst 1, 1), (20, .goto 4, 3), (23, .iconst 0, 1), (24, .ireturn, 1)]
set_option maxRecDepth 100000 in
theorem dD_areRules : ∀ q ∈ lD_areRules, decode prog_1_method_19_code q.1 = .ok q.2 := by decide +kernel
def lD_readBuffer : List (Nat × Instr × Nat) := [(0, .aload_n 0, 1), (1, .getfield 36, 3), (4, .invokevirtual 192, 3), (7, .iload_n 2, 1), (8, .iconst 2, 1), (9, .if_icmp .ne 17, 3), (12, .aload_n 0, 1), (13, .getfield 51, 3), (16, .aload_n 1, 1), (17, .iload_n 3, 1), (18, .aload_n 0, 1), (19, .getfield 100, 3), (22, .invokevirtual 195, 3), (25, .ireturn, 1), (26, .aload_n 0, 1), (27, .getfield 44, 3), (30, .aload_n 1, 1), (31, .iload_n 3, 1), (32, .aload_n 0, 1), (33, .getfield 100, 3), (36, .iload_n 2, 1), (37, .iconst 1, 1), (38, .if_icmp .ne 7, 3), (41, .iconst 1, 1), (42, .goto 4, 3), (45, .iconst 0, 1), (46, .invokevirtual 198, 3), (49, .ireturn, 1)]
set_option maxRecDepth 100000 in
theorem dD_readBuffer : ∀ q ∈ lD_readBuffer, decode prog_1_method_20_code q.1 = .ok q.2 := by decide +kernel
def lD_writeFound : List (Nat × Instr × Nat) := [(0, .iload_n 2, 1), (1, .iconst 2, 1), (2, .if_icmp .ne 15, 3), (5, .aload_n 0, 1), (6, .getfield 65, 3), (9, .aload_n 1, 1), (10, .iload_n 3, 1), (11, .invokevirtual 201, 3), (14, .goto 12, 3), (17, .aload_n 0, 1), (18, .getfield 58, 3), (21, .aload_n 1, 1), (22, .iload_n 3, 1), (23, .invokevirtual 205, 3), (26, .ireturn, 1)]
set_option maxRecDepth 100000 in
theorem dD_writeFound : ∀ q ∈ lD_writeFound, decode prog_1_method_21_code q.1 = .ok q.2 := by decide +kernel
def lD_keepWritten : List (Nat × Instr × Nat) := [(0, .aload_n 0, 1), (1, .getfield 26, 3), (4, .iconst 0, 1), (5, .aload_n 0, 1), (6, .getfield 22, 3), (9, .iconst 0, 1), (10, .iload_n 1, 1), (11, .invokestatic 206, 3), (14, .aload_n 0, 1), (15, .iload_n 1, 1), (16, .putfield 100, 3), (19, .return_, 1)]
set_option maxRecDepth 100000 in
theorem dD_keepWritten : ∀ q ∈ lD_keepWritten, decode prog_1_method_22_code q.1 = .ok q.2 := by decide +kernel
def lM_init : List (Nat × Instr × Nat) := [(0, .aload_n 0, 1), (1, .invokespecial 1, 3), (4, .aload_n 0, 1), (5, .sipush 150, 3), (8, .newarray .char, 2), (10, .putfield 7, 3), (13, .aload_n 0, 1), (14, .sipush 150, 3), (17, .newarray .int, 2), (19, .putfield 13, 3), (22, .aload_n 0, 1), (23, .bipush 26, 2), (25, .newarray .int, 2), (27, .putfield 17, 3), (30, .aload_n 0, 1), (31, .sipush 160, 3), (34, .newarray .int, 2), (36, .putfield 20, 3), (39, .aload_n 0, 1), (40, .sipush 160, 3), (43, .newarray .int, 2), (45, .putfield 23, 3), (48, .aload_n 0, 1), (49, .sipush 160, 3), (52, .newarray .int, 2), (54, .putfield 26, 3), (57, .aload_n 0, 1), (58, .sipush 160, 3), (61, .newarray .int, 2), (63, .putfield 29, 3), (66, .aload_n 0, 1), (67, .sipush 160, 3), (70, .newarray .int, 2), (72, .putfield 32, 3), (75, .aload_n 0, 1), (76, .sipush 160, 3), (79, .newarray .int, 2), (81, .putfield 35, 3), (84, .aload_n 0, 1), (85, .sipush 160, 3), (88, .newarray .int, 2), (90, .putfield 38, 3), (93, .aload_n 0, 1), (94, .sipush 160, 3), (97, .newarray .boolean, 2), (99, .putfield 41, 3), (102, .aload_n 0, 1), (103, .sipush 160, 3), (106, .newarray .boolean, 2), (108, .putfield 45, 3), (111, .aload_n 0, 1), (112, .sipush 960, 3), (115, .newarray .int, 2), (117, .putfield 48, 3), (120, .aload_n 0, 1), (121, .sipush 960, 3), (124, .newarray .int, 2), (126, .putfield 51, 3), (129, .aload_n 0, 1), (130, .sipush 960, 3), (133, .newarray .int, 2), (135, .putfield 54, 3), (138, .aload_n 0, 1), (139, .bipush 16, 2), (141, .newarray .int, 2), (143, .putfield 57, 3), (146, .aload_n 0, 1), (147, .sipush 150, 3), (150, .newarray .int, 2), (152, .putfield 60, 3), (155, .aload_n 0, 1), (156, .bipush 120, 2), (158, .newarray .int, 2), (160, .putfield 63, 3), (163, .aload_n 0, 1), (164, .bipush 120, 2), (166, .newarray .int, 2), (168, .putfield 66, 3), (171, .aload_n 0, 1), (172, .sipush 4000, 3), (175, .newarray .int, 2), (177, .putfield 69, 3), (180, .aload_n 0, 1), (181, .bipush 100, 2), (183, .newarray .int, 2), (185, .putfield 72, 3), (188, .aload_n 0, 1), (189, .bipush 100, 2), (191, .newarray .int, 2), (193, .putfield 75, 3), (196, .aload_n 0, 1), (197, .bipush 100, 2), (199, .newarray .int, 2), (201, .putfield 78, 3), (204, .aload_n 0, 1), (205, .bipush 100, 2), (207, .newarray .int, 2), (209, .putfield 81, 3), (212, .aload_n 0, 1), (213, .bipush 100, 2), (215, .newarray .int, 2), (217, .putfield 84, 3), (220, .aload_n 0, 1), (221, .bipush 100, 2), (223, .newarray .int, 2), (225, .putfield 87, 3), (228, .aload_n 0, 1), (229, .bipush 101, 2), (231, .newarray .int, 2), (233, .putfield 90, 3), (236, .aload_n 0, 1), (237, .sipush 240, 3), (240, .newarray .int, 2), (242, .putfield 93, 3), (245, .aload_n 0, 1), (246, .sipush 500, 3), (249, .newarray .int, 2), (251, .putfield 96, 3), (254, .aload_n 0, 1), (255, .sipush 240, 3), (258, .newarray .int, 2), (260, .putfield 99, 3), (263, .aload_n 0, 1), (264, .sipush 160, 3), (267, .newarray .int, 2), (269, .putfield 102, 3), (272, .aload_n 0, 1), (273, .sipush 160, 3), (276, .newarray .int, 2), (278, .putfield 105, 3), (281, .aload_n 0, 1), (282, .sipush 160, 3), (285, .newarray .int, 2), (287, .putfield 108, 3), (290, .aload_n 0, 1), (291, .sipush 160, 3), (294, .newarray .int, 2), (296, .putfield 111, 3), (299, .aload_n 0, 1), (300, .sipush 160, 3), (303, .newarray .boolean, 2), (305, .putfield 114, 3), (308, .aload_n 0, 1), (309, .bipush 8, 2), (311, .newarray .int, 2), (313, .putfield 117, 3), (316, .aload_n 0, 1), (317, .bipush 8, 2), (319, .newarray .int, 2), (321, .putfield 120, 3), (324, .aload_n 0, 1), (325, .bipush 8, 2), (327, .newarray .int, 2), (329, .putfield 123, 3), (332, .aload_n 0, 1), (333, .sipush 256, 3), (336, .newarray .boolean, 2), (338, .putfield 126, 3), (341, .aload_n 0, 1), (342, .invokevirtual 129, 3), (345, .return_, 1)]
set_option maxRecDepth 100000 in
theorem dM_init : ∀ q ∈ lM_init, decode prog_12_method_1_code q.1 = .ok q.2 := by decide +kernel
def lM_thrown : List (Nat × Instr × Nat) := [(0, .aload_n 0, 1), (1, .getfield 132, 3), (4, .ireturn, 1)]
set_option maxRecDepth 100000 in
theorem dM_thrown : ∀ q ∈ lM_thrown, decode prog_12_method_2_code q.1 = .ok q.2 := by decide +kernel
def lM_fails : List (Nat × Instr × Nat) := [(0, .aload_n 0, 1), (1, .iload_n 1, 1), (2, .putfield 132, 3), (5, .iconst 0, 1), (6, .ireturn, 1)]
set_option maxRecDepth 100000 in
theorem dM_fails : ∀ q ∈ lM_fails, decode prog_12_method_3_code q.1 = .ok q.2 := by decide +kernel
def lM_in : List (Nat × Instr × Nat) := [(0, .iload_n 0, 1), (1, .iload_n 1, 1), (2, .if_icmp .lt 12, 3), (5, .iload_n 0, 1), (6, .iload_n 2, 1), (7, .if_icmp .gt 7, 3), (10, .iconst 1, 1), (11, .goto 4, 3), (14, .iconst 0, 1), (15, .ireturn, 1)]
set_option maxRecDepth 100000 in
theorem dM_in : ∀ q ∈ lM_in, decode prog_12_method_4_code q.1 = .ok q.2 := by decide +kernel
def lM_leave : List (Nat × Instr × Nat) := [(0, .aload_n 0, 1), (1, .iconst 0, 1), (2, .putfield 136, 3), (5, .aload_n 0, 1), (6, .iconst 0, 1), (7, .putfield 140, 3), (10, .iconst 0, 1), (11, .istore_n 1, 1), (12, .iload_n 1, 1), (13, .bipush 8, 2), (15, .if_icmp .ge 16, 3), (18, .aload_n 0, 1), (19, .getfield 117, 3), (22, .iload_n 1, 1), (23, .iconst (-1), 1), (24, .iastore, 1), (25, .iinc 1 1, 3), (28, .goto (-16), 3), (31, .iconst 0, 1), (32, .istore_n 1, 1), (33, .iload_n 1, 1), (34, .sipush 256, 3), (37, .if_icmp .ge 16, 3), (40, .aload_n 0, 1), (41, .getfield 126, 3), (44, .iload_n 1, 1), (45, .iconst 0, 1), (46, .bastore, 1), (47, .iinc 1 1, 3), (50, .goto (-17), 3), (53, .return_, 1)]
set_option maxRecDepth 100000 in
theorem dM_leave : ∀ q ∈ lM_leave, decode prog_12_method_5_code q.1 = .ok q.2 := by decide +kernel
def lM_type : List (Nat × Instr × Nat) := [(0, .aload_n 0, 1), (1, .iconst 0, 1), (2, .putfield 132, 3), (5, .aload_n 0, 1), (6, .getfield 143, 3), (9, .sipush 150, 3), (12, .if_icmp .ne 5, 3), (15, .iconst 0, 1), (16, .ireturn, 1), (17, .aload_n 0, 1), (18, .getfield 7, 3), (21, .aload_n 0, 1), (22, .getfield 143, 3), (25, .iload_n 1, 1), (26, .castore, 1), (27, .aload_n 0, 1), (28, .dup, 1), (29, .getfield 143, 3), (32, .iconst 1, 1), (33, .iadd, 1), (34, .putfield 143, 3), (37, .aload_n 0, 1), (38, .invokevirtual 129, 3), (41, .iconst 1, 1), (42, .ireturn, 1)]
set_option maxRecDepth 100000 in
theorem dM_type : ∀ q ∈ lM_type, decode prog_12_method_6_code q.1 = .ok q.2 := by decide +kernel
def lM_clear : List (Nat × Instr × Nat) := [(0, .aload_n 0, 1), (1, .getfield 143, 3), (4, .istore_n 1, 1), (5, .aload_n 0, 1), (6, .iconst 0, 1), (7, .putfield 132, 3), (10, .aload_n 0, 1), (11, .iconst 0, 1), (12, .putfield 143, 3), (15, .aload_n 0, 1), (16, .invokevirtual 129, 3), (19, .iload_n 1, 1), (20, .ireturn, 1)]
set_option maxRecDepth 100000 in
theorem dM_clear : ∀ q ∈ lM_clear, decode prog_12_method_7_code q.1 = .ok q.2 := by decide +kernel
def lM_look : List (Nat × Instr × Nat) := [(0, .aload_n 0, 1), (1, .getfield 146, 3), (4, .aload_n 0, 1), (5, .getfield 143, 3), (8, .if_icmp .ge 15, 3), (11, .aload_n 0, 1), (12, .getfield 7, 3), (15, .aload_n 0, 1), (16, .getfield 146, 3), (19, .caload, 1), (20, .goto 4, 3), (23, .iconst (-1), 1), (24, .ireturn, 1)]
set_option maxRecDepth 100000 in
theorem dM_look : ∀ q ∈ lM_look, decode prog_12_method_8_code q.1 = .ok q.2 := by decide +kernel
def lM_stop : List (Nat × Instr × Nat) := [(0, .aload_n 0, 1), (1, .getfield 149, 3), (4, .ifCond .ne 13, 3), (7, .aload_n 0, 1), (8, .iload_n 1, 1), (9, .bipush 16, 2), (11, .iload_n 2, 1), (12, .imul, 1), (13, .iadd, 1), (14, .putfield 149, 3), (17, .iconst (-1), 1), (18, .ireturn, 1)]
set_option maxRecDepth 100000 in
theorem dM_stop : ∀ q ∈ lM_stop, decode prog_12_method_9_code q.1 = .ok q.2 := by decide +kernel
def lM_need : List (Nat × Instr × Nat) := [(0, .aload_n 0, 1), (1, .invokevirtual 152, 3), (4, .iload_n 1, 1), (5, .if_icmp .ne 16, 3), (8, .aload_n 0, 1), (9, .dup, 1), (10, .getfield 146, 3), (13, .iconst 1, 1), (14, .iadd, 1), (15, .putfield 146, 3), (18, .goto 13, 3), (21, .aload_n 0, 1), (22, .iconst 1, 1), (23, .aload_n 0, 1), (24, .getfield 146, 3), (27, .invokevirtual 156, 3), (30, .pop, 1), (31, .aload_n 0, 1), (32, .getfield 149, 3), (35, .ifCond .ne 7, 3), (38, .iconst 1, 1), (39, .goto 4, 3), (42, .iconst 0, 1), (43, .ireturn, 1)]
set_option maxRecDepth 100000 in
theorem dM_need : ∀ q ∈ lM_need, decode prog_12_method_10_code q.1 = .ok q.2 := by decide +kernel
def lM_compile : List (Nat × Instr × Nat) := [(0, .aload_n 0, 1), (1, .iconst 0, 1), (2, .putfield 132, 3), (5, .aload_n 0, 1), (6, .invokevirtual 129, 3), (9, .aload_n 0, 1), (10, .iconst 0, 1), (11, .putfield 160, 3), (14, .aload_n 0, 1), (15, .iconst 0, 1), (16, .putfield 146, 3), (19, .aload_n 0, 1), (20, .iconst 0, 1), (21, .putfield 149, 3), (24, .iconst 0, 1), (25, .istore_n 1, 1), (26, .iload_n 1, 1), (27, .bipush 26, 2), (29, .if_icmp .ge 16, 3), (32, .aload_n 0, 1), (33, .getfield 17, 3), (36, .iload_n 1, 1), (37, .iconst (-1), 1), (38, .iastore, 1), (39, .iinc 1 1, 3), (42, .goto (-16), 3), (45, .aload_n 0, 1), (46, .invokevirtual 163, 3), (49, .aload_n 0, 1), (50, .getfield 149, 3), (53, .ifCond .ne 14, 3), (56, .aload_n 0, 1), (57, .getfield 146, 3), (60, .aload_n 0, 1), (61, .getfield 143, 3), (64, .if_icmp .lt (-19), 3), (67, .aload_n 0, 1), (68, .aload_n 0, 1), (69, .getfield 149, 3), (72, .ifCond .ne 7, 3), (75, .iconst 1, 1), (76, .goto 4, 3), (79, .iconst 0, 1), (80, .putfield 136, 3), (83, .aload_n 0, 1), (84, .getfield 149, 3), (87, .ireturn, 1)]
set_option maxRecDepth 100000 in
theorem dM_compile : ∀ q ∈ lM_compile, decode prog_12_method_11_code q.1 = .ok q.2 := by decide +kernel
def lM_definition : List (Nat × Instr × Nat) := [(0, .aload_n 0, 1), (1, .invokevirtual 152, 3), (4, .bipush 65, 2), (6, .isub, 1), (7, .istore_n 1, 1), (8, .iload_n 1, 1), (9, .iconst 0, 1), (10, .bipush 25, 2), (12, .invokestatic 166, 3), (15, .ifCond .ne 16, 3), (18, .aload_n 0, 1), (19, .iconst 1, 1), (20, .aload_n 0, 1), (21, .getfield 146, 3), (24, .invokevirtual 156, 3), (27, .pop, 1), (28, .goto 22, 3), (31, .aload_n 0, 1), (32, .getfield 17, 3), (35, .iload_n 1, 1), (36, .iaload, 1), (37, .ifCond .lt 13, 3), (40, .aload_n 0, 1), (41, .iconst 2, 1), (42, .aload_n 0, 1), (43, .getfield 146, 3), (46, .invokevirtual 156, 3), (49, .pop, 1), (50, .aload_n 0, 1), (51, .getfield 149, 3), (54, .ifCond .le 4, 3), (57, .return_, 1), (58, .aload_n 0, 1), (59, .dup, 1), (60, .getfield 146, 3), (63, .iconst 1, 1), (64, .iadd, 1), (65, .putfield 146, 3), (68, .aload_n 0, 1), (69, .bipush 61, 2), (71, .invokevirtual 170, 3), (74, .ifCond .eq 10, 3), (77, .aload_n 0, 1), (78, .invokevirtual 174, 3), (81, .goto 4, 3), (84, .iconst (-1), 1), (85, .istore_n 2, 1), (86, .iload_n 2, 1), (87, .ifCond .lt 19, 3), (90, .aload_n 0, 1), (91, .bipush 59, 2), (93, .invokevirtual 170, 3), (96, .ifCond .eq 10, 3), (99, .aload_n 0, 1), (100, .getfield 17, 3), (103, .iload_n 1, 1), (104, .iload_n 2, 1), (105, .iastore, 1), (106, .return_, 1)]
set_option maxRecDepth 100000 in
theorem dM_definition : ∀ q ∈ lM_definition, decode prog_12_method_12_code q.1 = .ok q.2 := by decide +kernel
def lM_whole : List (Nat × Instr × Nat) := [(0, .aload_n 0, 1), (1, .iconst 0, 1), (2, .putfield 177, 3), (5, .aload_n 0, 1), (6, .getfield 149, 3), (9, .ifCond .ne 44, 3), (12, .aload_n 0, 1), (13, .invokevirtual 180, 3), (16, .istore_n 1, 1), (17, .iload_n 1, 1), (18, .ifCond .lt 19, 3), (21, .aload_n 0, 1), (22, .getfield 177, 3), (25, .ifCond .le 12, 3), (28, .aload_n 0, 1), (29, .iload_n 1, 1), (30, .invokevirtual 183, 3), (33, .istore_n 1, 1), (34, .goto (-17), 3), (37, .iload_n 1, 1), (38, .ifCond .lt 12, 3), (41, .aload_n 0, 1), (42, .getfield 149, 3), (45, .ifCond .ne 5, 3), (48, .iload_n 1, 1), (49, .ireturn, 1), (50, .goto (-45), 3), (53, .iconst (-1), 1), (54, .ireturn, 1)]
set_option maxRecDepth 100000 in
theorem dM_whole : ∀ q ∈ lM_whole, decode prog_12_method_13_code q.1 = .ok q.2 := by decide +kernel
def lM_add : List (Nat × Instr × Nat) := [(0, .aload_n 0, 1), (1, .getfield 160, 3), (4, .istore_n 2, 1), (5, .aload_n 0, 1), (6, .dup, 1), (7, .getfield 160, 3), (10, .iconst 1, 1), (11, .iadd, 1), (12, .putfield 160, 3), (15, .aload_n 0, 1), (16, .getfield 20, 3), (19, .iload_n 2, 1), (20, .iload_n 1, 1), (21, .iastore, 1), (22, .aload_n 0, 1), (23, .getfield 32, 3), (26, .iload_n 2, 1), (27, .iconst 0, 1), (28, .iastore, 1), (29, .aload_n 0, 1), (30, .getfield 38, 3), (33, .iload_n 2, 1), (34, .iconst 0, 1), (35, .iastore, 1), (36, .aload_n 0, 1), (37, .getfield 41, 3), (40, .iload_n 2, 1), (41, .iconst 0, 1), (42, .bastore, 1), (43, .iload_n 1, 1), (44, .iconst 1, 1), (45, .if_icmp .ne 7, 3), (48, .iconst 1, 1), (49, .goto 48, 3), (52, .iload_n 1, 1), (53, .iconst 2, 1), (54, .if_icmp .ne 7, 3), (57, .iconst 2, 1), (58, .goto 39, 3), (61, .iload_n 1, 1), (62, .iconst 4, 1), (63, .if_icmp .ne 7, 3), (66, .iconst 4, 1), (67, .goto 30, 3), (70, .iload_n 1, 1), (71, .iconst 5, 1), (72, .if_icmp .ne 7, 3), (75, .iconst 5, 1), (76, .goto 21, 3), (79, .iload_n 1, 1), (80, .bipush 9, 2), (82, .if_icmp .eq 9, 3), (85, .iload_n 1, 1), (86, .bipush 10, 2), (88, .if_icmp .ne 7, 3), (91, .iconst 0, 1), (92, .goto 5, 3), (95, .bipush 16, 2), (97, .istore_n 3, 1), (98, .aload_n 0, 1), (99, .getfield 35, 3), (102, .iload_n 2, 1), (103, .iload_n 3, 1), (104, .ifCond .ne 7, 3), (107, .iconst 0, 1), (108, .goto 6, 3), (111, .iconst 1, 1), (112, .iload_n 3, 1), (113, .ishl, 1), (114, .iastore, 1), (115, .iload_n 2, 1), (116, .ireturn, 1)]
set_option maxRecDepth 100000 in
theorem dM_add : ∀ q ∈ lM_add, decode prog_12_method_14_code q.1 = .ok q.2 := by decide +kernel
def lM_push : List (Nat × Instr × Nat) := [(0, .aload_n 0, 1), (1, .getfield 13, 3), (4, .aload_n 0, 1), (5, .getfield 177, 3), (8, .iload_n 1, 1), (9, .iastore, 1), (10, .aload_n 0, 1), (11, .dup, 1), (12, .getfield 177, 3), (15, .iconst 1, 1), (16, .iadd, 1), (17, .putfield 177, 3), (20, .iconst (-1), 1), (21, .ireturn, 1)]
set_option maxRecDepth 100000 in
theorem dM_push : ∀ q ∈ lM_push, decode prog_12_method_15_code q.1 = .ok q.2 := by decide +kernel
def lM_begin : List (Nat × Instr × Nat) := [(0, .aload_n 0, 1), (1, .invokevirtual 152, 3), (4, .istore_n 1, 1), (5, .iload_n 1, 1), (6, .bipush 91, 2), (8, .if_icmp .ne 8, 3), (11, .aload_n 0, 1), (12, .invokevirtual 187, 3), (15, .ireturn, 1), (16, .iload_n 1, 1), (17, .bipush 65, 2), (19, .bipush 90, 2), (21, .invokestatic 166, 3), (24, .ifCond .eq 12, 3), (27, .aload_n 0, 1), (28, .iload_n 1, 1), (29, .bipush 65, 2), (31, .isub, 1), (32, .invokevirtual 190, 3), (35, .ireturn, 1), (36, .iload_n 1, 1), (37, .bipush 98, 2), (39, .if_icmp .ne 7, 3), (42, .iconst 1, 1), (43, .goto 67, 3), (46, .iload_n 1, 1), (47, .bipush 105, 2), (49, .if_icmp .ne 7, 3), (52, .iconst 2, 1), (53, .goto 57, 3), (56, .iload_n 1, 1), (57, .bipush 111, 2), (59, .if_icmp .ne 7, 3), (62, .iconst 4, 1), (63, .goto 47, 3), (66, .iload_n 1, 1), (67, .bipush 110, 2), (69, .if_icmp .ne 7, 3), (72, .iconst 5, 1), (73, .goto 37, 3), (76, .iload_n 1, 1), (77, .bipush 113, 2), (79, .if_icmp .ne 8, 3), (82, .bipush 6, 2), (84, .goto 26, 3), (87, .iload_n 1, 1), (88, .bipush 108, 2), (90, .if_icmp .ne 8, 3), (93, .bipush 7, 2), (95, .goto 15, 3), (98, .iload_n 1, 1), (99, .bipush 99, 2), (101, .if_icmp .ne 8, 3), (104, .bipush 9, 2), (106, .goto 4, 3), (109, .iconst 0, 1), (110, .istore_n 2, 1), (111, .iload_n 2, 1), (112, .ifCond .ne 13, 3), (115, .aload_n 0, 1), (116, .iconst 1, 1), (117, .aload_n 0, 1), (118, .getfield 146, 3), (121, .invokevirtual 156, 3), (124, .ireturn, 1), (125, .aload_n 0, 1), (126, .getfield 177, 3), (129, .bipush 6, 2), (131, .if_icmp .lt 13, 3), (134, .aload_n 0, 1), (135, .iconst 5, 1), (136, .aload_n 0, 1), (137, .getfield 146, 3), (140, .invokevirtual 156, 3), (143, .ireturn, 1), (144, .aload_n 0, 1), (145, .dup, 1), (146, .getfield 146, 3), (149, .iconst 1, 1), (150, .iadd, 1), (151, .putfield 146, 3), (154, .aload_n 0, 1), (155, .iload_n 2, 1), (156, .invokevirtual 193, 3), (159, .istore_n 3, 1), (160, .iload_n 2, 1), (161, .bipush 6, 2), (163, .if_icmp .eq 9, 3), (166, .iload_n 2, 1), (167, .bipush 9, 2), (169, .if_icmp .ne 47, 3), (172, .aload_n 0, 1), (173, .bipush 123, 2), (175, .invokevirtual 170, 3), (178, .ifCond .ne 5, 3), (181, .iconst (-1), 1), (182, .ireturn, 1), (183, .iload_n 2, 1), (184, .bipush 9, 2), (186, .if_icmp .eq 12, 3), (189, .aload_n 0, 1), (190, .invokevirtual 152, 3), (193, .bipush 125, 2), (195, .if_icmp .eq 9, 3), (198, .aload_n 0, 1), (199, .iload_n 3, 1), (200, .invokevirtual 196, 3), (203, .ireturn, 1), (204, .aload_n 0, 1), (205, .dup, 1), (206, .getfield 146, 3), (209, .iconst 1, 1), (210, .iadd, 1), (211, .putfield 146, 3), (214, .iload_n 3, 1), (215, .ireturn, 1), (216, .iload_n 2, 1), (217, .iconst 1, 1), (218, .if_icmp .eq 32, 3), (221, .iload_n 2, 1), (222, .iconst 5, 1), (223, .if_icmp .eq 27, 3), (226, .aload_n 0, 1), (227, .invokevirtual 152, 3), (230, .bipush 40, 2), (232, .if_icmp .ne 18, 3), (235, .aload_n 0, 1), (236, .iload_n 3, 1), (237, .iload_n 2, 1), (238, .iconst 2, 1), (239, .if_icmp .ne 7, 3), (242, .iconst 1, 1), (243, .goto 4, 3), (246, .iconst 0, 1), (247, .invokevirtual 199, 3), (250, .aload_n 0, 1), (251, .getfield 149, 3), (254, .ifCond .le 7, 3), (257, .iconst (-1), 1), (258, .goto 18, 3), (261, .iload_n 2, 1), (262, .bipush 7, 2), (264, .if_icmp .ne 11, 3), (267, .aload_n 0, 1), (268, .iload_n 3, 1), (269, .invokevirtual 196, 3), (272, .goto 4, 3), (275, .iload_n 3, 1), (276, .ireturn, 1)]
set_option maxRecDepth 100000 in
theorem dM_begin : ∀ q ∈ lM_begin, decode prog_12_method_16_code q.1 = .ok q.2 := by decide +kernel
def lM_tagged : List (Nat × Instr × Nat) := [(0, .aload_n 0, 1), (1, .dup, 1), (2, .getfield 146, 3), (5, .iconst 1, 1), (6, .iadd, 1), (7, .putfield 146, 3), (10, .aload_n 0, 1), (11, .bipush 10, 2), (13, .invokevirtual 193, 3), (16, .istore_n 1, 1), (17, .aload_n 0, 1), (18, .getfield 29, 3), (21, .iload_n 1, 1), (22, .aload_n 0, 1), (23, .invokevirtual 152, 3), (26, .bipush 48, 2), (28, .isub, 1), (29, .iastore, 1), (30, .aload_n 0, 1), (31, .getfield 29, 3), (34, .iload_n 1, 1), (35, .iaload, 1), (36, .iconst 0, 1), (37, .bipush 9, 2), (39, .invokestatic 166, 3), (42, .ifCond .ne 13, 3), (45, .aload_n 0, 1), (46, .iconst 1, 1), (47, .aload_n 0, 1), (48, .getfield 146, 3), (51, .invokevirtual 156, 3), (54, .ireturn, 1), (55, .aload_n 0, 1), (56, .dup, 1), (57, .getfield 146, 3), (60, .iconst 1, 1), (61, .iadd, 1), (62, .putfield 146, 3), (65, .aload_n 0, 1), (66, .getfield 45, 3), (69, .iload_n 1, 1), (70, .aload_n 0, 1), (71, .invokevirtual 152, 3), (74, .bipush 33, 2), (76, .if_icmp .ne 7, 3), (79, .iconst 1, 1), (80, .goto 4, 3), (83, .iconst 0, 1), (84, .bastore, 1), (85, .aload_n 0, 1), (86, .dup, 1), (87, .getfield 146, 3), (90, .aload_n 0, 1), (91, .getfield 45, 3), (94, .iload_n 1, 1), (95, .baload, 1), (96, .ifCond .eq 7, 3), (99, .iconst 1, 1), (100, .goto 4, 3), (103, .iconst 0, 1), (104, .iadd, 1), (105, .putfield 146, 3), (108, .aload_n 0, 1), (109, .getfield 35, 3), (112, .iload_n 1, 1), (113, .iconst 1, 1), (114, .bipush 20, 2), (116, .aload_n 0, 1), (117, .getfield 29, 3), (120, .iload_n 1, 1), (121, .iaload, 1), (122, .iadd, 1), (123, .ishl, 1), (124, .iastore, 1), (125, .aload_n 0, 1), (126, .bipush 93, 2), (128, .invokevirtual 170, 3), (131, .ifCond .eq 11, 3), (134, .aload_n 0, 1), (135, .iload_n 1, 1), (136, .invokevirtual 196, 3), (139, .goto 4, 3), (142, .iconst (-1), 1), (143, .ireturn, 1)]
set_option maxRecDepth 100000 in
theorem dM_tagged : ∀ q ∈ lM_tagged, decode prog_12_method_17_code q.1 = .ok q.2 := by decide +kernel
def lM_named : List (Nat × Instr × Nat) := [(0, .aload_n 0, 1), (1, .getfield 17, 3), (4, .iload_n 1, 1), (5, .iaload, 1), (6, .ifCond .ge 13, 3), (9, .aload_n 0, 1), (10, .iconst 3, 1), (11, .aload_n 0, 1), (12, .getfield 146, 3), (15, .invokevirtual 156, 3), (18, .ireturn, 1), (19, .aload_n 0, 1), (20, .getfield 177, 3), (23, .aload_n 0, 1), (24, .getfield 38, 3), (27, .aload_n 0, 1), (28, .getfield 17, 3), (31, .iload_n 1, 1), (32, .iaload, 1), (33, .iaload, 1), (34, .iadd, 1), (35, .bipush 6, 2), (37, .if_icmp .lt 13, 3), (40, .aload_n 0, 1), (41, .iconst 5, 1), (42, .aload_n 0, 1), (43, .getfield 146, 3), (46, .invokevirtual 156, 3), (49, .ireturn, 1), (50, .aload_n 0, 1), (51, .dup, 1), (52, .getfield 146, 3), (55, .iconst 1, 1), (56, .iadd, 1), (57, .putfield 146, 3), (60, .aload_n 0, 1), (61, .getfield 17, 3), (64, .iload_n 1, 1), (65, .iaload, 1), (66, .ireturn, 1)]
set_option maxRecDepth 100000 in
theorem dM_named : ∀ q ∈ lM_named, decode prog_12_method_18_code q.1 = .ok q.2 := by decide +kernel
def lM_numeral : List (Nat × Instr × Nat) := [(0, .aload_n 0, 1), (1, .invokevirtual 152, 3), (4, .bipush 45, 2), (6, .if_icmp .ne 7, 3), (9, .iconst 1, 1), (10, .goto 4, 3), (13, .iconst 0, 1), (14, .istore_n 1, 1), (15, .aload_n 0, 1), (16, .dup, 1), (17, .getfield 146, 3), (20, .iload_n 1, 1), (21, .ifCond .eq 7, 3), (24, .iconst 1, 1), (25, .goto 4, 3), (28, .iconst 0, 1), (29, .iadd, 1), (30, .putfield 146, 3), (33, .aload_n 0, 1), (34, .invokevirtual 152, 3), (37, .bipush 48, 2), (39, .bipush 57, 2), (41, .invokestatic 166, 3), (44, .ifCond .ne 13, 3), (47, .aload_n 0, 1), (48, .iconst 1, 1), (49, .aload_n 0, 1), (50, .getfield 146, 3), (53, .invokevirtual 156, 3), (56, .pop, 1), (57, .iconst 0, 1), (58, .istore_n 2, 1), (59, .aload_n 0, 1), (60, .getfield 146, 3), (63, .iconst 5, 1), (64, .iadd, 1), (65, .istore_n 3, 1), (66, .aload_n 0, 1), (67, .invokevirtual 152, 3), (70, .bipush 48, 2), (72, .bipush 57, 2), (74, .invokestatic 166, 3), (77, .ifCond .eq 37, 3), (80, .aload_n 0, 1), (81, .getfield 146, 3), (84, .iload_n 3, 1), (85, .if_icmp .ge 29, 3), (88, .bipush 10, 2), (90, .iload_n 2, 1), (91, .imul, 1), (92, .aload_n 0, 1), (93, .invokevirtual 152, 3), (96, .iadd, 1), (97, .bipush 48, 2), (99, .isub, 1), (100, .istore_n 2, 1), (101, .aload_n 0, 1), (102, .dup, 1), (103, .getfield 146, 3), (106, .iconst 1, 1), (107, .iadd, 1), (108, .putfield 146, 3), (111, .goto (-45), 3), (114, .aload_n 0, 1), (115, .invokevirtual 152, 3), (118, .bipush 48, 2), (120, .bipush 57, 2), (122, .invokestatic 166, 3), (125, .ifCond .eq 13, 3), (128, .aload_n 0, 1), (129, .iconst 1, 1), (130, .aload_n 0, 1), (131, .getfield 146, 3), (134, .invokevirtual 156, 3), (137, .pop, 1), (138, .aload_n 0, 1), (139, .iload_n 1, 1), (140, .ifCond .eq 8, 3), (143, .iload_n 2, 1), (144, .ineg, 1), (145, .goto 4, 3), (148, .iload_n 2, 1), (149, .putfield 203, 3), (152, .aload_n 0, 1), (153, .getfield 149, 3), (156, .ifCond .ne 7, 3), (159, .iconst 1, 1), (160, .goto 4, 3), (163, .iconst 0, 1), (164, .ireturn, 1)]
set_option maxRecDepth 100000 in
theorem dM_numeral : ∀ q ∈ lM_numeral, decode prog_12_method_19_code q.1 = .ok q.2 := by decide +kernel
end
section
/-! DECODE: each method's instructions, by place -/
def lM_ranged : List (Nat × Instr × Nat) := [(0, .aload_n 0, 1), (1, .dup, 1), (2, .getfield 146, 3), (5, .iconst 1, 1), (6, .iadd, 1), (7, .putfield 146, 3), (10, .aload_n 0, 1), (11, .invokevirtual 206, 3), (14, .ifCond .ne 4, 3), (17, .return_, 1), (18, .aload_n 0, 1), (19, .getfield 23, 3), (22, .iload_n 1, 1), (23, .aload_n 0, 1), (24, .getfield 203, 3), (27, .iastore, 1), (28, .aload_n 0, 1), (29, .bipush 44, 2), (31, .invokevirtual 170, 3), (34, .ifCond .eq 10, 3), (37, .aload_n 0, 1), (38, .invokevirtual 206, 3), (41, .ifCond .ne 4, 3), (44, .return_, 1), (45, .aload_n 0, 1), (46, .getfield 26, 3), (49, .iload_n 1, 1), (50, .aload_n 0, 1), (51, .getfield 203, 3), (54, .iastore, 1), (55, .aload_n 0, 1), (56, .getfield 41, 3), (59, .iload_n 1, 1), (60, .iconst 1, 1), (61, .bastore, 1), (62, .iload_n 2, 1), (63, .ifCond .eq 29, 3), (66, .aload_n 0, 1), (67, .getfield 26, 3), (70, .iload_n 1, 1), (71, .iaload, 1), (72, .aload_n 0, 1), (73, .getfield 23, 3), (76, .iload_n 1, 1), (77, .iaload, 1), (78, .isub, 1), (79, .ldc 210, 2), (81, .if_icmp .ge 7, 3), (84, .iconst 1, 1), (85, .goto 32, 3), (88, .iconst 0, 1), (89, .goto 28, 3), (92, .aload_n 0, 1), (93, .getfield 23, 3), (96, .iload_n 1, 1), (97, .iaload, 1), (98, .ifCond .lt 18, 3), (101, .aload_n 0, 1), (102, .getfield 26, 3), (105, .iload_n 1, 1), (106, .iaload, 1), (107, .bipush 20, 2), (109, .if_icmp .gt 7, 3), (112, .iconst 1, 1), (113, .goto 4, 3), (116, .iconst 0, 1), (117, .istore_n 3, 1), (118, .aload_n 0, 1), (119, .invokevirtual 152, 3), (122, .bipush 41, 2), (124, .if_icmp .ne 35, 3), (127, .aload_n 0, 1), (128, .getfield 23, 3), (131, .iload_n 1, 1), (132, .iaload, 1), (133, .aload_n 0, 1), (134, .getfield 26, 3), (137, .iload_n 1, 1), (138, .iaload, 1), (139, .if_icmp .gt 7, 3), (142, .iload_n 3, 1), (143, .ifCond .ne 16, 3), (146, .aload_n 0, 1), (147, .iconst 4, 1), (148, .aload_n 0, 1), (149, .getfield 146, 3), (152, .invokevirtual 156, 3), (155, .pop, 1), (156, .goto 10, 3), (159, .aload_n 0, 1), (160, .bipush 41, 2), (162, .invokevirtual 170, 3), (165, .pop, 1), (166, .return_, 1)]
set_option maxRecDepth 100000 in
theorem dM_ranged : ∀ q ∈ lM_ranged, decode prog_12_method_20_code q.1 = .ok q.2 := by decide +kernel
def lM_end : List (Nat × Instr × Nat) := [(0, .aload_n 0, 1), (1, .getfield 13, 3), (4, .aload_n 0, 1), (5, .getfield 177, 3), (8, .iconst 1, 1), (9, .isub, 1), (10, .iaload, 1), (11, .istore_n 2, 1), (12, .bipush 6, 2), (14, .iload_n 2, 1), (15, .imul, 1), (16, .aload_n 0, 1), (17, .getfield 32, 3), (20, .iload_n 2, 1), (21, .iaload, 1), (22, .iadd, 1), (23, .istore_n 3, 1), (24, .aload_n 0, 1), (25, .getfield 48, 3), (28, .iload_n 3, 1), (29, .iload_n 1, 1), (30, .iastore, 1), (31, .aload_n 0, 1), (32, .getfield 51, 3), (35, .iload_n 3, 1), (36, .iconst 0, 1), (37, .iastore, 1), (38, .aload_n 0, 1), (39, .getfield 32, 3), (42, .iload_n 2, 1), (43, .dup2, 1), (44, .iaload, 1), (45, .iconst 1, 1), (46, .iadd, 1), (47, .iastore, 1), (48, .aload_n 0, 1), (49, .getfield 38, 3), (52, .iload_n 2, 1), (53, .aload_n 0, 1), (54, .getfield 38, 3), (57, .iload_n 1, 1), (58, .iaload, 1), (59, .aload_n 0, 1), (60, .getfield 38, 3), (63, .iload_n 2, 1), (64, .iaload, 1), (65, .if_icmp .lt 14, 3), (68, .aload_n 0, 1), (69, .getfield 38, 3), (72, .iload_n 1, 1), (73, .iaload, 1), (74, .iconst 1, 1), (75, .iadd, 1), (76, .goto 9, 3), (79, .aload_n 0, 1), (80, .getfield 38, 3), (83, .iload_n 2, 1), (84, .iaload, 1), (85, .iastore, 1), (86, .aload_n 0, 1), (87, .getfield 20, 3), (90, .iload_n 2, 1), (91, .iaload, 1), (92, .bipush 6, 2), (94, .if_icmp .ne 9, 3), (97, .aload_n 0, 1), (98, .iload_n 3, 1), (99, .iload_n 1, 1), (100, .invokevirtual 211, 3), (103, .aload_n 0, 1), (104, .getfield 149, 3), (107, .ifCond .le 5, 3), (110, .iconst (-1), 1), (111, .ireturn, 1), (112, .aload_n 0, 1), (113, .getfield 20, 3), (116, .iload_n 2, 1), (117, .iaload, 1), (118, .bipush 6, 2), (120, .if_icmp .eq 14, 3), (123, .aload_n 0, 1), (124, .getfield 20, 3), (127, .iload_n 2, 1), (128, .iaload, 1), (129, .bipush 9, 2), (131, .if_icmp .ne 111, 3), (134, .aload_n 0, 1), (135, .invokevirtual 152, 3), (138, .bipush 44, 2), (140, .if_icmp .ne 25, 3), (143, .aload_n 0, 1), (144, .getfield 32, 3), (147, .iload_n 2, 1), (148, .iaload, 1), (149, .bipush 6, 2), (151, .if_icmp .ne 14, 3), (154, .aload_n 0, 1), (155, .bipush 7, 2), (157, .aload_n 0, 1), (158, .getfield 146, 3), (161, .invokevirtual 156, 3), (164, .ireturn, 1), (165, .aload_n 0, 1), (166, .invokevirtual 152, 3), (169, .bipush 44, 2), (171, .if_icmp .eq 22, 3), (174, .aload_n 0, 1), (175, .invokevirtual 152, 3), (178, .bipush 125, 2), (180, .if_icmp .eq 13, 3), (183, .aload_n 0, 1), (184, .iconst 1, 1), (185, .aload_n 0, 1), (186, .getfield 146, 3), (189, .invokevirtual 156, 3), (192, .ireturn, 1), (193, .aload_n 0, 1), (194, .dup, 1), (195, .getfield 146, 3), (198, .iconst 1, 1), (199, .iadd, 1), (200, .putfield 146, 3), (203, .aload_n 0, 1), (204, .getfield 7, 3), (207, .aload_n 0, 1), (208, .getfield 146, 3), (211, .iconst 1, 1), (212, .isub, 1), (213, .caload, 1), (214, .bipush 44, 2), (216, .if_icmp .ne 5, 3), (219, .iconst (-1), 1), (220, .ireturn, 1), (221, .aload_n 0, 1), (222, .iload_n 2, 1), (223, .invokevirtual 215, 3), (226, .ifCond .eq 16, 3), (229, .aload_n 0, 1), (230, .bipush 6, 2), (232, .aload_n 0, 1), (233, .getfield 146, 3), (236, .iconst 1, 1), (237, .isub, 1), (238, .invokevirtual 156, 3), (241, .ireturn, 1), (242, .aload_n 0, 1), (243, .dup, 1), (244, .getfield 177, 3), (247, .iconst 1, 1), (248, .isub, 1), (249, .putfield 177, 3), (252, .iload_n 2, 1), (253, .ireturn, 1)]
set_option maxRecDepth 100000 in
theorem dM_end : ∀ q ∈ lM_end, decode prog_12_method_21_code q.1 = .ok q.2 := by decide +kernel
def lM_component : List (Nat × Instr × Nat) := [(0, .aload_n 0, 1), (1, .invokevirtual 152, 3), (4, .bipush 63, 2), (6, .if_icmp .ne 23, 3), (9, .aload_n 0, 1), (10, .getfield 51, 3), (13, .iload_n 1, 1), (14, .iconst 1, 1), (15, .iastore, 1), (16, .aload_n 0, 1), (17, .dup, 1), (18, .getfield 146, 3), (21, .iconst 1, 1), (22, .iadd, 1), (23, .putfield 146, 3), (26, .goto 152, 3), (29, .aload_n 0, 1), (30, .invokevirtual 152, 3), (33, .bipush 61, 2), (35, .if_icmp .ne 143, 3), (38, .aload_n 0, 1), (39, .getfield 51, 3), (42, .iload_n 1, 1), (43, .iconst 2, 1), (44, .iastore, 1), (45, .aload_n 0, 1), (46, .dup, 1), (47, .getfield 146, 3), (50, .iconst 1, 1), (51, .iadd, 1), (52, .putfield 146, 3), (55, .aload_n 0, 1), (56, .invokevirtual 206, 3), (59, .ifCond .ne 4, 3), (62, .return_, 1), (63, .aload_n 0, 1), (64, .getfield 54, 3), (67, .iload_n 1, 1), (68, .aload_n 0, 1), (69, .getfield 203, 3), (72, .iastore, 1), (73, .aload_n 0, 1), (74, .iload_n 2, 1), (75, .invokevirtual 218, 3), (78, .aload_n 0, 1), (79, .getfield 20, 3), (82, .aload_n 0, 1), (83, .getfield 222, 3), (86, .iaload, 1), (87, .iconst 1, 1), (88, .if_icmp .ne 15, 3), (91, .aload_n 0, 1), (92, .getfield 203, 3), (95, .iconst 0, 1), (96, .iconst 1, 1), (97, .invokestatic 166, 3), (100, .goto 61, 3), (103, .aload_n 0, 1), (104, .getfield 20, 3), (107, .aload_n 0, 1), (108, .getfield 222, 3), (111, .iaload, 1), (112, .iconst 2, 1), (113, .if_icmp .ne 47, 3), (116, .aload_n 0, 1), (117, .getfield 41, 3), (120, .aload_n 0, 1), (121, .getfield 222, 3), (124, .baload, 1), (125, .ifCond .eq 31, 3), (128, .aload_n 0, 1), (129, .getfield 203, 3), (132, .aload_n 0, 1), (133, .getfield 23, 3), (136, .aload_n 0, 1), (137, .getfield 222, 3), (140, .iaload, 1), (141, .aload_n 0, 1), (142, .getfield 26, 3), (145, .aload_n 0, 1), (146, .getfield 222, 3), (149, .iaload, 1), (150, .invokestatic 166, 3), (153, .ifCond .eq 7, 3), (156, .iconst 1, 1), (157, .goto 4, 3), (160, .iconst 0, 1), (161, .istore_n 3, 1), (162, .iload_n 3, 1), (163, .ifCond .ne 15, 3), (166, .aload_n 0, 1), (167, .iconst 4, 1), (168, .aload_n 0, 1), (169, .getfield 146, 3), (172, .iconst 1, 1), (173, .isub, 1), (174, .invokevirtual 156, 3), (177, .pop, 1), (178, .return_, 1)]
set_option maxRecDepth 100000 in
theorem dM_component : ∀ q ∈ lM_component, decode prog_12_method_22_code q.1 = .ok q.2 := by decide +kernel
def lM_clashes : List (Nat × Instr × Nat) := [(0, .iconst 0, 1), (1, .istore_n 2, 1), (2, .iconst 0, 1), (3, .istore_n 3, 1), (4, .bipush 6, 2), (6, .iload_n 1, 1), (7, .imul, 1), (8, .istore 4, 2), (10, .iload 4, 2), (12, .bipush 6, 2), (14, .iload_n 1, 1), (15, .imul, 1), (16, .aload_n 0, 1), (17, .getfield 32, 3), (20, .iload_n 1, 1), (21, .iaload, 1), (22, .iadd, 1), (23, .if_icmp .ge 76, 3), (26, .iload_n 2, 1), (27, .ifCond .ne 20, 3), (30, .iload_n 3, 1), (31, .aload_n 0, 1), (32, .getfield 35, 3), (35, .aload_n 0, 1), (36, .getfield 48, 3), (39, .iload 4, 2), (41, .iaload, 1), (42, .iaload, 1), (43, .iand, 1), (44, .ifCond .eq 7, 3), (47, .iconst 1, 1), (48, .goto 4, 3), (51, .iconst 0, 1), (52, .istore_n 2, 1), (53, .aload_n 0, 1), (54, .getfield 20, 3), (57, .iload_n 1, 1), (58, .iaload, 1), (59, .bipush 6, 2), (61, .if_icmp .ne 17, 3), (64, .aload_n 0, 1), (65, .getfield 51, 3), (68, .iload 4, 2), (70, .iaload, 1), (71, .ifCond .ne 7, 3), (74, .iconst 0, 1), (75, .goto 17, 3), (78, .iload_n 3, 1), (79, .aload_n 0, 1), (80, .getfield 35, 3), (83, .aload_n 0, 1), (84, .getfield 48, 3), (87, .iload 4, 2), (89, .iaload, 1), (90, .iaload, 1), (91, .ior, 1), (92, .istore_n 3, 1), (93, .iinc 4 1, 3), (96, .goto (-86), 3), (99, .aload_n 0, 1), (100, .getfield 20, 3), (103, .iload_n 1, 1), (104, .iaload, 1), (105, .bipush 9, 2), (107, .if_icmp .ne 10, 3), (110, .aload_n 0, 1), (111, .getfield 35, 3), (114, .iload_n 1, 1), (115, .iload_n 3, 1), (116, .iastore, 1), (117, .iload_n 2, 1), (118, .ireturn, 1)]
set_option maxRecDepth 100000 in
theorem dM_clashes : ∀ q ∈ lM_clashes, decode prog_12_method_23_code q.1 = .ok q.2 := by decide +kernel
def lM_unwrap : List (Nat × Instr × Nat) := [(0, .iconst 0, 1), (1, .istore_n 2, 1), (2, .aload_n 0, 1), (3, .iload_n 1, 1), (4, .putfield 222, 3), (7, .aload_n 0, 1), (8, .getfield 20, 3), (11, .aload_n 0, 1), (12, .getfield 222, 3), (15, .iaload, 1), (16, .bipush 10, 2), (18, .if_icmp .ne 35, 3), (21, .aload_n 0, 1), (22, .getfield 60, 3), (25, .iload_n 2, 1), (26, .aload_n 0, 1), (27, .getfield 222, 3), (30, .iastore, 1), (31, .iinc 2 1, 3), (34, .aload_n 0, 1), (35, .aload_n 0, 1), (36, .getfield 48, 3), (39, .bipush 6, 2), (41, .aload_n 0, 1), (42, .getfield 222, 3), (45, .imul, 1), (46, .iaload, 1), (47, .putfield 222, 3), (50, .goto (-43), 3), (53, .aload_n 0, 1), (54, .getfield 20, 3), (57, .aload_n 0, 1), (58, .getfield 222, 3), (61, .iaload, 1), (62, .istore_n 3, 1), (63, .aload_n 0, 1), (64, .iload_n 3, 1), (65, .bipush 9, 2), (67, .if_icmp .ne 7, 3), (70, .iconst 0, 1), (71, .goto 4, 3), (74, .iconst 1, 1), (75, .putfield 225, 3), (78, .aload_n 0, 1), (79, .getfield 57, 3), (82, .iconst 0, 1), (83, .iload_n 3, 1), (84, .bipush 6, 2), (86, .if_icmp .eq 9, 3), (89, .iload_n 3, 1), (90, .bipush 7, 2), (92, .if_icmp .ne 8, 3), (95, .bipush 48, 2), (97, .goto 4, 3), (100, .iload_n 3, 1), (101, .iastore, 1), (102, .iload_n 2, 1), (103, .ifCond .le 125, 3), (106, .iinc 2 (-1), 3), (109, .aload_n 0, 1), (110, .getfield 29, 3), (113, .aload_n 0, 1), (114, .getfield 60, 3), (117, .iload_n 2, 1), (118, .iaload, 1), (119, .iaload, 1), (120, .istore 4, 2), (122, .aload_n 0, 1), (123, .getfield 225, 3), (126, .iconst 1, 1), (127, .if_icmp .gt 14, 3), (130, .iload_n 3, 1), (131, .bipush 6, 2), (133, .bipush 9, 2), (135, .invokestatic 166, 3), (138, .ifCond .eq 7, 3), (141, .iconst 1, 1), (142, .goto 4, 3), (145, .iconst 0, 1), (146, .istore 5, 2), (148, .aload_n 0, 1), (149, .getfield 45, 3), (152, .aload_n 0, 1), (153, .getfield 60, 3), (156, .iload_n 2, 1), (157, .iaload, 1), (158, .baload, 1), (159, .ifCond .eq 41, 3), (162, .aload_n 0, 1), (163, .getfield 225, 3), (166, .ifCond .le 34, 3), (169, .aload_n 0, 1), (170, .getfield 57, 3), (173, .aload_n 0, 1), (174, .getfield 225, 3), (177, .iconst 1, 1), (178, .isub, 1), (179, .iload 5, 2), (181, .ifCond .eq 9, 3), (184, .sipush 160, 3), (187, .goto 6, 3), (190, .sipush 128, 3), (193, .iload 4, 2), (195, .iadd, 1), (196, .iastore, 1), (197, .goto 28, 3), (200, .aload_n 0, 1), (201, .getfield 57, 3), (204, .aload_n 0, 1), (205, .getfield 225, 3), (208, .sipush 160, 3), (211, .iload 4, 2), (213, .iadd, 1), (214, .iastore, 1), (215, .aload_n 0, 1), (216, .dup, 1), (217, .getfield 225, 3), (220, .iconst 1, 1), (221, .iadd, 1), (222, .putfield 225, 3), (225, .goto (-123), 3), (228, .return_, 1)]
set_option maxRecDepth 100000 in
theorem dM_unwrap : ∀ q ∈ lM_unwrap, decode prog_12_method_24_code q.1 = .ok q.2 := by decide +kernel
def lM_put : List (Nat × Instr × Nat) := [(0, .aload_n 0, 1), (1, .iconst 0, 1), (2, .putfield 132, 3), (5, .iload_n 3, 1), (6, .iconst 1, 1), (7, .bipush 8, 2), (9, .invokestatic 166, 3), (12, .ifCond .eq 14, 3), (15, .aload_n 0, 1), (16, .getfield 228, 3), (19, .iload_n 3, 1), (20, .iadd, 1), (21, .bipush 120, 2), (23, .if_icmp .le 5, 3), (26, .iconst 0, 1), (27, .ireturn, 1), (28, .iload_n 3, 1), (29, .iconst 1, 1), (30, .isub, 1), (31, .istore 4, 2), (33, .iload 4, 2), (35, .ifCond .lt 40, 3), (38, .aload_n 0, 1), (39, .getfield 63, 3), (42, .aload_n 0, 1), (43, .getfield 228, 3), (46, .lload_n 1, 1), (47, .bipush 8, 2), (49, .iload 4, 2), (51, .imul, 1), (52, .lshr, 1), (53, .ldc2_w 231, 3), (56, .land, 1), (57, .l2i, 1), (58, .iastore, 1), (59, .aload_n 0, 1), (60, .dup, 1), (61, .getfield 228, 3), (64, .iconst 1, 1), (65, .iadd, 1), (66, .putfield 228, 3), (69, .iinc 4 (-1), 3), (72, .goto (-39), 3), (75, .iconst 1, 1), (76, .ireturn, 1)]
set_option maxRecDepth 100000 in
theorem dM_put : ∀ q ∈ lM_put, decode prog_12_method_25_code q.1 = .ok q.2 := by decide +kernel
def lM_wipe : List (Nat × Instr × Nat) := [(0, .aload_n 0, 1), (1, .iconst 0, 1), (2, .putfield 132, 3), (5, .aload_n 0, 1), (6, .getfield 228, 3), (9, .istore_n 1, 1), (10, .aload_n 0, 1), (11, .iconst 0, 1), (12, .putfield 228, 3), (15, .iload_n 1, 1), (16, .ireturn, 1)]
set_option maxRecDepth 100000 in
theorem dM_wipe : ∀ q ∈ lM_wipe, decode prog_12_method_26_code q.1 = .ok q.2 := by decide +kernel
def lM_at : List (Nat × Instr × Nat) := [(0, .aload_n 0, 1), (1, .iload_n 1, 1), (2, .iconst (-1), 1), (3, .aload_n 0, 1), (4, .getfield 228, 3), (7, .iconst 1, 1), (8, .isub, 1), (9, .invokestatic 166, 3), (12, .ifCond .eq 7, 3), (15, .iconst 0, 1), (16, .goto 4, 3), (19, .iconst 1, 1), (20, .putfield 132, 3), (23, .aload_n 0, 1), (24, .getfield 132, 3), (27, .ifCond .le 7, 3), (30, .iconst 0, 1), (31, .goto 20, 3), (34, .iload_n 1, 1), (35, .ifCond .ge 10, 3), (38, .aload_n 0, 1), (39, .getfield 228, 3), (42, .goto 9, 3), (45, .aload_n 0, 1), (46, .getfield 63, 3), (49, .iload_n 1, 1), (50, .iaload, 1), (51, .ireturn, 1)]
set_option maxRecDepth 100000 in
theorem dM_at : ∀ q ∈ lM_at, decode prog_12_method_27_code q.1 = .ok q.2 := by decide +kernel
def lM_adds : List (Nat × Instr × Nat) := [(0, .aload_n 0, 1), (1, .getfield 233, 3), (4, .bipush 100, 2), (6, .if_icmp .ne 8, 3), (9, .aload_n 0, 1), (10, .iconst 0, 1), (11, .putfield 236, 3), (14, .aload_n 0, 1), (15, .getfield 236, 3), (18, .ifCond .ne 6, 3), (21, .bipush 99, 2), (23, .ireturn, 1), (24, .aload_n 0, 1), (25, .getfield 72, 3), (28, .aload_n 0, 1), (29, .getfield 233, 3), (32, .iload_n 1, 1), (33, .iastore, 1), (34, .aload_n 0, 1), (35, .getfield 81, 3), (38, .aload_n 0, 1), (39, .getfield 233, 3), (42, .iload_n 2, 1), (43, .iastore, 1), (44, .aload_n 0, 1), (45, .getfield 78, 3), (48, .aload_n 0, 1), (49, .getfield 233, 3), (52, .iload_n 3, 1), (53, .iastore, 1), (54, .aload_n 0, 1), (55, .getfield 75, 3), (58, .aload_n 0, 1), (59, .getfield 233, 3), (62, .iload 4, 2), (64, .iastore, 1), (65, .aload_n 0, 1), (66, .getfield 84, 3), (69, .aload_n 0, 1), (70, .getfield 233, 3), (73, .aload_n 0, 1), (74, .getfield 239, 3), (77, .iastore, 1), (78, .aload_n 0, 1), (79, .dup, 1), (80, .getfield 233, 3), (83, .iconst 1, 1), (84, .iadd, 1), (85, .putfield 233, 3), (88, .aload_n 0, 1), (89, .getfield 233, 3), (92, .iconst 1, 1), (93, .isub, 1), (94, .ireturn, 1)]
set_option maxRecDepth 100000 in
theorem dM_adds : ∀ q ∈ lM_adds, decode prog_12_method_28_code q.1 = .ok q.2 := by decide +kernel
def lM_frame : List (Nat × Instr × Nat) := [(0, .aload_n 0, 1), (1, .getfield 102, 3), (4, .aload_n 0, 1), (5, .getfield 242, 3), (8, .iload_n 1, 1), (9, .iastore, 1), (10, .aload_n 0, 1), (11, .getfield 105, 3), (14, .aload_n 0, 1), (15, .getfield 242, 3), (18, .iload_n 2, 1), (19, .iastore, 1), (20, .aload_n 0, 1), (21, .getfield 114, 3), (24, .aload_n 0, 1), (25, .getfield 242, 3), (28, .iload_n 3, 1), (29, .bastore, 1), (30, .aload_n 0, 1), (31, .getfield 108, 3), (34, .aload_n 0, 1), (35, .getfield 242, 3), (38, .iconst 0, 1), (39, .iastore, 1), (40, .aload_n 0, 1), (41, .getfield 111, 3), (44, .aload_n 0, 1), (45, .getfield 242, 3), (48, .iconst 0, 1), (49, .iastore, 1), (50, .aload_n 0, 1), (51, .dup, 1), (52, .getfield 242, 3), (55, .iconst 1, 1), (56, .iadd, 1), (57, .putfield 242, 3), (60, .return_, 1)]
set_option maxRecDepth 100000 in
theorem dM_frame : ∀ q ∈ lM_frame, decode prog_12_method_29_code q.1 = .ok q.2 := by decide +kernel
def lM_isValue : List (Nat × Instr × Nat) := [(0, .aload_n 0, 1), (1, .iconst 0, 1), (2, .putfield 233, 3), (5, .aload_n 0, 1), (6, .iconst 0, 1), (7, .putfield 239, 3), (10, .aload_n 0, 1), (11, .iconst 0, 1), (12, .putfield 242, 3), (15, .aload_n 0, 1), (16, .iconst 0, 1), (17, .putfield 245, 3), (20, .aload_n 0, 1), (21, .iconst 1, 1), (22, .putfield 236, 3), (25, .iload_n 2, 1), (26, .iconst 2, 1), (27, .if_icmp .ge 13, 3), (30, .aload_n 0, 1), (31, .iload_n 1, 1), (32, .iconst (-1), 1), (33, .iconst 0, 1), (34, .invokevirtual 248, 3), (37, .goto 10, 3), (40, .aload_n 0, 1), (41, .iload_n 1, 1), (42, .iconst (-1), 1), (43, .iconst 0, 1), (44, .invokevirtual 252, 3), (47, .aload_n 0, 1), (48, .getfield 236, 3), (51, .ifCond .eq 29, 3), (54, .aload_n 0, 1), (55, .getfield 242, 3), (58, .ifCond .le 22, 3), (61, .iload_n 2, 1), (62, .iconst 2, 1), (63, .if_icmp .ge 10, 3), (66, .aload_n 0, 1), (67, .invokevirtual 255, 3), (70, .goto (-23), 3), (73, .aload_n 0, 1), (74, .invokevirtual 258, 3), (77, .goto (-30), 3), (80, .aload_n 0, 1), (81, .aload_n 0, 1), (82, .getfield 236, 3), (85, .ifCond .eq 23, 3), (88, .iload_n 2, 1), (89, .iconst 2, 1), (90, .if_icmp .eq 14, 3), (93, .aload_n 0, 1), (94, .getfield 245, 3), (97, .aload_n 0, 1), (98, .getfield 261, 3), (101, .if_icmp .ne 7, 3), (104, .iconst 1, 1), (105, .goto 4, 3), (108, .iconst 0, 1), (109, .putfield 236, 3), (112, .aload_n 0, 1), (113, .getfield 236, 3), (116, .ifCond .ne 5, 3), (119, .iconst 0, 1), (120, .ireturn, 1), (121, .aload_n 0, 1), (122, .invokevirtual 264, 3), (125, .iload_n 2, 1), (126, .ifCond .ne 5, 3), (129, .iconst 1, 1), (130, .ireturn, 1), (131, .aload_n 0, 1), (132, .iload_n 2, 1), (133, .invokevirtual 267, 3), (136, .aload_n 0, 1), (137, .aload_n 0, 1), (138, .getfield 270, 3), (141, .aload_n 0, 1), (142, .getfield 261, 3), (145, .if_icmp .ne 7, 3), (148, .iconst 1, 1), (149, .goto 4, 3), (152, .iconst 0, 1), (153, .putfield 236, 3), (156, .iconst 0, 1), (157, .istore_n 3, 1), (158, .iload_n 3, 1), (159, .aload_n 0, 1), (160, .getfield 270, 3), (163, .if_icmp .ge 40, 3), (166, .aload_n 0, 1), (167, .getfield 236, 3), (170, .ifCond .eq 33, 3), (173, .aload_n 0, 1), (174, .aload_n 0, 1), (175, .getfield 69, 3), (178, .iload_n 3, 1), (179, .iaload, 1), (180, .aload_n 0, 1), (181, .getfield 66, 3), (184, .iload_n 3, 1), (185, .iaload, 1), (186, .if_icmp .ne 7, 3), (189, .iconst 1, 1), (190, .goto 4, 3), (193, .iconst 0, 1), (194, .putfield 236, 3), (197, .iinc 3 1, 3), (200, .goto (-42), 3), (203, .aload_n 0, 1), (204, .getfield 236, 3), (207, .ireturn, 1)]
set_option maxRecDepth 100000 in
theorem dM_isValue : ∀ q ∈ lM_isValue, decode prog_12_method_30_code q.1 = .ok q.2 := by decide +kernel
def lM_bound : List (Nat × Instr × Nat) := [(0, .aload_n 0, 1), (1, .getfield 242, 3), (4, .ifCond .ne 10, 3), (7, .aload_n 0, 1), (8, .getfield 261, 3), (11, .goto 14, 3), (14, .aload_n 0, 1), (15, .getfield 105, 3), (18, .aload_n 0, 1), (19, .getfield 242, 3), (22, .iconst 1, 1), (23, .isub, 1), (24, .iaload, 1), (25, .ireturn, 1)]
set_option maxRecDepth 100000 in
theorem dM_bound : ∀ q ∈ lM_bound, decode prog_12_method_31_code q.1 = .ok q.2 := by decide +kernel
def lM_next : List (Nat × Instr × Nat) := [(0, .aload_n 0, 1), (1, .getfield 245, 3), (4, .aload_n 0, 1), (5, .invokevirtual 273, 3), (8, .if_icmp .lt 8, 3), (11, .aload_n 0, 1), (12, .iconst 0, 1), (13, .putfield 236, 3), (16, .aload_n 0, 1), (17, .dup, 1), (18, .getfield 245, 3), (21, .iconst 1, 1), (22, .iadd, 1), (23, .putfield 245, 3), (26, .aload_n 0, 1), (27, .getfield 236, 3), (30, .ifCond .eq 17, 3), (33, .aload_n 0, 1), (34, .getfield 66, 3), (37, .aload_n 0, 1), (38, .getfield 245, 3), (41, .iconst 1, 1), (42, .isub, 1), (43, .iaload, 1), (44, .goto 4, 3), (47, .iconst 0, 1), (48, .ireturn, 1)]
set_option maxRecDepth 100000 in
theorem dM_next : ∀ q ∈ lM_next, decode prog_12_method_32_code q.1 = .ok q.2 := by decide +kernel
def lM_length : List (Nat × Instr × Nat) := [(0, .aload_n 0, 1), (1, .invokevirtual 276, 3), (4, .istore_n 2, 1), (5, .iload_n 2, 1), (6, .sipush 128, 3), (9, .if_icmp .ne 9, 3), (12, .iload_n 1, 1), (13, .ifCond .eq 5, 3), (16, .iconst (-1), 1), (17, .ireturn, 1), (18, .iload_n 2, 1), (19, .sipush 130, 3), (22, .if_icmp .gt 10, 3), (25, .iload_n 2, 1), (26, .sipush 128, 3), (29, .if_icmp .ne 8, 3), (32, .aload_n 0, 1), (33, .iconst 0, 1), (34, .putfield 236, 3), (37, .iload_n 2, 1), (38, .sipush 129, 3), (41, .if_icmp .ne 11, 3), (44, .aload_n 0, 1), (45, .invokevirtual 276, 3), (48, .istore_n 2, 1), (49, .goto 24, 3), (52, .iload_n 2, 1), (53, .sipush 130, 3), (56, .if_icmp .ne 17, 3), (59, .sipush 256, 3), (62, .aload_n 0, 1), (63, .invokevirtual 276, 3), (66, .imul, 1), (67, .aload_n 0, 1), (68, .invokevirtual 276, 3), (71, .iadd, 1), (72, .istore_n 2, 1), (73, .aload_n 0, 1), (74, .getfield 245, 3), (77, .iload_n 2, 1), (78, .iadd, 1), (79, .aload_n 0, 1), (80, .invokevirtual 273, 3), (83, .if_icmp .le 8, 3), (86, .aload_n 0, 1), (87, .iconst 0, 1), (88, .putfield 236, 3), (91, .aload_n 0, 1), (92, .getfield 236, 3), (95, .ifCond .eq 7, 3), (98, .iload_n 2, 1), (99, .goto 4, 3), (102, .iconst 0, 1), (103, .ireturn, 1)]
set_option maxRecDepth 100000 in
theorem dM_length : ∀ q ∈ lM_length, decode prog_12_method_33_code q.1 = .ok q.2 := by decide +kernel
def lM_bitOf : List (Nat × Instr × Nat) := [(0, .iload_n 0, 1), (1, .sipush 128, 3), (4, .sipush 137, 3), (7, .invokestatic 166, 3), (10, .ifCond .ne 16, 3), (13, .iload_n 0, 1), (14, .sipush 160, 3), (17, .sipush 169, 3), (20, .invokestatic 166, 3), (23, .ifCond .eq 13, 3), (26, .iconst 1, 1), (27, .bipush 20, 2), (29, .iload_n 0, 1), (30, .bipush 32, 2), (32, .irem, 1), (33, .iadd, 1), (34, .ishl, 1), (35, .ireturn, 1), (36, .iload_n 0, 1), (37, .iconst 1, 1), (38, .if_icmp .eq 18, 3), (41, .iload_n 0, 1), (42, .iconst 2, 1), (43, .if_icmp .eq 13, 3), (46, .iload_n 0, 1), (47, .iconst 4, 1), (48, .if_icmp .eq 8, 3), (51, .iload_n 0, 1), (52, .iconst 5, 1), (53, .if_icmp .ne 9, 3), (56, .iconst 1, 1), (57, .iload_n 0, 1), (58, .ishl, 1), (59, .goto 15, 3), (62, .iload_n 0, 1), (63, .bipush 48, 2), (65, .if_icmp .ne 8, 3), (68, .ldc 210, 2), (70, .goto 4, 3), (73, .iconst 0, 1), (74, .ireturn, 1)]
set_option maxRecDepth 100000 in
theorem dM_bitOf : ∀ q ∈ lM_bitOf, decode prog_12_method_34_code q.1 = .ok q.2 := by decide +kernel
def lM_enter : List (Nat × Instr × Nat) := [(0, .aload_n 0, 1), (1, .iconst 1, 1), (2, .invokevirtual 279, 3), (5, .istore_n 2, 1), (6, .aload_n 0, 1), (7, .iload_n 1, 1), (8, .iload_n 2, 1), (9, .ifCond .ge 10, 3), (12, .aload_n 0, 1), (13, .invokevirtual 273, 3), (16, .goto 9, 3), (19, .aload_n 0, 1), (20, .getfield 245, 3), (23, .iload_n 2, 1), (24, .iadd, 1), (25, .iload_n 2, 1), (26, .ifCond .ge 7, 3), (29, .iconst 1, 1), (30, .goto 4, 3), (33, .iconst 0, 1), (34, .invokevirtual 283, 3), (37, .return_, 1)]
set_option maxRecDepth 100000 in
theorem dM_enter : ∀ q ∈ lM_enter, decode prog_12_method_35_code q.1 = .ok q.2 := by decide +kernel
def lM_element : List (Nat × Instr × Nat) := [(0, .iload_n 1, 1), (1, .istore 4, 2), (3, .iload_n 2, 1), (4, .istore 5, 2), (6, .iload_n 3, 1), (7, .istore 6, 2), (9, .iconst 1, 1), (10, .istore 7, 2), (12, .iload 7, 2), (14, .ifCond .eq 290, 3), (17, .aload_n 0, 1), (18, .getfield 236, 3), (21, .ifCond .eq 283, 3), (24, .aload_n 0, 1), (25, .iload 4, 2), (27, .invokevirtual 218, 3), (30, .aload_n 0, 1), (31, .getfield 20, 3), (34, .aload_n 0, 1), (35, .getfield 222, 3), (38, .iaload, 1), (39, .bipush 9, 2), (41, .if_icmp .ne 7, 3), (44, .iconst 0, 1), (45, .goto 4, 3), (48, .iconst 1, 1), (49, .istore 8, 2), (51, .aload_n 0, 1), (52, .getfield 225, 3), (55, .iconst 1, 1), (56, .isub, 1), (57, .istore 9, 2), (59, .iload 9, 2), (61, .iload 8, 2), (63, .if_icmp .lt 58, 3), (66, .aload_n 0, 1), (67, .getfield 236, 3), (70, .ifCond .eq 51, 3), (73, .aload_n 0, 1), (74, .aload_n 0, 1), (75, .invokevirtual 276, 3), (78, .aload_n 0, 1), (79, .getfield 57, 3), (82, .iload 9, 2), (84, .iaload, 1), (85, .if_icmp .ne 14, 3), (88, .aload_n 0, 1), (89, .getfield 236, 3), (92, .ifCond .eq 7, 3), (95, .iconst 1, 1), (96, .goto 4, 3), (99, .iconst 0, 1), (100, .putfield 236, 3), (103, .aload_n 0, 1), (104, .getfield 236, 3), (107, .ifCond .eq 8, 3), (110, .aload_n 0, 1), (111, .iconst (-1), 1), (112, .invokevirtual 287, 3), (115, .iinc 9 (-1), 3), (118, .goto (-59), 3), (121, .aload_n 0, 1), (122, .getfield 236, 3), (125, .ifCond .eq 21, 3), (128, .aload_n 0, 1), (129, .getfield 20, 3), (132, .aload_n 0, 1), (133, .getfield 222, 3), (136, .iaload, 1), (137, .bipush 9, 2), (139, .if_icmp .ne 7, 3), (142, .iconst 1, 1), (143, .goto 4, 3), (146, .iconst 0, 1), (147, .istore 7, 2), (149, .iload 7, 2), (151, .ifCond .eq 150, 3), (154, .aload_n 0, 1), (155, .getfield 245, 3), (158, .aload_n 0, 1), (159, .invokevirtual 273, 3), (162, .if_icmp .ge 18, 3), (165, .aload_n 0, 1), (166, .getfield 66, 3), (169, .aload_n 0, 1), (170, .getfield 245, 3), (173, .iaload, 1), (174, .invokestatic 290, 3), (177, .goto 4, 3), (180, .iconst 0, 1), (181, .istore 9, 2), (183, .iconst 0, 1), (184, .istore 10, 2), (186, .iload 10, 2), (188, .aload_n 0, 1), (189, .getfield 32, 3), (192, .aload_n 0, 1), (193, .getfield 222, 3), (196, .iaload, 1), (197, .if_icmp .ge 35, 3), (200, .aload_n 0, 1), (201, .getfield 35, 3), (204, .aload_n 0, 1), (205, .getfield 48, 3), (208, .bipush 6, 2), (210, .aload_n 0, 1), (211, .getfield 222, 3), (214, .imul, 1), (215, .iload 10, 2), (217, .iadd, 1), (218, .iaload, 1), (219, .iaload, 1), (220, .iload 9, 2), (222, .iand, 1), (223, .ifCond .ne 9, 3), (226, .iinc 10 1, 3), (229, .goto (-43), 3), (232, .aload_n 0, 1), (233, .iload 10, 2), (235, .aload_n 0, 1), (236, .getfield 32, 3), (239, .aload_n 0, 1), (240, .getfield 222, 3), (243, .iaload, 1), (244, .if_icmp .ge 7, 3), (247, .iconst 1, 1), (248, .goto 4, 3), (251, .iconst 0, 1), (252, .putfield 236, 3), (255, .aload_n 0, 1), (256, .iload 4, 2), (258, .iload 5, 2), (260, .iload 6, 2), (262, .iload 10, 2), (264, .invokevirtual 293, 3), (267, .istore 5, 2), (269, .iconst 0, 1), (270, .istore 6, 2), (272, .aload_n 0, 1), (273, .getfield 236, 3), (276, .ifCond .eq 21, 3), (279, .aload_n 0, 1), (280, .getfield 48, 3), (283, .bipush 6, 2), (285, .aload_n 0, 1), (286, .getfield 222, 3), (289, .imul, 1), (290, .iload 10, 2), (292, .iadd, 1), (293, .iaload, 1), (294, .goto 5, 3), (297, .iload 4, 2), (299, .istore 4, 2), (301, .goto (-289), 3), (304, .aload_n 0, 1), (305, .getfield 236, 3), (308, .ifCond .eq 13, 3), (311, .aload_n 0, 1), (312, .iload 4, 2), (314, .iload 5, 2), (316, .iload 6, 2), (318, .invokevirtual 297, 3), (321, .return_, 1)]
set_option maxRecDepth 100000 in
theorem dM_element : ∀ q ∈ lM_element, decode prog_12_method_36_code q.1 = .ok q.2 := by decide +kernel
def lM_inner : List (Nat × Instr × Nat) := [(0, .aload_n 0, 1), (1, .getfield 20, 3), (4, .aload_n 0, 1), (5, .getfield 222, 3), (8, .iaload, 1), (9, .istore 4, 2), (11, .aload_n 0, 1), (12, .invokevirtual 276, 3), (15, .aload_n 0, 1), (16, .getfield 57, 3), (19, .iconst 0, 1), (20, .iaload, 1), (21, .if_icmp .eq 8, 3), (24, .aload_n 0, 1), (25, .iconst 0, 1), (26, .putfield 236, 3), (29, .aload_n 0, 1), (30, .getfield 236, 3), (33, .ifCond .eq 14, 3), (36, .aload_n 0, 1), (37, .iload_n 1, 1), (38, .iload_n 2, 1), (39, .iload_n 3, 1), (40, .iconst 0, 1), (41, .invokevirtual 293, 3), (44, .goto 4, 3), (47, .iconst 0, 1), (48, .istore 5, 2), (50, .iload 4, 2), (52, .bipush 6, 2), (54, .if_icmp .eq 10, 3), (57, .iload 4, 2), (59, .bipush 7, 2), (61, .if_icmp .ne 7, 3), (64, .iconst 1, 1), (65, .goto 4, 3), (68, .iconst 0, 1), (69, .istore 6, 2), (71, .aload_n 0, 1), (72, .getfield 236, 3), (75, .ifCond .eq 14, 3), (78, .iload 6, 2), (80, .ifCond .eq 9, 3), (83, .aload_n 0, 1), (84, .iload 5, 2), (86, .invokevirtual 287, 3), (89, .aload_n 0, 1), (90, .getfield 236, 3), (93, .ifCond .eq 16, 3), (96, .iload 6, 2), (98, .ifCond .ne 11, 3), (101, .aload_n 0, 1), (102, .iconst 0, 1), (103, .invokevirtual 279, 3), (106, .goto 4, 3), (109, .iconst 0, 1), (110, .istore 7, 2), (112, .iload 4, 2), (114, .iconst 5, 1), (115, .if_icmp .ne 8, 3), (118, .iload 7, 2), (120, .ifCond .ne 31, 3), (123, .iload 4, 2), (125, .iconst 1, 1), (126, .if_icmp .ne 9, 3), (129, .iload 7, 2), (131, .iconst 1, 1), (132, .if_icmp .ne 19, 3), (135, .iload 4, 2), (137, .iconst 2, 1), (138, .if_icmp .ne 18, 3), (141, .iload 7, 2), (143, .iconst 1, 1), (144, .iconst 4, 1), (145, .invokestatic 166, 3), (148, .ifCond .ne 8, 3), (151, .aload_n 0, 1), (152, .iconst 0, 1), (153, .putfield 236, 3), (156, .aload_n 0, 1), (157, .getfield 236, 3), (160, .ifCond .eq 14, 3), (163, .iload 6, 2), (165, .ifCond .ne 9, 3), (168, .iload 4, 2), (170, .iconst 5, 1), (171, .if_icmp .ne 4, 3), (174, .return_, 1), (175, .iload 4, 2), (177, .iconst 2, 1), (178, .if_icmp .ne 21, 3), (181, .aload_n 0, 1), (182, .getfield 66, 3), (185, .aload_n 0, 1), (186, .getfield 245, 3), (189, .iaload, 1), (190, .bipush 127, 2), (192, .if_icmp .le 7, 3), (195, .iconst (-1), 1), (196, .goto 4, 3), (199, .iconst 0, 1), (200, .istore 8, 2), (202, .iconst 0, 1), (203, .istore 9, 2), (205, .iload 9, 2), (207, .iload 7, 2), (209, .if_icmp .ge 74, 3), (212, .iload 8, 2), (214, .bipush 8, 2), (216, .ishl, 1), (217, .aload_n 0, 1), (218, .getfield 66, 3), (221, .aload_n 0, 1), (222, .getfield 245, 3), (225, .iaload, 1), (226, .ior, 1), (227, .istore 8, 2), (229, .aload_n 0, 1), (230, .getfield 93, 3), (233, .aload_n 0, 1), (234, .getfield 239, 3), (237, .aload_n 0, 1), (238, .getfield 66, 3), (241, .aload_n 0, 1), (242, .getfield 245, 3), (245, .iaload, 1), (246, .iastore, 1), (247, .aload_n 0, 1), (248, .dup, 1), (249, .getfield 239, 3), (252, .iload 4, 2), (254, .iconst 4, 1), (255, .if_icmp .ne 7, 3), (258, .iconst 1, 1), (259, .goto 4, 3), (262, .iconst 0, 1), (263, .iadd, 1), (264, .putfield 239, 3), (267, .aload_n 0, 1), (268, .dup, 1), (269, .getfield 245, 3), (272, .iconst 1, 1), (273, .iadd, 1), (274, .putfield 245, 3), (277, .iinc 9 1, 3), (280, .goto (-75), 3), (283, .aload_n 0, 1), (284, .getfield 75, 3), (287, .iload 5, 2), (289, .iload 4, 2), (291, .iconst 2, 1), (292, .if_icmp .ne 8, 3), (295, .iload 8, 2), (297, .goto 24, 3), (300, .iload 4, 2), (302, .iconst 4, 1), (303, .if_icmp .ne 8, 3), (306, .iload 7, 2), (308, .goto 13, 3), (311, .iload 8, 2), (313, .ifCond .le 7, 3), (316, .iconst 1, 1), (317, .goto 4, 3), (320, .iconst 0, 1), (321, .iastore, 1), (322, .aload_n 0, 1), (323, .iload 4, 2), (325, .iconst 2, 1), (326, .if_icmp .ne 13, 3), (329, .iload 7, 2), (331, .iload 8, 2), (333, .invokestatic 300, 3), (336, .if_icmp .ne 50, 3), (339, .aload_n 0, 1), (340, .getfield 41, 3), (343, .aload_n 0, 1), (344, .getfield 222, 3), (347, .baload, 1), (348, .ifCond .eq 34, 3), (351, .aload_n 0, 1), (352, .getfield 75, 3), (355, .iload 5, 2), (357, .iaload, 1), (358, .aload_n 0, 1), (359, .getfield 23, 3), (362, .aload_n 0, 1), (363, .getfield 222, 3), (366, .iaload, 1), (367, .aload_n 0, 1), (368, .getfield 26, 3), (371, .aload_n 0, 1), (372, .getfield 222, 3), (375, .iaload, 1), (376, .invokestatic 166, 3), (379, .ifCond .eq 7, 3), (382, .iconst 1, 1), (383, .goto 4, 3), (386, .iconst 0, 1), (387, .putfield 236, 3), (390, .return_, 1)]
set_option maxRecDepth 100000 in
theorem dM_inner : ∀ q ∈ lM_inner, decode prog_12_method_37_code q.1 = .ok q.2 := by decide +kernel
def lM_bytesOf : List (Nat × Instr × Nat) := [(0, .iload_n 0, 1), (1, .bipush (-128), 2), (3, .bipush 127, 2), (5, .invokestatic 166, 3), (8, .ifCond .eq 7, 3), (11, .iconst 1, 1), (12, .goto 38, 3), (15, .iload_n 0, 1), (16, .sipush (-32768), 3), (19, .sipush 32767, 3), (22, .invokestatic 166, 3), (25, .ifCond .eq 7, 3), (28, .iconst 2, 1), (29, .goto 21, 3), (32, .iload_n 0, 1), (33, .ldc_w 303, 3), (36, .ldc_w 304, 3), (39, .invokestatic 166, 3), (42, .ifCond .eq 7, 3), (45, .iconst 3, 1), (46, .goto 4, 3), (49, .iconst 4, 1), (50, .ireturn, 1)]
set_option maxRecDepth 100000 in
theorem dM_bytesOf : ∀ q ∈ lM_bytesOf, decode prog_12_method_38_code q.1 = .ok q.2 := by decide +kernel
def lM_isEnd : List (Nat × Instr × Nat) := [(0, .aload_n 0, 1), (1, .getfield 114, 3), (4, .aload_n 0, 1), (5, .getfield 242, 3), (8, .iconst 1, 1), (9, .isub, 1), (10, .baload, 1), (11, .ifCond .ne 20, 3), (14, .aload_n 0, 1), (15, .getfield 245, 3), (18, .aload_n 0, 1), (19, .invokevirtual 273, 3), (22, .if_icmp .ne 7, 3), (25, .iconst 1, 1), (26, .goto 4, 3), (29, .iconst 0, 1), (30, .ireturn, 1), (31, .aload_n 0, 1), (32, .getfield 245, 3), (35, .iconst 1, 1), (36, .iadd, 1), (37, .aload_n 0, 1), (38, .invokevirtual 273, 3), (41, .if_icmp .ge 33, 3), (44, .aload_n 0, 1), (45, .getfield 66, 3), (48, .aload_n 0, 1), (49, .getfield 245, 3), (52, .iaload, 1), (53, .ifCond .ne 21, 3), (56, .aload_n 0, 1), (57, .getfield 66, 3), (60, .aload_n 0, 1), (61, .getfield 245, 3), (64, .iconst 1, 1), (65, .iadd, 1), (66, .iaload, 1), (67, .ifCond .ne 7, 3), (70, .iconst 1, 1), (71, .goto 4, 3), (74, .iconst 0, 1), (75, .ireturn, 1)]
set_option maxRecDepth 100000 in
theorem dM_isEnd : ∀ q ∈ lM_isEnd, decode prog_12_method_39_code q.1 = .ok q.2 := by decide +kernel
def lM_leaveFrame : List (Nat × Instr × Nat) := [(0, .aload_n 0, 1), (1, .getfield 236, 3), (4, .ifCond .eq 15, 3), (7, .aload_n 0, 1), (8, .invokevirtual 305, 3), (11, .ifCond .ne 8, 3), (14, .aload_n 0, 1), (15, .iconst 0, 1), (16, .putfield 236, 3), (19, .aload_n 0, 1), (20, .dup, 1), (21, .getfield 245, 3), (24, .aload_n 0, 1), (25, .getfield 114, 3), (28, .aload_n 0, 1), (29, .getfield 242, 3), (32, .iconst 1, 1), (33, .isub, 1), (34, .baload, 1), (35, .ifCond .eq 7, 3), (38, .iconst 2, 1), (39, .goto 4, 3), (42, .iconst 0, 1), (43, .iadd, 1), (44, .putfield 245, 3), (47, .aload_n 0, 1), (48, .dup, 1), (49, .getfield 242, 3), (52, .iconst 1, 1), (53, .isub, 1), (54, .putfield 242, 3), (57, .return_, 1)]
set_option maxRecDepth 100000 in
theorem dM_leaveFrame : ∀ q ∈ lM_leaveFrame, decode prog_12_method_40_code q.1 = .ok q.2 := by decide +kernel
def lM_goOn : List (Nat × Instr × Nat) := [(0, .aload_n 0, 1), (1, .getfield 242, 3), (4, .iconst 1, 1), (5, .isub, 1), (6, .istore_n 1, 1), (7, .aload_n 0, 1), (8, .getfield 102, 3), (11, .iload_n 1, 1), (12, .iaload, 1), (13, .istore_n 2, 1), (14, .iload_n 2, 1), (15, .ifCond .lt 10, 3), (18, .aload_n 0, 1), (19, .invokevirtual 305, 3), (22, .ifCond .eq 7, 3), (25, .iconst 1, 1), (26, .goto 4, 3), (29, .iconst 0, 1), (30, .istore_n 3, 1), (31, .iload_n 2, 1), (32, .ifCond .ge 7, 3), (35, .iconst (-1), 1), (36, .goto 8, 3), (39, .aload_n 0, 1), (40, .iload_n 2, 1), (41, .invokevirtual 308, 3), (44, .istore 4, 2), (46, .iload_n 2, 1), (47, .ifCond .lt 19, 3), (50, .aload_n 0, 1), (51, .getfield 20, 3), (54, .iload 4, 2), (56, .iaload, 1), (57, .bipush 7, 2), (59, .if_icmp .ne 61, 3), (62, .iload_n 3, 1), (63, .ifCond .eq 57, 3), (66, .aload_n 0, 1), (67, .iload_n 2, 1), (68, .ifCond .lt 39, 3), (71, .aload_n 0, 1), (72, .getfield 41, 3), (75, .iload 4, 2), (77, .baload, 1), (78, .ifCond .eq 29, 3), (81, .aload_n 0, 1), (82, .getfield 75, 3), (85, .iload_n 2, 1), (86, .iaload, 1), (87, .aload_n 0, 1), (88, .getfield 23, 3), (91, .iload 4, 2), (93, .iaload, 1), (94, .aload_n 0, 1), (95, .getfield 26, 3), (98, .iload 4, 2), (100, .iaload, 1), (101, .invokestatic 166, 3), (104, .ifCond .eq 7, 3), (107, .iconst 1, 1), (108, .goto 4, 3), (111, .iconst 0, 1), (112, .putfield 236, 3), (115, .aload_n 0, 1), (116, .invokevirtual 311, 3), (119, .return_, 1), (120, .aload_n 0, 1), (121, .getfield 20, 3), (124, .iload 4, 2), (126, .iaload, 1), (127, .bipush 7, 2), (129, .if_icmp .ne 37, 3), (132, .aload_n 0, 1), (133, .getfield 75, 3), (136, .iload_n 2, 1), (137, .dup2, 1), (138, .iaload, 1), (139, .iconst 1, 1), (140, .iadd, 1), (141, .iastore, 1), (142, .aload_n 0, 1), (143, .aload_n 0, 1), (144, .getfield 48, 3), (147, .bipush 6, 2), (149, .iload 4, 2), (151, .imul, 1), (152, .iaload, 1), (153, .iload_n 2, 1), (154, .aload_n 0, 1), (155, .getfield 75, 3), (158, .iload_n 2, 1), (159, .iaload, 1), (160, .iconst 1, 1), (161, .isub, 1), (162, .invokevirtual 248, 3), (165, .return_, 1), (166, .iload_n 3, 1), (167, .ifCond .ne 29, 3), (170, .aload_n 0, 1), (171, .getfield 245, 3), (174, .aload_n 0, 1), (175, .invokevirtual 273, 3), (178, .if_icmp .ge 18, 3), (181, .aload_n 0, 1), (182, .getfield 66, 3), (185, .aload_n 0, 1), (186, .getfield 245, 3), (189, .iaload, 1), (190, .invokestatic 290, 3), (193, .goto 4, 3), (196, .iconst 0, 1), (197, .istore 5, 2), (199, .aload_n 0, 1), (200, .getfield 108, 3), (203, .iload_n 1, 1), (204, .iaload, 1), (205, .istore 6, 2), (207, .aload_n 0, 1), (208, .getfield 236, 3), (211, .ifCond .eq 54, 3), (214, .iload 6, 2), (216, .aload_n 0, 1), (217, .getfield 32, 3), (220, .iload 4, 2), (222, .iaload, 1), (223, .if_icmp .ge 42, 3), (226, .aload_n 0, 1), (227, .getfield 35, 3), (230, .aload_n 0, 1), (231, .getfield 48, 3), (234, .bipush 6, 2), (236, .iload 4, 2), (238, .imul, 1), (239, .iload 6, 2), (241, .iadd, 1), (242, .iaload, 1), (243, .iaload, 1), (244, .iload 5, 2), (246, .iand, 1), (247, .ifCond .ne 18, 3), (250, .aload_n 0, 1), (251, .iload_n 2, 1), (252, .iload 4, 2), (254, .iload 6, 2), (256, .invokevirtual 314, 3), (259, .iinc 6 1, 3), (262, .goto (-55), 3), (265, .aload_n 0, 1), (266, .getfield 108, 3), (269, .iload_n 1, 1), (270, .iload 6, 2), (272, .iconst 1, 1), (273, .iadd, 1), (274, .iastore, 1), (275, .iload 6, 2), (277, .aload_n 0, 1), (278, .getfield 32, 3), (281, .iload 4, 2), (283, .iaload, 1), (284, .if_icmp .ne 10, 3), (287, .aload_n 0, 1), (288, .invokevirtual 311, 3), (291, .goto 40, 3), (294, .aload_n 0, 1), (295, .getfield 236, 3), (298, .ifCond .eq 33, 3), (301, .aload_n 0, 1), (302, .getfield 75, 3), (305, .iload_n 2, 1), (306, .dup2, 1), (307, .iaload, 1), (308, .iconst 1, 1), (309, .iadd, 1), (310, .iastore, 1), (311, .aload_n 0, 1), (312, .aload_n 0, 1), (313, .getfield 48, 3), (316, .bipush 6, 2), (318, .iload 4, 2), (320, .imul, 1), (321, .iload 6, 2), (323, .iadd, 1), (324, .iaload, 1), (325, .iload_n 2, 1), (326, .iload 6, 2), (328, .invokevirtual 248, 3), (331, .return_, 1)]
set_option maxRecDepth 100000 in
theorem dM_goOn : ∀ q ∈ lM_goOn, decode prog_12_method_41_code q.1 = .ok q.2 := by decide +kernel
end
section
/-! DECODE: each method's instructions, by place -/
def lM_absent : List (Nat × Instr × Nat) := [(0, .bipush 6, 2), (2, .iload_n 2, 1), (3, .imul, 1), (4, .iload_n 3, 1), (5, .iadd, 1), (6, .istore 4, 2), (8, .aload_n 0, 1), (9, .getfield 51, 3), (12, .iload 4, 2), (14, .iaload, 1), (15, .ifCond .ne 8, 3), (18, .aload_n 0, 1), (19, .iconst 0, 1), (20, .putfield 236, 3), (23, .aload_n 0, 1), (24, .getfield 51, 3), (27, .iload 4, 2), (29, .iaload, 1), (30, .iconst 2, 1), (31, .if_icmp .eq 4, 3), (34, .return_, 1), (35, .aload_n 0, 1), (36, .getfield 75, 3), (39, .iload_n 1, 1), (40, .dup2, 1), (41, .iaload, 1), (42, .iconst 1, 1), (43, .iadd, 1), (44, .iastore, 1), (45, .aload_n 0, 1), (46, .aload_n 0, 1), (47, .getfield 48, 3), (50, .iload 4, 2), (52, .iaload, 1), (53, .iload_n 1, 1), (54, .iload_n 3, 1), (55, .aload_n 0, 1), (56, .getfield 54, 3), (59, .iload 4, 2), (61, .iaload, 1), (62, .invokevirtual 293, 3), (65, .pop, 1), (66, .return_, 1)]
set_option maxRecDepth 100000 in
theorem dM_absent : ∀ q ∈ lM_absent, decode prog_12_method_42_code q.1 = .ok q.2 := by decide +kernel
def lM_bit : List (Nat × Instr × Nat) := [(0, .aload_n 0, 1), (1, .getfield 245, 3), (4, .bipush 8, 2), (6, .aload_n 0, 1), (7, .getfield 261, 3), (10, .imul, 1), (11, .if_icmp .lt 8, 3), (14, .aload_n 0, 1), (15, .iconst 0, 1), (16, .putfield 236, 3), (19, .aload_n 0, 1), (20, .dup, 1), (21, .getfield 245, 3), (24, .iconst 1, 1), (25, .iadd, 1), (26, .putfield 245, 3), (29, .aload_n 0, 1), (30, .getfield 236, 3), (33, .ifCond .eq 35, 3), (36, .aload_n 0, 1), (37, .getfield 66, 3), (40, .aload_n 0, 1), (41, .getfield 245, 3), (44, .iconst 1, 1), (45, .isub, 1), (46, .bipush 8, 2), (48, .idiv, 1), (49, .iaload, 1), (50, .bipush 7, 2), (52, .aload_n 0, 1), (53, .getfield 245, 3), (56, .iconst 1, 1), (57, .isub, 1), (58, .bipush 8, 2), (60, .irem, 1), (61, .isub, 1), (62, .ishr, 1), (63, .iconst 1, 1), (64, .iand, 1), (65, .goto 4, 3), (68, .iconst 0, 1), (69, .ireturn, 1)]
set_option maxRecDepth 100000 in
theorem dM_bit : ∀ q ∈ lM_bit, decode prog_12_method_43_code q.1 = .ok q.2 := by decide +kernel
def lM_some : List (Nat × Instr × Nat) := [(0, .iconst 0, 1), (1, .istore_n 2, 1), (2, .iconst 0, 1), (3, .istore_n 3, 1), (4, .iload_n 3, 1), (5, .iload_n 1, 1), (6, .if_icmp .ge 25, 3), (9, .aload_n 0, 1), (10, .getfield 236, 3), (13, .ifCond .eq 18, 3), (16, .iconst 2, 1), (17, .iload_n 2, 1), (18, .imul, 1), (19, .aload_n 0, 1), (20, .invokevirtual 317, 3), (23, .iadd, 1), (24, .istore_n 2, 1), (25, .iinc 3 1, 3), (28, .goto (-24), 3), (31, .iload_n 2, 1), (32, .ireturn, 1)]
set_option maxRecDepth 100000 in
theorem dM_some : ∀ q ∈ lM_some, decode prog_12_method_44_code q.1 = .ok q.2 := by decide +kernel
def lM_align : List (Nat × Instr × Nat) := [(0, .aload_n 0, 1), (1, .aload_n 0, 1), (2, .getfield 245, 3), (5, .bipush 7, 2), (7, .iadd, 1), (8, .bipush 8, 2), (10, .idiv, 1), (11, .bipush 8, 2), (13, .imul, 1), (14, .putfield 245, 3), (17, .return_, 1)]
set_option maxRecDepth 100000 in
theorem dM_align : ∀ q ∈ lM_align, decode prog_12_method_45_code q.1 = .ok q.2 := by decide +kernel
def lM_width : List (Nat × Instr × Nat) := [(0, .iconst 0, 1), (1, .istore_n 1, 1), (2, .iload_n 0, 1), (3, .iload_n 1, 1), (4, .ishr, 1), (5, .ifCond .le 9, 3), (8, .iinc 1 1, 3), (11, .goto (-9), 3), (14, .iload_n 1, 1), (15, .ireturn, 1)]
set_option maxRecDepth 100000 in
theorem dM_width : ∀ q ∈ lM_width, decode prog_12_method_46_code q.1 = .ok q.2 := by decide +kernel
def lM_ranging : List (Nat × Instr × Nat) := [(0, .iload_n 2, 1), (1, .iload_n 1, 1), (2, .isub, 1), (3, .istore_n 3, 1), (4, .iload_n 3, 1), (5, .sipush 254, 3), (8, .if_icmp .le 7, 3), (11, .aload_n 0, 1), (12, .invokevirtual 320, 3), (15, .aload_n 0, 1), (16, .iload_n 3, 1), (17, .sipush 255, 3), (20, .if_icmp .ge 10, 3), (23, .iload_n 3, 1), (24, .invokestatic 323, 3), (27, .goto 17, 3), (30, .iload_n 3, 1), (31, .sipush 255, 3), (34, .if_icmp .ne 8, 3), (37, .bipush 8, 2), (39, .goto 5, 3), (42, .bipush 16, 2), (44, .invokevirtual 326, 3), (47, .istore 4, 2), (49, .iload 4, 2), (51, .iload_n 3, 1), (52, .if_icmp .le 8, 3), (55, .aload_n 0, 1), (56, .iconst 0, 1), (57, .putfield 236, 3), (60, .iload_n 1, 1), (61, .iload 4, 2), (63, .iadd, 1), (64, .ireturn, 1)]
set_option maxRecDepth 100000 in
theorem dM_ranging : ∀ q ∈ lM_ranging, decode prog_12_method_47_code q.1 = .ok q.2 := by decide +kernel
def lM_counted : List (Nat × Instr × Nat) := [(0, .aload_n 0, 1), (1, .getfield 41, 3), (4, .iload_n 1, 1), (5, .baload, 1), (6, .ifCond .eq 20, 3), (9, .aload_n 0, 1), (10, .aload_n 0, 1), (11, .getfield 23, 3), (14, .iload_n 1, 1), (15, .iaload, 1), (16, .aload_n 0, 1), (17, .getfield 26, 3), (20, .iload_n 1, 1), (21, .iaload, 1), (22, .invokevirtual 329, 3), (25, .ireturn, 1), (26, .aload_n 0, 1), (27, .invokevirtual 320, 3), (30, .aload_n 0, 1), (31, .bipush 8, 2), (33, .invokevirtual 326, 3), (36, .istore_n 2, 1), (37, .iload_n 2, 1), (38, .bipush 127, 2), (40, .if_icmp .le 8, 3), (43, .aload_n 0, 1), (44, .iconst 0, 1), (45, .putfield 236, 3), (48, .iload_n 2, 1), (49, .ireturn, 1)]
set_option maxRecDepth 100000 in
theorem dM_counted : ∀ q ∈ lM_counted, decode prog_12_method_48_code q.1 = .ok q.2 := by decide +kernel
def lM_rank : List (Nat × Instr × Nat) := [(0, .iconst 0, 1), (1, .istore_n 3, 1), (2, .aload_n 0, 1), (3, .getfield 35, 3), (6, .aload_n 0, 1), (7, .getfield 48, 3), (10, .bipush 6, 2), (12, .iload_n 1, 1), (13, .imul, 1), (14, .iload_n 2, 1), (15, .iadd, 1), (16, .iaload, 1), (17, .iaload, 1), (18, .istore 4, 2), (20, .bipush 6, 2), (22, .iload_n 1, 1), (23, .imul, 1), (24, .istore 5, 2), (26, .iload 5, 2), (28, .bipush 6, 2), (30, .iload_n 1, 1), (31, .imul, 1), (32, .aload_n 0, 1), (33, .getfield 32, 3), (36, .iload_n 1, 1), (37, .iaload, 1), (38, .iadd, 1), (39, .if_icmp .ge 52, 3), (42, .iload_n 3, 1), (43, .aload_n 0, 1), (44, .getfield 35, 3), (47, .aload_n 0, 1), (48, .getfield 48, 3), (51, .iload 5, 2), (53, .iaload, 1), (54, .iaload, 1), (55, .aload_n 0, 1), (56, .getfield 35, 3), (59, .aload_n 0, 1), (60, .getfield 48, 3), (63, .iload 5, 2), (65, .iaload, 1), (66, .iaload, 1), (67, .ineg, 1), (68, .iand, 1), (69, .iload 4, 2), (71, .iload 4, 2), (73, .ineg, 1), (74, .iand, 1), (75, .if_icmp .ge 7, 3), (78, .iconst 1, 1), (79, .goto 4, 3), (82, .iconst 0, 1), (83, .iadd, 1), (84, .istore_n 3, 1), (85, .iinc 5 1, 3), (88, .goto (-62), 3), (91, .iload_n 3, 1), (92, .ireturn, 1)]
set_option maxRecDepth 100000 in
theorem dM_rank : ∀ q ∈ lM_rank, decode prog_12_method_49_code q.1 = .ok q.2 := by decide +kernel
def lM_want : List (Nat × Instr × Nat) := [(0, .iload_n 1, 1), (1, .istore 4, 2), (3, .iload_n 2, 1), (4, .istore 5, 2), (6, .iload_n 3, 1), (7, .istore 6, 2), (9, .aload_n 0, 1), (10, .iload 4, 2), (12, .invokevirtual 218, 3), (15, .aload_n 0, 1), (16, .getfield 236, 3), (19, .ifCond .eq 109, 3), (22, .aload_n 0, 1), (23, .getfield 20, 3), (26, .aload_n 0, 1), (27, .getfield 222, 3), (30, .iaload, 1), (31, .bipush 9, 2), (33, .if_icmp .ne 95, 3), (36, .aload_n 0, 1), (37, .iconst 0, 1), (38, .aload_n 0, 1), (39, .getfield 32, 3), (42, .aload_n 0, 1), (43, .getfield 222, 3), (46, .iaload, 1), (47, .iconst 1, 1), (48, .isub, 1), (49, .invokevirtual 329, 3), (52, .istore 7, 2), (54, .iconst 0, 1), (55, .istore 8, 2), (57, .aload_n 0, 1), (58, .getfield 236, 3), (61, .ifCond .eq 24, 3), (64, .aload_n 0, 1), (65, .aload_n 0, 1), (66, .getfield 222, 3), (69, .iload 8, 2), (71, .invokevirtual 332, 3), (74, .iload 7, 2), (76, .if_icmp .eq 9, 3), (79, .iinc 8 1, 3), (82, .goto (-25), 3), (85, .aload_n 0, 1), (86, .iload 4, 2), (88, .iload 5, 2), (90, .iload 6, 2), (92, .iload 8, 2), (94, .invokevirtual 293, 3), (97, .istore 5, 2), (99, .iconst 0, 1), (100, .istore 6, 2), (102, .aload_n 0, 1), (103, .getfield 48, 3), (106, .bipush 6, 2), (108, .aload_n 0, 1), (109, .getfield 222, 3), (112, .imul, 1), (113, .iload 8, 2), (115, .iadd, 1), (116, .iaload, 1), (117, .istore 4, 2), (119, .aload_n 0, 1), (120, .iload 4, 2), (122, .invokevirtual 218, 3), (125, .goto (-110), 3), (128, .aload_n 0, 1), (129, .iload 4, 2), (131, .iload 5, 2), (133, .iload 6, 2), (135, .iconst 0, 1), (136, .invokevirtual 293, 3), (139, .istore 7, 2), (141, .aload_n 0, 1), (142, .getfield 222, 3), (145, .istore 8, 2), (147, .aload_n 0, 1), (148, .getfield 236, 3), (151, .ifCond .eq 14, 3), (154, .aload_n 0, 1), (155, .getfield 20, 3), (158, .iload 8, 2), (160, .iaload, 1), (161, .iconst 5, 1), (162, .if_icmp .ne 4, 3), (165, .return_, 1), (166, .aload_n 0, 1), (167, .getfield 20, 3), (170, .iload 8, 2), (172, .iaload, 1), (173, .iconst 1, 1), (174, .if_icmp .ne 17, 3), (177, .aload_n 0, 1), (178, .getfield 75, 3), (181, .iload 7, 2), (183, .aload_n 0, 1), (184, .invokevirtual 317, 3), (187, .iastore, 1), (188, .goto 435, 3), (191, .aload_n 0, 1), (192, .getfield 20, 3), (195, .iload 8, 2), (197, .iaload, 1), (198, .iconst 4, 1), (199, .if_icmp .ne 144, 3), (202, .aload_n 0, 1), (203, .getfield 75, 3), (206, .iload 7, 2), (208, .aload_n 0, 1), (209, .iload 8, 2), (211, .invokevirtual 335, 3), (214, .iastore, 1), (215, .aload_n 0, 1), (216, .getfield 41, 3), (219, .iload 8, 2), (221, .baload, 1), (222, .ifCond .eq 45, 3), (225, .aload_n 0, 1), (226, .getfield 75, 3), (229, .iload 7, 2), (231, .iaload, 1), (232, .ifCond .le 35, 3), (235, .aload_n 0, 1), (236, .getfield 23, 3), (239, .iload 8, 2), (241, .iaload, 1), (242, .aload_n 0, 1), (243, .getfield 26, 3), (246, .iload 8, 2), (248, .iaload, 1), (249, .if_icmp .ne 14, 3), (252, .aload_n 0, 1), (253, .getfield 26, 3), (256, .iload 8, 2), (258, .iaload, 1), (259, .iconst 2, 1), (260, .if_icmp .le 7, 3), (263, .aload_n 0, 1), (264, .invokevirtual 320, 3), (267, .iconst 0, 1), (268, .istore 9, 2), (270, .iload 9, 2), (272, .aload_n 0, 1), (273, .getfield 75, 3), (276, .iload 7, 2), (278, .iaload, 1), (279, .if_icmp .ge 34, 3), (282, .aload_n 0, 1), (283, .getfield 236, 3), (286, .ifCond .eq 27, 3), (289, .aload_n 0, 1), (290, .getfield 93, 3), (293, .aload_n 0, 1), (294, .getfield 239, 3), (297, .iload 9, 2), (299, .iadd, 1), (300, .aload_n 0, 1), (301, .bipush 8, 2), (303, .invokevirtual 326, 3), (306, .iastore, 1), (307, .iinc 9 1, 3), (310, .goto (-40), 3), (313, .aload_n 0, 1), (314, .dup, 1), (315, .getfield 239, 3), (318, .aload_n 0, 1), (319, .getfield 236, 3), (322, .ifCond .eq 13, 3), (325, .aload_n 0, 1), (326, .getfield 75, 3), (329, .iload 7, 2), (331, .iaload, 1), (332, .goto 4, 3), (335, .iconst 0, 1), (336, .iadd, 1), (337, .putfield 239, 3), (340, .goto 283, 3), (343, .aload_n 0, 1), (344, .getfield 20, 3), (347, .iload 8, 2), (349, .iaload, 1), (350, .bipush 6, 2), (352, .if_icmp .eq 15, 3), (355, .aload_n 0, 1), (356, .getfield 20, 3), (359, .iload 8, 2), (361, .iaload, 1), (362, .bipush 7, 2), (364, .if_icmp .ne 129, 3), (367, .aload_n 0, 1), (368, .iload 7, 2), (370, .iconst 0, 1), (371, .iconst 0, 1), (372, .invokevirtual 283, 3), (375, .bipush 6, 2), (377, .iload 8, 2), (379, .imul, 1), (380, .istore 9, 2), (382, .iload 9, 2), (384, .bipush 6, 2), (386, .iload 8, 2), (388, .imul, 1), (389, .aload_n 0, 1), (390, .getfield 32, 3), (393, .iload 8, 2), (395, .iaload, 1), (396, .iadd, 1), (397, .if_icmp .ge 64, 3), (400, .aload_n 0, 1), (401, .getfield 20, 3), (404, .iload 8, 2), (406, .iaload, 1), (407, .bipush 6, 2), (409, .if_icmp .ne 52, 3), (412, .aload_n 0, 1), (413, .getfield 111, 3), (416, .aload_n 0, 1), (417, .getfield 242, 3), (420, .iconst 1, 1), (421, .isub, 1), (422, .iconst 2, 1), (423, .aload_n 0, 1), (424, .getfield 111, 3), (427, .aload_n 0, 1), (428, .getfield 242, 3), (431, .iconst 1, 1), (432, .isub, 1), (433, .iaload, 1), (434, .imul, 1), (435, .aload_n 0, 1), (436, .getfield 51, 3), (439, .iload 9, 2), (441, .iaload, 1), (442, .ifCond .ne 7, 3), (445, .iconst 1, 1), (446, .goto 7, 3), (449, .aload_n 0, 1), (450, .invokevirtual 317, 3), (453, .iadd, 1), (454, .iastore, 1), (455, .iinc 9 1, 3), (458, .goto (-76), 3), (461, .aload_n 0, 1), (462, .getfield 75, 3), (465, .iload 7, 2), (467, .aload_n 0, 1), (468, .getfield 20, 3), (471, .iload 8, 2), (473, .iaload, 1), (474, .bipush 7, 2), (476, .if_icmp .ne 12, 3), (479, .aload_n 0, 1), (480, .iload 8, 2), (482, .invokevirtual 335, 3), (485, .goto 4, 3), (488, .iconst 0, 1), (489, .iastore, 1), (490, .goto 133, 3), (493, .aload_n 0, 1), (494, .getfield 41, 3), (497, .iload 8, 2), (499, .baload, 1), (500, .ifCond .eq 31, 3), (503, .aload_n 0, 1), (504, .getfield 75, 3), (507, .iload 7, 2), (509, .aload_n 0, 1), (510, .aload_n 0, 1), (511, .getfield 23, 3), (514, .iload 8, 2), (516, .iaload, 1), (517, .aload_n 0, 1), (518, .getfield 26, 3), (521, .iload 8, 2), (523, .iaload, 1), (524, .invokevirtual 329, 3), (527, .iastore, 1), (528, .goto 95, 3), (531, .aload_n 0, 1), (532, .invokevirtual 320, 3), (535, .aload_n 0, 1), (536, .bipush 8, 2), (538, .invokevirtual 326, 3), (541, .istore 9, 2), (543, .iload 9, 2), (545, .iconst 1, 1), (546, .iconst 4, 1), (547, .invokestatic 166, 3), (550, .ifCond .eq 23, 3), (553, .aload_n 0, 1), (554, .getfield 245, 3), (557, .bipush 8, 2), (559, .iload 9, 2), (561, .imul, 1), (562, .iadd, 1), (563, .bipush 8, 2), (565, .aload_n 0, 1), (566, .getfield 261, 3), (569, .imul, 1), (570, .if_icmp .le 8, 3), (573, .aload_n 0, 1), (574, .iconst 0, 1), (575, .putfield 236, 3), (578, .aload_n 0, 1), (579, .getfield 75, 3), (582, .iload 7, 2), (584, .aload_n 0, 1), (585, .getfield 236, 3), (588, .ifCond .eq 33, 3), (591, .aload_n 0, 1), (592, .bipush 8, 2), (594, .iload 9, 2), (596, .imul, 1), (597, .invokevirtual 326, 3), (600, .bipush 32, 2), (602, .bipush 8, 2), (604, .iload 9, 2), (606, .imul, 1), (607, .isub, 1), (608, .ishl, 1), (609, .bipush 32, 2), (611, .bipush 8, 2), (613, .iload 9, 2), (615, .imul, 1), (616, .isub, 1), (617, .ishr, 1), (618, .goto 4, 3), (621, .iconst 0, 1), (622, .iastore, 1), (623, .return_, 1)]
set_option maxRecDepth 100000 in
theorem dM_want : ∀ q ∈ lM_want, decode prog_12_method_50_code q.1 = .ok q.2 := by decide +kernel
def lM_goOnPacked : List (Nat × Instr × Nat) := [(0, .aload_n 0, 1), (1, .getfield 242, 3), (4, .iconst 1, 1), (5, .isub, 1), (6, .istore_n 1, 1), (7, .aload_n 0, 1), (8, .getfield 102, 3), (11, .iload_n 1, 1), (12, .iaload, 1), (13, .istore_n 2, 1), (14, .aload_n 0, 1), (15, .iload_n 2, 1), (16, .invokevirtual 308, 3), (19, .istore_n 3, 1), (20, .aload_n 0, 1), (21, .getfield 108, 3), (24, .iload_n 1, 1), (25, .iaload, 1), (26, .istore 4, 2), (28, .aload_n 0, 1), (29, .getfield 108, 3), (32, .iload_n 1, 1), (33, .dup2, 1), (34, .iaload, 1), (35, .iconst 1, 1), (36, .iadd, 1), (37, .iastore, 1), (38, .iload 4, 2), (40, .aload_n 0, 1), (41, .getfield 20, 3), (44, .iload_n 3, 1), (45, .iaload, 1), (46, .bipush 6, 2), (48, .if_icmp .ne 12, 3), (51, .aload_n 0, 1), (52, .getfield 32, 3), (55, .iload_n 3, 1), (56, .iaload, 1), (57, .goto 9, 3), (60, .aload_n 0, 1), (61, .getfield 75, 3), (64, .iload_n 2, 1), (65, .iaload, 1), (66, .if_icmp .ne 16, 3), (69, .aload_n 0, 1), (70, .dup, 1), (71, .getfield 242, 3), (74, .iconst 1, 1), (75, .isub, 1), (76, .putfield 242, 3), (79, .goto 96, 3), (82, .aload_n 0, 1), (83, .getfield 20, 3), (86, .iload_n 3, 1), (87, .iaload, 1), (88, .bipush 6, 2), (90, .if_icmp .eq 22, 3), (93, .aload_n 0, 1), (94, .aload_n 0, 1), (95, .getfield 48, 3), (98, .bipush 6, 2), (100, .iload_n 3, 1), (101, .imul, 1), (102, .iaload, 1), (103, .iload_n 2, 1), (104, .iload 4, 2), (106, .invokevirtual 252, 3), (109, .goto 66, 3), (112, .aload_n 0, 1), (113, .getfield 111, 3), (116, .iload_n 1, 1), (117, .iaload, 1), (118, .aload_n 0, 1), (119, .getfield 32, 3), (122, .iload_n 3, 1), (123, .iaload, 1), (124, .iconst 1, 1), (125, .isub, 1), (126, .iload 4, 2), (128, .isub, 1), (129, .ishr, 1), (130, .iconst 1, 1), (131, .iand, 1), (132, .ifCond .ne 14, 3), (135, .aload_n 0, 1), (136, .iload_n 2, 1), (137, .iload_n 3, 1), (138, .iload 4, 2), (140, .invokevirtual 314, 3), (143, .goto 32, 3), (146, .aload_n 0, 1), (147, .getfield 75, 3), (150, .iload_n 2, 1), (151, .dup2, 1), (152, .iaload, 1), (153, .iconst 1, 1), (154, .iadd, 1), (155, .iastore, 1), (156, .aload_n 0, 1), (157, .aload_n 0, 1), (158, .getfield 48, 3), (161, .bipush 6, 2), (163, .iload_n 3, 1), (164, .imul, 1), (165, .iload 4, 2), (167, .iadd, 1), (168, .iaload, 1), (169, .iload_n 2, 1), (170, .iload 4, 2), (172, .invokevirtual 252, 3), (175, .return_, 1)]
set_option maxRecDepth 100000 in
theorem dM_goOnPacked : ∀ q ∈ lM_goOnPacked, decode prog_12_method_51_code q.1 = .ok q.2 := by decide +kernel
def lM_baseOf : List (Nat × Instr × Nat) := [(0, .aload_n 0, 1), (1, .aload_n 0, 1), (2, .getfield 72, 3), (5, .iload_n 1, 1), (6, .iaload, 1), (7, .invokevirtual 218, 3), (10, .aload_n 0, 1), (11, .getfield 222, 3), (14, .ireturn, 1)]
set_option maxRecDepth 100000 in
theorem dM_baseOf : ∀ q ∈ lM_baseOf, decode prog_12_method_52_code q.1 = .ok q.2 := by decide +kernel
def lM_isLeft : List (Nat × Instr × Nat) := [(0, .aload_n 0, 1), (1, .getfield 81, 3), (4, .iload_n 1, 1), (5, .iaload, 1), (6, .ifCond .ge 5, 3), (9, .iconst 0, 1), (10, .ireturn, 1), (11, .aload_n 0, 1), (12, .aload_n 0, 1), (13, .getfield 81, 3), (16, .iload_n 1, 1), (17, .iaload, 1), (18, .invokevirtual 308, 3), (21, .istore_n 2, 1), (22, .bipush 6, 2), (24, .iload_n 2, 1), (25, .imul, 1), (26, .aload_n 0, 1), (27, .getfield 78, 3), (30, .iload_n 1, 1), (31, .iaload, 1), (32, .iadd, 1), (33, .istore_n 3, 1), (34, .aload_n 0, 1), (35, .getfield 20, 3), (38, .iload_n 2, 1), (39, .iaload, 1), (40, .bipush 6, 2), (42, .if_icmp .ne 32, 3), (45, .aload_n 0, 1), (46, .getfield 51, 3), (49, .iload_n 3, 1), (50, .iaload, 1), (51, .iconst 2, 1), (52, .if_icmp .ne 22, 3), (55, .aload_n 0, 1), (56, .getfield 54, 3), (59, .iload_n 3, 1), (60, .iaload, 1), (61, .aload_n 0, 1), (62, .getfield 75, 3), (65, .iload_n 1, 1), (66, .iaload, 1), (67, .if_icmp .ne 7, 3), (70, .iconst 1, 1), (71, .goto 4, 3), (74, .iconst 0, 1), (75, .ireturn, 1)]
set_option maxRecDepth 100000 in
theorem dM_isLeft : ∀ q ∈ lM_isLeft, decode prog_12_method_53_code q.1 = .ok q.2 := by decide +kernel
def lM_settle : List (Nat × Instr × Nat) := [(0, .aload_n 0, 1), (1, .getfield 233, 3), (4, .iconst 1, 1), (5, .isub, 1), (6, .istore_n 1, 1), (7, .iload_n 1, 1), (8, .ifCond .lt 52, 3), (11, .iload_n 1, 1), (12, .iconst 1, 1), (13, .iadd, 1), (14, .istore_n 2, 1), (15, .iload_n 2, 1), (16, .aload_n 0, 1), (17, .getfield 233, 3), (20, .if_icmp .ge 25, 3), (23, .aload_n 0, 1), (24, .getfield 81, 3), (27, .iload_n 2, 1), (28, .iaload, 1), (29, .iload_n 1, 1), (30, .if_icmp .ne 15, 3), (33, .iload_n 2, 1), (34, .aload_n 0, 1), (35, .getfield 87, 3), (38, .iload_n 2, 1), (39, .iaload, 1), (40, .iadd, 1), (41, .istore_n 2, 1), (42, .goto (-27), 3), (45, .aload_n 0, 1), (46, .getfield 87, 3), (49, .iload_n 1, 1), (50, .iload_n 2, 1), (51, .iload_n 1, 1), (52, .isub, 1), (53, .iastore, 1), (54, .iinc 1 (-1), 3), (57, .goto (-50), 3), (60, .return_, 1)]
set_option maxRecDepth 100000 in
theorem dM_settle : ∀ q ∈ lM_settle, decode prog_12_method_54_code q.1 = .ok q.2 := by decide +kernel
def lM_make : List (Nat × Instr × Nat) := [(0, .aload_n 0, 1), (1, .dup, 1), (2, .getfield 270, 3), (5, .iconst 1, 1), (6, .isub, 1), (7, .putfield 270, 3), (10, .aload_n 0, 1), (11, .getfield 69, 3), (14, .aload_n 0, 1), (15, .getfield 270, 3), (18, .iload_n 1, 1), (19, .iastore, 1), (20, .return_, 1)]
set_option maxRecDepth 100000 in
theorem dM_make : ∀ q ∈ lM_make, decode prog_12_method_55_code q.1 = .ok q.2 := by decide +kernel
def lM_encode : List (Nat × Instr × Nat) := [(0, .aload_n 0, 1), (1, .getfield 20, 3), (4, .aload_n 0, 1), (5, .iload_n 1, 1), (6, .invokevirtual 308, 3), (9, .iaload, 1), (10, .istore_n 2, 1), (11, .aload_n 0, 1), (12, .getfield 75, 3), (15, .iload_n 1, 1), (16, .iaload, 1), (17, .iconst 1, 1), (18, .isub, 1), (19, .istore_n 3, 1), (20, .iload_n 3, 1), (21, .ifCond .lt 31, 3), (24, .iload_n 2, 1), (25, .iconst 4, 1), (26, .if_icmp .ne 26, 3), (29, .aload_n 0, 1), (30, .aload_n 0, 1), (31, .getfield 93, 3), (34, .aload_n 0, 1), (35, .getfield 84, 3), (38, .iload_n 1, 1), (39, .iaload, 1), (40, .iload_n 3, 1), (41, .iadd, 1), (42, .iaload, 1), (43, .invokevirtual 338, 3), (46, .iinc 3 (-1), 3), (49, .goto (-29), 3), (52, .iconst 0, 1), (53, .istore_n 3, 1), (54, .iload_n 3, 1), (55, .aload_n 0, 1), (56, .getfield 75, 3), (59, .iload_n 1, 1), (60, .iaload, 1), (61, .invokestatic 300, 3), (64, .if_icmp .ge 33, 3), (67, .iload_n 2, 1), (68, .iconst 2, 1), (69, .if_icmp .ne 28, 3), (72, .aload_n 0, 1), (73, .aload_n 0, 1), (74, .getfield 75, 3), (77, .iload_n 1, 1), (78, .iaload, 1), (79, .bipush 8, 2), (81, .iload_n 3, 1), (82, .imul, 1), (83, .ishr, 1), (84, .sipush 255, 3), (87, .iand, 1), (88, .invokevirtual 338, 3), (91, .iinc 3 1, 3), (94, .goto (-40), 3), (97, .iload_n 2, 1), (98, .iconst 1, 1), (99, .if_icmp .ne 17, 3), (102, .aload_n 0, 1), (103, .sipush 255, 3), (106, .aload_n 0, 1), (107, .getfield 75, 3), (110, .iload_n 1, 1), (111, .iaload, 1), (112, .imul, 1), (113, .invokevirtual 338, 3), (116, .iconst 0, 1), (117, .istore_n 3, 1), (118, .iload_n 3, 1), (119, .aload_n 0, 1), (120, .getfield 225, 3), (123, .if_icmp .ge 95, 3), (126, .aload_n 0, 1), (127, .getfield 90, 3), (130, .iload_n 1, 1), (131, .aload_n 0, 1), (132, .getfield 87, 3), (135, .iload_n 1, 1), (136, .iaload, 1), (137, .iadd, 1), (138, .iaload, 1), (139, .aload_n 0, 1), (140, .getfield 270, 3), (143, .isub, 1), (144, .istore 4, 2), (146, .aload_n 0, 1), (147, .iload 4, 2), (149, .sipush 256, 3), (152, .irem, 1), (153, .invokevirtual 338, 3), (156, .iload 4, 2), (158, .bipush 127, 2), (160, .if_icmp .le 27, 3), (163, .aload_n 0, 1), (164, .iload 4, 2), (166, .sipush 255, 3), (169, .if_icmp .le 12, 3), (172, .iload 4, 2), (174, .sipush 256, 3), (177, .idiv, 1), (178, .goto 6, 3), (181, .sipush 129, 3), (184, .invokevirtual 338, 3), (187, .iload 4, 2), (189, .sipush 255, 3), (192, .if_icmp .le 10, 3), (195, .aload_n 0, 1), (196, .sipush 130, 3), (199, .invokevirtual 338, 3), (202, .aload_n 0, 1), (203, .aload_n 0, 1), (204, .getfield 57, 3), (207, .iload_n 3, 1), (208, .iaload, 1), (209, .invokevirtual 338, 3), (212, .iinc 3 1, 3), (215, .goto (-97), 3), (218, .return_, 1)]
set_option maxRecDepth 100000 in
theorem dM_encode : ∀ q ∈ lM_encode, decode prog_12_method_56_code q.1 = .ok q.2 := by decide +kernel
def lM_write : List (Nat × Instr × Nat) := [(0, .aload_n 0, 1), (1, .iconst 0, 1), (2, .putfield 341, 3), (5, .aload_n 0, 1), (6, .sipush 4000, 3), (9, .putfield 270, 3), (12, .aload_n 0, 1), (13, .getfield 90, 3), (16, .aload_n 0, 1), (17, .getfield 233, 3), (20, .aload_n 0, 1), (21, .getfield 270, 3), (24, .iastore, 1), (25, .aload_n 0, 1), (26, .getfield 233, 3), (29, .iconst 1, 1), (30, .isub, 1), (31, .istore_n 2, 1), (32, .iload_n 2, 1), (33, .ifCond .lt 37, 3), (36, .iload_n 1, 1), (37, .iconst 1, 1), (38, .if_icmp .ne 32, 3), (41, .aload_n 0, 1), (42, .iload_n 2, 1), (43, .invokevirtual 344, 3), (46, .ifCond .ne 8, 3), (49, .aload_n 0, 1), (50, .iload_n 2, 1), (51, .invokevirtual 347, 3), (54, .aload_n 0, 1), (55, .getfield 90, 3), (58, .iload_n 2, 1), (59, .aload_n 0, 1), (60, .getfield 270, 3), (63, .iastore, 1), (64, .iinc 2 (-1), 3), (67, .goto (-35), 3), (70, .aload_n 0, 1), (71, .getfield 270, 3), (74, .istore_n 2, 1), (75, .iload_n 2, 1), (76, .sipush 4000, 3), (79, .if_icmp .ge 26, 3), (82, .aload_n 0, 1), (83, .getfield 69, 3), (86, .iload_n 2, 1), (87, .aload_n 0, 1), (88, .getfield 270, 3), (91, .isub, 1), (92, .aload_n 0, 1), (93, .getfield 69, 3), (96, .iload_n 2, 1), (97, .iaload, 1), (98, .iastore, 1), (99, .iinc 2 1, 3), (102, .goto (-27), 3), (105, .aload_n 0, 1), (106, .sipush 4000, 3), (109, .aload_n 0, 1), (110, .getfield 270, 3), (113, .isub, 1), (114, .putfield 270, 3), (117, .iload_n 1, 1), (118, .iconst 1, 1), (119, .if_icmp .ne 4, 3), (122, .return_, 1), (123, .iconst 0, 1), (124, .istore_n 2, 1), (125, .iload_n 2, 1), (126, .aload_n 0, 1), (127, .getfield 233, 3), (130, .if_icmp .ge 22, 3), (133, .aload_n 0, 1), (134, .iload_n 2, 1), (135, .invokevirtual 344, 3), (138, .ifCond .ne 8, 3), (141, .aload_n 0, 1), (142, .iload_n 2, 1), (143, .invokevirtual 350, 3), (146, .iinc 2 1, 3), (149, .goto (-24), 3), (152, .aload_n 0, 1), (153, .getfield 341, 3), (156, .ifCond .ne 10, 3), (159, .aload_n 0, 1), (160, .iconst 0, 1), (161, .bipush 8, 2), (163, .invokevirtual 353, 3), (166, .aload_n 0, 1), (167, .aload_n 0, 1), (168, .getfield 341, 3), (171, .bipush 7, 2), (173, .iadd, 1), (174, .bipush 8, 2), (176, .idiv, 1), (177, .putfield 270, 3), (180, .return_, 1)]
set_option maxRecDepth 100000 in
theorem dM_write : ∀ q ∈ lM_write, decode prog_12_method_57_code q.1 = .ok q.2 := by decide +kernel
def lM_bring : List (Nat × Instr × Nat) := [(0, .iload_n 2, 1), (1, .iconst 1, 1), (2, .isub, 1), (3, .istore_n 3, 1), (4, .iload_n 3, 1), (5, .ifCond .lt 83, 3), (8, .aload_n 0, 1), (9, .getfield 341, 3), (12, .bipush 8, 2), (14, .irem, 1), (15, .ifCond .ne 16, 3), (18, .aload_n 0, 1), (19, .getfield 69, 3), (22, .aload_n 0, 1), (23, .getfield 341, 3), (26, .bipush 8, 2), (28, .idiv, 1), (29, .iconst 0, 1), (30, .iastore, 1), (31, .aload_n 0, 1), (32, .getfield 69, 3), (35, .aload_n 0, 1), (36, .getfield 341, 3), (39, .bipush 8, 2), (41, .idiv, 1), (42, .aload_n 0, 1), (43, .getfield 69, 3), (46, .aload_n 0, 1), (47, .getfield 341, 3), (50, .bipush 8, 2), (52, .idiv, 1), (53, .iaload, 1), (54, .iload_n 1, 1), (55, .iload_n 3, 1), (56, .ishr, 1), (57, .iconst 1, 1), (58, .iand, 1), (59, .bipush 7, 2), (61, .aload_n 0, 1), (62, .getfield 341, 3), (65, .bipush 8, 2), (67, .irem, 1), (68, .isub, 1), (69, .ishl, 1), (70, .ior, 1), (71, .iastore, 1), (72, .aload_n 0, 1), (73, .dup, 1), (74, .getfield 341, 3), (77, .iconst 1, 1), (78, .iadd, 1), (79, .putfield 341, 3), (82, .iinc 3 (-1), 3), (85, .goto (-81), 3), (88, .return_, 1)]
set_option maxRecDepth 100000 in
theorem dM_bring : ∀ q ∈ lM_bring, decode prog_12_method_58_code q.1 = .ok q.2 := by decide +kernel
def lM_fill : List (Nat × Instr × Nat) := [(0, .aload_n 0, 1), (1, .getfield 341, 3), (4, .bipush 8, 2), (6, .irem, 1), (7, .ifCond .le 22, 3), (10, .aload_n 0, 1), (11, .dup, 1), (12, .getfield 341, 3), (15, .bipush 8, 2), (17, .aload_n 0, 1), (18, .getfield 341, 3), (21, .bipush 8, 2), (23, .irem, 1), (24, .isub, 1), (25, .iadd, 1), (26, .putfield 341, 3), (29, .return_, 1)]
set_option maxRecDepth 100000 in
theorem dM_fill : ∀ q ∈ lM_fill, decode prog_12_method_59_code q.1 = .ok q.2 := by decide +kernel
def lM_bringOf : List (Nat × Instr × Nat) := [(0, .iload_n 3, 1), (1, .iload_n 2, 1), (2, .isub, 1), (3, .istore 4, 2), (5, .iload 4, 2), (7, .sipush 254, 3), (10, .if_icmp .le 7, 3), (13, .aload_n 0, 1), (14, .invokevirtual 356, 3), (17, .aload_n 0, 1), (18, .iload_n 1, 1), (19, .iload_n 2, 1), (20, .isub, 1), (21, .iload 4, 2), (23, .sipush 255, 3), (26, .if_icmp .ge 11, 3), (29, .iload 4, 2), (31, .invokestatic 323, 3), (34, .goto 18, 3), (37, .iload 4, 2), (39, .sipush 255, 3), (42, .if_icmp .ne 8, 3), (45, .bipush 8, 2), (47, .goto 5, 3), (50, .bipush 16, 2), (52, .invokevirtual 353, 3), (55, .return_, 1)]
set_option maxRecDepth 100000 in
theorem dM_bringOf : ∀ q ∈ lM_bringOf, decode prog_12_method_60_code q.1 = .ok q.2 := by decide +kernel
def lM_bringCount : List (Nat × Instr × Nat) := [(0, .aload_n 0, 1), (1, .getfield 41, 3), (4, .iload_n 2, 1), (5, .baload, 1), (6, .ifCond .ne 7, 3), (9, .aload_n 0, 1), (10, .invokevirtual 356, 3), (13, .aload_n 0, 1), (14, .getfield 41, 3), (17, .iload_n 2, 1), (18, .baload, 1), (19, .ifCond .eq 23, 3), (22, .aload_n 0, 1), (23, .iload_n 1, 1), (24, .aload_n 0, 1), (25, .getfield 23, 3), (28, .iload_n 2, 1), (29, .iaload, 1), (30, .aload_n 0, 1), (31, .getfield 26, 3), (34, .iload_n 2, 1), (35, .iaload, 1), (36, .invokevirtual 359, 3), (39, .goto 10, 3), (42, .aload_n 0, 1), (43, .iload_n 1, 1), (44, .bipush 8, 2), (46, .invokevirtual 353, 3), (49, .return_, 1)]
set_option maxRecDepth 100000 in
theorem dM_bringCount : ∀ q ∈ lM_bringCount, decode prog_12_method_61_code q.1 = .ok q.2 := by decide +kernel
def lM_packed : List (Nat × Instr × Nat) := [(0, .aload_n 0, 1), (1, .iload_n 1, 1), (2, .invokevirtual 308, 3), (5, .istore_n 2, 1), (6, .aload_n 0, 1), (7, .getfield 20, 3), (10, .iload_n 2, 1), (11, .iaload, 1), (12, .istore_n 3, 1), (13, .aload_n 0, 1), (14, .getfield 75, 3), (17, .iload_n 1, 1), (18, .iaload, 1), (19, .istore 4, 2), (21, .iload_n 3, 1), (22, .iconst 1, 1), (23, .if_icmp .ne 13, 3), (26, .aload_n 0, 1), (27, .iload 4, 2), (29, .iconst 1, 1), (30, .invokevirtual 353, 3), (33, .goto 226, 3), (36, .iload_n 3, 1), (37, .iconst 4, 1), (38, .if_icmp .ne 92, 3), (41, .aload_n 0, 1), (42, .iload 4, 2), (44, .iload_n 2, 1), (45, .invokevirtual 362, 3), (48, .aload_n 0, 1), (49, .getfield 41, 3), (52, .iload_n 2, 1), (53, .baload, 1), (54, .ifCond .eq 37, 3), (57, .iload 4, 2), (59, .ifCond .le 32, 3), (62, .aload_n 0, 1), (63, .getfield 23, 3), (66, .iload_n 2, 1), (67, .iaload, 1), (68, .aload_n 0, 1), (69, .getfield 26, 3), (72, .iload_n 2, 1), (73, .iaload, 1), (74, .if_icmp .ne 13, 3), (77, .aload_n 0, 1), (78, .getfield 26, 3), (81, .iload_n 2, 1), (82, .iaload, 1), (83, .iconst 2, 1), (84, .if_icmp .le 7, 3), (87, .aload_n 0, 1), (88, .invokevirtual 356, 3), (91, .iconst 0, 1), (92, .istore 5, 2), (94, .iload 5, 2), (96, .iload 4, 2), (98, .if_icmp .ge 29, 3), (101, .aload_n 0, 1), (102, .aload_n 0, 1), (103, .getfield 93, 3), (106, .aload_n 0, 1), (107, .getfield 84, 3), (110, .iload_n 1, 1), (111, .iaload, 1), (112, .iload 5, 2), (114, .iadd, 1), (115, .iaload, 1), (116, .bipush 8, 2), (118, .invokevirtual 353, 3), (121, .iinc 5 1, 3), (124, .goto (-30), 3), (127, .goto 132, 3), (130, .iload_n 3, 1), (131, .bipush 7, 2), (133, .if_icmp .ne 13, 3), (136, .aload_n 0, 1), (137, .iload 4, 2), (139, .iload_n 2, 1), (140, .invokevirtual 362, 3), (143, .goto 116, 3), (146, .iload_n 3, 1), (147, .bipush 9, 2), (149, .if_icmp .ne 26, 3), (152, .aload_n 0, 1), (153, .aload_n 0, 1), (154, .iload_n 2, 1), (155, .iload 4, 2), (157, .invokevirtual 332, 3), (160, .iconst 0, 1), (161, .aload_n 0, 1), (162, .getfield 32, 3), (165, .iload_n 2, 1), (166, .iaload, 1), (167, .iconst 1, 1), (168, .isub, 1), (169, .invokevirtual 359, 3), (172, .goto 87, 3), (175, .iload_n 3, 1), (176, .bipush 6, 2), (178, .if_icmp .ne 12, 3), (181, .aload_n 0, 1), (182, .iload_n 1, 1), (183, .iload_n 2, 1), (184, .invokevirtual 365, 3), (187, .goto 72, 3), (190, .iload_n 3, 1), (191, .iconst 5, 1), (192, .if_icmp .eq 33, 3), (195, .aload_n 0, 1), (196, .getfield 41, 3), (199, .iload_n 2, 1), (200, .baload, 1), (201, .ifCond .eq 24, 3), (204, .aload_n 0, 1), (205, .iload 4, 2), (207, .aload_n 0, 1), (208, .getfield 23, 3), (211, .iload_n 2, 1), (212, .iaload, 1), (213, .aload_n 0, 1), (214, .getfield 26, 3), (217, .iload_n 2, 1), (218, .iaload, 1), (219, .invokevirtual 359, 3), (222, .goto 37, 3), (225, .iload_n 3, 1), (226, .iconst 5, 1), (227, .if_icmp .eq 32, 3), (230, .aload_n 0, 1), (231, .invokevirtual 356, 3), (234, .aload_n 0, 1), (235, .iload 4, 2), (237, .invokestatic 300, 3), (240, .bipush 8, 2), (242, .invokevirtual 353, 3), (245, .aload_n 0, 1), (246, .iload 4, 2), (248, .bipush 8, 2), (250, .iload 4, 2), (252, .invokestatic 300, 3), (255, .imul, 1), (256, .invokevirtual 353, 3), (259, .return_, 1)]
set_option maxRecDepth 100000 in
theorem dM_packed : ∀ q ∈ lM_packed, decode prog_12_method_62_code q.1 = .ok q.2 := by decide +kernel
def lM_marks : List (Nat × Instr × Nat) := [(0, .iload_n 1, 1), (1, .iconst 1, 1), (2, .iadd, 1), (3, .istore_n 3, 1), (4, .iconst 0, 1), (5, .istore 4, 2), (7, .iload 4, 2), (9, .aload_n 0, 1), (10, .getfield 32, 3), (13, .iload_n 2, 1), (14, .iaload, 1), (15, .if_icmp .ge 95, 3), (18, .iload_n 3, 1), (19, .iload_n 1, 1), (20, .aload_n 0, 1), (21, .getfield 87, 3), (24, .iload_n 1, 1), (25, .iaload, 1), (26, .iadd, 1), (27, .if_icmp .ge 18, 3), (30, .aload_n 0, 1), (31, .getfield 78, 3), (34, .iload_n 3, 1), (35, .iaload, 1), (36, .iload 4, 2), (38, .if_icmp .ne 7, 3), (41, .iconst 1, 1), (42, .goto 4, 3), (45, .iconst 0, 1), (46, .istore 5, 2), (48, .aload_n 0, 1), (49, .getfield 51, 3), (52, .bipush 6, 2), (54, .iload_n 2, 1), (55, .imul, 1), (56, .iload 4, 2), (58, .iadd, 1), (59, .iaload, 1), (60, .ifCond .eq 26, 3), (63, .aload_n 0, 1), (64, .iload 5, 2), (66, .ifCond .eq 15, 3), (69, .aload_n 0, 1), (70, .iload_n 3, 1), (71, .invokevirtual 344, 3), (74, .ifCond .ne 7, 3), (77, .iconst 1, 1), (78, .goto 4, 3), (81, .iconst 0, 1), (82, .iconst 1, 1), (83, .invokevirtual 353, 3), (86, .iload_n 3, 1), (87, .iload 5, 2), (89, .ifCond .eq 12, 3), (92, .aload_n 0, 1), (93, .getfield 87, 3), (96, .iload_n 3, 1), (97, .iaload, 1), (98, .goto 4, 3), (101, .iconst 0, 1), (102, .iadd, 1), (103, .istore_n 3, 1), (104, .iinc 4 1, 3), (107, .goto (-100), 3), (110, .return_, 1)]
set_option maxRecDepth 100000 in
theorem dM_marks : ∀ q ∈ lM_marks, decode prog_12_method_63_code q.1 = .ok q.2 := by decide +kernel
def lM_keep : List (Nat × Instr × Nat) := [(0, .aload_n 0, 1), (1, .aload_n 0, 1), (2, .getfield 233, 3), (5, .putfield 140, 3), (8, .iconst 0, 1), (9, .istore_n 1, 1), (10, .iload_n 1, 1), (11, .aload_n 0, 1), (12, .getfield 233, 3), (15, .if_icmp .ge 91, 3), (18, .aload_n 0, 1), (19, .getfield 96, 3), (22, .iconst 5, 1), (23, .iload_n 1, 1), (24, .imul, 1), (25, .aload_n 0, 1), (26, .getfield 20, 3), (29, .aload_n 0, 1), (30, .iload_n 1, 1), (31, .invokevirtual 308, 3), (34, .iaload, 1), (35, .iastore, 1), (36, .aload_n 0, 1), (37, .getfield 96, 3), (40, .iconst 5, 1), (41, .iload_n 1, 1), (42, .imul, 1), (43, .iconst 1, 1), (44, .iadd, 1), (45, .aload_n 0, 1), (46, .getfield 75, 3), (49, .iload_n 1, 1), (50, .iaload, 1), (51, .iastore, 1), (52, .aload_n 0, 1), (53, .getfield 96, 3), (56, .iconst 5, 1), (57, .iload_n 1, 1), (58, .imul, 1), (59, .iconst 2, 1), (60, .iadd, 1), (61, .aload_n 0, 1), (62, .getfield 78, 3), (65, .iload_n 1, 1), (66, .iaload, 1), (67, .iastore, 1), (68, .aload_n 0, 1), (69, .getfield 96, 3), (72, .iconst 5, 1), (73, .iload_n 1, 1), (74, .imul, 1), (75, .iconst 3, 1), (76, .iadd, 1), (77, .aload_n 0, 1), (78, .getfield 81, 3), (81, .iload_n 1, 1), (82, .iaload, 1), (83, .iastore, 1), (84, .aload_n 0, 1), (85, .getfield 96, 3), (88, .iconst 5, 1), (89, .iload_n 1, 1), (90, .imul, 1), (91, .iconst 4, 1), (92, .iadd, 1), (93, .aload_n 0, 1), (94, .getfield 84, 3), (97, .iload_n 1, 1), (98, .iaload, 1), (99, .iastore, 1), (100, .iinc 1 1, 3), (103, .goto (-93), 3), (106, .iconst 0, 1), (107, .istore_n 1, 1), (108, .iload_n 1, 1), (109, .aload_n 0, 1), (110, .getfield 239, 3), (113, .if_icmp .ge 21, 3), (116, .aload_n 0, 1), (117, .getfield 99, 3), (120, .iload_n 1, 1), (121, .aload_n 0, 1), (122, .getfield 93, 3), (125, .iload_n 1, 1), (126, .iaload, 1), (127, .iastore, 1), (128, .iinc 1 1, 3), (131, .goto (-23), 3), (134, .return_, 1)]
set_option maxRecDepth 100000 in
theorem dM_keep : ∀ q ∈ lM_keep, decode prog_12_method_64_code q.1 = .ok q.2 := by decide +kernel
def lM_typeOf : List (Nat × Instr × Nat) := [(0, .iload_n 1, 1), (1, .bipush 65, 2), (3, .bipush 90, 2), (5, .invokestatic 166, 3), (8, .ifCond .eq 15, 3), (11, .aload_n 0, 1), (12, .getfield 17, 3), (15, .iload_n 1, 1), (16, .bipush 65, 2), (18, .isub, 1), (19, .iaload, 1), (20, .goto 4, 3), (23, .iconst (-1), 1), (24, .ireturn, 1)]
set_option maxRecDepth 100000 in
theorem dM_typeOf : ∀ q ∈ lM_typeOf, decode prog_12_method_65_code q.1 = .ok q.2 := by decide +kernel
def lM_asked : List (Nat × Instr × Nat) := [(0, .iload_n 1, 1), (1, .ifCond .ne 7, 3), (4, .iconst 1, 1), (5, .goto 27, 3), (8, .aload_n 0, 1), (9, .getfield 136, 3), (12, .ifCond .ne 7, 3), (15, .iconst 2, 1), (16, .goto 16, 3), (19, .aload_n 0, 1), (20, .iload_n 2, 1), (21, .invokevirtual 368, 3), (24, .ifCond .ge 7, 3), (27, .iconst 3, 1), (28, .goto 4, 3), (31, .iconst 0, 1), (32, .ireturn, 1)]
set_option maxRecDepth 100000 in
theorem dM_asked : ∀ q ∈ lM_asked, decode prog_12_method_66_code q.1 = .ok q.2 := by decide +kernel
def lM_load : List (Nat × Instr × Nat) := [(0, .aload_n 0, 1), (1, .aload_n 0, 1), (2, .getfield 228, 3), (5, .iload_n 1, 1), (6, .isub, 1), (7, .putfield 261, 3), (10, .iconst 0, 1), (11, .istore_n 2, 1), (12, .iload_n 2, 1), (13, .aload_n 0, 1), (14, .getfield 261, 3), (17, .if_icmp .ge 23, 3), (20, .aload_n 0, 1), (21, .getfield 66, 3), (24, .iload_n 2, 1), (25, .aload_n 0, 1), (26, .getfield 63, 3), (29, .iload_n 1, 1), (30, .iload_n 2, 1), (31, .iadd, 1), (32, .iaload, 1), (33, .iastore, 1), (34, .iinc 2 1, 3), (37, .goto (-25), 3), (40, .return_, 1)]
set_option maxRecDepth 100000 in
theorem dM_load : ∀ q ∈ lM_load, decode prog_12_method_67_code q.1 = .ok q.2 := by decide +kernel
end
section
/-! DECODE: each method's instructions, by place -/
def lM_transcode : List (Nat × Instr × Nat) := [(0, .aload_n 0, 1), (1, .aload_n 0, 1), (2, .iload_n 2, 1), (3, .iconst 0, 1), (4, .iconst 2, 1), (5, .invokestatic 166, 3), (8, .ifCond .eq 16, 3), (11, .iload_n 3, 1), (12, .iconst 1, 1), (13, .iconst 2, 1), (14, .invokestatic 166, 3), (17, .ifCond .eq 7, 3), (20, .iconst 1, 1), (21, .goto 4, 3), (24, .iconst 0, 1), (25, .iload_n 1, 1), (26, .invokevirtual 372, 3), (29, .putfield 132, 3), (32, .aload_n 0, 1), (33, .getfield 132, 3), (36, .ifCond .le 5, 3), (39, .iconst 0, 1), (40, .ireturn, 1), (41, .aload_n 0, 1), (42, .iconst 0, 1), (43, .invokevirtual 376, 3), (46, .aload_n 0, 1), (47, .aload_n 0, 1), (48, .iload_n 1, 1), (49, .invokevirtual 368, 3), (52, .iload_n 2, 1), (53, .invokevirtual 379, 3), (56, .ifCond .ne 5, 3), (59, .iconst (-1), 1), (60, .ireturn, 1), (61, .aload_n 0, 1), (62, .iload_n 3, 1), (63, .invokevirtual 267, 3), (66, .aload_n 0, 1), (67, .getfield 270, 3), (70, .bipush 120, 2), (72, .if_icmp .le 9, 3), (75, .aload_n 0, 1), (76, .iconst 4, 1), (77, .invokevirtual 383, 3), (80, .ireturn, 1), (81, .aload_n 0, 1), (82, .invokevirtual 386, 3), (85, .iconst 0, 1), (86, .istore 4, 2), (88, .iload 4, 2), (90, .aload_n 0, 1), (91, .getfield 270, 3), (94, .if_icmp .ge 23, 3), (97, .aload_n 0, 1), (98, .getfield 63, 3), (101, .iload 4, 2), (103, .aload_n 0, 1), (104, .getfield 69, 3), (107, .iload 4, 2), (109, .iaload, 1), (110, .iastore, 1), (111, .iinc 4 1, 3), (114, .goto (-26), 3), (117, .aload_n 0, 1), (118, .aload_n 0, 1), (119, .getfield 270, 3), (122, .putfield 228, 3), (125, .aload_n 0, 1), (126, .getfield 270, 3), (129, .ireturn, 1)]
set_option maxRecDepth 100000 in
theorem dM_transcode : ∀ q ∈ lM_transcode, decode prog_12_method_68_code q.1 = .ok q.2 := by decide +kernel
def lM_parts : List (Nat × Instr × Nat) := [(0, .aload_n 0, 1), (1, .iconst 0, 1), (2, .putfield 132, 3), (5, .aload_n 0, 1), (6, .getfield 140, 3), (9, .ireturn, 1)]
set_option maxRecDepth 100000 in
theorem dM_parts : ∀ q ∈ lM_parts, decode prog_12_method_69_code q.1 = .ok q.2 := by decide +kernel
def lM_part : List (Nat × Instr × Nat) := [(0, .aload_n 0, 1), (1, .iload_n 2, 1), (2, .iconst 0, 1), (3, .iconst 3, 1), (4, .invokestatic 166, 3), (7, .ifCond .ne 7, 3), (10, .iconst 1, 1), (11, .goto 22, 3), (14, .iload_n 1, 1), (15, .iconst 0, 1), (16, .aload_n 0, 1), (17, .getfield 140, 3), (20, .iconst 1, 1), (21, .isub, 1), (22, .invokestatic 166, 3), (25, .ifCond .ne 7, 3), (28, .iconst 2, 1), (29, .goto 4, 3), (32, .iconst 0, 1), (33, .putfield 132, 3), (36, .aload_n 0, 1), (37, .getfield 132, 3), (40, .ifCond .le 7, 3), (43, .iconst 0, 1), (44, .goto 13, 3), (47, .aload_n 0, 1), (48, .getfield 96, 3), (51, .iconst 5, 1), (52, .iload_n 1, 1), (53, .imul, 1), (54, .iload_n 2, 1), (55, .iadd, 1), (56, .iaload, 1), (57, .ireturn, 1)]
set_option maxRecDepth 100000 in
theorem dM_part : ∀ q ∈ lM_part, decode prog_12_method_70_code q.1 = .ok q.2 := by decide +kernel
def lM_octet : List (Nat × Instr × Nat) := [(0, .aload_n 0, 1), (1, .iload_n 1, 1), (2, .iconst 0, 1), (3, .aload_n 0, 1), (4, .getfield 140, 3), (7, .iconst 1, 1), (8, .isub, 1), (9, .invokestatic 166, 3), (12, .ifCond .eq 39, 3), (15, .aload_n 0, 1), (16, .getfield 96, 3), (19, .iconst 5, 1), (20, .iload_n 1, 1), (21, .imul, 1), (22, .iaload, 1), (23, .iconst 4, 1), (24, .if_icmp .ne 27, 3), (27, .iload_n 2, 1), (28, .iconst 0, 1), (29, .aload_n 0, 1), (30, .getfield 96, 3), (33, .iconst 5, 1), (34, .iload_n 1, 1), (35, .imul, 1), (36, .iconst 1, 1), (37, .iadd, 1), (38, .iaload, 1), (39, .iconst 1, 1), (40, .isub, 1), (41, .invokestatic 166, 3), (44, .ifCond .eq 7, 3), (47, .iconst 0, 1), (48, .goto 4, 3), (51, .iconst 1, 1), (52, .putfield 132, 3), (55, .aload_n 0, 1), (56, .getfield 132, 3), (59, .ifCond .le 7, 3), (62, .iconst 0, 1), (63, .goto 20, 3), (66, .aload_n 0, 1), (67, .getfield 99, 3), (70, .aload_n 0, 1), (71, .getfield 96, 3), (74, .iconst 5, 1), (75, .iload_n 1, 1), (76, .imul, 1), (77, .iconst 4, 1), (78, .iadd, 1), (79, .iaload, 1), (80, .iload_n 2, 1), (81, .iadd, 1), (82, .iaload, 1), (83, .ireturn, 1)]
set_option maxRecDepth 100000 in
theorem dM_octet : ∀ q ∈ lM_octet, decode prog_12_method_71_code q.1 = .ok q.2 := by decide +kernel
def lM_operation : List (Nat × Instr × Nat) := [(0, .aload_n 0, 1), (1, .aload_n 0, 1), (2, .iload_n 1, 1), (3, .iconst 0, 1), (4, .bipush 7, 2), (6, .invokestatic 166, 3), (9, .ifCond .eq 26, 3), (12, .iload_n 3, 1), (13, .iconst 0, 1), (14, .iconst 2, 1), (15, .invokestatic 166, 3), (18, .ifCond .eq 17, 3), (21, .iload 4, 2), (23, .iconst 1, 1), (24, .iconst 2, 1), (25, .invokestatic 166, 3), (28, .ifCond .eq 7, 3), (31, .iconst 1, 1), (32, .goto 4, 3), (35, .iconst 0, 1), (36, .iload_n 2, 1), (37, .invokevirtual 372, 3), (40, .putfield 132, 3), (43, .aload_n 0, 1), (44, .getfield 132, 3), (47, .ifCond .le 4, 3), (50, .return_, 1), (51, .aload_n 0, 1), (52, .getfield 117, 3), (55, .iload_n 1, 1), (56, .aload_n 0, 1), (57, .iload_n 2, 1), (58, .invokevirtual 368, 3), (61, .iastore, 1), (62, .aload_n 0, 1), (63, .getfield 120, 3), (66, .iload_n 1, 1), (67, .iload_n 3, 1), (68, .iastore, 1), (69, .aload_n 0, 1), (70, .getfield 123, 3), (73, .iload_n 1, 1), (74, .iload 4, 2), (76, .iastore, 1), (77, .return_, 1)]
set_option maxRecDepth 100000 in
theorem dM_operation : ∀ q ∈ lM_operation, decode prog_12_method_72_code q.1 = .ok q.2 := by decide +kernel
def lM_reply : List (Nat × Instr × Nat) := [(0, .aload_n 0, 1), (1, .getfield 63, 3), (4, .iconst 0, 1), (5, .iload_n 1, 1), (6, .iastore, 1), (7, .aload_n 0, 1), (8, .getfield 63, 3), (11, .iconst 1, 1), (12, .iload_n 2, 1), (13, .iastore, 1), (14, .aload_n 0, 1), (15, .getfield 63, 3), (18, .iconst 2, 1), (19, .iload_n 3, 1), (20, .iastore, 1), (21, .aload_n 0, 1), (22, .iload 4, 2), (24, .putfield 228, 3), (27, .iload_n 1, 1), (28, .ireturn, 1)]
set_option maxRecDepth 100000 in
theorem dM_reply : ∀ q ∈ lM_reply, decode prog_12_method_73_code q.1 = .ok q.2 := by decide +kernel
def lM_serve : List (Nat × Instr × Nat) := [(0, .aload_n 0, 1), (1, .aload_n 0, 1), (2, .getfield 136, 3), (5, .ifCond .eq 7, 3), (8, .iconst 0, 1), (9, .goto 4, 3), (12, .iconst 1, 1), (13, .putfield 132, 3), (16, .aload_n 0, 1), (17, .getfield 132, 3), (20, .ifCond .le 5, 3), (23, .iconst 0, 1), (24, .ireturn, 1), (25, .aload_n 0, 1), (26, .getfield 228, 3), (29, .iconst 1, 1), (30, .if_icmp .le 12, 3), (33, .aload_n 0, 1), (34, .getfield 63, 3), (37, .iconst 1, 1), (38, .iaload, 1), (39, .goto 4, 3), (42, .iconst 0, 1), (43, .istore_n 1, 1), (44, .aload_n 0, 1), (45, .getfield 63, 3), (48, .iconst 2, 1), (49, .iaload, 1), (50, .istore_n 2, 1), (51, .aload_n 0, 1), (52, .getfield 228, 3), (55, .iconst 3, 1), (56, .if_icmp .lt 13, 3), (59, .aload_n 0, 1), (60, .getfield 63, 3), (63, .iconst 0, 1), (64, .iaload, 1), (65, .iconst 1, 1), (66, .if_icmp .eq 7, 3), (69, .iconst 1, 1), (70, .goto 36, 3), (73, .iload_n 2, 1), (74, .bipush 7, 2), (76, .if_icmp .gt 12, 3), (79, .aload_n 0, 1), (80, .getfield 117, 3), (83, .iload_n 2, 1), (84, .iaload, 1), (85, .ifCond .ge 7, 3), (88, .iconst 2, 1), (89, .goto 17, 3), (92, .aload_n 0, 1), (93, .getfield 126, 3), (96, .iload_n 1, 1), (97, .baload, 1), (98, .ifCond .eq 7, 3), (101, .iconst 3, 1), (102, .goto 4, 3), (105, .iconst 0, 1), (106, .istore_n 3, 1), (107, .iload_n 3, 1), (108, .ifCond .le 12, 3), (111, .aload_n 0, 1), (112, .iconst 4, 1), (113, .iload_n 1, 1), (114, .iload_n 3, 1), (115, .iconst 3, 1), (116, .invokevirtual 389, 3), (119, .ireturn, 1), (120, .aload_n 0, 1), (121, .iconst 3, 1), (122, .invokevirtual 376, 3), (125, .aload_n 0, 1), (126, .aload_n 0, 1), (127, .getfield 117, 3), (130, .iload_n 2, 1), (131, .iaload, 1), (132, .aload_n 0, 1), (133, .getfield 120, 3), (136, .iload_n 2, 1), (137, .iaload, 1), (138, .invokevirtual 379, 3), (141, .ifCond .ne 19, 3), (144, .aload_n 0, 1), (145, .getfield 126, 3), (148, .iload_n 1, 1), (149, .iconst 1, 1), (150, .bastore, 1), (151, .aload_n 0, 1), (152, .iconst 3, 1), (153, .iload_n 1, 1), (154, .iconst 0, 1), (155, .iconst 2, 1), (156, .invokevirtual 389, 3), (159, .ireturn, 1), (160, .aload_n 0, 1), (161, .aload_n 0, 1), (162, .getfield 123, 3), (165, .iload_n 2, 1), (166, .iaload, 1), (167, .invokevirtual 267, 3), (170, .aload_n 0, 1), (171, .getfield 270, 3), (174, .iconst 3, 1), (175, .iadd, 1), (176, .bipush 120, 2), (178, .if_icmp .le 12, 3), (181, .aload_n 0, 1), (182, .iconst 4, 1), (183, .iload_n 1, 1), (184, .iconst 4, 1), (185, .iconst 3, 1), (186, .invokevirtual 389, 3), (189, .ireturn, 1), (190, .aload_n 0, 1), (191, .getfield 126, 3), (194, .iload_n 1, 1), (195, .iconst 1, 1), (196, .bastore, 1), (197, .aload_n 0, 1), (198, .invokevirtual 386, 3), (201, .iconst 0, 1), (202, .istore 4, 2), (204, .iload 4, 2), (206, .aload_n 0, 1), (207, .getfield 270, 3), (210, .if_icmp .ge 25, 3), (213, .aload_n 0, 1), (214, .getfield 63, 3), (217, .iconst 3, 1), (218, .iload 4, 2), (220, .iadd, 1), (221, .aload_n 0, 1), (222, .getfield 69, 3), (225, .iload 4, 2), (227, .iaload, 1), (228, .iastore, 1), (229, .iinc 4 1, 3), (232, .goto (-28), 3), (235, .aload_n 0, 1), (236, .iconst 2, 1), (237, .iload_n 1, 1), (238, .iload_n 2, 1), (239, .aload_n 0, 1), (240, .getfield 270, 3), (243, .iconst 3, 1), (244, .iadd, 1), (245, .invokevirtual 389, 3), (248, .ireturn, 1)]
set_option maxRecDepth 100000 in
theorem dM_serve : ∀ q ∈ lM_serve, decode prog_12_method_74_code q.1 = .ok q.2 := by decide +kernel
def lC_init : List (Nat × Instr × Nat) := [(0, .aload_n 0, 1), (1, .invokespecial 3, 3), (4, .aload_n 0, 1), (5, .aload_n 1, 1), (6, .putfield 9, 3), (9, .aload_n 0, 1), (10, .bipush 26, 2), (12, .anewarray 15, 3), (15, .putfield 17, 3), (18, .aload_n 0, 1), (19, .sipush 150, 3), (22, .anewarray 15, 3), (25, .putfield 21, 3), (28, .aload_n 0, 1), (29, .sipush 150, 3), (32, .anewarray 24, 3), (35, .putfield 26, 3), (38, .return_, 1)]
set_option maxRecDepth 100000 in
theorem dC_init : ∀ q ∈ lC_init, decode prog_2_method_1_code q.1 = .ok q.2 := by decide +kernel
def lC_typeNamed : List (Nat × Instr × Nat) := [(0, .iload_n 1, 1), (1, .invokestatic 30, 3), (4, .ifCond .eq 15, 3), (7, .aload_n 0, 1), (8, .getfield 17, 3), (11, .iload_n 1, 1), (12, .bipush 65, 2), (14, .isub, 1), (15, .aaload, 1), (16, .goto 4, 3), (19, .aconst_null, 1), (20, .areturn, 1)]
set_option maxRecDepth 100000 in
theorem dC_typeNamed : ∀ q ∈ lC_typeNamed, decode prog_2_method_2_code q.1 = .ok q.2 := by decide +kernel
def lC_translate : List (Nat × Instr × Nat) := [(0, .aload_n 0, 1), (1, .iload_n 1, 1), (2, .aload_n 0, 1), (3, .getfield 9, 3), (6, .arraylength, 1), (7, .invokestatic 34, 3), (10, .putfield 40, 3), (13, .aload_n 0, 1), (14, .iconst 0, 1), (15, .putfield 44, 3), (18, .aload_n 0, 1), (19, .iconst 0, 1), (20, .putfield 47, 3), (23, .aload_n 0, 1), (24, .iconst 0, 1), (25, .putfield 50, 3), (28, .aload_n 0, 1), (29, .iconst 0, 1), (30, .putfield 53, 3), (33, .iconst 0, 1), (34, .istore_n 2, 1), (35, .iload_n 2, 1), (36, .bipush 26, 2), (38, .if_icmp .ge 16, 3), (41, .aload_n 0, 1), (42, .getfield 17, 3), (45, .iload_n 2, 1), (46, .aconst_null, 1), (47, .aastore, 1), (48, .iinc 2 1, 3), (51, .goto (-16), 3), (54, .aload_n 0, 1), (55, .invokevirtual 56, 3), (58, .iconst 0, 1), (59, .istore_n 2, 1), (60, .iload_n 2, 1), (61, .sipush 150, 3), (64, .if_icmp .ge 31, 3), (67, .aload_n 0, 1), (68, .getfield 47, 3), (71, .ifCond .ne 24, 3), (74, .aload_n 0, 1), (75, .getfield 44, 3), (78, .aload_n 0, 1), (79, .getfield 40, 3), (82, .if_icmp .ge 13, 3), (85, .aload_n 0, 1), (86, .invokevirtual 56, 3), (89, .iinc 2 1, 3), (92, .goto (-32), 3), (95, .aload_n 0, 1), (96, .getfield 47, 3), (99, .ireturn, 1)]
set_option maxRecDepth 100000 in
theorem dC_translate : ∀ q ∈ lC_translate, decode prog_2_method_3_code q.1 = .ok q.2 := by decide +kernel
def lC_readDefinition : List (Nat × Instr × Nat) := [(0, .aload_n 0, 1), (1, .invokevirtual 59, 3), (4, .istore_n 1, 1), (5, .iload_n 1, 1), (6, .invokestatic 30, 3), (9, .ifCond .ne 13, 3), (12, .aload_n 0, 1), (13, .iconst 1, 1), (14, .aload_n 0, 1), (15, .getfield 44, 3), (18, .invokevirtual 63, 3), (21, .return_, 1), (22, .aload_n 0, 1), (23, .getfield 17, 3), (26, .iload_n 1, 1), (27, .bipush 65, 2), (29, .isub, 1), (30, .aaload, 1), (31, .ifnull 13, 3), (34, .aload_n 0, 1), (35, .iconst 2, 1), (36, .aload_n 0, 1), (37, .getfield 44, 3), (40, .invokevirtual 63, 3), (43, .return_, 1), (44, .aload_n 0, 1), (45, .dup, 1), (46, .getfield 44, 3), (49, .iconst 1, 1), (50, .iadd, 1), (51, .putfield 44, 3), (54, .aload_n 0, 1), (55, .bipush 61, 2), (57, .invokevirtual 67, 3), (60, .ifCond .ne 4, 3), (63, .return_, 1), (64, .aload_n 0, 1), (65, .iconst 0, 1), (66, .invokevirtual 71, 3), (69, .astore_n 2, 1), (70, .aload_n 2, 1), (71, .ifnull 22, 3), (74, .aload_n 0, 1), (75, .bipush 59, 2), (77, .invokevirtual 67, 3), (80, .ifCond .eq 13, 3), (83, .aload_n 0, 1), (84, .getfield 17, 3), (87, .iload_n 1, 1), (88, .bipush 65, 2), (90, .isub, 1), (91, .aload_n 2, 1), (92, .aastore, 1), (93, .return_, 1)]
set_option maxRecDepth 100000 in
theorem dC_readDefinition : ∀ q ∈ lC_readDefinition, decode prog_2_method_4_code q.1 = .ok q.2 := by decide +kernel
def lC_readType : List (Nat × Instr × Nat) := [(0, .aconst_null, 1), (1, .astore_n 2, 1), (2, .aconst_null, 1), (3, .astore_n 3, 1), (4, .iconst 0, 1), (5, .istore 4, 2), (7, .iload 4, 2), (9, .sipush 150, 3), (12, .if_icmp .ge 50, 3), (15, .aload_n 0, 1), (16, .invokevirtual 59, 3), (19, .bipush 91, 2), (21, .if_icmp .ne 41, 3), (24, .aload_n 0, 1), (25, .invokevirtual 75, 3), (28, .astore 5, 2), (30, .aload 5, 2), (32, .ifnonnull 5, 3), (35, .aconst_null, 1), (36, .areturn, 1), (37, .aload_n 3, 1), (38, .ifnonnull 9, 3), (41, .aload 5, 2), (43, .astore_n 2, 1), (44, .goto 9, 3), (47, .aload_n 3, 1), (48, .aload 5, 2), (50, .putfield 79, 3), (53, .aload 5, 2), (55, .astore_n 3, 1), (56, .iinc 4 1, 3), (59, .goto (-52), 3), (62, .aload_n 0, 1), (63, .iload_n 1, 1), (64, .iload 4, 2), (66, .iadd, 1), (67, .invokevirtual 83, 3), (70, .astore 5, 2), (72, .aload 5, 2), (74, .ifnull 7, 3), (77, .aload_n 3, 1), (78, .ifnonnull 6, 3), (81, .aload 5, 2), (83, .areturn, 1), (84, .aload_n 3, 1), (85, .aload 5, 2), (87, .putfield 79, 3), (90, .aload 5, 2), (92, .getfield 86, 3), (95, .bipush 9, 2), (97, .if_icmp .ne 8, 3), (100, .aload_n 3, 1), (101, .iconst 1, 1), (102, .putfield 89, 3), (105, .aload_n 2, 1), (106, .aload 5, 2), (108, .iload 4, 2), (110, .invokestatic 93, 3), (113, .aload_n 2, 1), (114, .areturn, 1)]
set_option maxRecDepth 100000 in
theorem dC_readType : ∀ q ∈ lC_readType, decode prog_2_method_5_code q.1 = .ok q.2 := by decide +kernel
def lC_setHeights : List (Nat × Instr × Nat) := [(0, .iload_n 2, 1), (1, .istore_n 3, 1), (2, .aload_n 0, 1), (3, .astore 4, 2), (5, .aload 4, 2), (7, .ifnull 33, 3), (10, .aload 4, 2), (12, .aload_n 1, 1), (13, .if_acmp .eq 27, 3), (16, .aload 4, 2), (18, .aload_n 1, 1), (19, .getfield 97, 3), (22, .iload_n 3, 1), (23, .iadd, 1), (24, .putfield 97, 3), (27, .iinc 3 (-1), 3), (30, .aload 4, 2), (32, .getfield 79, 3), (35, .astore 4, 2), (37, .goto (-32), 3), (40, .return_, 1)]
set_option maxRecDepth 100000 in
theorem dC_setHeights : ∀ q ∈ lC_setHeights, decode prog_2_method_6_code q.1 = .ok q.2 := by decide +kernel
def lC_readTag : List (Nat × Instr × Nat) := [(0, .aload_n 0, 1), (1, .dup, 1), (2, .getfield 44, 3), (5, .iconst 1, 1), (6, .iadd, 1), (7, .putfield 44, 3), (10, .aload_n 0, 1), (11, .invokevirtual 59, 3), (14, .istore_n 1, 1), (15, .iload_n 1, 1), (16, .invokestatic 100, 3), (19, .ifCond .ne 14, 3), (22, .aload_n 0, 1), (23, .iconst 1, 1), (24, .aload_n 0, 1), (25, .getfield 44, 3), (28, .invokevirtual 63, 3), (31, .aconst_null, 1), (32, .areturn, 1), (33, .aload_n 0, 1), (34, .dup, 1), (35, .getfield 44, 3), (38, .iconst 1, 1), (39, .iadd, 1), (40, .putfield 44, 3), (43, .aload_n 0, 1), (44, .invokevirtual 59, 3), (47, .bipush 33, 2), (49, .if_icmp .ne 7, 3), (52, .iconst 1, 1), (53, .goto 4, 3), (56, .iconst 0, 1), (57, .istore_n 2, 1), (58, .iload_n 2, 1), (59, .ifCond .eq 13, 3), (62, .aload_n 0, 1), (63, .dup, 1), (64, .getfield 44, 3), (67, .iconst 1, 1), (68, .iadd, 1), (69, .putfield 44, 3), (72, .aload_n 0, 1), (73, .bipush 93, 2), (75, .invokevirtual 67, 3), (78, .ifCond .ne 5, 3), (81, .aconst_null, 1), (82, .areturn, 1), (83, .aload_n 0, 1), (84, .bipush 10, 2), (86, .invokevirtual 103, 3), (89, .astore_n 3, 1), (90, .aload_n 3, 1), (91, .ifnull 20, 3), (94, .aload_n 3, 1), (95, .iload_n 1, 1), (96, .bipush 48, 2), (98, .isub, 1), (99, .iload_n 2, 1), (100, .ifCond .ne 7, 3), (103, .iconst 1, 1), (104, .goto 4, 3), (107, .iconst 0, 1), (108, .invokevirtual 106, 3), (111, .aload_n 3, 1), (112, .areturn, 1)]
set_option maxRecDepth 100000 in
theorem dC_readTag : ∀ q ∈ lC_readTag, decode prog_2_method_7_code q.1 = .ok q.2 := by decide +kernel
def lC_readUntagged : List (Nat × Instr × Nat) := [(0, .aload_n 0, 1), (1, .invokevirtual 59, 3), (4, .istore_n 2, 1), (5, .iload_n 2, 1), (6, .invokestatic 30, 3), (9, .ifCond .eq 10, 3), (12, .aload_n 0, 1), (13, .iload_n 2, 1), (14, .iload_n 1, 1), (15, .invokevirtual 110, 3), (18, .areturn, 1), (19, .iload_n 2, 1), (20, .invokestatic 114, 3), (23, .istore_n 3, 1), (24, .iload_n 3, 1), (25, .iconst (-1), 1), (26, .if_icmp .ne 14, 3), (29, .aload_n 0, 1), (30, .iconst 1, 1), (31, .aload_n 0, 1), (32, .getfield 44, 3), (35, .invokevirtual 63, 3), (38, .aconst_null, 1), (39, .areturn, 1), (40, .iload_n 1, 1), (41, .bipush 6, 2), (43, .if_icmp .lt 14, 3), (46, .aload_n 0, 1), (47, .iconst 5, 1), (48, .aload_n 0, 1), (49, .getfield 44, 3), (52, .invokevirtual 63, 3), (55, .aconst_null, 1), (56, .areturn, 1), (57, .aload_n 0, 1), (58, .dup, 1), (59, .getfield 44, 3), (62, .iconst 1, 1), (63, .iadd, 1), (64, .putfield 44, 3), (67, .aload_n 0, 1), (68, .iload_n 3, 1), (69, .invokevirtual 103, 3), (72, .astore 4, 2), (74, .aload 4, 2), (76, .ifnonnull 5, 3), (79, .aconst_null, 1), (80, .areturn, 1), (81, .iconst 1, 1), (82, .istore 5, 2), (84, .iload_n 3, 1), (85, .bipush 6, 2), (87, .if_icmp .eq 9, 3), (90, .iload_n 3, 1), (91, .bipush 9, 2), (93, .if_icmp .ne 15, 3), (96, .aload_n 0, 1), (97, .aload 4, 2), (99, .iload_n 1, 1), (100, .invokevirtual 118, 3), (103, .istore 5, 2), (105, .goto 56, 3), (108, .iload_n 3, 1), (109, .bipush 7, 2), (111, .if_icmp .ne 32, 3), (114, .aload_n 0, 1), (115, .aload 4, 2), (117, .invokevirtual 122, 3), (120, .ifCond .eq 17, 3), (123, .aload_n 0, 1), (124, .aload 4, 2), (126, .iload_n 1, 1), (127, .invokevirtual 126, 3), (130, .ifCond .eq 7, 3), (133, .iconst 1, 1), (134, .goto 4, 3), (137, .iconst 0, 1), (138, .istore 5, 2), (140, .goto 21, 3), (143, .iload_n 3, 1), (144, .iconst 2, 1), (145, .if_icmp .eq 8, 3), (148, .iload_n 3, 1), (149, .iconst 4, 1), (150, .if_icmp .ne 11, 3), (153, .aload_n 0, 1), (154, .aload 4, 2), (156, .invokevirtual 122, 3), (159, .istore 5, 2), (161, .iload 5, 2), (163, .ifCond .eq 8, 3), (166, .aload 4, 2), (168, .goto 4, 3), (171, .aconst_null, 1), (172, .areturn, 1)]
set_option maxRecDepth 100000 in
theorem dC_readUntagged : ∀ q ∈ lC_readUntagged, decode prog_2_method_8_code q.1 = .ok q.2 := by decide +kernel
def lC_kindOf : List (Nat × Instr × Nat) := [(0, .iload_n 0, 1), (1, .tableswitch 96 98 113 #[79, 93, 96, 96, 96, 96, 96, 81, 96, 96, 90, 96, 85, 83, 96, 87], 79), (80, .iconst 1, 1), (81, .ireturn, 1), (82, .iconst 2, 1), (83, .ireturn, 1), (84, .iconst 4, 1), (85, .ireturn, 1), (86, .iconst 5, 1), (87, .ireturn, 1), (88, .bipush 6, 2), (90, .ireturn, 1), (91, .bipush 7, 2), (93, .ireturn, 1), (94, .bipush 9, 2), (96, .ireturn, 1), (97, .iconst (-1), 1), (98, .ireturn, 1)]
set_option maxRecDepth 100000 in
theorem dC_kindOf : ∀ q ∈ lC_kindOf, decode prog_2_method_9_code q.1 = .ok q.2 := by decide +kernel
def lC_readReference : List (Nat × Instr × Nat) := [(0, .aload_n 0, 1), (1, .getfield 17, 3), (4, .iload_n 1, 1), (5, .bipush 65, 2), (7, .isub, 1), (8, .aaload, 1), (9, .astore_n 3, 1), (10, .aload_n 3, 1), (11, .ifnonnull 14, 3), (14, .aload_n 0, 1), (15, .iconst 3, 1), (16, .aload_n 0, 1), (17, .getfield 44, 3), (20, .invokevirtual 63, 3), (23, .aconst_null, 1), (24, .areturn, 1), (25, .iload_n 2, 1), (26, .aload_n 3, 1), (27, .getfield 97, 3), (30, .iadd, 1), (31, .bipush 6, 2), (33, .if_icmp .lt 14, 3), (36, .aload_n 0, 1), (37, .iconst 5, 1), (38, .aload_n 0, 1), (39, .getfield 44, 3), (42, .invokevirtual 63, 3), (45, .aconst_null, 1), (46, .areturn, 1), (47, .aload_n 0, 1), (48, .dup, 1), (49, .getfield 44, 3), (52, .iconst 1, 1), (53, .iadd, 1), (54, .putfield 44, 3), (57, .aload_n 3, 1), (58, .areturn, 1)]
set_option maxRecDepth 100000 in
theorem dC_readReference : ∀ q ∈ lC_readReference, decode prog_2_method_10_code q.1 = .ok q.2 := by decide +kernel
def lC_readItems : List (Nat × Instr × Nat) := [(0, .aload_n 0, 1), (1, .iload_n 2, 1), (2, .iconst 1, 1), (3, .iadd, 1), (4, .invokevirtual 71, 3), (7, .astore_n 3, 1), (8, .aload_n 3, 1), (9, .ifnonnull 5, 3), (12, .iconst 0, 1), (13, .ireturn, 1), (14, .aload_n 1, 1), (15, .aload_n 3, 1), (16, .putfield 79, 3), (19, .aload_n 1, 1), (20, .aload_n 3, 1), (21, .getfield 97, 3), (24, .iconst 1, 1), (25, .iadd, 1), (26, .putfield 97, 3), (29, .iconst 1, 1), (30, .ireturn, 1)]
set_option maxRecDepth 100000 in
theorem dC_readItems : ∀ q ∈ lC_readItems, decode prog_2_method_11_code q.1 = .ok q.2 := by decide +kernel
def lC_readBounds : List (Nat × Instr × Nat) := [(0, .aload_n 0, 1), (1, .invokevirtual 59, 3), (4, .bipush 40, 2), (6, .if_icmp .eq 5, 3), (9, .iconst 1, 1), (10, .ireturn, 1), (11, .aload_n 0, 1), (12, .dup, 1), (13, .getfield 44, 3), (16, .iconst 1, 1), (17, .iadd, 1), (18, .putfield 44, 3), (21, .aload_n 0, 1), (22, .invokevirtual 129, 3), (25, .ifCond .ne 5, 3), (28, .iconst 0, 1), (29, .ireturn, 1), (30, .aload_n 1, 1), (31, .aload_n 0, 1), (32, .getfield 133, 3), (35, .putfield 136, 3), (38, .aload_n 0, 1), (39, .bipush 44, 2), (41, .invokevirtual 67, 3), (44, .ifCond .eq 10, 3), (47, .aload_n 0, 1), (48, .invokevirtual 129, 3), (51, .ifCond .ne 5, 3), (54, .iconst 0, 1), (55, .ireturn, 1), (56, .aload_n 1, 1), (57, .aload_n 0, 1), (58, .getfield 133, 3), (61, .putfield 139, 3), (64, .aload_n 0, 1), (65, .invokevirtual 59, 3), (68, .bipush 41, 2), (70, .if_icmp .ne 21, 3), (73, .aload_n 1, 1), (74, .invokestatic 142, 3), (77, .ifCond .ne 14, 3), (80, .aload_n 0, 1), (81, .iconst 4, 1), (82, .aload_n 0, 1), (83, .getfield 44, 3), (86, .invokevirtual 63, 3), (89, .iconst 0, 1), (90, .ireturn, 1), (91, .aload_n 1, 1), (92, .iconst 1, 1), (93, .putfield 145, 3), (96, .aload_n 0, 1), (97, .bipush 41, 2), (99, .invokevirtual 67, 3), (102, .ireturn, 1)]
set_option maxRecDepth 100000 in
theorem dC_readBounds : ∀ q ∈ lC_readBounds, decode prog_2_method_12_code q.1 = .ok q.2 := by decide +kernel
def lC_areBounds : List (Nat × Instr × Nat) := [(0, .aload_n 0, 1), (1, .getfield 136, 3), (4, .aload_n 0, 1), (5, .getfield 139, 3), (8, .if_icmp .le 5, 3), (11, .iconst 0, 1), (12, .ireturn, 1), (13, .aload_n 0, 1), (14, .getfield 86, 3), (17, .iconst 2, 1), (18, .if_icmp .ne 23, 3), (21, .aload_n 0, 1), (22, .getfield 139, 3), (25, .aload_n 0, 1), (26, .getfield 136, 3), (29, .isub, 1), (30, .ldc 148, 2), (32, .if_icmp .ge 7, 3), (35, .iconst 1, 1), (36, .goto 4, 3), (39, .iconst 0, 1), (40, .ireturn, 1), (41, .aload_n 0, 1), (42, .getfield 136, 3), (45, .ifCond .lt 16, 3), (48, .aload_n 0, 1), (49, .getfield 139, 3), (52, .bipush 20, 2), (54, .if_icmp .gt 7, 3), (57, .iconst 1, 1), (58, .goto 4, 3), (61, .iconst 0, 1), (62, .ireturn, 1)]
set_option maxRecDepth 100000 in
theorem dC_areBounds : ∀ q ∈ lC_areBounds, decode prog_2_method_13_code q.1 = .ok q.2 := by decide +kernel
def lC_readNumber : List (Nat × Instr × Nat) := [(0, .aload_n 0, 1), (1, .invokevirtual 59, 3), (4, .bipush 45, 2), (6, .if_icmp .ne 7, 3), (9, .iconst 1, 1), (10, .goto 4, 3), (13, .iconst 0, 1), (14, .istore_n 1, 1), (15, .iload_n 1, 1), (16, .ifCond .eq 13, 3), (19, .aload_n 0, 1), (20, .dup, 1), (21, .getfield 44, 3), (24, .iconst 1, 1), (25, .iadd, 1), (26, .putfield 44, 3), (29, .iconst 0, 1), (30, .istore_n 2, 1), (31, .iconst 0, 1), (32, .istore_n 3, 1), (33, .iload_n 2, 1), (34, .iconst 5, 1), (35, .if_icmp .ge 42, 3), (38, .aload_n 0, 1), (39, .invokevirtual 59, 3), (42, .invokestatic 100, 3), (45, .ifCond .eq 32, 3), (48, .bipush 10, 2), (50, .iload_n 3, 1), (51, .imul, 1), (52, .aload_n 0, 1), (53, .invokevirtual 59, 3), (56, .iadd, 1), (57, .bipush 48, 2), (59, .isub, 1), (60, .istore_n 3, 1), (61, .aload_n 0, 1), (62, .dup, 1), (63, .getfield 44, 3), (66, .iconst 1, 1), (67, .iadd, 1), (68, .putfield 44, 3), (71, .iinc 2 1, 3), (74, .goto (-41), 3), (77, .iload_n 2, 1), (78, .ifCond .eq 13, 3), (81, .aload_n 0, 1), (82, .invokevirtual 59, 3), (85, .invokestatic 100, 3), (88, .ifCond .eq 14, 3), (91, .aload_n 0, 1), (92, .iconst 1, 1), (93, .aload_n 0, 1), (94, .getfield 44, 3), (97, .invokevirtual 63, 3), (100, .iconst 0, 1), (101, .ireturn, 1), (102, .aload_n 0, 1), (103, .iload_n 1, 1), (104, .ifCond .eq 8, 3), (107, .iload_n 3, 1), (108, .ineg, 1), (109, .goto 4, 3), (112, .iload_n 3, 1), (113, .putfield 133, 3), (116, .iconst 1, 1), (117, .ireturn, 1)]
set_option maxRecDepth 100000 in
theorem dC_readNumber : ∀ q ∈ lC_readNumber, decode prog_2_method_14_code q.1 = .ok q.2 := by decide +kernel
def lC_readMembers : List (Nat × Instr × Nat) := [(0, .aload_n 0, 1), (1, .bipush 123, 2), (3, .invokevirtual 67, 3), (6, .ifCond .ne 5, 3), (9, .iconst 0, 1), (10, .ireturn, 1), (11, .aload_n 1, 1), (12, .getfield 86, 3), (15, .bipush 6, 2), (17, .if_icmp .ne 24, 3), (20, .aload_n 0, 1), (21, .invokevirtual 59, 3), (24, .bipush 125, 2), (26, .if_icmp .ne 15, 3), (29, .aload_n 0, 1), (30, .dup, 1), (31, .getfield 44, 3), (34, .iconst 1, 1), (35, .iadd, 1), (36, .putfield 44, 3), (39, .iconst 1, 1), (40, .ireturn, 1), (41, .iconst 1, 1), (42, .istore_n 3, 1), (43, .iload_n 3, 1), (44, .bipush 6, 2), (46, .if_icmp .gt 75, 3), (49, .aload_n 0, 1), (50, .aload_n 1, 1), (51, .iload_n 2, 1), (52, .iconst 1, 1), (53, .iadd, 1), (54, .invokevirtual 149, 3), (57, .ifCond .ne 5, 3), (60, .iconst 0, 1), (61, .ireturn, 1), (62, .aload_n 0, 1), (63, .invokevirtual 59, 3), (66, .bipush 125, 2), (68, .if_icmp .ne 9, 3), (71, .aload_n 0, 1), (72, .aload_n 1, 1), (73, .invokevirtual 152, 3), (76, .ireturn, 1), (77, .aload_n 0, 1), (78, .invokevirtual 59, 3), (81, .bipush 44, 2), (83, .if_icmp .ne 21, 3), (86, .iload_n 3, 1), (87, .bipush 6, 2), (89, .if_icmp .ne 15, 3), (92, .aload_n 0, 1), (93, .bipush 7, 2), (95, .aload_n 0, 1), (96, .getfield 44, 3), (99, .invokevirtual 63, 3), (102, .iconst 0, 1), (103, .ireturn, 1), (104, .aload_n 0, 1), (105, .bipush 44, 2), (107, .invokevirtual 67, 3), (110, .ifCond .ne 5, 3), (113, .iconst 0, 1), (114, .ireturn, 1), (115, .iinc 3 1, 3), (118, .goto (-75), 3), (121, .iconst 0, 1), (122, .ireturn, 1)]
set_option maxRecDepth 100000 in
theorem dC_readMembers : ∀ q ∈ lC_readMembers, decode prog_2_method_15_code q.1 = .ok q.2 := by decide +kernel
def lC_readMember : List (Nat × Instr × Nat) := [(0, .aload_n 0, 1), (1, .iload_n 2, 1), (2, .invokevirtual 71, 3), (5, .astore_n 3, 1), (6, .aload_n 3, 1), (7, .ifnonnull 5, 3), (10, .iconst 0, 1), (11, .ireturn, 1), (12, .aload_n 0, 1), (13, .aload_n 3, 1), (14, .invokevirtual 155, 3), (17, .astore 4, 2), (19, .aload 4, 2), (21, .ifnonnull 5, 3), (24, .iconst 0, 1), (25, .ireturn, 1), (26, .aload_n 1, 1), (27, .aload 4, 2), (29, .invokevirtual 159, 3), (32, .aload_n 1, 1), (33, .aload_n 1, 1), (34, .getfield 97, 3), (37, .aload_n 3, 1), (38, .getfield 97, 3), (41, .iconst 1, 1), (42, .iadd, 1), (43, .invokestatic 163, 3), (46, .putfield 97, 3), (49, .aload_n 1, 1), (50, .getfield 86, 3), (53, .bipush 9, 2), (55, .if_icmp .eq 16, 3), (58, .aload_n 0, 1), (59, .aload 4, 2), (61, .aload_n 3, 1), (62, .invokevirtual 166, 3), (65, .invokevirtual 169, 3), (68, .ifCond .eq 7, 3), (71, .iconst 1, 1), (72, .goto 4, 3), (75, .iconst 0, 1), (76, .ireturn, 1)]
set_option maxRecDepth 100000 in
theorem dC_readMember : ∀ q ∈ lC_readMember, decode prog_2_method_16_code q.1 = .ok q.2 := by decide +kernel
def lC_readMode : List (Nat × Instr × Nat) := [(0, .aload_n 0, 1), (1, .invokevirtual 59, 3), (4, .bipush 63, 2), (6, .if_icmp .ne 20, 3), (9, .aload_n 0, 1), (10, .dup, 1), (11, .getfield 44, 3), (14, .iconst 1, 1), (15, .iadd, 1), (16, .putfield 44, 3), (19, .aload_n 1, 1), (20, .iconst 1, 1), (21, .putfield 173, 3), (24, .iconst 1, 1), (25, .ireturn, 1), (26, .aload_n 0, 1), (27, .invokevirtual 59, 3), (30, .bipush 61, 2), (32, .if_icmp .eq 5, 3), (35, .iconst 1, 1), (36, .ireturn, 1), (37, .aload_n 0, 1), (38, .dup, 1), (39, .getfield 44, 3), (42, .iconst 1, 1), (43, .iadd, 1), (44, .putfield 44, 3), (47, .aload_n 0, 1), (48, .invokevirtual 129, 3), (51, .ifCond .ne 5, 3), (54, .iconst 0, 1), (55, .ireturn, 1), (56, .aload_n 2, 1), (57, .aload_n 0, 1), (58, .getfield 133, 3), (61, .invokestatic 176, 3), (64, .ifCond .ne 16, 3), (67, .aload_n 0, 1), (68, .iconst 4, 1), (69, .aload_n 0, 1), (70, .getfield 44, 3), (73, .iconst 1, 1), (74, .isub, 1), (75, .invokevirtual 63, 3), (78, .iconst 0, 1), (79, .ireturn, 1), (80, .aload_n 1, 1), (81, .iconst 2, 1), (82, .putfield 173, 3), (85, .aload_n 1, 1), (86, .aload_n 0, 1), (87, .getfield 133, 3), (90, .putfield 179, 3), (93, .iconst 1, 1), (94, .ireturn, 1)]
set_option maxRecDepth 100000 in
theorem dC_readMode : ∀ q ∈ lC_readMode, decode prog_2_method_17_code q.1 = .ok q.2 := by decide +kernel
def lC_isDefault : List (Nat × Instr × Nat) := [(0, .aload_n 0, 1), (1, .getfield 86, 3), (4, .iconst 1, 1), (5, .if_icmp .ne 18, 3), (8, .iload_n 1, 1), (9, .ifCond .eq 8, 3), (12, .iload_n 1, 1), (13, .iconst 1, 1), (14, .if_icmp .ne 7, 3), (17, .iconst 1, 1), (18, .goto 4, 3), (21, .iconst 0, 1), (22, .ireturn, 1), (23, .aload_n 0, 1), (24, .getfield 86, 3), (27, .iconst 2, 1), (28, .if_icmp .ne 15, 3), (31, .aload_n 0, 1), (32, .iload_n 1, 1), (33, .invokevirtual 180, 3), (36, .ifCond .eq 7, 3), (39, .iconst 1, 1), (40, .goto 4, 3), (43, .iconst 0, 1), (44, .ireturn, 1)]
set_option maxRecDepth 100000 in
theorem dC_isDefault : ∀ q ∈ lC_isDefault, decode prog_2_method_18_code q.1 = .ok q.2 := by decide +kernel
def lC_closeMembers : List (Nat × Instr × Nat) := [(0, .aload_n 1, 1), (1, .getfield 86, 3), (4, .bipush 9, 2), (6, .if_icmp .ne 7, 3), (9, .iconst 1, 1), (10, .goto 4, 3), (13, .iconst 0, 1), (14, .istore_n 2, 1), (15, .iload_n 2, 1), (16, .ifCond .eq 13, 3), (19, .aload_n 1, 1), (20, .invokestatic 183, 3), (23, .ifCond .eq 25, 3), (26, .goto 10, 3), (29, .aload_n 1, 1), (30, .invokestatic 186, 3), (33, .ifCond .eq 15, 3), (36, .aload_n 0, 1), (37, .bipush 6, 2), (39, .aload_n 0, 1), (40, .getfield 44, 3), (43, .invokevirtual 63, 3), (46, .iconst 0, 1), (47, .ireturn, 1), (48, .iload_n 2, 1), (49, .ifCond .eq 7, 3), (52, .aload_n 1, 1), (53, .invokestatic 189, 3), (56, .aload_n 0, 1), (57, .dup, 1), (58, .getfield 44, 3), (61, .iconst 1, 1), (62, .iadd, 1), (63, .putfield 44, 3), (66, .iconst 1, 1), (67, .ireturn, 1)]
set_option maxRecDepth 100000 in
theorem dC_closeMembers : ∀ q ∈ lC_closeMembers, decode prog_2_method_19_code q.1 = .ok q.2 := by decide +kernel
def lC_alternativesClash : List (Nat × Instr × Nat) := [(0, .iconst 0, 1), (1, .istore_n 1, 1), (2, .aload_n 0, 1), (3, .getfield 193, 3), (6, .astore_n 2, 1), (7, .aload_n 2, 1), (8, .ifnull 29, 3), (11, .iload_n 1, 1), (12, .aload_n 2, 1), (13, .invokevirtual 197, 3), (16, .iand, 1), (17, .ifCond .eq 5, 3), (20, .iconst 1, 1), (21, .ireturn, 1), (22, .iload_n 1, 1), (23, .aload_n 2, 1), (24, .invokevirtual 197, 3), (27, .ior, 1), (28, .istore_n 1, 1), (29, .aload_n 2, 1), (30, .getfield 200, 3), (33, .astore_n 2, 1), (34, .goto (-27), 3), (37, .iconst 0, 1), (38, .ireturn, 1)]
set_option maxRecDepth 100000 in
theorem dC_alternativesClash : ∀ q ∈ lC_alternativesClash, decode prog_2_method_20_code q.1 = .ok q.2 := by decide +kernel
def lC_componentsClash : List (Nat × Instr × Nat) := [(0, .iconst 0, 1), (1, .istore_n 1, 1), (2, .aload_n 0, 1), (3, .getfield 193, 3), (6, .astore_n 2, 1), (7, .aload_n 2, 1), (8, .ifnull 40, 3), (11, .iload_n 1, 1), (12, .aload_n 2, 1), (13, .invokevirtual 197, 3), (16, .iand, 1), (17, .ifCond .eq 5, 3), (20, .iconst 1, 1), (21, .ireturn, 1), (22, .aload_n 2, 1), (23, .getfield 173, 3), (26, .ifCond .ne 7, 3), (29, .iconst 0, 1), (30, .goto 9, 3), (33, .iload_n 1, 1), (34, .aload_n 2, 1), (35, .invokevirtual 197, 3), (38, .ior, 1), (39, .istore_n 1, 1), (40, .aload_n 2, 1), (41, .getfield 200, 3), (44, .astore_n 2, 1), (45, .goto (-38), 3), (48, .iconst 0, 1), (49, .ireturn, 1)]
set_option maxRecDepth 100000 in
theorem dC_componentsClash : ∀ q ∈ lC_componentsClash, decode prog_2_method_21_code q.1 = .ok q.2 := by decide +kernel
def lC_gatherAlternatives : List (Nat × Instr × Nat) := [(0, .aload_n 0, 1), (1, .getfield 193, 3), (4, .astore_n 1, 1), (5, .aload_n 1, 1), (6, .ifnull 62, 3), (9, .aload_n 0, 1), (10, .dup, 1), (11, .getfield 203, 3), (14, .aload_n 1, 1), (15, .invokevirtual 197, 3), (18, .ior, 1), (19, .putfield 203, 3), (22, .aload_n 0, 1), (23, .getfield 193, 3), (26, .astore_n 2, 1), (27, .aload_n 2, 1), (28, .ifnull 32, 3), (31, .aload_n 2, 1), (32, .invokevirtual 205, 3), (35, .aload_n 1, 1), (36, .invokevirtual 205, 3), (39, .if_icmp .ge 13, 3), (42, .aload_n 1, 1), (43, .dup, 1), (44, .getfield 208, 3), (47, .iconst 1, 1), (48, .iadd, 1), (49, .putfield 208, 3), (52, .aload_n 2, 1), (53, .getfield 200, 3), (56, .astore_n 2, 1), (57, .goto (-30), 3), (60, .aload_n 1, 1), (61, .getfield 200, 3), (64, .astore_n 1, 1), (65, .goto (-60), 3), (68, .return_, 1)]
set_option maxRecDepth 100000 in
theorem dC_gatherAlternatives : ∀ q ∈ lC_gatherAlternatives, decode prog_2_method_22_code q.1 = .ok q.2 := by decide +kernel
def lC_newType : List (Nat × Instr × Nat) := [(0, .aload_n 0, 1), (1, .getfield 50, 3), (4, .aload_n 0, 1), (5, .getfield 21, 3), (8, .arraylength, 1), (9, .if_icmp .lt 14, 3), (12, .aload_n 0, 1), (13, .iconst 1, 1), (14, .aload_n 0, 1), (15, .getfield 44, 3), (18, .invokevirtual 63, 3), (21, .aconst_null, 1), (22, .areturn, 1), (23, .aload_n 0, 1), (24, .getfield 21, 3), (27, .aload_n 0, 1), (28, .getfield 50, 3), (31, .aaload, 1), (32, .astore_n 2, 1), (33, .aload_n 2, 1), (34, .ifnonnull 21, 3), (37, .new 15, 3), (40, .dup, 1), (41, .invokespecial 211, 3), (44, .astore_n 2, 1), (45, .aload_n 0, 1), (46, .getfield 21, 3), (49, .aload_n 0, 1), (50, .getfield 50, 3), (53, .aload_n 2, 1), (54, .aastore, 1), (55, .aload_n 2, 1), (56, .iload_n 1, 1), (57, .invokevirtual 212, 3), (60, .aload_n 0, 1), (61, .dup, 1), (62, .getfield 50, 3), (65, .iconst 1, 1), (66, .iadd, 1), (67, .putfield 50, 3), (70, .aload_n 2, 1), (71, .areturn, 1)]
set_option maxRecDepth 100000 in
theorem dC_newType : ∀ q ∈ lC_newType, decode prog_2_method_23_code q.1 = .ok q.2 := by decide +kernel
def lC_newMember : List (Nat × Instr × Nat) := [(0, .aload_n 0, 1), (1, .getfield 53, 3), (4, .aload_n 0, 1), (5, .getfield 26, 3), (8, .arraylength, 1), (9, .if_icmp .lt 14, 3), (12, .aload_n 0, 1), (13, .iconst 1, 1), (14, .aload_n 0, 1), (15, .getfield 44, 3), (18, .invokevirtual 63, 3), (21, .aconst_null, 1), (22, .areturn, 1), (23, .aload_n 0, 1), (24, .getfield 26, 3), (27, .aload_n 0, 1), (28, .getfield 53, 3), (31, .aaload, 1), (32, .astore_n 2, 1), (33, .aload_n 2, 1), (34, .ifnonnull 21, 3), (37, .new 24, 3), (40, .dup, 1), (41, .invokespecial 216, 3), (44, .astore_n 2, 1), (45, .aload_n 0, 1), (46, .getfield 26, 3), (49, .aload_n 0, 1), (50, .getfield 53, 3), (53, .aload_n 2, 1), (54, .aastore, 1), (55, .aload_n 2, 1), (56, .aload_n 1, 1), (57, .invokevirtual 217, 3), (60, .aload_n 0, 1), (61, .dup, 1), (62, .getfield 53, 3), (65, .iconst 1, 1), (66, .iadd, 1), (67, .putfield 53, 3), (70, .aload_n 2, 1), (71, .areturn, 1)]
set_option maxRecDepth 100000 in
theorem dC_newMember : ∀ q ∈ lC_newMember, decode prog_2_method_24_code q.1 = .ok q.2 := by decide +kernel
def lC_nextCharacter : List (Nat × Instr × Nat) := [(0, .aload_n 0, 1), (1, .getfield 44, 3), (4, .aload_n 0, 1), (5, .getfield 40, 3), (8, .if_icmp .ge 15, 3), (11, .aload_n 0, 1), (12, .getfield 9, 3), (15, .aload_n 0, 1), (16, .getfield 44, 3), (19, .caload, 1), (20, .goto 4, 3), (23, .iconst (-1), 1), (24, .ireturn, 1)]
set_option maxRecDepth 100000 in
theorem dC_nextCharacter : ∀ q ∈ lC_nextCharacter, decode prog_2_method_25_code q.1 = .ok q.2 := by decide +kernel
def lC_pass : List (Nat × Instr × Nat) := [(0, .aload_n 0, 1), (1, .invokevirtual 59, 3), (4, .iload_n 1, 1), (5, .if_icmp .eq 14, 3), (8, .aload_n 0, 1), (9, .iconst 1, 1), (10, .aload_n 0, 1), (11, .getfield 44, 3), (14, .invokevirtual 63, 3), (17, .iconst 0, 1), (18, .ireturn, 1), (19, .aload_n 0, 1), (20, .dup, 1), (21, .getfield 44, 3), (24, .iconst 1, 1), (25, .iadd, 1), (26, .putfield 44, 3), (29, .iconst 1, 1), (30, .ireturn, 1)]
set_option maxRecDepth 100000 in
theorem dC_pass : ∀ q ∈ lC_pass, decode prog_2_method_26_code q.1 = .ok q.2 := by decide +kernel
def lC_refuse : List (Nat × Instr × Nat) := [(0, .aload_n 0, 1), (1, .iload_n 1, 1), (2, .bipush 16, 2), (4, .iload_n 2, 1), (5, .imul, 1), (6, .iadd, 1), (7, .putfield 47, 3), (10, .return_, 1)]
set_option maxRecDepth 100000 in
theorem dC_refuse : ∀ q ∈ lC_refuse, decode prog_2_method_27_code q.1 = .ok q.2 := by decide +kernel
def lC_isName : List (Nat × Instr × Nat) := [(0, .iload_n 0, 1), (1, .bipush 65, 2), (3, .if_icmp .lt 13, 3), (6, .iload_n 0, 1), (7, .bipush 90, 2), (9, .if_icmp .gt 7, 3), (12, .iconst 1, 1), (13, .goto 4, 3), (16, .iconst 0, 1), (17, .ireturn, 1)]
set_option maxRecDepth 100000 in
theorem dC_isName : ∀ q ∈ lC_isName, decode prog_2_method_28_code q.1 = .ok q.2 := by decide +kernel
def lC_isDigit : List (Nat × Instr × Nat) := [(0, .iload_n 0, 1), (1, .bipush 48, 2), (3, .if_icmp .lt 13, 3), (6, .iload_n 0, 1), (7, .bipush 57, 2), (9, .if_icmp .gt 7, 3), (12, .iconst 1, 1), (13, .goto 4, 3), (16, .iconst 0, 1), (17, .ireturn, 1)]
set_option maxRecDepth 100000 in
theorem dC_isDigit : ∀ q ∈ lC_isDigit, decode prog_2_method_29_code q.1 = .ok q.2 := by decide +kernel
def lK_init : List (Nat × Instr × Nat) := [(0, .aload_n 0, 1), (1, .invokespecial 3, 3), (4, .return_, 1)]
set_option maxRecDepth 100000 in
theorem dK_init : ∀ q ∈ lK_init, decode prog_3_method_1_code q.1 = .ok q.2 := by decide +kernel
def lK_begin : List (Nat × Instr × Nat) := [(0, .aload_n 0, 1), (1, .aload_n 1, 1), (2, .putfield 9, 3), (5, .aload_n 0, 1), (6, .iconst 0, 1), (7, .putfield 15, 3), (10, .aload_n 0, 1), (11, .iconst 0, 1), (12, .putfield 19, 3), (15, .aload_n 0, 1), (16, .iconst 0, 1), (17, .putfield 22, 3), (20, .aload_n 0, 1), (21, .iconst 0, 1), (22, .putfield 25, 3), (25, .aload_n 0, 1), (26, .aconst_null, 1), (27, .putfield 28, 3), (30, .return_, 1)]
set_option maxRecDepth 100000 in
theorem dK_begin : ∀ q ∈ lK_begin, decode prog_3_method_2_code q.1 = .ok q.2 := by decide +kernel
def lK_tags : List (Nat × Instr × Nat) := [(0, .aload_n 0, 1), (1, .getfield 9, 3), (4, .ifnonnull 7, 3), (7, .iconst 0, 1), (8, .goto 10, 3), (11, .aload_n 0, 1), (12, .getfield 9, 3), (15, .getfield 32, 3), (18, .ireturn, 1)]
set_option maxRecDepth 100000 in
theorem dK_tags : ∀ q ∈ lK_tags, decode prog_3_method_3_code q.1 = .ok q.2 := by decide +kernel
def lK_leastTag : List (Nat × Instr × Nat) := [(0, .aload_n 0, 1), (1, .invokevirtual 37, 3), (4, .aload_n 0, 1), (5, .invokevirtual 37, 3), (8, .ineg, 1), (9, .iand, 1), (10, .ireturn, 1)]
set_option maxRecDepth 100000 in
theorem dK_leastTag : ∀ q ∈ lK_leastTag, decode prog_3_method_4_code q.1 = .ok q.2 := by decide +kernel
def lI_areBytesOfOne : List (Nat × Instr × Nat) := [(0, .iload_n 2, 1), (1, .iconst 1, 1), (2, .if_icmp .lt 20, 3), (5, .iload_n 2, 1), (6, .iconst 4, 1), (7, .if_icmp .gt 15, 3), (10, .iload_n 1, 1), (11, .ifCond .lt 11, 3), (14, .iload_n 1, 1), (15, .iload_n 2, 1), (16, .iadd, 1), (17, .aload_n 0, 1), (18, .arraylength, 1), (19, .if_icmp .le 5, 3), (22, .iconst 0, 1), (23, .ireturn, 1), (24, .iload_n 2, 1), (25, .iconst 1, 1), (26, .if_icmp .ne 5, 3), (29, .iconst 1, 1), (30, .ireturn, 1), (31, .aload_n 0, 1), (32, .iload_n 1, 1), (33, .iaload, 1), (34, .iconst 1, 1), (35, .ishl, 1), (36, .aload_n 0, 1), (37, .iload_n 1, 1), (38, .iconst 1, 1), (39, .iadd, 1), (40, .iaload, 1), (41, .bipush 7, 2), (43, .ishr, 1), (44, .ior, 1), (45, .istore_n 3, 1), (46, .iload_n 3, 1), (47, .ifCond .eq 14, 3), (50, .iload_n 3, 1), (51, .sipush 511, 3), (54, .if_icmp .eq 7, 3), (57, .iconst 1, 1), (58, .goto 4, 3), (61, .iconst 0, 1), (62, .ireturn, 1)]
set_option maxRecDepth 100000 in
theorem dI_areBytesOfOne : ∀ q ∈ lI_areBytesOfOne, decode prog_4_method_2_code q.1 = .ok q.2 := by decide +kernel
end
section
/-! DECODE: each method's instructions, by place -/
def lI_fromBytes : List (Nat × Instr × Nat) := [(0, .aload_n 0, 1), (1, .iload_n 1, 1), (2, .iaload, 1), (3, .sipush 128, 3), (6, .if_icmp .ge 7, 3), (9, .iconst 0, 1), (10, .goto 4, 3), (13, .iconst (-1), 1), (14, .istore_n 3, 1), (15, .iload_n 1, 1), (16, .istore 4, 2), (18, .iload 4, 2), (20, .iload_n 1, 1), (21, .iload_n 2, 1), (22, .iadd, 1), (23, .if_icmp .ge 19, 3), (26, .iload_n 3, 1), (27, .bipush 8, 2), (29, .ishl, 1), (30, .aload_n 0, 1), (31, .iload 4, 2), (33, .iaload, 1), (34, .ior, 1), (35, .istore_n 3, 1), (36, .iinc 4 1, 3), (39, .goto (-21), 3), (42, .iload_n 3, 1), (43, .ireturn, 1)]
set_option maxRecDepth 100000 in
theorem dI_fromBytes : ∀ q ∈ lI_fromBytes, decode prog_4_method_3_code q.1 = .ok q.2 := by decide +kernel
def lI_byteCount : List (Nat × Instr × Nat) := [(0, .iconst 1, 1), (1, .istore_n 1, 1), (2, .iload_n 1, 1), (3, .iconst 4, 1), (4, .if_icmp .ge 32, 3), (7, .iload_n 0, 1), (8, .bipush 8, 2), (10, .iload_n 1, 1), (11, .imul, 1), (12, .iconst 1, 1), (13, .isub, 1), (14, .ishr, 1), (15, .ifCond .eq 21, 3), (18, .iload_n 0, 1), (19, .bipush 8, 2), (21, .iload_n 1, 1), (22, .imul, 1), (23, .iconst 1, 1), (24, .isub, 1), (25, .ishr, 1), (26, .iconst (-1), 1), (27, .if_icmp .eq 9, 3), (30, .iinc 1 1, 3), (33, .goto (-31), 3), (36, .iload_n 1, 1), (37, .ireturn, 1)]
set_option maxRecDepth 100000 in
theorem dI_byteCount : ∀ q ∈ lI_byteCount, decode prog_4_method_4_code q.1 = .ok q.2 := by decide +kernel
def lI_bitsOfNumbersTo : List (Nat × Instr × Nat) := [(0, .iload_n 0, 1), (1, .sipush 255, 3), (4, .if_icmp .le 6, 3), (7, .bipush 16, 2), (9, .ireturn, 1), (10, .iconst 0, 1), (11, .istore_n 1, 1), (12, .iload_n 1, 1), (13, .bipush 8, 2), (15, .if_icmp .ge 15, 3), (18, .iload_n 0, 1), (19, .iload_n 1, 1), (20, .ishr, 1), (21, .ifCond .le 9, 3), (24, .iinc 1 1, 3), (27, .goto (-15), 3), (30, .iload_n 1, 1), (31, .ireturn, 1)]
set_option maxRecDepth 100000 in
theorem dI_bitsOfNumbersTo : ∀ q ∈ lI_bitsOfNumbersTo, decode prog_4_method_5_code q.1 = .ok q.2 := by decide +kernel
def lO_init : List (Nat × Instr × Nat) := [(0, .aload_n 0, 1), (1, .invokespecial 3, 3), (4, .aload_n 0, 1), (5, .aload_n 1, 1), (6, .putfield 9, 3), (9, .aload_n 0, 1), (10, .aload_n 2, 1), (11, .putfield 15, 3), (14, .return_, 1)]
set_option maxRecDepth 100000 in
theorem dO_init : ∀ q ∈ lO_init, decode prog_5_method_1_code q.1 = .ok q.2 := by decide +kernel
def lO_readAll : List (Nat × Instr × Nat) := [(0, .aload_n 0, 1), (1, .iload 4, 2), (3, .putfield 19, 3), (6, .aload_n 0, 1), (7, .iload_n 2, 1), (8, .putfield 23, 3), (11, .iload_n 3, 1), (12, .aload_n 0, 1), (13, .getfield 9, 3), (16, .arraylength, 1), (17, .if_icmp .gt 28, 3), (20, .aload_n 0, 1), (21, .aload_n 1, 1), (22, .iconst (-1), 1), (23, .iconst (-1), 1), (24, .iconst 0, 1), (25, .iload_n 3, 1), (26, .iconst 0, 1), (27, .invokevirtual 27, 3), (30, .ifCond .eq 15, 3), (33, .aload_n 0, 1), (34, .getfield 23, 3), (37, .iload_n 3, 1), (38, .if_icmp .ne 7, 3), (41, .iconst 1, 1), (42, .goto 4, 3), (45, .iconst 0, 1), (46, .ireturn, 1)]
set_option maxRecDepth 100000 in
theorem dO_readAll : ∀ q ∈ lO_readAll, decode prog_5_method_2_code q.1 = .ok q.2 := by decide +kernel
def lO_readElement : List (Nat × Instr × Nat) := [(0, .aload_n 1, 1), (1, .ifnull 10, 3), (4, .iload 6, 2), (6, .bipush 6, 2), (8, .if_icmp .lt 5, 3), (11, .iconst 0, 1), (12, .ireturn, 1), (13, .aload_n 1, 1), (14, .getfield 31, 3), (17, .bipush 10, 2), (19, .if_icmp .ne 17, 3), (22, .aload_n 0, 1), (23, .aload_n 1, 1), (24, .iload_n 2, 1), (25, .iload_n 3, 1), (26, .iload 4, 2), (28, .iload 5, 2), (30, .iload 6, 2), (32, .invokevirtual 36, 3), (35, .ireturn, 1), (36, .aload_n 1, 1), (37, .getfield 31, 3), (40, .bipush 9, 2), (42, .if_icmp .ne 16, 3), (45, .aload_n 0, 1), (46, .aload_n 1, 1), (47, .iload_n 3, 1), (48, .iload 4, 2), (50, .iload 5, 2), (52, .iload 6, 2), (54, .invokevirtual 39, 3), (57, .ireturn, 1), (58, .aload_n 1, 1), (59, .getfield 31, 3), (62, .bipush 6, 2), (64, .if_icmp .eq 12, 3), (67, .aload_n 1, 1), (68, .getfield 31, 3), (71, .bipush 7, 2), (73, .if_icmp .ne 7, 3), (76, .iconst 1, 1), (77, .goto 4, 3), (80, .iconst 0, 1), (81, .istore 7, 2), (83, .aload_n 0, 1), (84, .aload_n 1, 1), (85, .iload_n 2, 1), (86, .invokevirtual 43, 3), (89, .iload 7, 2), (91, .iload 5, 2), (93, .invokevirtual 47, 3), (96, .istore 8, 2), (98, .iload 8, 2), (100, .iconst (-1), 1), (101, .if_icmp .ne 7, 3), (104, .iconst (-1), 1), (105, .goto 17, 3), (108, .aload_n 0, 1), (109, .getfield 15, 3), (112, .aload_n 1, 1), (113, .getfield 31, 3), (116, .iload_n 3, 1), (117, .iload 4, 2), (119, .invokevirtual 51, 3), (122, .istore 9, 2), (124, .iload 9, 2), (126, .iconst (-1), 1), (127, .if_icmp .ne 5, 3), (130, .iconst 0, 1), (131, .ireturn, 1), (132, .iload 7, 2), (134, .ifCond .ne 13, 3), (137, .aload_n 0, 1), (138, .aload_n 1, 1), (139, .iload 9, 2), (141, .iload 8, 2), (143, .invokevirtual 57, 3), (146, .ireturn, 1), (147, .iload 8, 2), (149, .bipush (-2), 2), (151, .if_icmp .ne 8, 3), (154, .iload 5, 2), (156, .goto 5, 3), (159, .iload 8, 2), (161, .istore 10, 2), (163, .aload_n 1, 1), (164, .getfield 31, 3), (167, .bipush 7, 2), (169, .if_icmp .ne 17, 3), (172, .aload_n 0, 1), (173, .aload_n 1, 1), (174, .iload 9, 2), (176, .iload 10, 2), (178, .iload 6, 2), (180, .invokevirtual 61, 3), (183, .goto 14, 3), (186, .aload_n 0, 1), (187, .aload_n 1, 1), (188, .iload 9, 2), (190, .iload 10, 2), (192, .iload 6, 2), (194, .invokevirtual 65, 3), (197, .istore 11, 2), (199, .iload 11, 2), (201, .ifCond .eq 18, 3), (204, .aload_n 0, 1), (205, .iload 8, 2), (207, .iload 5, 2), (209, .invokevirtual 68, 3), (212, .ifCond .eq 7, 3), (215, .iconst 1, 1), (216, .goto 4, 3), (219, .iconst 0, 1), (220, .ireturn, 1)]
set_option maxRecDepth 100000 in
theorem dO_readElement : ∀ q ∈ lO_readElement, decode prog_5_method_3_code q.1 = .ok q.2 := by decide +kernel
def lO_readTagged : List (Nat × Instr × Nat) := [(0, .aload_n 1, 1), (1, .getfield 72, 3), (4, .ifCond .ne 38, 3), (7, .iload_n 2, 1), (8, .iconst (-1), 1), (9, .if_icmp .ne 10, 3), (12, .aload_n 1, 1), (13, .getfield 75, 3), (16, .goto 4, 3), (19, .iload_n 2, 1), (20, .istore 7, 2), (22, .aload_n 0, 1), (23, .aload_n 1, 1), (24, .getfield 78, 3), (27, .iload 7, 2), (29, .iload_n 3, 1), (30, .iload 4, 2), (32, .iload 5, 2), (34, .iload 6, 2), (36, .iconst 1, 1), (37, .iadd, 1), (38, .invokevirtual 27, 3), (41, .ireturn, 1), (42, .aload_n 0, 1), (43, .aload_n 1, 1), (44, .iload_n 2, 1), (45, .invokevirtual 43, 3), (48, .iconst 1, 1), (49, .iload 5, 2), (51, .invokevirtual 47, 3), (54, .istore 7, 2), (56, .iload 7, 2), (58, .iconst (-1), 1), (59, .if_icmp .ne 5, 3), (62, .iconst 0, 1), (63, .ireturn, 1), (64, .iload 7, 2), (66, .bipush (-2), 2), (68, .if_icmp .ne 8, 3), (71, .iload 5, 2), (73, .goto 5, 3), (76, .iload 7, 2), (78, .istore 8, 2), (80, .aload_n 0, 1), (81, .aload_n 1, 1), (82, .getfield 78, 3), (85, .iconst (-1), 1), (86, .iload_n 3, 1), (87, .iload 4, 2), (89, .iload 8, 2), (91, .iload 6, 2), (93, .iconst 1, 1), (94, .iadd, 1), (95, .invokevirtual 27, 3), (98, .ifCond .eq 18, 3), (101, .aload_n 0, 1), (102, .iload 7, 2), (104, .iload 5, 2), (106, .invokevirtual 68, 3), (109, .ifCond .eq 7, 3), (112, .iconst 1, 1), (113, .goto 4, 3), (116, .iconst 0, 1), (117, .ireturn, 1)]
set_option maxRecDepth 100000 in
theorem dO_readTagged : ∀ q ∈ lO_readTagged, decode prog_5_method_4_code q.1 = .ok q.2 := by decide +kernel
def lO_readChoice : List (Nat × Instr × Nat) := [(0, .aload_n 1, 1), (1, .aload_n 0, 1), (2, .iload 4, 2), (4, .invokevirtual 82, 3), (7, .invokevirtual 85, 3), (10, .astore 6, 2), (12, .aload 6, 2), (14, .ifnonnull 7, 3), (17, .iconst (-1), 1), (18, .goto 14, 3), (21, .aload_n 0, 1), (22, .getfield 15, 3), (25, .bipush 9, 2), (27, .iload_n 2, 1), (28, .iload_n 3, 1), (29, .invokevirtual 51, 3), (32, .istore 7, 2), (34, .iload 7, 2), (36, .iconst (-1), 1), (37, .if_icmp .ne 5, 3), (40, .iconst 0, 1), (41, .ireturn, 1), (42, .aload_n 0, 1), (43, .getfield 15, 3), (46, .getfield 89, 3), (49, .iload 7, 2), (51, .aload 6, 2), (53, .getfield 92, 3), (56, .iastore, 1), (57, .aload_n 0, 1), (58, .aload 6, 2), (60, .getfield 97, 3), (63, .iconst (-1), 1), (64, .iload 7, 2), (66, .iconst 0, 1), (67, .iload 4, 2), (69, .iload 5, 2), (71, .iconst 1, 1), (72, .iadd, 1), (73, .invokevirtual 27, 3), (76, .ireturn, 1)]
set_option maxRecDepth 100000 in
theorem dO_readChoice : ∀ q ∈ lO_readChoice, decode prog_5_method_5_code q.1 = .ok q.2 := by decide +kernel
def lO_readComponents : List (Nat × Instr × Nat) := [(0, .aload_n 1, 1), (1, .getfield 100, 3), (4, .astore 5, 2), (6, .aload 5, 2), (8, .ifnull 96, 3), (11, .aload_n 0, 1), (12, .getfield 15, 3), (15, .getfield 104, 3), (18, .istore 6, 2), (20, .aload 5, 2), (22, .invokevirtual 107, 3), (25, .aload_n 0, 1), (26, .iload_n 3, 1), (27, .invokevirtual 82, 3), (30, .iand, 1), (31, .ifCond .ne 18, 3), (34, .aload_n 0, 1), (35, .getfield 15, 3), (38, .aload 5, 2), (40, .iload_n 2, 1), (41, .invokevirtual 111, 3), (44, .ifCond .ne 50, 3), (47, .iconst 0, 1), (48, .ireturn, 1), (49, .aload_n 0, 1), (50, .aload 5, 2), (52, .getfield 97, 3), (55, .iconst (-1), 1), (56, .iload_n 2, 1), (57, .aload 5, 2), (59, .getfield 92, 3), (62, .iload_n 3, 1), (63, .iload 4, 2), (65, .iconst 1, 1), (66, .iadd, 1), (67, .invokevirtual 27, 3), (70, .ifCond .eq 22, 3), (73, .aload_n 0, 1), (74, .getfield 15, 3), (77, .aload 5, 2), (79, .iload_n 2, 1), (80, .iload 6, 2), (82, .aload_n 0, 1), (83, .getfield 19, 3), (86, .invokevirtual 115, 3), (89, .ifCond .ne 5, 3), (92, .iconst 0, 1), (93, .ireturn, 1), (94, .aload 5, 2), (96, .getfield 119, 3), (99, .astore 5, 2), (101, .goto (-95), 3), (104, .iconst 1, 1), (105, .ireturn, 1)]
set_option maxRecDepth 100000 in
theorem dO_readComponents : ∀ q ∈ lO_readComponents, decode prog_5_method_6_code q.1 = .ok q.2 := by decide +kernel
def lO_readItems : List (Nat × Instr × Nat) := [(0, .iconst 0, 1), (1, .istore 5, 2), (3, .iload 5, 2), (5, .bipush 100, 2), (7, .if_icmp .ge 39, 3), (10, .aload_n 0, 1), (11, .iload_n 3, 1), (12, .invokevirtual 82, 3), (15, .ifCond .eq 31, 3), (18, .aload_n 0, 1), (19, .aload_n 1, 1), (20, .getfield 78, 3), (23, .iconst (-1), 1), (24, .iload_n 2, 1), (25, .iload 5, 2), (27, .iload_n 3, 1), (28, .iload 4, 2), (30, .iconst 1, 1), (31, .iadd, 1), (32, .invokevirtual 27, 3), (35, .ifCond .ne 5, 3), (38, .iconst 0, 1), (39, .ireturn, 1), (40, .iinc 5 1, 3), (43, .goto (-40), 3), (46, .aload_n 0, 1), (47, .getfield 15, 3), (50, .getfield 89, 3), (53, .iload_n 2, 1), (54, .iload 5, 2), (56, .iastore, 1), (57, .aload_n 1, 1), (58, .iload 5, 2), (60, .invokevirtual 122, 3), (63, .ireturn, 1)]
set_option maxRecDepth 100000 in
theorem dO_readItems : ∀ q ∈ lO_readItems, decode prog_5_method_7_code q.1 = .ok q.2 := by decide +kernel
def lO_readPlain : List (Nat × Instr × Nat) := [(0, .iload_n 3, 1), (1, .aload_n 0, 1), (2, .getfield 23, 3), (5, .isub, 1), (6, .istore 4, 2), (8, .aload_n 1, 1), (9, .getfield 31, 3), (12, .tableswitch 86 1 4 #[32, 52, 86, 61], 32), (44, .iload 4, 2), (46, .iconst 1, 1), (47, .if_icmp .ne 15, 3), (50, .aload_n 0, 1), (51, .iload_n 2, 1), (52, .invokevirtual 126, 3), (55, .ifCond .eq 7, 3), (58, .iconst 1, 1), (59, .goto 4, 3), (62, .iconst 0, 1), (63, .ireturn, 1), (64, .aload_n 0, 1), (65, .aload_n 1, 1), (66, .iload_n 2, 1), (67, .iload 4, 2), (69, .invokevirtual 129, 3), (72, .ireturn, 1), (73, .aload_n 1, 1), (74, .iload 4, 2), (76, .invokevirtual 122, 3), (79, .ifCond .eq 17, 3), (82, .aload_n 0, 1), (83, .iload_n 2, 1), (84, .iload 4, 2), (86, .invokevirtual 132, 3), (89, .ifCond .eq 7, 3), (92, .iconst 1, 1), (93, .goto 4, 3), (96, .iconst 0, 1), (97, .ireturn, 1), (98, .iload 4, 2), (100, .ifCond .ne 7, 3), (103, .iconst 1, 1), (104, .goto 4, 3), (107, .iconst 0, 1), (108, .ireturn, 1)]
set_option maxRecDepth 100000 in
theorem dO_readPlain : ∀ q ∈ lO_readPlain, decode prog_5_method_8_code q.1 = .ok q.2 := by decide +kernel
def lO_readBoolean : List (Nat × Instr × Nat) := [(0, .aload_n 0, 1), (1, .getfield 9, 3), (4, .aload_n 0, 1), (5, .getfield 23, 3), (8, .iaload, 1), (9, .istore_n 2, 1), (10, .aload_n 0, 1), (11, .dup, 1), (12, .getfield 23, 3), (15, .iconst 1, 1), (16, .iadd, 1), (17, .putfield 23, 3), (20, .aload_n 0, 1), (21, .getfield 15, 3), (24, .getfield 89, 3), (27, .iload_n 1, 1), (28, .iload_n 2, 1), (29, .ifCond .ne 7, 3), (32, .iconst 0, 1), (33, .goto 4, 3), (36, .iconst 1, 1), (37, .iastore, 1), (38, .aload_n 0, 1), (39, .getfield 19, 3), (42, .ifCond .eq 14, 3), (45, .iload_n 2, 1), (46, .ifCond .eq 10, 3), (49, .iload_n 2, 1), (50, .sipush 255, 3), (53, .if_icmp .ne 7, 3), (56, .iconst 1, 1), (57, .goto 4, 3), (60, .iconst 0, 1), (61, .ireturn, 1)]
set_option maxRecDepth 100000 in
theorem dO_readBoolean : ∀ q ∈ lO_readBoolean, decode prog_5_method_9_code q.1 = .ok q.2 := by decide +kernel
def lO_readInteger : List (Nat × Instr × Nat) := [(0, .aload_n 0, 1), (1, .getfield 9, 3), (4, .aload_n 0, 1), (5, .getfield 23, 3), (8, .iload_n 3, 1), (9, .invokestatic 135, 3), (12, .ifCond .ne 5, 3), (15, .iconst 0, 1), (16, .ireturn, 1), (17, .aload_n 0, 1), (18, .getfield 9, 3), (21, .aload_n 0, 1), (22, .getfield 23, 3), (25, .iload_n 3, 1), (26, .invokestatic 141, 3), (29, .istore 4, 2), (31, .aload_n 0, 1), (32, .dup, 1), (33, .getfield 23, 3), (36, .iload_n 3, 1), (37, .iadd, 1), (38, .putfield 23, 3), (41, .aload_n 0, 1), (42, .getfield 15, 3), (45, .getfield 89, 3), (48, .iload_n 2, 1), (49, .iload 4, 2), (51, .iastore, 1), (52, .aload_n 1, 1), (53, .iload 4, 2), (55, .invokevirtual 122, 3), (58, .ireturn, 1)]
set_option maxRecDepth 100000 in
theorem dO_readInteger : ∀ q ∈ lO_readInteger, decode prog_5_method_10_code q.1 = .ok q.2 := by decide +kernel
def lO_readOctets : List (Nat × Instr × Nat) := [(0, .iconst 0, 1), (1, .istore_n 3, 1), (2, .iload_n 3, 1), (3, .iload_n 2, 1), (4, .if_icmp .ge 41, 3), (7, .aload_n 0, 1), (8, .getfield 15, 3), (11, .iload_n 1, 1), (12, .aload_n 0, 1), (13, .getfield 9, 3), (16, .aload_n 0, 1), (17, .getfield 23, 3), (20, .iaload, 1), (21, .invokevirtual 145, 3), (24, .ifCond .ne 5, 3), (27, .iconst 0, 1), (28, .ireturn, 1), (29, .aload_n 0, 1), (30, .dup, 1), (31, .getfield 23, 3), (34, .iconst 1, 1), (35, .iadd, 1), (36, .putfield 23, 3), (39, .iinc 3 1, 3), (42, .goto (-40), 3), (45, .iconst 1, 1), (46, .ireturn, 1)]
set_option maxRecDepth 100000 in
theorem dO_readOctets : ∀ q ∈ lO_readOctets, decode prog_5_method_11_code q.1 = .ok q.2 := by decide +kernel
def lO_readHeader : List (Nat × Instr × Nat) := [(0, .aload_n 0, 1), (1, .getfield 23, 3), (4, .iconst 2, 1), (5, .iadd, 1), (6, .iload_n 3, 1), (7, .if_icmp .gt 16, 3), (10, .aload_n 0, 1), (11, .getfield 9, 3), (14, .aload_n 0, 1), (15, .getfield 23, 3), (18, .iaload, 1), (19, .iload_n 1, 1), (20, .if_icmp .eq 5, 3), (23, .iconst (-1), 1), (24, .ireturn, 1), (25, .aload_n 0, 1), (26, .getfield 9, 3), (29, .aload_n 0, 1), (30, .getfield 23, 3), (33, .iconst 1, 1), (34, .iadd, 1), (35, .iaload, 1), (36, .istore 4, 2), (38, .aload_n 0, 1), (39, .dup, 1), (40, .getfield 23, 3), (43, .iconst 2, 1), (44, .iadd, 1), (45, .putfield 23, 3), (48, .iload 4, 2), (50, .sipush 128, 3), (53, .if_icmp .ne 21, 3), (56, .iload_n 2, 1), (57, .ifCond .eq 15, 3), (60, .aload_n 0, 1), (61, .getfield 19, 3), (64, .ifCond .ne 8, 3), (67, .bipush (-2), 2), (69, .goto 4, 3), (72, .iconst (-1), 1), (73, .ireturn, 1), (74, .iload 4, 2), (76, .sipush 128, 3), (79, .if_icmp .ge 8, 3), (82, .iload 4, 2), (84, .goto 14, 3), (87, .aload_n 0, 1), (88, .iload 4, 2), (90, .sipush 128, 3), (93, .isub, 1), (94, .iload_n 3, 1), (95, .invokevirtual 148, 3), (98, .istore 5, 2), (100, .iload 5, 2), (102, .iconst (-1), 1), (103, .if_icmp .eq 14, 3), (106, .iload 5, 2), (108, .iload_n 3, 1), (109, .aload_n 0, 1), (110, .getfield 23, 3), (113, .isub, 1), (114, .if_icmp .le 7, 3), (117, .iconst (-1), 1), (118, .goto 10, 3), (121, .aload_n 0, 1), (122, .getfield 23, 3), (125, .iload 5, 2), (127, .iadd, 1), (128, .ireturn, 1)]
set_option maxRecDepth 100000 in
theorem dO_readHeader : ∀ q ∈ lO_readHeader, decode prog_5_method_12_code q.1 = .ok q.2 := by decide +kernel
def lO_readLongLength : List (Nat × Instr × Nat) := [(0, .aload_n 0, 1), (1, .getfield 19, 3), (4, .ifCond .ne 18, 3), (7, .iload_n 1, 1), (8, .iconst 2, 1), (9, .if_icmp .gt 13, 3), (12, .aload_n 0, 1), (13, .getfield 23, 3), (16, .iload_n 1, 1), (17, .iadd, 1), (18, .iload_n 2, 1), (19, .if_icmp .le 5, 3), (22, .iconst (-1), 1), (23, .ireturn, 1), (24, .iconst 0, 1), (25, .istore_n 3, 1), (26, .iconst 0, 1), (27, .istore 4, 2), (29, .iload 4, 2), (31, .iload_n 1, 1), (32, .if_icmp .ge 34, 3), (35, .iload_n 3, 1), (36, .bipush 8, 2), (38, .ishl, 1), (39, .aload_n 0, 1), (40, .getfield 9, 3), (43, .aload_n 0, 1), (44, .getfield 23, 3), (47, .iaload, 1), (48, .ior, 1), (49, .istore_n 3, 1), (50, .aload_n 0, 1), (51, .dup, 1), (52, .getfield 23, 3), (55, .iconst 1, 1), (56, .iadd, 1), (57, .putfield 23, 3), (60, .iinc 4 1, 3), (63, .goto (-34), 3), (66, .iload_n 3, 1), (67, .ireturn, 1)]
set_option maxRecDepth 100000 in
theorem dO_readLongLength : ∀ q ∈ lO_readLongLength, decode prog_5_method_13_code q.1 = .ok q.2 := by decide +kernel
def lO_readContentEnd : List (Nat × Instr × Nat) := [(0, .iload_n 1, 1), (1, .bipush (-2), 2), (3, .if_icmp .eq 17, 3), (6, .aload_n 0, 1), (7, .getfield 23, 3), (10, .iload_n 1, 1), (11, .if_icmp .ne 7, 3), (14, .iconst 1, 1), (15, .goto 4, 3), (18, .iconst 0, 1), (19, .ireturn, 1), (20, .aload_n 0, 1), (21, .getfield 23, 3), (24, .iconst 2, 1), (25, .iadd, 1), (26, .iload_n 2, 1), (27, .if_icmp .gt 29, 3), (30, .aload_n 0, 1), (31, .getfield 9, 3), (34, .aload_n 0, 1), (35, .getfield 23, 3), (38, .iaload, 1), (39, .ifCond .ne 17, 3), (42, .aload_n 0, 1), (43, .getfield 9, 3), (46, .aload_n 0, 1), (47, .getfield 23, 3), (50, .iconst 1, 1), (51, .iadd, 1), (52, .iaload, 1), (53, .ifCond .eq 5, 3), (56, .iconst 0, 1), (57, .ireturn, 1), (58, .aload_n 0, 1), (59, .dup, 1), (60, .getfield 23, 3), (63, .iconst 2, 1), (64, .iadd, 1), (65, .putfield 23, 3), (68, .iconst 1, 1), (69, .ireturn, 1)]
set_option maxRecDepth 100000 in
theorem dO_readContentEnd : ∀ q ∈ lO_readContentEnd, decode prog_5_method_14_code q.1 = .ok q.2 := by decide +kernel
def lO_nextTagBit : List (Nat × Instr × Nat) := [(0, .aload_n 0, 1), (1, .getfield 23, 3), (4, .iload_n 1, 1), (5, .if_icmp .ge 18, 3), (8, .aload_n 0, 1), (9, .getfield 9, 3), (12, .aload_n 0, 1), (13, .getfield 23, 3), (16, .iaload, 1), (17, .invokestatic 152, 3), (20, .goto 4, 3), (23, .iconst 0, 1), (24, .ireturn, 1)]
set_option maxRecDepth 100000 in
theorem dO_nextTagBit : ∀ q ∈ lO_nextTagBit, decode prog_5_method_15_code q.1 = .ok q.2 := by decide +kernel
def lO_tagBitOf : List (Nat × Instr × Nat) := [(0, .iload_n 0, 1), (1, .sipush 160, 3), (4, .if_icmp .lt 21, 3), (7, .iload_n 0, 1), (8, .sipush 170, 3), (11, .if_icmp .ge 14, 3), (14, .iconst 1, 1), (15, .bipush 17, 2), (17, .iload_n 0, 1), (18, .iadd, 1), (19, .sipush 160, 3), (22, .isub, 1), (23, .ishl, 1), (24, .ireturn, 1), (25, .iload_n 0, 1), (26, .sipush 128, 3), (29, .if_icmp .lt 21, 3), (32, .iload_n 0, 1), (33, .sipush 138, 3), (36, .if_icmp .ge 14, 3), (39, .iconst 1, 1), (40, .bipush 17, 2), (42, .iload_n 0, 1), (43, .iadd, 1), (44, .sipush 128, 3), (47, .isub, 1), (48, .ishl, 1), (49, .ireturn, 1), (50, .iload_n 0, 1), (51, .bipush 48, 2), (53, .if_icmp .ne 6, 3), (56, .ldc 155, 2), (58, .ireturn, 1), (59, .iload_n 0, 1), (60, .iconst 1, 1), (61, .if_icmp .eq 18, 3), (64, .iload_n 0, 1), (65, .iconst 2, 1), (66, .if_icmp .eq 13, 3), (69, .iload_n 0, 1), (70, .iconst 4, 1), (71, .if_icmp .eq 8, 3), (74, .iload_n 0, 1), (75, .iconst 5, 1), (76, .if_icmp .ne 9, 3), (79, .iconst 1, 1), (80, .iload_n 0, 1), (81, .ishl, 1), (82, .goto 4, 3), (85, .iconst 0, 1), (86, .ireturn, 1)]
set_option maxRecDepth 100000 in
theorem dO_tagBitOf : ∀ q ∈ lO_tagBitOf, decode prog_5_method_16_code q.1 = .ok q.2 := by decide +kernel
def lP_init : List (Nat × Instr × Nat) := [(0, .aload_n 0, 1), (1, .invokespecial 3, 3), (4, .aload_n 0, 1), (5, .aload_n 1, 1), (6, .putfield 9, 3), (9, .aload_n 0, 1), (10, .aload_n 2, 1), (11, .putfield 15, 3), (14, .return_, 1)]
set_option maxRecDepth 100000 in
theorem dP_init : ∀ q ∈ lP_init, decode prog_6_method_1_code q.1 = .ok q.2 := by decide +kernel
def lP_readAll : List (Nat × Instr × Nat) := [(0, .aload_n 0, 1), (1, .bipush 8, 2), (3, .iload_n 2, 1), (4, .imul, 1), (5, .putfield 19, 3), (8, .aload_n 0, 1), (9, .bipush 8, 2), (11, .iload_n 3, 1), (12, .aload_n 0, 1), (13, .getfield 9, 3), (16, .arraylength, 1), (17, .invokestatic 23, 3), (20, .imul, 1), (21, .putfield 29, 3), (24, .aload_n 0, 1), (25, .aload_n 1, 1), (26, .iconst (-1), 1), (27, .iconst 0, 1), (28, .iconst 0, 1), (29, .invokevirtual 32, 3), (32, .ifCond .ne 5, 3), (35, .iconst 0, 1), (36, .ireturn, 1), (37, .aload_n 0, 1), (38, .getfield 19, 3), (41, .bipush 8, 2), (43, .iload_n 2, 1), (44, .imul, 1), (45, .if_icmp .ne 29, 3), (48, .aload_n 0, 1), (49, .bipush 8, 2), (51, .invokevirtual 36, 3), (54, .ifCond .ne 18, 3), (57, .aload_n 0, 1), (58, .getfield 19, 3), (61, .aload_n 0, 1), (62, .getfield 29, 3), (65, .if_icmp .ne 7, 3), (68, .iconst 1, 1), (69, .goto 4, 3), (72, .iconst 0, 1), (73, .ireturn, 1), (74, .aload_n 0, 1), (75, .invokevirtual 40, 3), (78, .ifCond .eq 18, 3), (81, .aload_n 0, 1), (82, .getfield 19, 3), (85, .aload_n 0, 1), (86, .getfield 29, 3), (89, .if_icmp .ne 7, 3), (92, .iconst 1, 1), (93, .goto 4, 3), (96, .iconst 0, 1), (97, .ireturn, 1)]
set_option maxRecDepth 100000 in
theorem dP_readAll : ∀ q ∈ lP_readAll, decode prog_6_method_2_code q.1 = .ok q.2 := by decide +kernel
def lP_readValue : List (Nat × Instr × Nat) := [(0, .aload_n 1, 1), (1, .ifnull 10, 3), (4, .iload 4, 2), (6, .bipush 6, 2), (8, .if_icmp .lt 5, 3), (11, .iconst 0, 1), (12, .ireturn, 1), (13, .aload_n 1, 1), (14, .getfield 44, 3), (17, .bipush 10, 2), (19, .if_icmp .ne 18, 3), (22, .aload_n 0, 1), (23, .aload_n 1, 1), (24, .getfield 49, 3), (27, .iload_n 2, 1), (28, .iload_n 3, 1), (29, .iload 4, 2), (31, .iconst 1, 1), (32, .iadd, 1), (33, .invokevirtual 32, 3), (36, .ireturn, 1), (37, .aload_n 0, 1), (38, .getfield 15, 3), (41, .aload_n 1, 1), (42, .getfield 44, 3), (45, .iload_n 2, 1), (46, .iload_n 3, 1), (47, .invokevirtual 53, 3), (50, .istore 5, 2), (52, .iload 5, 2), (54, .iconst (-1), 1), (55, .if_icmp .ne 5, 3), (58, .iconst 0, 1), (59, .ireturn, 1), (60, .aload_n 1, 1), (61, .getfield 44, 3), (64, .tableswitch 149 1 9 #[52, 87, 149, 111, 149, 119, 129, 149, 139], 52), (116, .aload_n 0, 1), (117, .getfield 15, 3), (120, .getfield 59, 3), (123, .iload 5, 2), (125, .aload_n 0, 1), (126, .iconst 1, 1), (127, .invokevirtual 36, 3), (130, .iastore, 1), (131, .aload_n 0, 1), (132, .getfield 15, 3), (135, .getfield 59, 3), (138, .iload 5, 2), (140, .iaload, 1), (141, .iconst (-1), 1), (142, .if_icmp .eq 7, 3), (145, .iconst 1, 1), (146, .goto 4, 3), (149, .iconst 0, 1), (150, .ireturn, 1), (151, .aload_n 1, 1), (152, .getfield 62, 3), (155, .ifCond .eq 13, 3), (158, .aload_n 0, 1), (159, .aload_n 1, 1), (160, .iload 5, 2), (162, .invokevirtual 66, 3), (165, .goto 9, 3), (168, .aload_n 0, 1), (169, .iload 5, 2), (171, .invokevirtual 70, 3), (174, .ireturn, 1), (175, .aload_n 0, 1), (176, .aload_n 1, 1), (177, .iload 5, 2), (179, .invokevirtual 74, 3), (182, .ireturn, 1), (183, .aload_n 0, 1), (184, .aload_n 1, 1), (185, .iload 5, 2), (187, .iload 4, 2), (189, .invokevirtual 77, 3), (192, .ireturn, 1), (193, .aload_n 0, 1), (194, .aload_n 1, 1), (195, .iload 5, 2), (197, .iload 4, 2), (199, .invokevirtual 81, 3), (202, .ireturn, 1), (203, .aload_n 0, 1), (204, .aload_n 1, 1), (205, .iload 5, 2), (207, .iload 4, 2), (209, .invokevirtual 84, 3), (212, .ireturn, 1), (213, .iconst 1, 1), (214, .ireturn, 1)]
set_option maxRecDepth 100000 in
theorem dP_readValue : ∀ q ∈ lP_readValue, decode prog_6_method_3_code q.1 = .ok q.2 := by decide +kernel
def lP_readBounded : List (Nat × Instr × Nat) := [(0, .aload_n 0, 1), (1, .aload_n 1, 1), (2, .getfield 87, 3), (5, .aload_n 1, 1), (6, .getfield 90, 3), (9, .isub, 1), (10, .invokevirtual 93, 3), (13, .istore_n 3, 1), (14, .aload_n 0, 1), (15, .getfield 15, 3), (18, .getfield 59, 3), (21, .iload_n 2, 1), (22, .aload_n 1, 1), (23, .getfield 90, 3), (26, .iload_n 3, 1), (27, .iadd, 1), (28, .iastore, 1), (29, .iload_n 3, 1), (30, .iconst (-1), 1), (31, .if_icmp .eq 7, 3), (34, .iconst 1, 1), (35, .goto 4, 3), (38, .iconst 0, 1), (39, .ireturn, 1)]
set_option maxRecDepth 100000 in
theorem dP_readBounded : ∀ q ∈ lP_readBounded, decode prog_6_method_4_code q.1 = .ok q.2 := by decide +kernel
def lP_readUnbounded : List (Nat × Instr × Nat) := [(0, .aload_n 0, 1), (1, .invokevirtual 96, 3), (4, .istore_n 2, 1), (5, .aload_n 0, 1), (6, .getfield 19, 3), (9, .iconst 3, 1), (10, .ishr, 1), (11, .istore_n 3, 1), (12, .aload_n 0, 1), (13, .getfield 19, 3), (16, .bipush 8, 2), (18, .iload_n 2, 1), (19, .imul, 1), (20, .iadd, 1), (21, .aload_n 0, 1), (22, .getfield 29, 3), (25, .if_icmp .gt 15, 3), (28, .aload_n 0, 1), (29, .getfield 9, 3), (32, .iload_n 3, 1), (33, .iload_n 2, 1), (34, .invokestatic 100, 3), (37, .ifCond .ne 5, 3), (40, .iconst 0, 1), (41, .ireturn, 1), (42, .aload_n 0, 1), (43, .getfield 15, 3), (46, .getfield 59, 3), (49, .iload_n 1, 1), (50, .aload_n 0, 1), (51, .getfield 9, 3), (54, .iload_n 3, 1), (55, .iload_n 2, 1), (56, .invokestatic 106, 3), (59, .iastore, 1), (60, .aload_n 0, 1), (61, .dup, 1), (62, .getfield 19, 3), (65, .bipush 8, 2), (67, .iload_n 2, 1), (68, .imul, 1), (69, .iadd, 1), (70, .putfield 19, 3), (73, .iconst 1, 1), (74, .ireturn, 1)]
set_option maxRecDepth 100000 in
theorem dP_readUnbounded : ∀ q ∈ lP_readUnbounded, decode prog_6_method_5_code q.1 = .ok q.2 := by decide +kernel
def lP_readOctets : List (Nat × Instr × Nat) := [(0, .aload_n 0, 1), (1, .aload_n 1, 1), (2, .invokevirtual 110, 3), (5, .istore_n 3, 1), (6, .iload_n 3, 1), (7, .iconst (-1), 1), (8, .if_icmp .eq 21, 3), (11, .iload_n 3, 1), (12, .ifCond .le 19, 3), (15, .aload_n 1, 1), (16, .invokevirtual 114, 3), (19, .ifCond .eq 12, 3), (22, .aload_n 0, 1), (23, .invokevirtual 40, 3), (26, .ifCond .ne 5, 3), (29, .iconst 0, 1), (30, .ireturn, 1), (31, .iconst 0, 1), (32, .istore 4, 2), (34, .iload 4, 2), (36, .iload_n 3, 1), (37, .if_icmp .ge 38, 3), (40, .aload_n 0, 1), (41, .bipush 8, 2), (43, .invokevirtual 36, 3), (46, .istore 5, 2), (48, .iload 5, 2), (50, .iconst (-1), 1), (51, .if_icmp .eq 16, 3), (54, .aload_n 0, 1), (55, .getfield 15, 3), (58, .iload_n 2, 1), (59, .iload 5, 2), (61, .invokevirtual 117, 3), (64, .ifCond .ne 5, 3), (67, .iconst 0, 1), (68, .ireturn, 1), (69, .iinc 4 1, 3), (72, .goto (-38), 3), (75, .iconst 1, 1), (76, .ireturn, 1)]
set_option maxRecDepth 100000 in
theorem dP_readOctets : ∀ q ∈ lP_readOctets, decode prog_6_method_6_code q.1 = .ok q.2 := by decide +kernel
def lP_readComponents : List (Nat × Instr × Nat) := [(0, .aload_n 0, 1), (1, .aload_n 1, 1), (2, .invokevirtual 121, 3), (5, .istore 4, 2), (7, .iload 4, 2), (9, .iconst (-1), 1), (10, .if_icmp .ne 5, 3), (13, .iconst 0, 1), (14, .ireturn, 1), (15, .aload_n 1, 1), (16, .getfield 124, 3), (19, .astore 5, 2), (21, .aload 5, 2), (23, .ifnull 89, 3), (26, .aload_n 0, 1), (27, .getfield 15, 3), (30, .getfield 128, 3), (33, .istore 6, 2), (35, .iload 4, 2), (37, .aload 5, 2), (39, .getfield 131, 3), (42, .ishr, 1), (43, .iconst 1, 1), (44, .iand, 1), (45, .ifCond .ne 18, 3), (48, .aload_n 0, 1), (49, .getfield 15, 3), (52, .aload 5, 2), (54, .iload_n 2, 1), (55, .invokevirtual 136, 3), (58, .ifCond .ne 44, 3), (61, .iconst 0, 1), (62, .ireturn, 1), (63, .aload_n 0, 1), (64, .aload 5, 2), (66, .getfield 140, 3), (69, .iload_n 2, 1), (70, .aload 5, 2), (72, .getfield 131, 3), (75, .iload_n 3, 1), (76, .iconst 1, 1), (77, .iadd, 1), (78, .invokevirtual 32, 3), (81, .ifCond .eq 19, 3), (84, .aload_n 0, 1), (85, .getfield 15, 3), (88, .aload 5, 2), (90, .iload_n 2, 1), (91, .iload 6, 2), (93, .iconst 1, 1), (94, .invokevirtual 143, 3), (97, .ifCond .ne 5, 3), (100, .iconst 0, 1), (101, .ireturn, 1), (102, .aload 5, 2), (104, .getfield 147, 3), (107, .astore 5, 2), (109, .goto (-88), 3), (112, .iconst 1, 1), (113, .ireturn, 1)]
set_option maxRecDepth 100000 in
theorem dP_readComponents : ∀ q ∈ lP_readComponents, decode prog_6_method_7_code q.1 = .ok q.2 := by decide +kernel
def lP_takePresence : List (Nat × Instr × Nat) := [(0, .iconst 0, 1), (1, .istore_n 2, 1), (2, .aload_n 1, 1), (3, .getfield 124, 3), (6, .astore_n 3, 1), (7, .aload_n 3, 1), (8, .ifnull 47, 3), (11, .aload_n 3, 1), (12, .getfield 150, 3), (15, .ifCond .ne 7, 3), (18, .iconst 1, 1), (19, .goto 8, 3), (22, .aload_n 0, 1), (23, .iconst 1, 1), (24, .invokevirtual 36, 3), (27, .istore 4, 2), (29, .iload 4, 2), (31, .iconst (-1), 1), (32, .if_icmp .ne 5, 3), (35, .iconst (-1), 1), (36, .ireturn, 1), (37, .iload_n 2, 1), (38, .iload 4, 2), (40, .aload_n 3, 1), (41, .getfield 131, 3), (44, .ishl, 1), (45, .ior, 1), (46, .istore_n 2, 1), (47, .aload_n 3, 1), (48, .getfield 147, 3), (51, .astore_n 3, 1), (52, .goto (-45), 3), (55, .iload_n 2, 1), (56, .ireturn, 1)]
set_option maxRecDepth 100000 in
theorem dP_takePresence : ∀ q ∈ lP_takePresence, decode prog_6_method_8_code q.1 = .ok q.2 := by decide +kernel
def lP_readItems : List (Nat × Instr × Nat) := [(0, .aload_n 0, 1), (1, .aload_n 1, 1), (2, .invokevirtual 110, 3), (5, .istore 4, 2), (7, .aload_n 0, 1), (8, .getfield 15, 3), (11, .getfield 59, 3), (14, .iload_n 2, 1), (15, .iload 4, 2), (17, .iastore, 1), (18, .iconst 0, 1), (19, .istore 5, 2), (21, .iload 5, 2), (23, .iload 4, 2), (25, .if_icmp .ge 28, 3), (28, .aload_n 0, 1), (29, .aload_n 1, 1), (30, .getfield 49, 3), (33, .iload_n 2, 1), (34, .iload 5, 2), (36, .iload_n 3, 1), (37, .iconst 1, 1), (38, .iadd, 1), (39, .invokevirtual 32, 3), (42, .ifCond .ne 5, 3), (45, .iconst 0, 1), (46, .ireturn, 1), (47, .iinc 5 1, 3), (50, .goto (-29), 3), (53, .iload 4, 2), (55, .iconst (-1), 1), (56, .if_icmp .eq 7, 3), (59, .iconst 1, 1), (60, .goto 4, 3), (63, .iconst 0, 1), (64, .ireturn, 1)]
set_option maxRecDepth 100000 in
theorem dP_readItems : ∀ q ∈ lP_readItems, decode prog_6_method_9_code q.1 = .ok q.2 := by decide +kernel
def lP_readChoice : List (Nat × Instr × Nat) := [(0, .aload_n 1, 1), (1, .aload_n 0, 1), (2, .aload_n 1, 1), (3, .getfield 153, 3), (6, .iconst 1, 1), (7, .isub, 1), (8, .invokevirtual 93, 3), (11, .invokevirtual 156, 3), (14, .astore 4, 2), (16, .aload 4, 2), (18, .ifnonnull 5, 3), (21, .iconst 0, 1), (22, .ireturn, 1), (23, .aload_n 0, 1), (24, .getfield 15, 3), (27, .getfield 59, 3), (30, .iload_n 2, 1), (31, .aload 4, 2), (33, .getfield 131, 3), (36, .iastore, 1), (37, .aload_n 0, 1), (38, .aload 4, 2), (40, .getfield 140, 3), (43, .iload_n 2, 1), (44, .iconst 0, 1), (45, .iload_n 3, 1), (46, .iconst 1, 1), (47, .iadd, 1), (48, .invokevirtual 32, 3), (51, .ireturn, 1)]
set_option maxRecDepth 100000 in
theorem dP_readChoice : ∀ q ∈ lP_readChoice, decode prog_6_method_10_code q.1 = .ok q.2 := by decide +kernel
def lP_takeCount : List (Nat × Instr × Nat) := [(0, .aload_n 1, 1), (1, .getfield 62, 3), (4, .ifCond .ne 20, 3), (7, .aload_n 0, 1), (8, .invokevirtual 96, 3), (11, .istore_n 2, 1), (12, .iload_n 2, 1), (13, .bipush 127, 2), (15, .if_icmp .le 7, 3), (18, .iconst (-1), 1), (19, .goto 4, 3), (22, .iload_n 2, 1), (23, .ireturn, 1), (24, .aload_n 0, 1), (25, .aload_n 1, 1), (26, .getfield 87, 3), (29, .aload_n 1, 1), (30, .getfield 90, 3), (33, .isub, 1), (34, .invokevirtual 93, 3), (37, .istore_n 2, 1), (38, .iload_n 2, 1), (39, .iconst (-1), 1), (40, .if_icmp .ne 7, 3), (43, .iconst (-1), 1), (44, .goto 9, 3), (47, .aload_n 1, 1), (48, .getfield 90, 3), (51, .iload_n 2, 1), (52, .iadd, 1), (53, .ireturn, 1)]
set_option maxRecDepth 100000 in
theorem dP_takeCount : ∀ q ∈ lP_takeCount, decode prog_6_method_11_code q.1 = .ok q.2 := by decide +kernel
def lP_takeNumber : List (Nat × Instr × Nat) := [(0, .iload_n 1, 1), (1, .ifCond .gt 5, 3), (4, .iconst 0, 1), (5, .ireturn, 1), (6, .iload_n 1, 1), (7, .sipush 255, 3), (10, .if_icmp .lt 12, 3), (13, .aload_n 0, 1), (14, .invokevirtual 40, 3), (17, .ifCond .ne 5, 3), (20, .iconst (-1), 1), (21, .ireturn, 1), (22, .aload_n 0, 1), (23, .iload_n 1, 1), (24, .invokestatic 160, 3), (27, .invokevirtual 36, 3), (30, .istore_n 2, 1), (31, .iload_n 2, 1), (32, .iload_n 1, 1), (33, .if_icmp .le 7, 3), (36, .iconst (-1), 1), (37, .goto 4, 3), (40, .iload_n 2, 1), (41, .ireturn, 1)]
set_option maxRecDepth 100000 in
theorem dP_takeNumber : ∀ q ∈ lP_takeNumber, decode prog_6_method_12_code q.1 = .ok q.2 := by decide +kernel
def lP_takeByte : List (Nat × Instr × Nat) := [(0, .aload_n 0, 1), (1, .invokevirtual 40, 3), (4, .ifCond .eq 12, 3), (7, .aload_n 0, 1), (8, .bipush 8, 2), (10, .invokevirtual 36, 3), (13, .goto 4, 3), (16, .iconst (-1), 1), (17, .ireturn, 1)]
set_option maxRecDepth 100000 in
theorem dP_takeByte : ∀ q ∈ lP_takeByte, decode prog_6_method_13_code q.1 = .ok q.2 := by decide +kernel
def lP_takeBits : List (Nat × Instr × Nat) := [(0, .aload_n 0, 1), (1, .getfield 19, 3), (4, .iload_n 1, 1), (5, .iadd, 1), (6, .aload_n 0, 1), (7, .getfield 29, 3), (10, .if_icmp .le 5, 3), (13, .iconst (-1), 1), (14, .ireturn, 1), (15, .iconst 0, 1), (16, .istore_n 2, 1), (17, .iconst 0, 1), (18, .istore_n 3, 1), (19, .iload_n 3, 1), (20, .iload_n 1, 1), (21, .if_icmp .ge 48, 3), (24, .iload_n 2, 1), (25, .iconst 1, 1), (26, .ishl, 1), (27, .aload_n 0, 1), (28, .getfield 9, 3), (31, .aload_n 0, 1), (32, .getfield 19, 3), (35, .iconst 3, 1), (36, .ishr, 1), (37, .iaload, 1), (38, .bipush 7, 2), (40, .aload_n 0, 1), (41, .getfield 19, 3), (44, .bipush 7, 2), (46, .iand, 1), (47, .isub, 1), (48, .ishr, 1), (49, .iconst 1, 1), (50, .iand, 1), (51, .ior, 1), (52, .istore_n 2, 1), (53, .aload_n 0, 1), (54, .dup, 1), (55, .getfield 19, 3), (58, .iconst 1, 1), (59, .iadd, 1), (60, .putfield 19, 3), (63, .iinc 3 1, 3), (66, .goto (-47), 3), (69, .iload_n 2, 1), (70, .ireturn, 1)]
set_option maxRecDepth 100000 in
theorem dP_takeBits : ∀ q ∈ lP_takeBits, decode prog_6_method_14_code q.1 = .ok q.2 := by decide +kernel
def lP_align : List (Nat × Instr × Nat) := [(0, .aload_n 0, 1), (1, .getfield 19, 3), (4, .bipush 7, 2), (6, .iand, 1), (7, .istore_n 1, 1), (8, .iload_n 1, 1), (9, .ifCond .ne 5, 3), (12, .iconst 1, 1), (13, .ireturn, 1), (14, .aload_n 0, 1), (15, .getfield 19, 3), (18, .aload_n 0, 1), (19, .getfield 29, 3), (22, .if_icmp .ge 23, 3), (25, .aload_n 0, 1), (26, .getfield 9, 3), (29, .aload_n 0, 1), (30, .getfield 19, 3), (33, .iconst 3, 1), (34, .ishr, 1), (35, .iaload, 1), (36, .sipush 255, 3), (39, .iload_n 1, 1), (40, .ishr, 1), (41, .iand, 1), (42, .ifCond .eq 5, 3), (45, .iconst 0, 1), (46, .ireturn, 1), (47, .aload_n 0, 1), (48, .dup, 1), (49, .getfield 19, 3), (52, .bipush 8, 2), (54, .iload_n 1, 1), (55, .isub, 1), (56, .iadd, 1), (57, .putfield 19, 3), (60, .iconst 1, 1), (61, .ireturn, 1)]
set_option maxRecDepth 100000 in
theorem dP_align : ∀ q ∈ lP_align, decode prog_6_method_15_code q.1 = .ok q.2 := by decide +kernel
def lQ_init : List (Nat × Instr × Nat) := [(0, .aload_n 0, 1), (1, .invokespecial 3, 3), (4, .aload_n 0, 1), (5, .aload_n 1, 1), (6, .putfield 9, 3), (9, .aload_n 0, 1), (10, .aload_n 2, 1), (11, .putfield 15, 3), (14, .return_, 1)]
set_option maxRecDepth 100000 in
theorem dQ_init : ∀ q ∈ lQ_init, decode prog_7_method_1_code q.1 = .ok q.2 := by decide +kernel
def lQ_writeAll : List (Nat × Instr × Nat) := [(0, .aload_n 0, 1), (1, .bipush 8, 2), (3, .iload_n 2, 1), (4, .imul, 1), (5, .putfield 19, 3), (8, .aload_n 0, 1), (9, .iconst 0, 1), (10, .putfield 23, 3), (13, .aload_n 0, 1), (14, .iconst 0, 1), (15, .putfield 26, 3), (18, .aload_n 0, 1), (19, .aload_n 1, 1), (20, .iconst 0, 1), (21, .invokevirtual 30, 3), (24, .aload_n 0, 1), (25, .getfield 19, 3), (28, .bipush 8, 2), (30, .iload_n 2, 1), (31, .imul, 1), (32, .if_icmp .ne 10, 3), (35, .aload_n 0, 1), (36, .iconst 0, 1), (37, .bipush 8, 2), (39, .invokevirtual 34, 3), (42, .aload_n 0, 1), (43, .invokevirtual 38, 3), (46, .aload_n 0, 1), (47, .getfield 26, 3), (50, .ifCond .eq 7, 3), (53, .iconst (-1), 1), (54, .goto 9, 3), (57, .aload_n 0, 1), (58, .getfield 19, 3), (61, .iconst 3, 1), (62, .ishr, 1), (63, .ireturn, 1)]
set_option maxRecDepth 100000 in
theorem dQ_writeAll : ∀ q ∈ lQ_writeAll, decode prog_7_method_2_code q.1 = .ok q.2 := by decide +kernel
def lQ_writeValue : List (Nat × Instr × Nat) := [(0, .aload_n 1, 1), (1, .ifnull 23, 3), (4, .iload_n 2, 1), (5, .bipush 6, 2), (7, .if_icmp .ge 17, 3), (10, .aload_n 0, 1), (11, .getfield 23, 3), (14, .aload_n 0, 1), (15, .getfield 15, 3), (18, .getfield 41, 3), (21, .if_icmp .lt 9, 3), (24, .aload_n 0, 1), (25, .iconst 1, 1), (26, .putfield 26, 3), (29, .return_, 1), (30, .aload_n 1, 1), (31, .getfield 46, 3), (34, .bipush 10, 2), (36, .if_icmp .ne 15, 3), (39, .aload_n 0, 1), (40, .aload_n 1, 1), (41, .getfield 51, 3), (44, .iload_n 2, 1), (45, .iconst 1, 1), (46, .iadd, 1), (47, .invokevirtual 30, 3), (50, .return_, 1), (51, .aload_n 0, 1), (52, .getfield 23, 3), (55, .istore_n 3, 1), (56, .aload_n 0, 1), (57, .dup, 1), (58, .getfield 23, 3), (61, .iconst 1, 1), (62, .iadd, 1), (63, .putfield 23, 3), (66, .aload_n 0, 1), (67, .getfield 15, 3), (70, .getfield 55, 3), (73, .iload_n 3, 1), (74, .iaload, 1), (75, .istore 4, 2), (77, .aload_n 1, 1), (78, .getfield 46, 3), (81, .tableswitch 112 1 9 #[51, 61, 112, 71, 112, 80, 90, 112, 101], 51), (132, .aload_n 0, 1), (133, .iload 4, 2), (135, .iconst 1, 1), (136, .invokevirtual 34, 3), (139, .goto 54, 3), (142, .aload_n 0, 1), (143, .aload_n 1, 1), (144, .iload 4, 2), (146, .invokevirtual 58, 3), (149, .goto 44, 3), (152, .aload_n 0, 1), (153, .aload_n 1, 1), (154, .iload_n 3, 1), (155, .invokevirtual 61, 3), (158, .goto 35, 3), (161, .aload_n 0, 1), (162, .aload_n 1, 1), (163, .iload_n 3, 1), (164, .iload_n 2, 1), (165, .invokevirtual 64, 3), (168, .goto 25, 3), (171, .aload_n 0, 1), (172, .aload_n 1, 1), (173, .iload 4, 2), (175, .iload_n 2, 1), (176, .invokevirtual 68, 3), (179, .goto 14, 3), (182, .aload_n 0, 1), (183, .aload_n 1, 1), (184, .iload 4, 2), (186, .iload_n 2, 1), (187, .invokevirtual 71, 3), (190, .goto 3, 3), (193, .return_, 1)]
set_option maxRecDepth 100000 in
theorem dQ_writeValue : ∀ q ∈ lQ_writeValue, decode prog_7_method_3_code q.1 = .ok q.2 := by decide +kernel
def lQ_writeInteger : List (Nat × Instr × Nat) := [(0, .aload_n 1, 1), (1, .getfield 74, 3), (4, .ifCond .eq 23, 3), (7, .aload_n 0, 1), (8, .iload_n 2, 1), (9, .aload_n 1, 1), (10, .getfield 77, 3), (13, .isub, 1), (14, .aload_n 1, 1), (15, .getfield 80, 3), (18, .aload_n 1, 1), (19, .getfield 77, 3), (22, .isub, 1), (23, .invokevirtual 83, 3), (26, .return_, 1), (27, .iload_n 2, 1), (28, .invokestatic 86, 3), (31, .istore_n 3, 1), (32, .aload_n 0, 1), (33, .invokevirtual 38, 3), (36, .aload_n 0, 1), (37, .iload_n 3, 1), (38, .bipush 8, 2), (40, .invokevirtual 34, 3), (43, .aload_n 0, 1), (44, .iload_n 2, 1), (45, .bipush 8, 2), (47, .iload_n 3, 1), (48, .imul, 1), (49, .invokevirtual 34, 3), (52, .return_, 1)]
set_option maxRecDepth 100000 in
theorem dQ_writeInteger : ∀ q ∈ lQ_writeInteger, decode prog_7_method_4_code q.1 = .ok q.2 := by decide +kernel
def lQ_writeOctets : List (Nat × Instr × Nat) := [(0, .aload_n 0, 1), (1, .aload_n 1, 1), (2, .aload_n 0, 1), (3, .getfield 15, 3), (6, .getfield 55, 3), (9, .iload_n 2, 1), (10, .iaload, 1), (11, .invokevirtual 92, 3), (14, .aload_n 0, 1), (15, .getfield 15, 3), (18, .getfield 55, 3), (21, .iload_n 2, 1), (22, .iaload, 1), (23, .ifCond .le 14, 3), (26, .aload_n 1, 1), (27, .invokevirtual 95, 3), (30, .ifCond .eq 7, 3), (33, .aload_n 0, 1), (34, .invokevirtual 38, 3), (37, .iconst 0, 1), (38, .istore_n 3, 1), (39, .iload_n 3, 1), (40, .aload_n 0, 1), (41, .getfield 15, 3), (44, .getfield 55, 3), (47, .iload_n 2, 1), (48, .iaload, 1), (49, .if_icmp .ge 24, 3), (52, .aload_n 0, 1), (53, .aload_n 0, 1), (54, .getfield 15, 3), (57, .iload_n 2, 1), (58, .iload_n 3, 1), (59, .invokevirtual 99, 3), (62, .bipush 8, 2), (64, .invokevirtual 34, 3), (67, .iinc 3 1, 3), (70, .goto (-31), 3), (73, .return_, 1)]
set_option maxRecDepth 100000 in
theorem dQ_writeOctets : ∀ q ∈ lQ_writeOctets, decode prog_7_method_5_code q.1 = .ok q.2 := by decide +kernel
end
section
/-! DECODE: each method's instructions, by place -/
def lQ_writeComponents : List (Nat × Instr × Nat) := [(0, .aload_n 1, 1), (1, .getfield 103, 3), (4, .astore 4, 2), (6, .aload 4, 2), (8, .ifnull 44, 3), (11, .aload 4, 2), (13, .getfield 107, 3), (16, .ifCond .eq 26, 3), (19, .aload_n 0, 1), (20, .aload_n 0, 1), (21, .getfield 15, 3), (24, .iload_n 2, 1), (25, .aload 4, 2), (27, .invokevirtual 112, 3), (30, .ifCond .eq 7, 3), (33, .iconst 1, 1), (34, .goto 4, 3), (37, .iconst 0, 1), (38, .iconst 1, 1), (39, .invokevirtual 34, 3), (42, .aload 4, 2), (44, .getfield 116, 3), (47, .astore 4, 2), (49, .goto (-43), 3), (52, .aload_n 1, 1), (53, .getfield 103, 3), (56, .astore 4, 2), (58, .aload 4, 2), (60, .ifnull 60, 3), (63, .aload_n 0, 1), (64, .getfield 15, 3), (67, .iload_n 2, 1), (68, .aload 4, 2), (70, .invokevirtual 112, 3), (73, .ifCond .eq 18, 3), (76, .aload_n 0, 1), (77, .aload 4, 2), (79, .getfield 119, 3), (82, .iload_n 3, 1), (83, .iconst 1, 1), (84, .iadd, 1), (85, .invokevirtual 30, 3), (88, .goto 22, 3), (91, .aload 4, 2), (93, .getfield 107, 3), (96, .iconst 2, 1), (97, .if_icmp .ne 13, 3), (100, .aload_n 0, 1), (101, .dup, 1), (102, .getfield 23, 3), (105, .iconst 1, 1), (106, .iadd, 1), (107, .putfield 23, 3), (110, .aload 4, 2), (112, .getfield 116, 3), (115, .astore 4, 2), (117, .goto (-59), 3), (120, .return_, 1)]
set_option maxRecDepth 100000 in
theorem dQ_writeComponents : ∀ q ∈ lQ_writeComponents, decode prog_7_method_6_code q.1 = .ok q.2 := by decide +kernel
def lQ_writeItems : List (Nat × Instr × Nat) := [(0, .aload_n 0, 1), (1, .aload_n 1, 1), (2, .iload_n 2, 1), (3, .invokevirtual 92, 3), (6, .iconst 0, 1), (7, .istore 4, 2), (9, .iload 4, 2), (11, .iload_n 2, 1), (12, .if_icmp .ge 20, 3), (15, .aload_n 0, 1), (16, .aload_n 1, 1), (17, .getfield 51, 3), (20, .iload_n 3, 1), (21, .iconst 1, 1), (22, .iadd, 1), (23, .invokevirtual 30, 3), (26, .iinc 4 1, 3), (29, .goto (-20), 3), (32, .return_, 1)]
set_option maxRecDepth 100000 in
theorem dQ_writeItems : ∀ q ∈ lQ_writeItems, decode prog_7_method_7_code q.1 = .ok q.2 := by decide +kernel
def lQ_writeChoice : List (Nat × Instr × Nat) := [(0, .aload_n 1, 1), (1, .iload_n 2, 1), (2, .invokevirtual 122, 3), (5, .astore 4, 2), (7, .aload 4, 2), (9, .ifnull 30, 3), (12, .aload_n 0, 1), (13, .aload 4, 2), (15, .getfield 126, 3), (18, .aload_n 1, 1), (19, .getfield 129, 3), (22, .iconst 1, 1), (23, .isub, 1), (24, .invokevirtual 83, 3), (27, .aload_n 0, 1), (28, .aload 4, 2), (30, .getfield 119, 3), (33, .iload_n 3, 1), (34, .iconst 1, 1), (35, .iadd, 1), (36, .invokevirtual 30, 3), (39, .return_, 1)]
set_option maxRecDepth 100000 in
theorem dQ_writeChoice : ∀ q ∈ lQ_writeChoice, decode prog_7_method_8_code q.1 = .ok q.2 := by decide +kernel
def lQ_appendCount : List (Nat × Instr × Nat) := [(0, .aload_n 1, 1), (1, .getfield 74, 3), (4, .ifCond .eq 23, 3), (7, .aload_n 0, 1), (8, .iload_n 2, 1), (9, .aload_n 1, 1), (10, .getfield 77, 3), (13, .isub, 1), (14, .aload_n 1, 1), (15, .getfield 80, 3), (18, .aload_n 1, 1), (19, .getfield 77, 3), (22, .isub, 1), (23, .invokevirtual 83, 3), (26, .return_, 1), (27, .aload_n 0, 1), (28, .invokevirtual 38, 3), (31, .aload_n 0, 1), (32, .iload_n 2, 1), (33, .bipush 8, 2), (35, .invokevirtual 34, 3), (38, .return_, 1)]
set_option maxRecDepth 100000 in
theorem dQ_appendCount : ∀ q ∈ lQ_appendCount, decode prog_7_method_9_code q.1 = .ok q.2 := by decide +kernel
def lQ_appendNumber : List (Nat × Instr × Nat) := [(0, .iload_n 2, 1), (1, .sipush 255, 3), (4, .if_icmp .lt 7, 3), (7, .aload_n 0, 1), (8, .invokevirtual 38, 3), (11, .aload_n 0, 1), (12, .iload_n 1, 1), (13, .iload_n 2, 1), (14, .invokestatic 132, 3), (17, .invokevirtual 34, 3), (20, .return_, 1)]
set_option maxRecDepth 100000 in
theorem dQ_appendNumber : ∀ q ∈ lQ_appendNumber, decode prog_7_method_10_code q.1 = .ok q.2 := by decide +kernel
def lQ_appendBits : List (Nat × Instr × Nat) := [(0, .aload_n 0, 1), (1, .getfield 19, 3), (4, .iload_n 2, 1), (5, .iadd, 1), (6, .bipush 8, 2), (8, .aload_n 0, 1), (9, .getfield 9, 3), (12, .arraylength, 1), (13, .imul, 1), (14, .if_icmp .le 9, 3), (17, .aload_n 0, 1), (18, .iconst 1, 1), (19, .putfield 26, 3), (22, .return_, 1), (23, .iload_n 2, 1), (24, .iconst 1, 1), (25, .isub, 1), (26, .istore_n 3, 1), (27, .iload_n 3, 1), (28, .ifCond .lt 72, 3), (31, .bipush 7, 2), (33, .aload_n 0, 1), (34, .getfield 19, 3), (37, .bipush 7, 2), (39, .iand, 1), (40, .isub, 1), (41, .istore 4, 2), (43, .iload 4, 2), (45, .bipush 7, 2), (47, .if_icmp .ne 15, 3), (50, .aload_n 0, 1), (51, .getfield 9, 3), (54, .aload_n 0, 1), (55, .getfield 19, 3), (58, .iconst 3, 1), (59, .ishr, 1), (60, .iconst 0, 1), (61, .iastore, 1), (62, .aload_n 0, 1), (63, .getfield 9, 3), (66, .aload_n 0, 1), (67, .getfield 19, 3), (70, .iconst 3, 1), (71, .ishr, 1), (72, .dup2, 1), (73, .iaload, 1), (74, .iload_n 1, 1), (75, .iload_n 3, 1), (76, .ishr, 1), (77, .iconst 1, 1), (78, .iand, 1), (79, .iload 4, 2), (81, .ishl, 1), (82, .ior, 1), (83, .iastore, 1), (84, .aload_n 0, 1), (85, .dup, 1), (86, .getfield 19, 3), (89, .iconst 1, 1), (90, .iadd, 1), (91, .putfield 19, 3), (94, .iinc 3 (-1), 3), (97, .goto (-70), 3), (100, .return_, 1)]
set_option maxRecDepth 100000 in
theorem dQ_appendBits : ∀ q ∈ lQ_appendBits, decode prog_7_method_11_code q.1 = .ok q.2 := by decide +kernel
def lQ_align : List (Nat × Instr × Nat) := [(0, .aload_n 0, 1), (1, .aload_n 0, 1), (2, .getfield 19, 3), (5, .bipush 7, 2), (7, .iadd, 1), (8, .bipush (-8), 2), (10, .iand, 1), (11, .putfield 19, 3), (14, .return_, 1)]
set_option maxRecDepth 100000 in
theorem dQ_align : ∀ q ∈ lQ_align, decode prog_7_method_12_code q.1 = .ok q.2 := by decide +kernel
def lS_init : List (Nat × Instr × Nat) := [(0, .aload_n 0, 1), (1, .invokespecial 3, 3), (4, .aload_n 0, 1), (5, .aload_n 1, 1), (6, .putfield 9, 3), (9, .aload_n 0, 1), (10, .aload_n 2, 1), (11, .putfield 15, 3), (14, .return_, 1)]
set_option maxRecDepth 100000 in
theorem dS_init : ∀ q ∈ lS_init, decode prog_8_method_1_code q.1 = .ok q.2 := by decide +kernel
def lS_writeAll : List (Nat × Instr × Nat) := [(0, .aload_n 0, 1), (1, .iload_n 2, 1), (2, .putfield 19, 3), (5, .aload_n 0, 1), (6, .iconst 0, 1), (7, .putfield 23, 3), (10, .aload_n 0, 1), (11, .iconst 0, 1), (12, .putfield 26, 3), (15, .aload_n 0, 1), (16, .aload_n 1, 1), (17, .iconst (-1), 1), (18, .iconst 0, 1), (19, .invokevirtual 30, 3), (22, .aload_n 0, 1), (23, .getfield 26, 3), (26, .ifCond .eq 7, 3), (29, .iconst (-1), 1), (30, .goto 7, 3), (33, .aload_n 0, 1), (34, .getfield 19, 3), (37, .ireturn, 1)]
set_option maxRecDepth 100000 in
theorem dS_writeAll : ∀ q ∈ lS_writeAll, decode prog_8_method_2_code q.1 = .ok q.2 := by decide +kernel
def lS_writeElement : List (Nat × Instr × Nat) := [(0, .aload_n 1, 1), (1, .ifnull 23, 3), (4, .iload_n 3, 1), (5, .bipush 6, 2), (7, .if_icmp .ge 17, 3), (10, .aload_n 0, 1), (11, .getfield 23, 3), (14, .aload_n 0, 1), (15, .getfield 15, 3), (18, .getfield 34, 3), (21, .if_icmp .lt 9, 3), (24, .aload_n 0, 1), (25, .iconst 1, 1), (26, .putfield 26, 3), (29, .return_, 1), (30, .aload_n 1, 1), (31, .getfield 39, 3), (34, .bipush 9, 2), (36, .if_icmp .ne 12, 3), (39, .aload_n 0, 1), (40, .aload_n 1, 1), (41, .iload_n 3, 1), (42, .invokevirtual 44, 3), (45, .goto 101, 3), (48, .aload_n 1, 1), (49, .getfield 39, 3), (52, .bipush 10, 2), (54, .if_icmp .eq 29, 3), (57, .aload_n 0, 1), (58, .aload_n 1, 1), (59, .iload_n 2, 1), (60, .invokevirtual 48, 3), (63, .invokevirtual 52, 3), (66, .istore 4, 2), (68, .aload_n 0, 1), (69, .aload_n 1, 1), (70, .iload_n 3, 1), (71, .invokevirtual 55, 3), (74, .aload_n 0, 1), (75, .iload 4, 2), (77, .invokevirtual 58, 3), (80, .goto 66, 3), (83, .aload_n 1, 1), (84, .getfield 62, 3), (87, .ifCond .eq 35, 3), (90, .aload_n 0, 1), (91, .aload_n 1, 1), (92, .iload_n 2, 1), (93, .invokevirtual 48, 3), (96, .invokevirtual 52, 3), (99, .istore 4, 2), (101, .aload_n 0, 1), (102, .aload_n 1, 1), (103, .getfield 65, 3), (106, .iconst (-1), 1), (107, .iload_n 3, 1), (108, .iconst 1, 1), (109, .iadd, 1), (110, .invokevirtual 30, 3), (113, .aload_n 0, 1), (114, .iload 4, 2), (116, .invokevirtual 58, 3), (119, .goto 27, 3), (122, .aload_n 0, 1), (123, .aload_n 1, 1), (124, .getfield 65, 3), (127, .iload_n 2, 1), (128, .iconst (-1), 1), (129, .if_icmp .ne 10, 3), (132, .aload_n 1, 1), (133, .getfield 69, 3), (136, .goto 4, 3), (139, .iload_n 2, 1), (140, .iload_n 3, 1), (141, .iconst 1, 1), (142, .iadd, 1), (143, .invokevirtual 30, 3), (146, .return_, 1)]
set_option maxRecDepth 100000 in
theorem dS_writeElement : ∀ q ∈ lS_writeElement, decode prog_8_method_3_code q.1 = .ok q.2 := by decide +kernel
def lS_writeChoice : List (Nat × Instr × Nat) := [(0, .aload_n 1, 1), (1, .aload_n 0, 1), (2, .getfield 15, 3), (5, .getfield 72, 3), (8, .aload_n 0, 1), (9, .getfield 23, 3), (12, .iaload, 1), (13, .invokevirtual 75, 3), (16, .astore_n 3, 1), (17, .aload_n 0, 1), (18, .dup, 1), (19, .getfield 23, 3), (22, .iconst 1, 1), (23, .iadd, 1), (24, .putfield 23, 3), (27, .aload_n 3, 1), (28, .ifnull 15, 3), (31, .aload_n 0, 1), (32, .aload_n 3, 1), (33, .getfield 79, 3), (36, .iconst (-1), 1), (37, .iload_n 2, 1), (38, .iconst 1, 1), (39, .iadd, 1), (40, .invokevirtual 30, 3), (43, .return_, 1)]
set_option maxRecDepth 100000 in
theorem dS_writeChoice : ∀ q ∈ lS_writeChoice, decode prog_8_method_4_code q.1 = .ok q.2 := by decide +kernel
def lS_writeContent : List (Nat × Instr × Nat) := [(0, .aload_n 0, 1), (1, .getfield 23, 3), (4, .istore_n 3, 1), (5, .aload_n 0, 1), (6, .dup, 1), (7, .getfield 23, 3), (10, .iconst 1, 1), (11, .iadd, 1), (12, .putfield 23, 3), (15, .aload_n 1, 1), (16, .getfield 39, 3), (19, .tableswitch 171 1 7 #[41, 67, 171, 83, 171, 123, 133], 41), (60, .aload_n 0, 1), (61, .aload_n 0, 1), (62, .getfield 15, 3), (65, .getfield 72, 3), (68, .iload_n 3, 1), (69, .iaload, 1), (70, .ifCond .ne 7, 3), (73, .iconst 0, 1), (74, .goto 6, 3), (77, .sipush 255, 3), (80, .invokevirtual 84, 3), (83, .goto 107, 3), (86, .aload_n 0, 1), (87, .aload_n 0, 1), (88, .getfield 15, 3), (91, .getfield 72, 3), (94, .iload_n 3, 1), (95, .iaload, 1), (96, .invokevirtual 87, 3), (99, .goto 91, 3), (102, .iconst 0, 1), (103, .istore 4, 2), (105, .iload 4, 2), (107, .aload_n 0, 1), (108, .getfield 15, 3), (111, .getfield 72, 3), (114, .iload_n 3, 1), (115, .iaload, 1), (116, .if_icmp .ge 23, 3), (119, .aload_n 0, 1), (120, .aload_n 0, 1), (121, .getfield 15, 3), (124, .iload_n 3, 1), (125, .iload 4, 2), (127, .invokevirtual 90, 3), (130, .invokevirtual 84, 3), (133, .iinc 4 1, 3), (136, .goto (-31), 3), (139, .goto 51, 3), (142, .aload_n 0, 1), (143, .aload_n 1, 1), (144, .iload_n 3, 1), (145, .iload_n 2, 1), (146, .invokevirtual 94, 3), (149, .goto 41, 3), (152, .iconst 0, 1), (153, .istore 4, 2), (155, .iload 4, 2), (157, .aload_n 0, 1), (158, .getfield 15, 3), (161, .getfield 72, 3), (164, .iload_n 3, 1), (165, .iaload, 1), (166, .if_icmp .ge 21, 3), (169, .aload_n 0, 1), (170, .aload_n 1, 1), (171, .getfield 65, 3), (174, .iconst (-1), 1), (175, .iload_n 2, 1), (176, .iconst 1, 1), (177, .iadd, 1), (178, .invokevirtual 30, 3), (181, .iinc 4 1, 3), (184, .goto (-29), 3), (187, .goto 3, 3), (190, .return_, 1)]
set_option maxRecDepth 100000 in
theorem dS_writeContent : ∀ q ∈ lS_writeContent, decode prog_8_method_5_code q.1 = .ok q.2 := by decide +kernel
def lS_writeInteger : List (Nat × Instr × Nat) := [(0, .bipush 8, 2), (2, .iload_n 1, 1), (3, .invokestatic 97, 3), (6, .iconst 1, 1), (7, .isub, 1), (8, .imul, 1), (9, .istore_n 2, 1), (10, .iload_n 2, 1), (11, .ifCond .lt 20, 3), (14, .aload_n 0, 1), (15, .iload_n 1, 1), (16, .iload_n 2, 1), (17, .ishr, 1), (18, .sipush 255, 3), (21, .iand, 1), (22, .invokevirtual 84, 3), (25, .iinc 2 (-8), 3), (28, .goto (-18), 3), (31, .return_, 1)]
set_option maxRecDepth 100000 in
theorem dS_writeInteger : ∀ q ∈ lS_writeInteger, decode prog_8_method_6_code q.1 = .ok q.2 := by decide +kernel
def lS_writeComponents : List (Nat × Instr × Nat) := [(0, .aload_n 1, 1), (1, .getfield 102, 3), (4, .astore 4, 2), (6, .aload 4, 2), (8, .ifnull 61, 3), (11, .aload_n 0, 1), (12, .getfield 15, 3), (15, .iload_n 2, 1), (16, .aload 4, 2), (18, .invokevirtual 106, 3), (21, .ifCond .eq 19, 3), (24, .aload_n 0, 1), (25, .aload 4, 2), (27, .getfield 79, 3), (30, .iconst (-1), 1), (31, .iload_n 3, 1), (32, .iconst 1, 1), (33, .iadd, 1), (34, .invokevirtual 30, 3), (37, .goto 22, 3), (40, .aload 4, 2), (42, .getfield 110, 3), (45, .iconst 2, 1), (46, .if_icmp .ne 13, 3), (49, .aload_n 0, 1), (50, .dup, 1), (51, .getfield 23, 3), (54, .iconst 1, 1), (55, .iadd, 1), (56, .putfield 23, 3), (59, .aload 4, 2), (61, .getfield 113, 3), (64, .astore 4, 2), (66, .goto (-60), 3), (69, .return_, 1)]
set_option maxRecDepth 100000 in
theorem dS_writeComponents : ∀ q ∈ lS_writeComponents, decode prog_8_method_7_code q.1 = .ok q.2 := by decide +kernel
def lS_beginElement : List (Nat × Instr × Nat) := [(0, .aload_n 0, 1), (1, .iload_n 1, 1), (2, .invokevirtual 84, 3), (5, .aload_n 0, 1), (6, .iconst 0, 1), (7, .invokevirtual 84, 3), (10, .aload_n 0, 1), (11, .getfield 19, 3), (14, .ireturn, 1)]
set_option maxRecDepth 100000 in
theorem dS_beginElement : ∀ q ∈ lS_beginElement, decode prog_8_method_8_code q.1 = .ok q.2 := by decide +kernel
def lS_endElement : List (Nat × Instr × Nat) := [(0, .aload_n 0, 1), (1, .getfield 26, 3), (4, .ifCond .ne 17, 3), (7, .aload_n 0, 1), (8, .getfield 9, 3), (11, .iload_n 1, 1), (12, .iconst 1, 1), (13, .isub, 1), (14, .aload_n 0, 1), (15, .getfield 19, 3), (18, .iload_n 1, 1), (19, .isub, 1), (20, .iastore, 1), (21, .return_, 1)]
set_option maxRecDepth 100000 in
theorem dS_endElement : ∀ q ∈ lS_endElement, decode prog_8_method_9_code q.1 = .ok q.2 := by decide +kernel
def lS_append : List (Nat × Instr × Nat) := [(0, .aload_n 0, 1), (1, .getfield 19, 3), (4, .aload_n 0, 1), (5, .getfield 9, 3), (8, .arraylength, 1), (9, .if_icmp .lt 9, 3), (12, .aload_n 0, 1), (13, .iconst 1, 1), (14, .putfield 26, 3), (17, .return_, 1), (18, .aload_n 0, 1), (19, .getfield 9, 3), (22, .aload_n 0, 1), (23, .getfield 19, 3), (26, .iload_n 1, 1), (27, .iastore, 1), (28, .aload_n 0, 1), (29, .dup, 1), (30, .getfield 19, 3), (33, .iconst 1, 1), (34, .iadd, 1), (35, .putfield 19, 3), (38, .return_, 1)]
set_option maxRecDepth 100000 in
theorem dS_append : ∀ q ∈ lS_append, decode prog_8_method_10_code q.1 = .ok q.2 := by decide +kernel
def lT_init : List (Nat × Instr × Nat) := [(0, .aload_n 0, 1), (1, .invokespecial 3, 3), (4, .return_, 1)]
set_option maxRecDepth 100000 in
theorem dT_init : ∀ q ∈ lT_init, decode prog_9_method_1_code q.1 = .ok q.2 := by decide +kernel
def lT_begin : List (Nat × Instr × Nat) := [(0, .aload_n 0, 1), (1, .iload_n 1, 1), (2, .putfield 9, 3), (5, .aload_n 0, 1), (6, .iconst 0, 1), (7, .putfield 15, 3), (10, .aload_n 0, 1), (11, .iconst 0, 1), (12, .putfield 19, 3), (15, .aload_n 0, 1), (16, .iconst 0, 1), (17, .putfield 22, 3), (20, .aload_n 0, 1), (21, .iconst 0, 1), (22, .putfield 25, 3), (25, .aload_n 0, 1), (26, .iconst 0, 1), (27, .putfield 28, 3), (30, .aload_n 0, 1), (31, .iload_n 1, 1), (32, .invokestatic 31, 3), (35, .putfield 35, 3), (38, .aload_n 0, 1), (39, .iconst 0, 1), (40, .putfield 38, 3), (43, .aload_n 0, 1), (44, .iconst 0, 1), (45, .putfield 41, 3), (48, .aload_n 0, 1), (49, .aconst_null, 1), (50, .putfield 44, 3), (53, .aload_n 0, 1), (54, .aconst_null, 1), (55, .putfield 48, 3), (58, .aload_n 0, 1), (59, .aconst_null, 1), (60, .putfield 52, 3), (63, .return_, 1)]
set_option maxRecDepth 100000 in
theorem dT_begin : ∀ q ∈ lT_begin, decode prog_9_method_2_code q.1 = .ok q.2 := by decide +kernel
def lT_tagsOf : List (Nat × Instr × Nat) := [(0, .iload_n 0, 1), (1, .tableswitch 50 1 7 #[43, 43, 50, 43, 43, 47, 47], 43), (44, .iconst 1, 1), (45, .iload_n 0, 1), (46, .ishl, 1), (47, .ireturn, 1), (48, .ldc 55, 2), (50, .ireturn, 1), (51, .iconst 0, 1), (52, .ireturn, 1)]
set_option maxRecDepth 100000 in
theorem dT_tagsOf : ∀ q ∈ lT_tagsOf, decode prog_9_method_3_code q.1 = .ok q.2 := by decide +kernel
def lT_beginTag : List (Nat × Instr × Nat) := [(0, .aload_n 0, 1), (1, .bipush 10, 2), (3, .invokevirtual 56, 3), (6, .aload_n 0, 1), (7, .iload_n 1, 1), (8, .putfield 25, 3), (11, .aload_n 0, 1), (12, .iload_n 2, 1), (13, .putfield 28, 3), (16, .aload_n 0, 1), (17, .iconst 1, 1), (18, .bipush 17, 2), (20, .iload_n 1, 1), (21, .iadd, 1), (22, .ishl, 1), (23, .putfield 35, 3), (26, .return_, 1)]
set_option maxRecDepth 100000 in
theorem dT_beginTag : ∀ q ∈ lT_beginTag, decode prog_9_method_4_code q.1 = .ok q.2 := by decide +kernel
def lT_addMember : List (Nat × Instr × Nat) := [(0, .aload_n 1, 1), (1, .aload_n 0, 1), (2, .getfield 41, 3), (5, .putfield 60, 3), (8, .aload_n 0, 1), (9, .dup, 1), (10, .getfield 41, 3), (13, .iconst 1, 1), (14, .iadd, 1), (15, .putfield 41, 3), (18, .aload_n 0, 1), (19, .getfield 52, 3), (22, .ifnonnull 11, 3), (25, .aload_n 0, 1), (26, .aload_n 1, 1), (27, .putfield 48, 3), (30, .goto 11, 3), (33, .aload_n 0, 1), (34, .getfield 52, 3), (37, .aload_n 1, 1), (38, .putfield 65, 3), (41, .aload_n 0, 1), (42, .aload_n 1, 1), (43, .putfield 52, 3), (46, .return_, 1)]
set_option maxRecDepth 100000 in
theorem dT_addMember : ∀ q ∈ lT_addMember, decode prog_9_method_5_code q.1 = .ok q.2 := by decide +kernel
def lT_allows : List (Nat × Instr × Nat) := [(0, .aload_n 0, 1), (1, .getfield 15, 3), (4, .ifCond .eq 19, 3), (7, .iload_n 1, 1), (8, .aload_n 0, 1), (9, .getfield 19, 3), (12, .if_icmp .lt 15, 3), (15, .iload_n 1, 1), (16, .aload_n 0, 1), (17, .getfield 22, 3), (20, .if_icmp .gt 7, 3), (23, .iconst 1, 1), (24, .goto 4, 3), (27, .iconst 0, 1), (28, .ireturn, 1)]
set_option maxRecDepth 100000 in
theorem dT_allows : ∀ q ∈ lT_allows, decode prog_9_method_6_code q.1 = .ok q.2 := by decide +kernel
def lT_untagged : List (Nat × Instr × Nat) := [(0, .aload_n 0, 1), (1, .astore_n 1, 1), (2, .iconst 0, 1), (3, .istore_n 2, 1), (4, .iload_n 2, 1), (5, .bipush 6, 2), (7, .if_icmp .ge 30, 3), (10, .aload_n 1, 1), (11, .getfield 9, 3), (14, .bipush 10, 2), (16, .if_icmp .ne 21, 3), (19, .aload_n 1, 1), (20, .getfield 44, 3), (23, .ifnull 14, 3), (26, .aload_n 1, 1), (27, .getfield 44, 3), (30, .astore_n 1, 1), (31, .iinc 2 1, 3), (34, .goto (-30), 3), (37, .aload_n 1, 1), (38, .areturn, 1)]
set_option maxRecDepth 100000 in
theorem dT_untagged : ∀ q ∈ lT_untagged, decode prog_9_method_7_code q.1 = .ok q.2 := by decide +kernel
def lT_tagByte : List (Nat × Instr × Nat) := [(0, .aload_n 0, 1), (1, .getfield 9, 3), (4, .bipush 6, 2), (6, .if_icmp .eq 21, 3), (9, .aload_n 0, 1), (10, .getfield 9, 3), (13, .bipush 7, 2), (15, .if_icmp .eq 12, 3), (18, .aload_n 0, 1), (19, .getfield 9, 3), (22, .bipush 10, 2), (24, .if_icmp .ne 7, 3), (27, .iconst 1, 1), (28, .goto 4, 3), (31, .iconst 0, 1), (32, .istore_n 2, 1), (33, .iload_n 1, 1), (34, .iconst (-1), 1), (35, .if_icmp .eq 19, 3), (38, .iload_n 2, 1), (39, .ifCond .eq 9, 3), (42, .sipush 160, 3), (45, .goto 6, 3), (48, .sipush 128, 3), (51, .iload_n 1, 1), (52, .iadd, 1), (53, .ireturn, 1), (54, .aload_n 0, 1), (55, .getfield 9, 3), (58, .bipush 10, 2), (60, .if_icmp .ne 12, 3), (63, .sipush 160, 3), (66, .aload_n 0, 1), (67, .getfield 25, 3), (70, .iadd, 1), (71, .ireturn, 1), (72, .iload_n 2, 1), (73, .ifCond .eq 8, 3), (76, .bipush 48, 2), (78, .goto 7, 3), (81, .aload_n 0, 1), (82, .getfield 9, 3), (85, .ireturn, 1)]
set_option maxRecDepth 100000 in
theorem dT_tagByte : ∀ q ∈ lT_tagByte, decode prog_9_method_8_code q.1 = .ok q.2 := by decide +kernel
def lT_memberAt : List (Nat × Instr × Nat) := [(0, .aload_n 0, 1), (1, .getfield 48, 3), (4, .astore_n 2, 1), (5, .aload_n 2, 1), (6, .ifnull 21, 3), (9, .aload_n 2, 1), (10, .getfield 60, 3), (13, .iload_n 1, 1), (14, .if_icmp .ne 5, 3), (17, .aload_n 2, 1), (18, .areturn, 1), (19, .aload_n 2, 1), (20, .getfield 65, 3), (23, .astore_n 2, 1), (24, .goto (-19), 3), (27, .aconst_null, 1), (28, .areturn, 1)]
set_option maxRecDepth 100000 in
theorem dT_memberAt : ∀ q ∈ lT_memberAt, decode prog_9_method_9_code q.1 = .ok q.2 := by decide +kernel
def lT_memberRanked : List (Nat × Instr × Nat) := [(0, .aload_n 0, 1), (1, .getfield 48, 3), (4, .astore_n 2, 1), (5, .aload_n 2, 1), (6, .ifnull 21, 3), (9, .aload_n 2, 1), (10, .getfield 68, 3), (13, .iload_n 1, 1), (14, .if_icmp .ne 5, 3), (17, .aload_n 2, 1), (18, .areturn, 1), (19, .aload_n 2, 1), (20, .getfield 65, 3), (23, .astore_n 2, 1), (24, .goto (-19), 3), (27, .aconst_null, 1), (28, .areturn, 1)]
set_option maxRecDepth 100000 in
theorem dT_memberRanked : ∀ q ∈ lT_memberRanked, decode prog_9_method_10_code q.1 = .ok q.2 := by decide +kernel
def lT_memberWithTag : List (Nat × Instr × Nat) := [(0, .aload_n 0, 1), (1, .getfield 48, 3), (4, .astore_n 2, 1), (5, .aload_n 2, 1), (6, .ifnull 22, 3), (9, .aload_n 2, 1), (10, .invokevirtual 71, 3), (13, .iload_n 1, 1), (14, .iand, 1), (15, .ifCond .eq 5, 3), (18, .aload_n 2, 1), (19, .areturn, 1), (20, .aload_n 2, 1), (21, .getfield 65, 3), (24, .astore_n 2, 1), (25, .goto (-20), 3), (28, .aconst_null, 1), (29, .areturn, 1)]
set_option maxRecDepth 100000 in
theorem dT_memberWithTag : ∀ q ∈ lT_memberWithTag, decode prog_9_method_11_code q.1 = .ok q.2 := by decide +kernel
def lT_isAlignedOctets : List (Nat × Instr × Nat) := [(0, .aload_n 0, 1), (1, .getfield 15, 3), (4, .ifCond .eq 22, 3), (7, .aload_n 0, 1), (8, .getfield 19, 3), (11, .aload_n 0, 1), (12, .getfield 22, 3), (15, .if_icmp .ne 11, 3), (18, .aload_n 0, 1), (19, .getfield 22, 3), (22, .iconst 2, 1), (23, .if_icmp .le 7, 3), (26, .iconst 1, 1), (27, .goto 4, 3), (30, .iconst 0, 1), (31, .ireturn, 1)]
set_option maxRecDepth 100000 in
theorem dT_isAlignedOctets : ∀ q ∈ lT_isAlignedOctets, decode prog_9_method_12_code q.1 = .ok q.2 := by decide +kernel
def lV_init : List (Nat × Instr × Nat) := [(0, .aload_n 0, 1), (1, .invokespecial 3, 3), (4, .aload_n 0, 1), (5, .bipush 100, 2), (7, .newarray .int, 2), (9, .putfield 9, 3), (12, .aload_n 0, 1), (13, .bipush 100, 2), (15, .newarray .int, 2), (17, .putfield 15, 3), (20, .aload_n 0, 1), (21, .bipush 100, 2), (23, .newarray .int, 2), (25, .putfield 18, 3), (28, .aload_n 0, 1), (29, .bipush 100, 2), (31, .newarray .int, 2), (33, .putfield 21, 3), (36, .aload_n 0, 1), (37, .bipush 100, 2), (39, .newarray .int, 2), (41, .putfield 24, 3), (44, .aload_n 0, 1), (45, .bipush 100, 2), (47, .newarray .int, 2), (49, .putfield 27, 3), (52, .aload_n 0, 1), (53, .bipush 120, 2), (55, .newarray .int, 2), (57, .putfield 30, 3), (60, .return_, 1)]
set_option maxRecDepth 100000 in
theorem dV_init : ∀ q ∈ lV_init, decode prog_10_method_1_code q.1 = .ok q.2 := by decide +kernel
def lV_empty : List (Nat × Instr × Nat) := [(0, .aload_n 0, 1), (1, .iconst 0, 1), (2, .putfield 33, 3), (5, .aload_n 0, 1), (6, .iconst 0, 1), (7, .putfield 37, 3), (10, .return_, 1)]
set_option maxRecDepth 100000 in
theorem dV_empty : ∀ q ∈ lV_empty, decode prog_10_method_2_code q.1 = .ok q.2 := by decide +kernel
def lV_copyOf : List (Nat × Instr × Nat) := [(0, .aload_n 0, 1), (1, .aload_n 1, 1), (2, .getfield 33, 3), (5, .putfield 33, 3), (8, .aload_n 0, 1), (9, .aload_n 1, 1), (10, .getfield 37, 3), (13, .putfield 37, 3), (16, .aload_n 1, 1), (17, .getfield 9, 3), (20, .iconst 0, 1), (21, .aload_n 0, 1), (22, .getfield 9, 3), (25, .iconst 0, 1), (26, .aload_n 0, 1), (27, .getfield 33, 3), (30, .invokestatic 40, 3), (33, .aload_n 1, 1), (34, .getfield 15, 3), (37, .iconst 0, 1), (38, .aload_n 0, 1), (39, .getfield 15, 3), (42, .iconst 0, 1), (43, .aload_n 0, 1), (44, .getfield 33, 3), (47, .invokestatic 40, 3), (50, .aload_n 1, 1), (51, .getfield 18, 3), (54, .iconst 0, 1), (55, .aload_n 0, 1), (56, .getfield 18, 3), (59, .iconst 0, 1), (60, .aload_n 0, 1), (61, .getfield 33, 3), (64, .invokestatic 40, 3), (67, .aload_n 1, 1), (68, .getfield 21, 3), (71, .iconst 0, 1), (72, .aload_n 0, 1), (73, .getfield 21, 3), (76, .iconst 0, 1), (77, .aload_n 0, 1), (78, .getfield 33, 3), (81, .invokestatic 40, 3), (84, .aload_n 1, 1), (85, .getfield 24, 3), (88, .iconst 0, 1), (89, .aload_n 0, 1), (90, .getfield 24, 3), (93, .iconst 0, 1), (94, .aload_n 0, 1), (95, .getfield 33, 3), (98, .invokestatic 40, 3), (101, .aload_n 1, 1), (102, .getfield 30, 3), (105, .iconst 0, 1), (106, .aload_n 0, 1), (107, .getfield 30, 3), (110, .iconst 0, 1), (111, .aload_n 0, 1), (112, .getfield 37, 3), (115, .invokestatic 40, 3), (118, .return_, 1)]
set_option maxRecDepth 100000 in
theorem dV_copyOf : ∀ q ∈ lV_copyOf, decode prog_10_method_3_code q.1 = .ok q.2 := by decide +kernel
def lV_addPart : List (Nat × Instr × Nat) := [(0, .aload_n 0, 1), (1, .getfield 33, 3), (4, .bipush 100, 2), (6, .if_icmp .lt 5, 3), (9, .iconst (-1), 1), (10, .ireturn, 1), (11, .aload_n 0, 1), (12, .getfield 33, 3), (15, .istore 4, 2), (17, .aload_n 0, 1), (18, .dup, 1), (19, .getfield 33, 3), (22, .iconst 1, 1), (23, .iadd, 1), (24, .putfield 33, 3), (27, .aload_n 0, 1), (28, .getfield 9, 3), (31, .iload 4, 2), (33, .iload_n 1, 1), (34, .iastore, 1), (35, .aload_n 0, 1), (36, .getfield 15, 3), (39, .iload 4, 2), (41, .iconst 0, 1), (42, .iastore, 1), (43, .aload_n 0, 1), (44, .getfield 18, 3), (47, .iload 4, 2), (49, .iload_n 3, 1), (50, .iastore, 1), (51, .aload_n 0, 1), (52, .getfield 21, 3), (55, .iload 4, 2), (57, .iload_n 2, 1), (58, .iastore, 1), (59, .aload_n 0, 1), (60, .getfield 24, 3), (63, .iload 4, 2), (65, .aload_n 0, 1), (66, .getfield 37, 3), (69, .iastore, 1), (70, .aload_n 0, 1), (71, .getfield 27, 3), (74, .iload 4, 2), (76, .iconst 0, 1), (77, .iastore, 1), (78, .iload 4, 2), (80, .ireturn, 1)]
set_option maxRecDepth 100000 in
theorem dV_addPart : ∀ q ∈ lV_addPart, decode prog_10_method_4_code q.1 = .ok q.2 := by decide +kernel
def lV_addOctet : List (Nat × Instr × Nat) := [(0, .aload_n 0, 1), (1, .getfield 37, 3), (4, .aload_n 0, 1), (5, .getfield 30, 3), (8, .arraylength, 1), (9, .if_icmp .lt 5, 3), (12, .iconst 0, 1), (13, .ireturn, 1), (14, .aload_n 0, 1), (15, .getfield 30, 3), (18, .aload_n 0, 1), (19, .getfield 37, 3), (22, .iload_n 2, 1), (23, .iastore, 1), (24, .aload_n 0, 1), (25, .dup, 1), (26, .getfield 37, 3), (29, .iconst 1, 1), (30, .iadd, 1), (31, .putfield 37, 3), (34, .aload_n 0, 1), (35, .getfield 15, 3), (38, .iload_n 1, 1), (39, .dup2, 1), (40, .iaload, 1), (41, .iconst 1, 1), (42, .iadd, 1), (43, .iastore, 1), (44, .iconst 1, 1), (45, .ireturn, 1)]
set_option maxRecDepth 100000 in
theorem dV_addOctet : ∀ q ∈ lV_addOctet, decode prog_10_method_5_code q.1 = .ok q.2 := by decide +kernel
def lV_octetAt : List (Nat × Instr × Nat) := [(0, .iload_n 1, 1), (1, .ifCond .lt 35, 3), (4, .iload_n 1, 1), (5, .aload_n 0, 1), (6, .getfield 33, 3), (9, .if_icmp .ge 27, 3), (12, .aload_n 0, 1), (13, .getfield 9, 3), (16, .iload_n 1, 1), (17, .iaload, 1), (18, .iconst 4, 1), (19, .if_icmp .ne 17, 3), (22, .iload_n 2, 1), (23, .ifCond .lt 13, 3), (26, .iload_n 2, 1), (27, .aload_n 0, 1), (28, .getfield 15, 3), (31, .iload_n 1, 1), (32, .iaload, 1), (33, .if_icmp .lt 5, 3), (36, .iconst (-1), 1), (37, .ireturn, 1), (38, .aload_n 0, 1), (39, .getfield 30, 3), (42, .aload_n 0, 1), (43, .getfield 24, 3), (46, .iload_n 1, 1), (47, .iaload, 1), (48, .iload_n 2, 1), (49, .iadd, 1), (50, .iaload, 1), (51, .ireturn, 1)]
set_option maxRecDepth 100000 in
theorem dV_octetAt : ∀ q ∈ lV_octetAt, decode prog_10_method_6_code q.1 = .ok q.2 := by decide +kernel
def lV_takeComponent : List (Nat × Instr × Nat) := [(0, .aload_n 0, 1), (1, .getfield 15, 3), (4, .iload_n 2, 1), (5, .dup2, 1), (6, .iaload, 1), (7, .iconst 1, 1), (8, .iadd, 1), (9, .iastore, 1), (10, .aload_n 1, 1), (11, .getfield 46, 3), (14, .iconst 2, 1), (15, .if_icmp .ne 35, 3), (18, .iload_n 3, 1), (19, .aload_n 0, 1), (20, .getfield 33, 3), (23, .if_icmp .ge 27, 3), (26, .aload_n 0, 1), (27, .getfield 15, 3), (30, .iload_n 3, 1), (31, .iaload, 1), (32, .aload_n 1, 1), (33, .getfield 51, 3), (36, .if_icmp .ne 14, 3), (39, .iload 4, 2), (41, .ifCond .ne 7, 3), (44, .iconst 1, 1), (45, .goto 4, 3), (48, .iconst 0, 1), (49, .ireturn, 1), (50, .aload_n 0, 1), (51, .getfield 27, 3), (54, .iload_n 2, 1), (55, .dup2, 1), (56, .iaload, 1), (57, .iconst 1, 1), (58, .aload_n 1, 1), (59, .getfield 53, 3), (62, .ishl, 1), (63, .ior, 1), (64, .iastore, 1), (65, .iconst 1, 1), (66, .ireturn, 1)]
set_option maxRecDepth 100000 in
theorem dV_takeComponent : ∀ q ∈ lV_takeComponent, decode prog_10_method_7_code q.1 = .ok q.2 := by decide +kernel
def lV_leaveOutComponent : List (Nat × Instr × Nat) := [(0, .aload_n 1, 1), (1, .getfield 46, 3), (4, .iconst 2, 1), (5, .if_icmp .ne 10, 3), (8, .aload_n 1, 1), (9, .getfield 56, 3), (12, .ifnonnull 17, 3), (15, .aload_n 1, 1), (16, .getfield 46, 3), (19, .iconst 1, 1), (20, .if_icmp .ne 7, 3), (23, .iconst 1, 1), (24, .goto 4, 3), (27, .iconst 0, 1), (28, .ireturn, 1), (29, .aload_n 0, 1), (30, .aload_n 1, 1), (31, .getfield 56, 3), (34, .invokevirtual 60, 3), (37, .getfield 66, 3), (40, .iload_n 2, 1), (41, .aload_n 1, 1), (42, .getfield 53, 3), (45, .invokevirtual 68, 3), (48, .istore_n 3, 1), (49, .iload_n 3, 1), (50, .iconst (-1), 1), (51, .if_icmp .ne 5, 3), (54, .iconst 0, 1), (55, .ireturn, 1), (56, .aload_n 0, 1), (57, .getfield 15, 3), (60, .iload_n 3, 1), (61, .aload_n 1, 1), (62, .getfield 51, 3), (65, .iastore, 1), (66, .aload_n 0, 1), (67, .getfield 15, 3), (70, .iload_n 2, 1), (71, .dup2, 1), (72, .iaload, 1), (73, .iconst 1, 1), (74, .iadd, 1), (75, .iastore, 1), (76, .iconst 1, 1), (77, .ireturn, 1)]
set_option maxRecDepth 100000 in
theorem dV_leaveOutComponent : ∀ q ∈ lV_leaveOutComponent, decode prog_10_method_8_code q.1 = .ok q.2 := by decide +kernel
def lV_shows : List (Nat × Instr × Nat) := [(0, .aload_n 0, 1), (1, .getfield 27, 3), (4, .iload_n 1, 1), (5, .iaload, 1), (6, .aload_n 2, 1), (7, .getfield 53, 3), (10, .ishr, 1), (11, .iconst 1, 1), (12, .iand, 1), (13, .ifCond .eq 7, 3), (16, .iconst 1, 1), (17, .goto 4, 3), (20, .iconst 0, 1), (21, .ireturn, 1)]
set_option maxRecDepth 100000 in
theorem dV_shows : ∀ q ∈ lV_shows, decode prog_10_method_9_code q.1 = .ok q.2 := by decide +kernel
def lL_at : List (Nat × Instr × Nat) := [(0, .aload_n 2, 1), (1, .iconst 0, 1), (2, .aload_n 0, 1), (3, .iload_n 1, 1), (4, .invokevirtual 7, 3), (7, .i2l, 1), (8, .lastore, 1), (9, .goto 6, 3), (12, .astore_n 3, 1), (13, .iconst 1, 1), (14, .ireturn, 1), (15, .iconst 0, 1), (16, .ireturn, 1)]
set_option maxRecDepth 100000 in
theorem dL_at : ∀ q ∈ lL_at, decode method_3_code q.1 = .ok q.2 := by decide +kernel
def lL_transcode : List (Nat × Instr × Nat) := [(0, .aload 4, 2), (2, .iconst 0, 1), (3, .aload_n 0, 1), (4, .iload_n 1, 1), (5, .iload_n 2, 1), (6, .iload_n 3, 1), (7, .invokevirtual 15, 3), (10, .i2l, 1), (11, .lastore, 1), (12, .goto 19, 3), (15, .astore 5, 2), (17, .iconst 1, 1), (18, .ireturn, 1), (19, .astore 5, 2), (21, .iconst 2, 1), (22, .ireturn, 1), (23, .astore 5, 2), (25, .iconst 3, 1), (26, .ireturn, 1), (27, .astore 5, 2), (29, .iconst 4, 1), (30, .ireturn, 1), (31, .iconst 0, 1), (32, .ireturn, 1)]
set_option maxRecDepth 100000 in
theorem dL_transcode : ∀ q ∈ lL_transcode, decode method_4_code q.1 = .ok q.2 := by decide +kernel
def lL_part : List (Nat × Instr × Nat) := [(0, .aload_n 3, 1), (1, .iconst 0, 1), (2, .aload_n 0, 1), (3, .iload_n 1, 1), (4, .iload_n 2, 1), (5, .invokevirtual 27, 3), (8, .i2l, 1), (9, .lastore, 1), (10, .goto 11, 3), (13, .astore 4, 2), (15, .iconst 1, 1), (16, .ireturn, 1), (17, .astore 4, 2), (19, .iconst 2, 1), (20, .ireturn, 1), (21, .iconst 0, 1), (22, .ireturn, 1)]
set_option maxRecDepth 100000 in
theorem dL_part : ∀ q ∈ lL_part, decode method_5_code q.1 = .ok q.2 := by decide +kernel
def lL_octet : List (Nat × Instr × Nat) := [(0, .aload_n 3, 1), (1, .iconst 0, 1), (2, .aload_n 0, 1), (3, .iload_n 1, 1), (4, .iload_n 2, 1), (5, .invokevirtual 31, 3), (8, .i2l, 1), (9, .lastore, 1), (10, .goto 7, 3), (13, .astore 4, 2), (15, .iconst 1, 1), (16, .ireturn, 1), (17, .iconst 0, 1), (18, .ireturn, 1)]
set_option maxRecDepth 100000 in
theorem dL_octet : ∀ q ∈ lL_octet, decode method_6_code q.1 = .ok q.2 := by decide +kernel
def lL_operation : List (Nat × Instr × Nat) := [(0, .aload_n 0, 1), (1, .iload_n 1, 1), (2, .iload_n 2, 1), (3, .iload_n 3, 1), (4, .iload 4, 2), (6, .invokevirtual 34, 3), (9, .goto 15, 3), (12, .astore 5, 2), (14, .iconst 1, 1), (15, .ireturn, 1), (16, .astore 5, 2), (18, .iconst 2, 1), (19, .ireturn, 1), (20, .astore 5, 2), (22, .iconst 3, 1), (23, .ireturn, 1), (24, .iconst 0, 1), (25, .ireturn, 1)]
set_option maxRecDepth 100000 in
theorem dL_operation : ∀ q ∈ lL_operation, decode method_7_code q.1 = .ok q.2 := by decide +kernel
def lL_serve : List (Nat × Instr × Nat) := [(0, .aload_n 1, 1), (1, .iconst 0, 1), (2, .aload_n 0, 1), (3, .invokevirtual 38, 3), (6, .i2l, 1), (7, .lastore, 1), (8, .goto 6, 3), (11, .astore_n 2, 1), (12, .iconst 1, 1), (13, .ireturn, 1), (14, .iconst 0, 1), (15, .ireturn, 1)]
set_option maxRecDepth 100000 in
theorem dL_serve : ∀ q ∈ lL_serve, decode method_8_code q.1 = .ok q.2 := by decide +kernel
def lL_law : List (Nat × Instr × Nat) := [(0, .new 8, 3), (3, .dup, 1), (4, .invokespecial 42, 3), (7, .astore_n 1, 1), (8, .new 43, 3), (11, .dup, 1), (12, .invokespecial 45, 3), (15, .astore_n 2, 1), (16, .iconst 1, 1), (17, .newarray .long, 2), (19, .astore_n 3, 1), (20, .iconst 0, 1), (21, .istore 4, 2), (23, .iload 4, 2), (25, .aload_n 0, 1), (26, .arraylength, 1), (27, .iconst 5, 1), (28, .isub, 1), (29, .if_icmp .gt 617, 3), (32, .aload_n 0, 1), (33, .iload 4, 2), (35, .iaload, 1), (36, .bipush 15, 2), (38, .iand, 1), (39, .tableswitch 601 0 11 #[61, 88, 101, 114, 183, 196, 252, 334, 347, 415, 483, 557], 61), (100, .aload_n 1, 1), (101, .aload_n 0, 1), (102, .iload 4, 2), (104, .iconst 1, 1), (105, .iadd, 1), (106, .iaload, 1), (107, .i2c, 1), (108, .invokevirtual 46, 3), (111, .aload_n 2, 1), (112, .aload_n 0, 1), (113, .iload 4, 2), (115, .iconst 1, 1), (116, .iadd, 1), (117, .iaload, 1), (118, .i2c, 1), (119, .invokevirtual 50, 3), (122, .if_icmp .eq 518, 3), (125, .iconst 0, 1), (126, .ireturn, 1), (127, .aload_n 1, 1), (128, .invokevirtual 51, 3), (131, .aload_n 2, 1), (132, .invokevirtual 54, 3), (135, .if_icmp .eq 505, 3), (138, .iconst 0, 1), (139, .ireturn, 1), (140, .aload_n 1, 1), (141, .invokevirtual 55, 3), (144, .aload_n 2, 1), (145, .invokevirtual 58, 3), (148, .if_icmp .eq 492, 3), (151, .iconst 0, 1), (152, .ireturn, 1), (153, .aload_n 1, 1), (154, .aload_n 0, 1), (155, .iload 4, 2), (157, .iconst 1, 1), (158, .iadd, 1), (159, .iaload, 1), (160, .i2l, 1), (161, .bipush 32, 2), (163, .lshl, 1), (164, .aload_n 0, 1), (165, .iload 4, 2), (167, .iconst 2, 1), (168, .iadd, 1), (169, .iaload, 1), (170, .i2l, 1), (171, .ldc2_w 59, 3), (174, .land, 1), (175, .lor, 1), (176, .aload_n 0, 1), (177, .iload 4, 2), (179, .iconst 3, 1), (180, .iadd, 1), (181, .iaload, 1), (182, .invokevirtual 61, 3), (185, .aload_n 2, 1), (186, .aload_n 0, 1), (187, .iload 4, 2), (189, .iconst 1, 1), (190, .iadd, 1), (191, .iaload, 1), (192, .i2l, 1), (193, .bipush 32, 2), (195, .lshl, 1), (196, .aload_n 0, 1), (197, .iload 4, 2), (199, .iconst 2, 1), (200, .iadd, 1), (201, .iaload, 1), (202, .i2l, 1), (203, .ldc2_w 59, 3), (206, .land, 1), (207, .lor, 1), (208, .aload_n 0, 1), (209, .iload 4, 2), (211, .iconst 3, 1), (212, .iadd, 1), (213, .iaload, 1), (214, .invokevirtual 65, 3), (217, .if_icmp .eq 423, 3), (220, .iconst 0, 1), (221, .ireturn, 1), (222, .aload_n 1, 1), (223, .invokevirtual 66, 3), (226, .aload_n 2, 1), (227, .invokevirtual 69, 3), (230, .if_icmp .eq 410, 3), (233, .iconst 0, 1), (234, .ireturn, 1), (235, .aload_n 1, 1), (236, .aload_n 0, 1), (237, .iload 4, 2), (239, .iconst 1, 1), (240, .iadd, 1), (241, .iaload, 1), (242, .aload_n 3, 1), (243, .invokestatic 70, 3), (246, .istore 5, 2), (248, .aload_n 2, 1), (249, .aload_n 0, 1), (250, .iload 4, 2), (252, .iconst 1, 1), (253, .iadd, 1), (254, .iaload, 1), (255, .invokevirtual 75, 3), (258, .istore 6, 2), (260, .aload_n 2, 1), (261, .invokevirtual 76, 3), (264, .iload 5, 2), (266, .if_icmp .eq 5, 3), (269, .iconst 0, 1), (270, .ireturn, 1), (271, .iload 5, 2), (273, .ifCond .ne 15, 3), (276, .aload_n 3, 1), (277, .iconst 0, 1), (278, .laload, 1), (279, .iload 6, 2), (281, .i2l, 1), (282, .lcmp, 1), (283, .ifCond .eq 5, 3), (286, .iconst 0, 1), (287, .ireturn, 1), (288, .goto 352, 3), (291, .aload_n 1, 1), (292, .aload_n 0, 1), (293, .iload 4, 2), (295, .iconst 1, 1), (296, .iadd, 1), (297, .iaload, 1), (298, .i2c, 1), (299, .aload_n 0, 1), (300, .iload 4, 2), (302, .iconst 2, 1), (303, .iadd, 1), (304, .iaload, 1), (305, .aload_n 0, 1), (306, .iload 4, 2), (308, .iconst 3, 1), (309, .iadd, 1), (310, .iaload, 1), (311, .aload_n 3, 1), (312, .invokestatic 79, 3), (315, .istore 5, 2), (317, .aload_n 2, 1), (318, .aload_n 0, 1), (319, .iload 4, 2), (321, .iconst 1, 1), (322, .iadd, 1), (323, .iaload, 1), (324, .i2c, 1), (325, .aload_n 0, 1), (326, .iload 4, 2), (328, .iconst 2, 1), (329, .iadd, 1), (330, .iaload, 1), (331, .aload_n 0, 1), (332, .iload 4, 2), (334, .iconst 3, 1), (335, .iadd, 1), (336, .iaload, 1), (337, .invokevirtual 82, 3), (340, .istore 6, 2), (342, .aload_n 2, 1), (343, .invokevirtual 76, 3), (346, .iload 5, 2), (348, .if_icmp .eq 5, 3), (351, .iconst 0, 1), (352, .ireturn, 1), (353, .iload 5, 2), (355, .ifCond .ne 15, 3), (358, .aload_n 3, 1), (359, .iconst 0, 1), (360, .laload, 1), (361, .iload 6, 2), (363, .i2l, 1), (364, .lcmp, 1), (365, .ifCond .eq 5, 3), (368, .iconst 0, 1), (369, .ireturn, 1), (370, .goto 270, 3), (373, .aload_n 1, 1), (374, .invokevirtual 83, 3), (377, .aload_n 2, 1), (378, .invokevirtual 86, 3), (381, .if_icmp .eq 259, 3), (384, .iconst 0, 1), (385, .ireturn, 1), (386, .aload_n 1, 1), (387, .aload_n 0, 1), (388, .iload 4, 2), (390, .iconst 1, 1), (391, .iadd, 1), (392, .iaload, 1), (393, .aload_n 0, 1), (394, .iload 4, 2), (396, .iconst 2, 1), (397, .iadd, 1), (398, .iaload, 1), (399, .aload_n 3, 1), (400, .invokestatic 87, 3), (403, .istore 5, 2), (405, .aload_n 2, 1), (406, .aload_n 0, 1), (407, .iload 4, 2), (409, .iconst 1, 1), (410, .iadd, 1), (411, .iaload, 1), (412, .aload_n 0, 1), (413, .iload 4, 2), (415, .iconst 2, 1), (416, .iadd, 1), (417, .iaload, 1), (418, .invokevirtual 90, 3), (421, .istore 6, 2), (423, .aload_n 2, 1), (424, .invokevirtual 76, 3), (427, .iload 5, 2), (429, .if_icmp .eq 5, 3), (432, .iconst 0, 1), (433, .ireturn, 1), (434, .iload 5, 2), (436, .ifCond .ne 15, 3), (439, .aload_n 3, 1), (440, .iconst 0, 1), (441, .laload, 1), (442, .iload 6, 2), (444, .i2l, 1), (445, .lcmp, 1), (446, .ifCond .eq 5, 3), (449, .iconst 0, 1), (450, .ireturn, 1), (451, .goto 189, 3), (454, .aload_n 1, 1), (455, .aload_n 0, 1), (456, .iload 4, 2), (458, .iconst 1, 1), (459, .iadd, 1), (460, .iaload, 1), (461, .aload_n 0, 1), (462, .iload 4, 2), (464, .iconst 2, 1), (465, .iadd, 1), (466, .iaload, 1), (467, .aload_n 3, 1), (468, .invokestatic 91, 3), (471, .istore 5, 2), (473, .aload_n 2, 1), (474, .aload_n 0, 1), (475, .iload 4, 2), (477, .iconst 1, 1), (478, .iadd, 1), (479, .iaload, 1), (480, .aload_n 0, 1), (481, .iload 4, 2), (483, .iconst 2, 1), (484, .iadd, 1), (485, .iaload, 1), (486, .invokevirtual 93, 3), (489, .istore 6, 2), (491, .aload_n 2, 1), (492, .invokevirtual 76, 3), (495, .iload 5, 2), (497, .if_icmp .eq 5, 3), (500, .iconst 0, 1), (501, .ireturn, 1), (502, .iload 5, 2), (504, .ifCond .ne 15, 3), (507, .aload_n 3, 1), (508, .iconst 0, 1), (509, .laload, 1), (510, .iload 6, 2), (512, .i2l, 1), (513, .lcmp, 1), (514, .ifCond .eq 5, 3), (517, .iconst 0, 1), (518, .ireturn, 1), (519, .goto 121, 3), (522, .aload_n 1, 1), (523, .aload_n 0, 1), (524, .iload 4, 2), (526, .iconst 1, 1), (527, .iadd, 1), (528, .iaload, 1), (529, .aload_n 0, 1), (530, .iload 4, 2), (532, .iconst 2, 1), (533, .iadd, 1), (534, .iaload, 1), (535, .i2c, 1), (536, .aload_n 0, 1), (537, .iload 4, 2), (539, .iconst 3, 1), (540, .iadd, 1), (541, .iaload, 1), (542, .aload_n 0, 1), (543, .iload 4, 2), (545, .iconst 4, 1), (546, .iadd, 1), (547, .iaload, 1), (548, .invokestatic 94, 3), (551, .istore 5, 2), (553, .aload_n 2, 1), (554, .aload_n 0, 1), (555, .iload 4, 2), (557, .iconst 1, 1), (558, .iadd, 1), (559, .iaload, 1), (560, .aload_n 0, 1), (561, .iload 4, 2), (563, .iconst 2, 1), (564, .iadd, 1), (565, .iaload, 1), (566, .i2c, 1), (567, .aload_n 0, 1), (568, .iload 4, 2), (570, .iconst 3, 1), (571, .iadd, 1), (572, .iaload, 1), (573, .aload_n 0, 1), (574, .iload 4, 2), (576, .iconst 4, 1), (577, .iadd, 1), (578, .iaload, 1), (579, .invokevirtual 97, 3), (582, .aload_n 2, 1), (583, .invokevirtual 76, 3), (586, .iload 5, 2), (588, .if_icmp .eq 5, 3), (591, .iconst 0, 1), (592, .ireturn, 1), (593, .goto 47, 3), (596, .aload_n 1, 1), (597, .aload_n 3, 1), (598, .invokestatic 98, 3), (601, .istore 5, 2), (603, .aload_n 2, 1), (604, .invokevirtual 101, 3), (607, .istore 6, 2), (609, .aload_n 2, 1), (610, .invokevirtual 76, 3), (613, .iload 5, 2), (615, .if_icmp .eq 5, 3), (618, .iconst 0, 1), (619, .ireturn, 1), (620, .iload 5, 2), (622, .ifCond .ne 15, 3), (625, .aload_n 3, 1), (626, .iconst 0, 1), (627, .laload, 1), (628, .iload 6, 2), (630, .i2l, 1), (631, .lcmp, 1), (632, .ifCond .eq 5, 3), (635, .iconst 0, 1), (636, .ireturn, 1), (637, .goto 3, 3), (640, .iinc 4 5, 3), (643, .goto (-620), 3), (646, .iconst 1, 1), (647, .ireturn, 1)]
set_option maxRecDepth 100000 in
theorem dL_law : ∀ q ∈ lL_law, decode code q.1 = .ok q.2 := by decide +kernel
end
section
/-! WORDS: of classes, fields and methods, by their places in the tables -/
theorem uC : ∀ w ∈ u_ws "NotationDesk$Compiler" TC 10, w ∈ zCW := by
  have h : ∀ k, k < 10 → tables_1[([50, 52, 54, 56, 58, 60, 62, 64, 66, 68] : List Nat).getD k 0]? = some (u_lay "NotationDesk$Compiler" TC k) := by decide +kernel
  intro w hw
  obtain ⟨k, hk, rfl⟩ := List.mem_map.mp hw
  refine zin _ (h k (List.mem_range.mp hk)) ?_
  unfold u_lay
  split <;> rfl
theorem uK : ∀ w ∈ u_ws "NotationDesk$Component" TK 6, w ∈ zCW := by
  have h : ∀ k, k < 6 → tables_1[([466, 468, 470, 472, 474, 476] : List Nat).getD k 0]? = some (u_lay "NotationDesk$Component" TK k) := by decide +kernel
  intro w hw
  obtain ⟨k, hk, rfl⟩ := List.mem_map.mp hw
  refine zin _ (h k (List.mem_range.mp hk)) ?_
  unfold u_lay
  split <;> rfl
theorem uO : ∀ w ∈ u_ws "NotationDesk$OpenReader" TO 4, w ∈ zCW := by
  have h : ∀ k, k < 4 → tables_1[([130, 132, 134, 136] : List Nat).getD k 0]? = some (u_lay "NotationDesk$OpenReader" TO k) := by decide +kernel
  intro w hw
  obtain ⟨k, hk, rfl⟩ := List.mem_map.mp hw
  refine zin _ (h k (List.mem_range.mp hk)) ?_
  unfold u_lay
  split <;> rfl
theorem uP : ∀ w ∈ u_ws "NotationDesk$PackedReader" TP 4, w ∈ zCW := by
  have h : ∀ k, k < 4 → tables_1[([149, 151, 153, 155] : List Nat).getD k 0]? = some (u_lay "NotationDesk$PackedReader" TP k) := by decide +kernel
  intro w hw
  obtain ⟨k, hk, rfl⟩ := List.mem_map.mp hw
  refine zin _ (h k (List.mem_range.mp hk)) ?_
  unfold u_lay
  split <;> rfl
theorem uQ : ∀ w ∈ u_ws "NotationDesk$PackedWriter" TQ 5, w ∈ zCW := by
  have h : ∀ k, k < 5 → tables_1[([191, 193, 195, 197, 199] : List Nat).getD k 0]? = some (u_lay "NotationDesk$PackedWriter" TQ k) := by decide +kernel
  intro w hw
  obtain ⟨k, hk, rfl⟩ := List.mem_map.mp hw
  refine zin _ (h k (List.mem_range.mp hk)) ?_
  unfold u_lay
  split <;> rfl
theorem uS : ∀ w ∈ u_ws "NotationDesk$StrictWriter" TS 5, w ∈ zCW := by
  have h : ∀ k, k < 5 → tables_1[([169, 171, 173, 175, 177] : List Nat).getD k 0]? = some (u_lay "NotationDesk$StrictWriter" TS k) := by decide +kernel
  intro w hw
  obtain ⟨k, hk, rfl⟩ := List.mem_map.mp hw
  refine zin _ (h k (List.mem_range.mp hk)) ?_
  unfold u_lay
  split <;> rfl
theorem uT : ∀ w ∈ u_ws "NotationDesk$Type" TT 12, w ∈ zCW := by
  have h : ∀ k, k < 12 → tables_1[([369, 371, 373, 375, 377, 379, 381, 383, 385, 387, 389, 391] : List Nat).getD k 0]? = some (u_lay "NotationDesk$Type" TT k) := by decide +kernel
  intro w hw
  obtain ⟨k, hk, rfl⟩ := List.mem_map.mp hw
  refine zin _ (h k (List.mem_range.mp hk)) ?_
  unfold u_lay
  split <;> rfl
theorem uV : ∀ w ∈ u_ws "NotationDesk$Value" TV 9, w ∈ zCW := by
  have h : ∀ k, k < 9 → tables_1[([100, 102, 104, 106, 108, 110, 112, 114, 116] : List Nat).getD k 0]? = some (u_lay "NotationDesk$Value" TV k) := by decide +kernel
  intro w hw
  obtain ⟨k, hk, rfl⟩ := List.mem_map.mp hw
  refine zin _ (h k (List.mem_range.mp hk)) ?_
  unfold u_lay
  split <;> rfl
theorem uD : ∀ w ∈ u_ws "NotationDesk" TD 17, w ∈ zCW := by
  have h : ∀ k, k < 17 → tables_1[([220, 222, 224, 226, 228, 230, 232, 234, 236, 238, 240, 242, 244, 246, 248, 250, 252] : List Nat).getD k 0]? = some (u_lay "NotationDesk" TD k) := by decide +kernel
  intro w hw
  obtain ⟨k, hk, rfl⟩ := List.mem_map.mp hw
  refine zin _ (h k (List.mem_range.mp hk)) ?_
  unfold u_lay
  split <;> rfl
theorem uM : ∀ w ∈ u_ws "NotationDeskModel" TM 59, w ∈ zCW := by
  have h : ∀ k, k < 59 → tables_1[([1126, 1128, 1130, 1132, 1134, 1136, 1138, 1140, 1142, 1144, 1146, 1148, 1150, 1152, 1154, 1156, 1158, 1160, 1162, 1164, 1166, 1168, 1170, 1172, 1174, 1176, 1178, 1180, 1182, 1184, 1186, 1188, 1190, 1192, 1194, 1196, 1198, 1200, 1202, 1204, 1206, 1208, 1210, 1212, 1214, 1216, 1218, 1220, 1222, 1224, 1226, 1228, 1230, 1232, 1234, 1236, 1238, 1240, 1242] : List Nat).getD k 0]? = some (u_lay "NotationDeskModel" TM k) := by decide +kernel
  intro w hw
  obtain ⟨k, hk, rfl⟩ := List.mem_map.mp hw
  refine zin _ (h k (List.mem_range.mp hk)) ?_
  unfold u_lay
  split <;> rfl
end
section
/-! THE LAYER: a typed memory (zM) that a heap holds (z_ok); the kit's W with its context bundled and its room always tight (zG); the kit's Met bundled (zE). Over the tables zcl (classes), zkd (kinds of their fields), zAT (types of arrays), zCW (words). -/
/-- the slots of all cells -/
def zt (H : Heap) : Nat := H.foldl (fun n c => n + c.slots.size) 0
theorem zt_fold : ∀ (l : List Cell) (n : Nat), l.foldl (fun n c => n + c.slots.size) n = n + (l.map (fun c => c.slots.size)).sum := by
  intro l
  induction l with
  | nil => intro n; simp
  | cons a t ih =>
    intro n
    simp only [List.foldl_cons, List.map_cons, List.sum_cons]
    rw [ih]
    omega
theorem zt_eq (H : Heap) : zt H = (H.toList.map (fun c => c.slots.size)).sum := by
  unfold zt
  rw [← Array.foldl_toList, zt_fold]
  omega
theorem zt_push (H : Heap) (c : Cell) : zt (H.push c) = zt H + c.slots.size := by
  rw [zt_eq, zt_eq]
  simp
theorem zt_set {H H1 : Heap} {a : Nat} {c c1 : Cell} (h : H[a]? = some c) (h1 : H1[a]? = some c1) (hs : c1.slots.size = c.slots.size) (o : ∀ q : Nat, q ≠ a → H1[q]? = H[q]?) : zt H1 = zt H := by
  rw [zt_eq, zt_eq]
  congr 1
  apply List.ext_getElem?
  intro i
  rw [List.getElem?_map, List.getElem?_map, Array.getElem?_toList, Array.getElem?_toList]
  by_cases hi : i = a
  · subst hi
    rw [h, h1]
    simp [hs]
  · rw [o i hi]
theorem z_tight {p : Program} {l : Launch} {e : Env} {R : Room} {s : State} {m : MethodId} {args : Array Value} {below : List Frame} {meth : Method} {c : Code} {H : Heap} {locs : List Loc} {cells slots : Nat} {Q : State → Prop} {g : JFrame}
    (k : zt s.heap ≤ zt H → W p l e R s m args below meth c H locs (H.size - s.heap.size) (zt H - zt s.heap) Q g) : W p l e R s m args below meth c H locs cells slots Q g := by
  intro T hT X
  obtain ⟨h1, h2, h3, h4, h5, h6⟩ := X.same
  have hs : s.slotsTrue = true := by
    have h := X.room
    simp only [State.hasRoom, Bool.and_eq_true] at h
    exact h.2
  have hb := X.book
  have e1 : T.slotsUsed = zt T.heap := by
    simpa [State.slotsTrue, zt] using hb
  have e2 : s.slotsUsed = zt s.heap := by
    simpa [State.slotsTrue, zt] using hs
  have h2' : s.heap.size ≤ T.heap.size := h2
  have h4' : T.slotsUsed = s.slotsUsed + ((T.heap.toList.drop s.heap.size).map (·.slots.size)).sum := h4
  refine k (by rw [← hT]; omega) T hT { X with same := ?_ }
  refine ⟨h1, h2, ?_, h4, ?_, h6⟩
  · show T.heap.size ≤ s.heap.size + (H.size - s.heap.size)
    rw [← hT]
    omega
  · show ((T.heap.toList.drop s.heap.size).map (·.slots.size)).sum ≤ zt H - zt s.heap
    rw [← hT]
    omega
/-- typed memory: what a cell is (an object of a class; an array of a type, with its length), its ints, longs, references by place; how many cells and slots there are -/
abbrev zM : Type := (Nat → Option (Nat ⊕ Nat × Nat)) × (Nat → Nat → Int32) × (Nat → Nat → Int64) × (Nat → Nat → Option Nat) × Nat × Nat
def zsh (M : zM) : Nat → Option (Nat ⊕ Nat × Nat) := M.1
def zi (M : zM) : Nat → Nat → Int32 := M.2.1
def zl (M : zM) : Nat → Nat → Int64 := M.2.2.1
def zr (M : zM) : Nat → Nat → Option Nat := M.2.2.2.1
def zsz (M : zM) : Nat := M.2.2.2.2.1
def zsl (M : zM) : Nat := M.2.2.2.2.2
def zu {α : Type} (f : Nat → Nat → α) (a k : Nat) (v : α) : Nat → Nat → α := fun b => if b = a then (fun j => if j = k then v else f b j) else f b
theorem zu_self {α : Type} (f : Nat → Nat → α) (a k : Nat) (v : α) : zu f a k v a k = v := by simp [zu]
theorem zu_ne {α : Type} (f : Nat → Nat → α) {a b : Nat} (k : Nat) (v : α) (h : b ≠ a) : zu f a k v b = f b := by simp [zu, h]
theorem zu_at {α : Type} (f : Nat → Nat → α) (a k b j : Nat) (v : α) : zu f a k v b j = if b = a ∧ j = k then v else f b j := by
  unfold zu
  by_cases h : b = a <;> by_cases h2 : j = k <;> simp [h, h2]
def zpi (M : zM) (a k : Nat) (v : Int32) : zM := (M.1, zu M.2.1 a k v, M.2.2)
def zpl (M : zM) (a k : Nat) (v : Int64) : zM := (M.1, M.2.1, zu M.2.2.1 a k v, M.2.2.2)
def zpr (M : zM) (a k : Nat) (v : Option Nat) : zM := (M.1, M.2.1, M.2.2.1, zu M.2.2.2.1 a k v, M.2.2.2.2)
/-- a new cell, all of it 0 and null -/
def znew (M : zM) (sh : Nat ⊕ Nat × Nat) (n : Nat) : zM :=
  (fun a => if a = zsz M then some sh else zsh M a, fun a => if a = zsz M then (fun _ => 0) else zi M a, fun a => if a = zsz M then (fun _ => 0) else zl M a, fun a => if a = zsz M then (fun _ => none) else zr M a, zsz M + 1, zsl M + n)
/-- a field's value: kind 0 an int, 1 a reference, 2 a long -/
def zv (M : zM) (a k : Nat) (kd : Nat) : Value := match kd with
  | 0 => .int (zi M a k)
  | 1 => va_rf (zr M a k)
  | _ => .long (zl M a k)
def zfs (M : zM) (a : Nat) (ci : Nat) : List Value := (List.range (zkd ci).length).map (fun k => zv M a k ((zkd ci).getD k 0))
def zarr (M : zM) (a n : Nat) (ty : FieldType) : vp_A := match ty with
  | .long => (n, .inr (.inl (zl M a)))
  | .object _ => (n, .inr (.inr (.inr (.inr (zr M a)))))
  | _ => (n, .inl (zi M a))
def zcell (tys : List (ClassId × FieldType)) (M : zM) (a : Nat) (sh : Nat ⊕ Nat × Nat) : va_E := match sh with
  | .inl ci => .inr (ci, zfs M a ci)
  | .inr (t, n) => .inl ((tys.getD t (0, .int)).1, zarr M a n (tys.getD t (0, .int)).2)
/-- what is fixed: the launch, the tables' class numbers and slots, the array classes, the cells that may be written, the most cells and slots -/
abbrev zg : Type := Launch × va_G × List (ClassId × FieldType) × (Nat → Prop) × Nat × Nat × Nat × Nat × (Nat → Int32)
abbrev zg.l (g : zg) : Launch := g.1
abbrev zg.D (g : zg) : va_G := g.2.1
abbrev zg.tys (g : zg) : List (ClassId × FieldType) := g.2.2.1
abbrev zg.A (g : zg) : Nat → Prop := g.2.2.2.1
abbrev zg.KC (g : zg) : Nat := g.2.2.2.2.1
abbrev zg.KS (g : zg) : Nat := g.2.2.2.2.2.1
/-- the law's script: where it lies, how long it is, its ints -/
abbrev zg.sb (g : zg) : Nat := g.2.2.2.2.2.2.1
abbrev zg.sn (g : zg) : Nat := g.2.2.2.2.2.2.2.1
abbrev zg.sx (g : zg) : Nat → Int32 := g.2.2.2.2.2.2.2.2
/-- the heap H holds M -/
def z_ok (g : zg) (M : zM) (H : Heap) : Prop :=
  (H.size = zsz M ∧ zt H = zsl M ∧ zsz M ≤ g.KC ∧ zsl M ≤ g.KS) ∧ ∀ (a : Nat) (sh : Nat ⊕ Nat × Nat), zsh M a = some sh → g.A a ∧ va_at g.D zcl (a, zcell g.tys M a sh) H
/-- the exceptions that the desk throws, those above them, the texts; statics that making one reads -/
def zXN : List String := ["java/lang/IndexOutOfBoundsException", "java/lang/IllegalArgumentException", "java/lang/IllegalStateException", "java/util/NoSuchElementException", "java/lang/UnsupportedOperationException"]
def zXD : List MethodName := [Bundle.initS "java/lang/RuntimeException", Bundle.initS "java/lang/Exception", Bundle.initS Bundle.tN]
def zXL : List (String × String) := [("UNASSIGNED_STACK", Bundle.steD), ("SUPPRESSED_SENTINEL", Bundle.listD)]
def zXS : List (Nat × String) := [(105, "no such byte"), (116, "no such rules"), (121, "no module"), (130, "no such name"), (143, "too many bytes"), (157, "no such question"), (159, "no such part"), (177, "no such operation or rules")]
/-- a static reference of Throwable, as it lies; no cell that may be written -/
def zLS (A : Nat → Prop) (n d : String) (U : State) : Prop := ∃ (c : ClassId) (k : Class) (i : Nat) (f : Field) (a : Nat) (cell : Cell) (r : Option Nat), U.vm.findClass Bundle.tN = some c ∧ U.fieldFound? Bundle.tN n d = some (c, k, i, f) ∧ f.isStatic = true ∧ k.statics = some a ∧ U.heap[a]? = some cell ∧ cell.vm.isStatics = true ∧ cell.cls = c ∧ f.slot < cell.slots.size ∧ k.staticTypes[f.slot]? = some f.type ∧ cell.slots[f.slot]? = some (va_rf r) ∧ ¬ A a
theorem zLS_moved {A : Nat → Prop} {n d : String} {u U : State} (hW : u.WarmedH U.vm) (hq : ∀ q : Nat, q < u.heap.size → ¬ A q → U.heap[q]? = u.heap[q]?) (h : zLS A n d u) : zLS A n d U := by
  obtain ⟨c, k, i, f, a, cell, r, h1, h2, h3, h4, h5, h6, h7, h8, h9, h10, h11⟩ := h
  obtain ⟨k', hi', he⟩ := State.fieldFound?_setVm hW.alike h2
  exact ⟨c, k', i, f, a, cell, r, by rw [hW.alike.findClass]; exact h1, hi', h3, by rw [he]; exact h4, by rw [hq a (Array.getElem?_eq_some_iff.mp h5).1 h11]; exact h5, h6, h7, h8, by rw [he]; exact h9, h10, h11⟩
theorem zLS_lays {A : Nat → Prop} {n d : String} {U : State} (h : zLS A n d U) (args : Array Value) : (Cond.laysStatic Bundle.tN n d).before args U = true := by
  obtain ⟨c, k, i, f, a, cell, r, h1, h2, h3, h4, h5, h6, h7, h8, h9, h10, h11⟩ := h
  exact Cond.laysStatic_of h1 h2 h3 h4 h5 h6 h7 h8 h9
theorem zLS_ref {A : Nat → Prop} {n d : String} {U : State} (h : zLS A n d U) (args : Array Value) : (Cond.isRef (.static Bundle.tN n d)).before args U = true := by
  obtain ⟨c, k, i, f, a, cell, r, h1, h2, h3, h4, h5, h6, h7, h8, h9, h10, h11⟩ := h
  cases r <;> simp [Cond.before, Cond.holds, Cond.value, Term.eval, State.fieldNamed?, h2, h3, h4, h5, h6, h10, va_rf]
def zXP (A : Nat → Prop) (U : State) : Prop := (∀ C ∈ zXN, va_Nw (.castable C C) U) ∧ (∀ y ∈ zXD, va_Nw (.declares y) U) ∧ (∀ q ∈ zXS, ∃ a, vk_R "NotationDesk" q.1 q.2 a U) ∧ (∀ q ∈ zXL, zLS A q.1 q.2 U) ∧ ∀ C ∈ zXN, ∀ T ∈ zXN, C ≠ T → va_Nc C T U
theorem zXP_moved {A : Nat → Prop} {u U : State} (hW : u.WarmedH U.vm) (hq : ∀ q : Nat, q < u.heap.size → ¬ A q → U.heap[q]? = u.heap[q]?) (h : zXP A u) : zXP A U := by
  obtain ⟨h1, h2, h3, h4, h5⟩ := h
  refine ⟨fun C hC => va_Nw.warmC hW (h1 C hC), fun y hy => va_Nw.warmD hW (h2 y hy), fun q hz => ?_, fun q hz => zLS_moved hW hq (h4 q hz), fun C hC T hT hne => (h5 C hC T hT hne).moved hW.alike⟩
  obtain ⟨a, ha⟩ := h3 q hz
  exact ⟨a, ha.warm hW⟩
/-- where a method's handlers stand -/
def zhd (y : MethodName) : List (Nat × Nat × Nat × Nat) := if y.cls = "NotationDeskLaw" then if y.name = "at" then [(0, 9, 12, 13)] else if y.name = "transcode" then [(0, 12, 15, 19), (0, 12, 19, 21), (0, 12, 23, 23), (0, 12, 27, 25)] else if y.name = "part" then [(0, 10, 13, 19), (0, 10, 17, 23)] else if y.name = "octet" then [(0, 10, 13, 23)] else if y.name = "operation" then [(0, 9, 12, 19), (0, 9, 16, 21), (0, 9, 20, 23)] else if y.name = "serve" then [(0, 8, 11, 21)] else [] else []
/-- the tables, as a state has them -/
def z_K (g : zg) (U : State) : Prop := va_K g.D zcl g.tys U ∧ g.tys.map Prod.snd = zAT ∧ (∀ C, C ∈ zAO → va_AO C U) ∧ zXP g.A U ∧ va_X g.sb g.sn g.sx U U.heap ∧ g.sb < U.heap.size ∧ ¬ g.A g.sb
/-- how a method ends: with an answer; or a new exception of that class has been thrown -/
abbrev zR : Type := Option Value ⊕ String
def zout (r : zR) (o : Outcome) (t : State) : Prop := match r with
  | .inl v => o = .returned v
  | .inr C => ∃ (a : Addr) (ce : Cell) (k : Class), o = .threw a ∧ t.heap[a]? = some ce ∧ ce.vm = .none ∧ t.vm.findClass C = some ce.cls ∧ t.vm.classes[ce.cls]? = some k
/-- the context of a walk: the machine, the method's code, the words, the tables, the room for d calls inside each other, and that every end that post allows is what is wanted -/
def zctx (g : zg) (d : Nat) (y : zm) (post : zR → zM → Prop) (p : Program) (e : Env) (R : Room) (s : State) (m : MethodId) (args : Array Value) (below : List Frame) (meth : Method) (c : Code) (Q : State → Prop) : Prop :=
  (p.tables.exec = Jvm.exec ∧ c.code = y.2.1 ∧ c.maxLocals = y.2.2.1 ∧ s.vm.findClass y.1.cls = some m.cls ∧ (∀ w ∈ zCW, w.before args s = true) ∧ meth.locks = false ∧ meth.name = y.1.name ∧ meth.sig.returnType = y.2.2.2 ∧ c.exceptionTable.toList.map (fun h => (h.startPc, h.endPc, h.handlerPc, h.catchType)) = zhd y.1) ∧
  z_K g s ∧ (d ≤ R.frames ∧ 60 * d + 12 ≤ R.locals ∧ g.KC ≤ R.cells + s.heap.size ∧ g.KS ≤ R.slots + zt s.heap) ∧ (∀ q : Nat, s.heap.size ≤ q → g.A q) ∧
  ∀ (t : State) (o : Outcome) (r : zR) (M : zM) (L : List Loc), t.status = .running → Ended t below o → s.WarmedH t.vm → s.sameButNew ({ t with vm := s.vm } : State) L (t.heap.size - s.heap.size) (zt t.heap - zt s.heap) → (∀ q ∈ L, g.A q.base) → zout r o t → post r M → z_ok g M t.heap → va_F g.A s t → Q t
/-- the walk stands at pc, with the locals lv, the stack st, the memory M: it comes to an end that post allows -/
def zG (g : zg) (d : Nat) (y : zm) (post : zR → zM → Prop) (M : zM) (pc : Nat) (lv : List (Nat × Value)) (st : List Value) : Prop :=
  ∀ (p : Program) (e : Env) (R : Room) (s : State) (m : MethodId) (args : Array Value) (below : List Frame) (meth : Method) (c : Code) (Q : State → Prop) (H : Heap) (locs : List Loc) (ls : Array Slot),
    zctx g d y post p e R s m args below meth c Q → z_ok g M H → va_S g.A s.heap H locs → lv_has ls y.2.2.1 lv → zt s.heap ≤ zt H → W p g.l e R s m args below meth c H locs (H.size - s.heap.size) (zt H - zt s.heap) Q (F0 m pc ls st)
end
section
/-! rows: one an instruction kind -/
theorem zi_iadd {g : zg} {d : Nat} {y : zm} {post : zR → zM → Prop} {M : zM} {pc : Nat} {lv : List (Nat × Value)} {st : List Value} {x z : Int32} (hd : decode y.2.1 pc = .ok (.iadd, 1)) (k : zG g d y post M (pc + 1) lv (.int (x + z) :: st)) : zG g d y post M pc lv (.int z :: .int x :: st) := by
  intro p e R s m args below meth c Q H locs ls hc hM hS hl hz
  exact lv_iadd hc.1.1 hc.1.2.1 hd (k p e R s m args below meth c Q H locs ls hc hM hS hl hz)
theorem zi_isub {g : zg} {d : Nat} {y : zm} {post : zR → zM → Prop} {M : zM} {pc : Nat} {lv : List (Nat × Value)} {st : List Value} {x z : Int32} (hd : decode y.2.1 pc = .ok (.isub, 1)) (k : zG g d y post M (pc + 1) lv (.int (x - z) :: st)) : zG g d y post M pc lv (.int z :: .int x :: st) := by
  intro p e R s m args below meth c Q H locs ls hc hM hS hl hz
  exact lv_isub hc.1.1 hc.1.2.1 hd (k p e R s m args below meth c Q H locs ls hc hM hS hl hz)
theorem zi_imul {g : zg} {d : Nat} {y : zm} {post : zR → zM → Prop} {M : zM} {pc : Nat} {lv : List (Nat × Value)} {st : List Value} {x z : Int32} (hd : decode y.2.1 pc = .ok (.imul, 1)) (k : zG g d y post M (pc + 1) lv (.int (x * z) :: st)) : zG g d y post M pc lv (.int z :: .int x :: st) := by
  intro p e R s m args below meth c Q H locs ls hc hM hS hl hz
  exact lv_imul hc.1.1 hc.1.2.1 hd (k p e R s m args below meth c Q H locs ls hc hM hS hl hz)
theorem zi_iand {g : zg} {d : Nat} {y : zm} {post : zR → zM → Prop} {M : zM} {pc : Nat} {lv : List (Nat × Value)} {st : List Value} {x z : Int32} (hd : decode y.2.1 pc = .ok (.iand, 1)) (k : zG g d y post M (pc + 1) lv (.int (x &&& z) :: st)) : zG g d y post M pc lv (.int z :: .int x :: st) := by
  intro p e R s m args below meth c Q H locs ls hc hM hS hl hz
  exact lv_iand hc.1.1 hc.1.2.1 hd (k p e R s m args below meth c Q H locs ls hc hM hS hl hz)
theorem zi_ior {g : zg} {d : Nat} {y : zm} {post : zR → zM → Prop} {M : zM} {pc : Nat} {lv : List (Nat × Value)} {st : List Value} {x z : Int32} (hd : decode y.2.1 pc = .ok (.ior, 1)) (k : zG g d y post M (pc + 1) lv (.int (x ||| z) :: st)) : zG g d y post M pc lv (.int z :: .int x :: st) := by
  intro p e R s m args below meth c Q H locs ls hc hM hS hl hz
  exact lv_ior hc.1.1 hc.1.2.1 hd (k p e R s m args below meth c Q H locs ls hc hM hS hl hz)
theorem zi_ixor {g : zg} {d : Nat} {y : zm} {post : zR → zM → Prop} {M : zM} {pc : Nat} {lv : List (Nat × Value)} {st : List Value} {x z : Int32} (hd : decode y.2.1 pc = .ok (.ixor, 1)) (k : zG g d y post M (pc + 1) lv (.int (x ^^^ z) :: st)) : zG g d y post M pc lv (.int z :: .int x :: st) := by
  intro p e R s m args below meth c Q H locs ls hc hM hS hl hz
  exact lv_ixor hc.1.1 hc.1.2.1 hd (k p e R s m args below meth c Q H locs ls hc hM hS hl hz)
theorem zi_ineg {g : zg} {d : Nat} {y : zm} {post : zR → zM → Prop} {M : zM} {pc : Nat} {lv : List (Nat × Value)} {st : List Value} {x : Int32} (hd : decode y.2.1 pc = .ok (.ineg, 1)) (k : zG g d y post M (pc + 1) lv (.int (-x) :: st)) : zG g d y post M pc lv (.int x :: st) := by
  intro p e R s m args below meth c Q H locs ls hc hM hS hl hz
  exact lv_ineg hc.1.1 hc.1.2.1 hd (k p e R s m args below meth c Q H locs ls hc hM hS hl hz)
theorem zi_ishl {g : zg} {d : Nat} {y : zm} {post : zR → zM → Prop} {M : zM} {pc : Nat} {lv : List (Nat × Value)} {st : List Value} {x z : Int32} (hd : decode y.2.1 pc = .ok (.ishl, 1)) (k : zG g d y post M (pc + 1) lv (.int (x <<< (z &&& 31)) :: st)) : zG g d y post M pc lv (.int z :: .int x :: st) := by
  intro p e R s m args below meth c Q H locs ls hc hM hS hl hz
  exact lv_ishl hc.1.1 hc.1.2.1 hd (k p e R s m args below meth c Q H locs ls hc hM hS hl hz)
theorem zi_ishr {g : zg} {d : Nat} {y : zm} {post : zR → zM → Prop} {M : zM} {pc : Nat} {lv : List (Nat × Value)} {st : List Value} {x z : Int32} (hd : decode y.2.1 pc = .ok (.ishr, 1)) (k : zG g d y post M (pc + 1) lv (.int (x >>> (z &&& 31)) :: st)) : zG g d y post M pc lv (.int z :: .int x :: st) := by
  intro p e R s m args below meth c Q H locs ls hc hM hS hl hz
  exact lv_ishr hc.1.1 hc.1.2.1 hd (k p e R s m args below meth c Q H locs ls hc hM hS hl hz)
theorem zi_iushr {g : zg} {d : Nat} {y : zm} {post : zR → zM → Prop} {M : zM} {pc : Nat} {lv : List (Nat × Value)} {st : List Value} {x z : Int32} (hd : decode y.2.1 pc = .ok (.iushr, 1)) (k : zG g d y post M (pc + 1) lv (.int (x.toUInt32 >>> (z.toUInt32 &&& Int32.toUInt32 31)).toInt32 :: st)) : zG g d y post M pc lv (.int z :: .int x :: st) := by
  intro p e R s m args below meth c Q H locs ls hc hM hS hl hz
  exact lv_iushr hc.1.1 hc.1.2.1 hd rfl (k p e R s m args below meth c Q H locs ls hc hM hS hl hz)
theorem zi_idiv {g : zg} {d : Nat} {y : zm} {post : zR → zM → Prop} {M : zM} {pc : Nat} {lv : List (Nat × Value)} {st : List Value} {x z : Int32} (hz0 : ¬ z = 0) (hd : decode y.2.1 pc = .ok (.idiv, 1)) (k : zG g d y post M (pc + 1) lv (.int (x / z) :: st)) : zG g d y post M pc lv (.int z :: .int x :: st) := by
  intro p e R s m args below meth c Q H locs ls hc hM hS hl hz
  exact lv_idiv hc.1.1 hc.1.2.1 hd hz0 (k p e R s m args below meth c Q H locs ls hc hM hS hl hz)
theorem zi_irem {g : zg} {d : Nat} {y : zm} {post : zR → zM → Prop} {M : zM} {pc : Nat} {lv : List (Nat × Value)} {st : List Value} {x z : Int32} (hz0 : ¬ z = 0) (hd : decode y.2.1 pc = .ok (.irem, 1)) (k : zG g d y post M (pc + 1) lv (.int (x - x / z * z) :: st)) : zG g d y post M pc lv (.int z :: .int x :: st) := by
  intro p e R s m args below meth c Q H locs ls hc hM hS hl hz
  exact lv_irem hc.1.1 hc.1.2.1 hd hz0 (k p e R s m args below meth c Q H locs ls hc hM hS hl hz)
theorem zi_i2l {g : zg} {d : Nat} {y : zm} {post : zR → zM → Prop} {M : zM} {pc : Nat} {lv : List (Nat × Value)} {st : List Value} {x : Int32} (hd : decode y.2.1 pc = .ok (.i2l, 1)) (k : zG g d y post M (pc + 1) lv (.long x.toInt64 :: st)) : zG g d y post M pc lv (.int x :: st) := by
  intro p e R s m args below meth c Q H locs ls hc hM hS hl hz
  exact lv_i2l hc.1.1 hc.1.2.1 hd rfl (k p e R s m args below meth c Q H locs ls hc hM hS hl hz)
theorem zi_l2i {g : zg} {d : Nat} {y : zm} {post : zR → zM → Prop} {M : zM} {pc : Nat} {lv : List (Nat × Value)} {st : List Value} {x : Int64} (hd : decode y.2.1 pc = .ok (.l2i, 1)) (k : zG g d y post M (pc + 1) lv (.int x.toInt32 :: st)) : zG g d y post M pc lv (.long x :: st) := by
  intro p e R s m args below meth c Q H locs ls hc hM hS hl hz
  exact lv_l2i hc.1.1 hc.1.2.1 hd rfl (k p e R s m args below meth c Q H locs ls hc hM hS hl hz)
theorem zi_i2c {g : zg} {d : Nat} {y : zm} {post : zR → zM → Prop} {M : zM} {pc : Nat} {lv : List (Nat × Value)} {st : List Value} {x : Int32} (hd : decode y.2.1 pc = .ok (.i2c, 1)) (k : zG g d y post M (pc + 1) lv (.int (x.toUInt32 % 65536).toInt32 :: st)) : zG g d y post M pc lv (.int x :: st) := by
  intro p e R s m args below meth c Q H locs ls hc hM hS hl hz
  exact lv_i2c hc.1.1 hc.1.2.1 hd rfl (k p e R s m args below meth c Q H locs ls hc hM hS hl hz)
theorem zi_lushr {g : zg} {d : Nat} {y : zm} {post : zR → zM → Prop} {M : zM} {pc : Nat} {lv : List (Nat × Value)} {st : List Value} {x : Int64} {z : Int32} (hd : decode y.2.1 pc = .ok (.lushr, 1)) (k : zG g d y post M (pc + 1) lv (.long (x.toUInt64 >>> (z.toInt64.toUInt64 &&& Int64.toUInt64 63)).toInt64 :: st)) : zG g d y post M pc lv (.int z :: .long x :: st) := by
  intro p e R s m args below meth c Q H locs ls hc hM hS hl hz
  exact lv_lushr hc.1.1 hc.1.2.1 hd rfl (k p e R s m args below meth c Q H locs ls hc hM hS hl hz)
theorem zi_lshl {g : zg} {d : Nat} {y : zm} {post : zR → zM → Prop} {M : zM} {pc : Nat} {lv : List (Nat × Value)} {st : List Value} {x : Int64} {z : Int32} (hd : decode y.2.1 pc = .ok (.lshl, 1)) (k : zG g d y post M (pc + 1) lv (.long (x <<< (z.toInt64 &&& 63)) :: st)) : zG g d y post M pc lv (.int z :: .long x :: st) := by
  intro p e R s m args below meth c Q H locs ls hc hM hS hl hz
  exact lv_lshl hc.1.1 hc.1.2.1 hd rfl (k p e R s m args below meth c Q H locs ls hc hM hS hl hz)
theorem zi_land {g : zg} {d : Nat} {y : zm} {post : zR → zM → Prop} {M : zM} {pc : Nat} {lv : List (Nat × Value)} {st : List Value} {x z : Int64} (hd : decode y.2.1 pc = .ok (.land, 1)) (k : zG g d y post M (pc + 1) lv (.long (x &&& z) :: st)) : zG g d y post M pc lv (.long z :: .long x :: st) := by
  intro p e R s m args below meth c Q H locs ls hc hM hS hl hz
  exact lv_land hc.1.1 hc.1.2.1 hd (k p e R s m args below meth c Q H locs ls hc hM hS hl hz)
theorem zi_lor {g : zg} {d : Nat} {y : zm} {post : zR → zM → Prop} {M : zM} {pc : Nat} {lv : List (Nat × Value)} {st : List Value} {x z : Int64} (hd : decode y.2.1 pc = .ok (.lor, 1)) (k : zG g d y post M (pc + 1) lv (.long (x ||| z) :: st)) : zG g d y post M pc lv (.long z :: .long x :: st) := by
  intro p e R s m args below meth c Q H locs ls hc hM hS hl hz
  exact lv_lor hc.1.1 hc.1.2.1 hd (k p e R s m args below meth c Q H locs ls hc hM hS hl hz)
theorem zi_ladd {g : zg} {d : Nat} {y : zm} {post : zR → zM → Prop} {M : zM} {pc : Nat} {lv : List (Nat × Value)} {st : List Value} {x z : Int64} (hd : decode y.2.1 pc = .ok (.ladd, 1)) (k : zG g d y post M (pc + 1) lv (.long (x + z) :: st)) : zG g d y post M pc lv (.long z :: .long x :: st) := by
  intro p e R s m args below meth c Q H locs ls hc hM hS hl hz
  exact lv_ladd hc.1.1 hc.1.2.1 hd (k p e R s m args below meth c Q H locs ls hc hM hS hl hz)
theorem zi_iconst {g : zg} {d : Nat} {y : zm} {post : zR → zM → Prop} {M : zM} {pc : Nat} {lv : List (Nat × Value)} {st : List Value} {n : Int} {v : Int32} (hd : decode y.2.1 pc = .ok (.iconst n, 1)) (hv : Int32.ofInt n = v) (k : zG g d y post M (pc + 1) lv (.int v :: st)) : zG g d y post M pc lv (st) := by
  intro p e R s m args below meth c Q H locs ls hc hM hS hl hz
  exact lv_iconst hc.1.1 hc.1.2.1 hd hv (k p e R s m args below meth c Q H locs ls hc hM hS hl hz)
theorem zi_bipush {g : zg} {d : Nat} {y : zm} {post : zR → zM → Prop} {M : zM} {pc : Nat} {lv : List (Nat × Value)} {st : List Value} {n : Int} {v : Int32} (hd : decode y.2.1 pc = .ok (.bipush n, 2)) (hv : (Int8.ofInt n).toInt32 = v) (k : zG g d y post M (pc + 2) lv (.int v :: st)) : zG g d y post M pc lv (st) := by
  intro p e R s m args below meth c Q H locs ls hc hM hS hl hz
  exact lv_bipush hc.1.1 hc.1.2.1 hd hv (k p e R s m args below meth c Q H locs ls hc hM hS hl hz)
theorem zi_sipush {g : zg} {d : Nat} {y : zm} {post : zR → zM → Prop} {M : zM} {pc : Nat} {lv : List (Nat × Value)} {st : List Value} {n : Int} {v : Int32} (hd : decode y.2.1 pc = .ok (.sipush n, 3)) (hv : (Int16.ofInt n).toInt32 = v) (k : zG g d y post M (pc + 3) lv (.int v :: st)) : zG g d y post M pc lv (st) := by
  intro p e R s m args below meth c Q H locs ls hc hM hS hl hz
  exact lv_sipush hc.1.1 hc.1.2.1 hd hv (k p e R s m args below meth c Q H locs ls hc hM hS hl hz)
theorem zi_lconst {g : zg} {d : Nat} {y : zm} {post : zR → zM → Prop} {M : zM} {pc : Nat} {lv : List (Nat × Value)} {st : List Value} {n : Fin 2} {v : Int64} (hd : decode y.2.1 pc = .ok (.lconst n, 1)) (hv : Int64.ofNat (n : Nat) = v) (k : zG g d y post M (pc + 1) lv (.long v :: st)) : zG g d y post M pc lv (st) := by
  intro p e R s m args below meth c Q H locs ls hc hM hS hl hz
  exact lv_lconst hc.1.1 hc.1.2.1 hd hv (k p e R s m args below meth c Q H locs ls hc hM hS hl hz)
theorem zi_null {g : zg} {d : Nat} {y : zm} {post : zR → zM → Prop} {M : zM} {pc : Nat} {lv : List (Nat × Value)} {st : List Value} (hd : decode y.2.1 pc = .ok (.aconst_null, 1)) (k : zG g d y post M (pc + 1) lv (va_rf none :: st)) : zG g d y post M pc lv (st) := by
  intro p e R s m args below meth c Q H locs ls hc hM hS hl hz
  exact lv_null hc.1.1 hc.1.2.1 hd (k p e R s m args below meth c Q H locs ls hc hM hS hl hz)
theorem zi_ldc {g : zg} {d : Nat} {y : zm} {post : zR → zM → Prop} {M : zM} {pc : Nat} {lv : List (Nat × Value)} {st : List Value} {i : Nat} {v : Int32} (hw : Cond.constant y.1.cls i v ∈ zCW) (hd : decode y.2.1 pc = .ok (.ldc i, 2)) (k : zG g d y post M (pc + 2) lv (.int v :: st)) : zG g d y post M pc lv (st) := by
  intro p e R s m args below meth c Q H locs ls hc hM hS hl hz
  exact lv_ldc hc.1.1 hc.1.2.1 hc.1.2.2.2.1 (hc.1.2.2.2.2.1 _ hw) hd (k p e R s m args below meth c Q H locs ls hc hM hS hl hz)
theorem zi_ldc2 {g : zg} {d : Nat} {y : zm} {post : zR → zM → Prop} {M : zM} {pc : Nat} {lv : List (Nat × Value)} {st : List Value} {i : Nat} {v : Int64} (hw : Cond.constantLong y.1.cls i v ∈ zCW) (hd : decode y.2.1 pc = .ok (.ldc2_w i, 3)) (k : zG g d y post M (pc + 3) lv (.long v :: st)) : zG g d y post M pc lv (st) := by
  intro p e R s m args below meth c Q H locs ls hc hM hS hl hz
  exact lv_ldc2 hc.1.1 hc.1.2.1 hc.1.2.2.2.1 (hc.1.2.2.2.2.1 _ hw) hd (k p e R s m args below meth c Q H locs ls hc hM hS hl hz)
theorem zi_iload_n {g : zg} {d : Nat} {y : zm} {post : zR → zM → Prop} {M : zM} {pc : Nat} {lv : List (Nat × Value)} {st : List Value} {i : Fin 4} {x : Int32} (q : Nat) (hd : decode y.2.1 pc = .ok (.iload_n i, 1)) (hq : lv[q]? = some ((i : Nat), .int x)) (k : zG g d y post M (pc + 1) lv (.int x :: st)) : zG g d y post M pc lv (st) := by
  intro p e R s m args below meth c Q H locs ls hc hM hS hl hz
  exact lv_iload_n hc.1.1 hc.1.2.1 hd rfl (lv_at hl q hq) (k p e R s m args below meth c Q H locs ls hc hM hS hl hz)
theorem zi_iload {g : zg} {d : Nat} {y : zm} {post : zR → zM → Prop} {M : zM} {pc : Nat} {lv : List (Nat × Value)} {st : List Value} {i : Nat} {x : Int32} (q : Nat) (hd : decode y.2.1 pc = .ok (.iload i, 2)) (hq : lv[q]? = some (i, .int x)) (k : zG g d y post M (pc + 2) lv (.int x :: st)) : zG g d y post M pc lv (st) := by
  intro p e R s m args below meth c Q H locs ls hc hM hS hl hz
  exact lv_iload hc.1.1 hc.1.2.1 hd (lv_at hl q hq) (k p e R s m args below meth c Q H locs ls hc hM hS hl hz)
theorem zi_lload_n {g : zg} {d : Nat} {y : zm} {post : zR → zM → Prop} {M : zM} {pc : Nat} {lv : List (Nat × Value)} {st : List Value} {i : Fin 4} {x : Int64} (q : Nat) (hd : decode y.2.1 pc = .ok (.lload_n i, 1)) (hq : lv[q]? = some ((i : Nat), .long x)) (k : zG g d y post M (pc + 1) lv (.long x :: st)) : zG g d y post M pc lv (st) := by
  intro p e R s m args below meth c Q H locs ls hc hM hS hl hz
  exact lv_lload_n hc.1.1 hc.1.2.1 hd rfl (lv_at hl q hq) (k p e R s m args below meth c Q H locs ls hc hM hS hl hz)
theorem zi_lload {g : zg} {d : Nat} {y : zm} {post : zR → zM → Prop} {M : zM} {pc : Nat} {lv : List (Nat × Value)} {st : List Value} {i : Nat} {x : Int64} (q : Nat) (hd : decode y.2.1 pc = .ok (.lload i, 2)) (hq : lv[q]? = some (i, .long x)) (k : zG g d y post M (pc + 2) lv (.long x :: st)) : zG g d y post M pc lv (st) := by
  intro p e R s m args below meth c Q H locs ls hc hM hS hl hz
  exact lv_lload hc.1.1 hc.1.2.1 hd (lv_at hl q hq) (k p e R s m args below meth c Q H locs ls hc hM hS hl hz)
theorem zi_aload_n {g : zg} {d : Nat} {y : zm} {post : zR → zM → Prop} {M : zM} {pc : Nat} {lv : List (Nat × Value)} {st : List Value} {i : Fin 4} {x : Option Nat} (q : Nat) (hd : decode y.2.1 pc = .ok (.aload_n i, 1)) (hq : lv[q]? = some ((i : Nat), va_rf x)) (k : zG g d y post M (pc + 1) lv (va_rf x :: st)) : zG g d y post M pc lv st := by
  intro p e R s m args below meth c Q H locs ls hc hM hS hl hz
  cases x with
  | none => exact lv_aload_nN hc.1.1 hc.1.2.1 hd rfl (lv_at hl q hq) (k p e R s m args below meth c Q H locs ls hc hM hS hl hz)
  | some x => exact lv_aload_n hc.1.1 hc.1.2.1 hd rfl (lv_at hl q hq) (k p e R s m args below meth c Q H locs ls hc hM hS hl hz)
theorem zi_aload {g : zg} {d : Nat} {y : zm} {post : zR → zM → Prop} {M : zM} {pc : Nat} {lv : List (Nat × Value)} {st : List Value} {i : Nat} {x : Option Nat} (q : Nat) (hd : decode y.2.1 pc = .ok (.aload i, 2)) (hq : lv[q]? = some (i, va_rf x)) (k : zG g d y post M (pc + 2) lv (va_rf x :: st)) : zG g d y post M pc lv st := by
  intro p e R s m args below meth c Q H locs ls hc hM hS hl hz
  cases x with
  | none => exact lv_aloadN hc.1.1 hc.1.2.1 hd (lv_at hl q hq) (k p e R s m args below meth c Q H locs ls hc hM hS hl hz)
  | some x => exact lv_aload hc.1.1 hc.1.2.1 hd (lv_at hl q hq) (k p e R s m args below meth c Q H locs ls hc hM hS hl hz)
theorem zi_istore_n {g : zg} {d : Nat} {y : zm} {post : zR → zM → Prop} {M : zM} {pc : Nat} {lv : List (Nat × Value)} {st : List Value} {i : Fin 4} {x : Int32} {lv' : List (Nat × Value)} (hd : decode y.2.1 pc = .ok (.istore_n i, 1)) (hn : (i : Nat) < y.2.2.1) (hf : ((i : Nat), Value.int x) :: lv.filter (fun q => !(q.1 == (i : Nat)) && !(q.1 + 1 == (i : Nat) && q.2.category == 2)) = lv') (k : zG g d y post M (pc + 1) lv' (st)) : zG g d y post M pc lv (Value.int x :: st) := by
  intro p e R s m args below meth c Q H locs ls hc hM hS hl hz
  exact lv_istore_n hc.1.1 hc.1.2.1 hd rfl hl hn hf (fun ls hl => k p e R s m args below meth c Q H locs ls hc hM hS hl hz)
theorem zi_istore {g : zg} {d : Nat} {y : zm} {post : zR → zM → Prop} {M : zM} {pc : Nat} {lv : List (Nat × Value)} {st : List Value} {i : Nat} {x : Int32} {lv' : List (Nat × Value)} (hd : decode y.2.1 pc = .ok (.istore i, 2)) (hn : i < y.2.2.1) (hf : (i, Value.int x) :: lv.filter (fun q => !(q.1 == i) && !(q.1 + 1 == i && q.2.category == 2)) = lv') (k : zG g d y post M (pc + 2) lv' (st)) : zG g d y post M pc lv (Value.int x :: st) := by
  intro p e R s m args below meth c Q H locs ls hc hM hS hl hz
  exact lv_istore hc.1.1 hc.1.2.1 hd hl hn hf (fun ls hl => k p e R s m args below meth c Q H locs ls hc hM hS hl hz)
theorem zi_lstore_n {g : zg} {d : Nat} {y : zm} {post : zR → zM → Prop} {M : zM} {pc : Nat} {lv : List (Nat × Value)} {st : List Value} {i : Fin 4} {x : Int64} {lv' : List (Nat × Value)} (hd : decode y.2.1 pc = .ok (.lstore_n i, 1)) (hn : (i : Nat) + 1 < y.2.2.1) (hf : ((i : Nat), Value.long x) :: lv.filter (fun q => !(q.1 == (i : Nat)) && (!(q.1 == (i : Nat) + 1) && !(q.1 + 1 == (i : Nat) && q.2.category == 2))) = lv') (k : zG g d y post M (pc + 1) lv' (st)) : zG g d y post M pc lv (Value.long x :: st) := by
  intro p e R s m args below meth c Q H locs ls hc hM hS hl hz
  exact lv_lstore_n hc.1.1 hc.1.2.1 hd rfl hl hn hf (fun ls hl => k p e R s m args below meth c Q H locs ls hc hM hS hl hz)
theorem zi_lstore {g : zg} {d : Nat} {y : zm} {post : zR → zM → Prop} {M : zM} {pc : Nat} {lv : List (Nat × Value)} {st : List Value} {i : Nat} {x : Int64} {lv' : List (Nat × Value)} (hd : decode y.2.1 pc = .ok (.lstore i, 2)) (hn : i + 1 < y.2.2.1) (hf : (i, Value.long x) :: lv.filter (fun q => !(q.1 == i) && (!(q.1 == i + 1) && !(q.1 + 1 == i && q.2.category == 2))) = lv') (k : zG g d y post M (pc + 2) lv' (st)) : zG g d y post M pc lv (Value.long x :: st) := by
  intro p e R s m args below meth c Q H locs ls hc hM hS hl hz
  exact lv_lstore hc.1.1 hc.1.2.1 hd hl hn hf (fun ls hl => k p e R s m args below meth c Q H locs ls hc hM hS hl hz)
theorem zi_astore_n {g : zg} {d : Nat} {y : zm} {post : zR → zM → Prop} {M : zM} {pc : Nat} {lv : List (Nat × Value)} {st : List Value} {i : Fin 4} {x : Option Nat} {lv' : List (Nat × Value)} (hd : decode y.2.1 pc = .ok (.astore_n i, 1)) (hn : (i : Nat) < y.2.2.1) (hf : ((i : Nat), va_rf x) :: lv.filter (fun q => !(q.1 == (i : Nat)) && !(q.1 + 1 == (i : Nat) && q.2.category == 2)) = lv') (k : zG g d y post M (pc + 1) lv' st) : zG g d y post M pc lv (va_rf x :: st) := by
  intro p e R s m args below meth c Q H locs ls hc hM hS hl hz
  cases x with
  | none => exact lv_astore_nN hc.1.1 hc.1.2.1 hd rfl hl hn hf (fun ls hl => k p e R s m args below meth c Q H locs ls hc hM hS hl hz)
  | some x => exact lv_astore_n hc.1.1 hc.1.2.1 hd rfl hl hn hf (fun ls hl => k p e R s m args below meth c Q H locs ls hc hM hS hl hz)
theorem zi_astore {g : zg} {d : Nat} {y : zm} {post : zR → zM → Prop} {M : zM} {pc : Nat} {lv : List (Nat × Value)} {st : List Value} {i : Nat} {x : Option Nat} {lv' : List (Nat × Value)} (hd : decode y.2.1 pc = .ok (.astore i, 2)) (hn : i < y.2.2.1) (hf : (i, va_rf x) :: lv.filter (fun q => !(q.1 == i) && !(q.1 + 1 == i && q.2.category == 2)) = lv') (k : zG g d y post M (pc + 2) lv' st) : zG g d y post M pc lv (va_rf x :: st) := by
  intro p e R s m args below meth c Q H locs ls hc hM hS hl hz
  cases x with
  | none => exact lv_astoreN hc.1.1 hc.1.2.1 hd hl hn hf (fun ls hl => k p e R s m args below meth c Q H locs ls hc hM hS hl hz)
  | some x => exact lv_astore hc.1.1 hc.1.2.1 hd hl hn hf (fun ls hl => k p e R s m args below meth c Q H locs ls hc hM hS hl hz)
theorem zi_iinc {g : zg} {d : Nat} {y : zm} {post : zR → zM → Prop} {M : zM} {pc : Nat} {lv : List (Nat × Value)} {st : List Value} {i : Nat} {n : Int} {x v : Int32} {lv' : List (Nat × Value)} (q : Nat) (hd : decode y.2.1 pc = .ok (.iinc i n, 3)) (hq : lv[q]? = some (i, .int x)) (hv : x + Int32.ofInt n = v) (hn : i < y.2.2.1) (hf : (i, Value.int v) :: lv.filter (fun q => !(q.1 == i) && !(q.1 + 1 == i && q.2.category == 2)) = lv') (k : zG g d y post M (pc + 3) lv' (st)) : zG g d y post M pc lv (st) := by
  intro p e R s m args below meth c Q H locs ls hc hM hS hl hz
  exact lv_iinc hc.1.1 hc.1.2.1 hd hl hq hv hn hf (fun ls hl => k p e R s m args below meth c Q H locs ls hc hM hS hl hz)
theorem zi_dup {g : zg} {d : Nat} {y : zm} {post : zR → zM → Prop} {M : zM} {pc : Nat} {lv : List (Nat × Value)} {st : List Value} {va : Value} (hd : decode y.2.1 pc = .ok (.dup, 1)) (h1 : va.category = 1) (k : zG g d y post M (pc + 1) lv (va :: va :: st)) : zG g d y post M pc lv (va :: st) := by
  intro p e R s m args below meth c Q H locs ls hc hM hS hl hz
  exact lv_dup hc.1.1 hc.1.2.1 hd h1 (k p e R s m args below meth c Q H locs ls hc hM hS hl hz)
theorem zi_pop {g : zg} {d : Nat} {y : zm} {post : zR → zM → Prop} {M : zM} {pc : Nat} {lv : List (Nat × Value)} {st : List Value} {va : Value} (hd : decode y.2.1 pc = .ok (.pop, 1)) (h1 : va.category = 1) (k : zG g d y post M (pc + 1) lv (st)) : zG g d y post M pc lv (va :: st) := by
  intro p e R s m args below meth c Q H locs ls hc hM hS hl hz
  exact lv_pop hc.1.1 hc.1.2.1 hd h1 (k p e R s m args below meth c Q H locs ls hc hM hS hl hz)
theorem zi_dup_x1 {g : zg} {d : Nat} {y : zm} {post : zR → zM → Prop} {M : zM} {pc : Nat} {lv : List (Nat × Value)} {st : List Value} {va vb : Value} (hd : decode y.2.1 pc = .ok (.dup_x1, 1)) (h1 : va.category = 1) (h2 : vb.category = 1) (k : zG g d y post M (pc + 1) lv (va :: vb :: va :: st)) : zG g d y post M pc lv (va :: vb :: st) := by
  intro p e R s m args below meth c Q H locs ls hc hM hS hl hz
  exact lv_dup_x1 hc.1.1 hc.1.2.1 hd h1 h2 (k p e R s m args below meth c Q H locs ls hc hM hS hl hz)
theorem zi_dup_x2 {g : zg} {d : Nat} {y : zm} {post : zR → zM → Prop} {M : zM} {pc : Nat} {lv : List (Nat × Value)} {st : List Value} {va vb vd : Value} (hd : decode y.2.1 pc = .ok (.dup_x2, 1)) (h1 : va.category = 1) (h2 : vb.category = 1) (h3 : vd.category = 1) (k : zG g d y post M (pc + 1) lv (va :: vb :: vd :: va :: st)) : zG g d y post M pc lv (va :: vb :: vd :: st) := by
  intro p e R s m args below meth c Q H locs ls hc hM hS hl hz
  exact lv_dup_x2 hc.1.1 hc.1.2.1 hd h1 h2 h3 (k p e R s m args below meth c Q H locs ls hc hM hS hl hz)
theorem zi_dup2 {g : zg} {d : Nat} {y : zm} {post : zR → zM → Prop} {M : zM} {pc : Nat} {lv : List (Nat × Value)} {st : List Value} {va vb : Value} (hd : decode y.2.1 pc = .ok (.dup2, 1)) (h1 : va.category = 1) (h2 : vb.category = 1) (k : zG g d y post M (pc + 1) lv (va :: vb :: va :: vb :: st)) : zG g d y post M pc lv (va :: vb :: st) := by
  intro p e R s m args below meth c Q H locs ls hc hM hS hl hz
  exact lv_dup2_11 hc.1.1 hc.1.2.1 hd h1 h2 (k p e R s m args below meth c Q H locs ls hc hM hS hl hz)
theorem zi_if_eq {g : zg} {d : Nat} {y : zm} {post : zR → zM → Prop} {M : zM} {pc : Nat} {lv : List (Nat × Value)} {st : List Value} {x : Int32} {off : Int} {tgt : Nat} (hd : decode y.2.1 pc = .ok (.ifCond .eq off, 3)) (ht : (pc : Int) + off = (tgt : Int)) (kt : x = 0 → zG g d y post M tgt lv st) (kf : ¬ x = 0 → zG g d y post M (pc + 3) lv st) : zG g d y post M pc lv (.int x :: st) := by
  intro p e R s m args below meth c Q H locs ls hc hM hS hl hz
  exact lv_if_eq hc.1.1 hc.1.2.1 hd ht (fun q => kt q p e R s m args below meth c Q H locs ls hc hM hS hl hz) (fun q => kf q p e R s m args below meth c Q H locs ls hc hM hS hl hz)
theorem zi_icmp_eq {g : zg} {d : Nat} {y : zm} {post : zR → zM → Prop} {M : zM} {pc : Nat} {lv : List (Nat × Value)} {st : List Value} {x z : Int32} {off : Int} {tgt : Nat} (hd : decode y.2.1 pc = .ok (.if_icmp .eq off, 3)) (ht : (pc : Int) + off = (tgt : Int)) (kt : x = z → zG g d y post M tgt lv st) (kf : ¬ x = z → zG g d y post M (pc + 3) lv st) : zG g d y post M pc lv (.int z :: .int x :: st) := by
  intro p e R s m args below meth c Q H locs ls hc hM hS hl hz
  exact lv_icmp_eq hc.1.1 hc.1.2.1 hd ht (fun q => kt q p e R s m args below meth c Q H locs ls hc hM hS hl hz) (fun q => kf q p e R s m args below meth c Q H locs ls hc hM hS hl hz)
theorem zi_if_ne {g : zg} {d : Nat} {y : zm} {post : zR → zM → Prop} {M : zM} {pc : Nat} {lv : List (Nat × Value)} {st : List Value} {x : Int32} {off : Int} {tgt : Nat} (hd : decode y.2.1 pc = .ok (.ifCond .ne off, 3)) (ht : (pc : Int) + off = (tgt : Int)) (kt : ¬ x = 0 → zG g d y post M tgt lv st) (kf : x = 0 → zG g d y post M (pc + 3) lv st) : zG g d y post M pc lv (.int x :: st) := by
  intro p e R s m args below meth c Q H locs ls hc hM hS hl hz
  exact lv_if_ne hc.1.1 hc.1.2.1 hd ht (fun q => kt q p e R s m args below meth c Q H locs ls hc hM hS hl hz) (fun q => kf q p e R s m args below meth c Q H locs ls hc hM hS hl hz)
theorem zi_icmp_ne {g : zg} {d : Nat} {y : zm} {post : zR → zM → Prop} {M : zM} {pc : Nat} {lv : List (Nat × Value)} {st : List Value} {x z : Int32} {off : Int} {tgt : Nat} (hd : decode y.2.1 pc = .ok (.if_icmp .ne off, 3)) (ht : (pc : Int) + off = (tgt : Int)) (kt : ¬ x = z → zG g d y post M tgt lv st) (kf : x = z → zG g d y post M (pc + 3) lv st) : zG g d y post M pc lv (.int z :: .int x :: st) := by
  intro p e R s m args below meth c Q H locs ls hc hM hS hl hz
  exact lv_icmp_ne hc.1.1 hc.1.2.1 hd ht (fun q => kt q p e R s m args below meth c Q H locs ls hc hM hS hl hz) (fun q => kf q p e R s m args below meth c Q H locs ls hc hM hS hl hz)
theorem zi_if_lt {g : zg} {d : Nat} {y : zm} {post : zR → zM → Prop} {M : zM} {pc : Nat} {lv : List (Nat × Value)} {st : List Value} {x : Int32} {off : Int} {tgt : Nat} (hd : decode y.2.1 pc = .ok (.ifCond .lt off, 3)) (ht : (pc : Int) + off = (tgt : Int)) (kt : x < 0 → zG g d y post M tgt lv st) (kf : ¬ x < 0 → zG g d y post M (pc + 3) lv st) : zG g d y post M pc lv (.int x :: st) := by
  intro p e R s m args below meth c Q H locs ls hc hM hS hl hz
  exact lv_if_lt hc.1.1 hc.1.2.1 hd ht (fun q => kt q p e R s m args below meth c Q H locs ls hc hM hS hl hz) (fun q => kf q p e R s m args below meth c Q H locs ls hc hM hS hl hz)
theorem zi_icmp_lt {g : zg} {d : Nat} {y : zm} {post : zR → zM → Prop} {M : zM} {pc : Nat} {lv : List (Nat × Value)} {st : List Value} {x z : Int32} {off : Int} {tgt : Nat} (hd : decode y.2.1 pc = .ok (.if_icmp .lt off, 3)) (ht : (pc : Int) + off = (tgt : Int)) (kt : x < z → zG g d y post M tgt lv st) (kf : ¬ x < z → zG g d y post M (pc + 3) lv st) : zG g d y post M pc lv (.int z :: .int x :: st) := by
  intro p e R s m args below meth c Q H locs ls hc hM hS hl hz
  exact lv_icmp_lt hc.1.1 hc.1.2.1 hd ht (fun q => kt q p e R s m args below meth c Q H locs ls hc hM hS hl hz) (fun q => kf q p e R s m args below meth c Q H locs ls hc hM hS hl hz)
theorem zi_if_ge {g : zg} {d : Nat} {y : zm} {post : zR → zM → Prop} {M : zM} {pc : Nat} {lv : List (Nat × Value)} {st : List Value} {x : Int32} {off : Int} {tgt : Nat} (hd : decode y.2.1 pc = .ok (.ifCond .ge off, 3)) (ht : (pc : Int) + off = (tgt : Int)) (kt : 0 ≤ x → zG g d y post M tgt lv st) (kf : ¬ 0 ≤ x → zG g d y post M (pc + 3) lv st) : zG g d y post M pc lv (.int x :: st) := by
  intro p e R s m args below meth c Q H locs ls hc hM hS hl hz
  exact lv_if_ge hc.1.1 hc.1.2.1 hd ht (fun q => kt q p e R s m args below meth c Q H locs ls hc hM hS hl hz) (fun q => kf q p e R s m args below meth c Q H locs ls hc hM hS hl hz)
theorem zi_icmp_ge {g : zg} {d : Nat} {y : zm} {post : zR → zM → Prop} {M : zM} {pc : Nat} {lv : List (Nat × Value)} {st : List Value} {x z : Int32} {off : Int} {tgt : Nat} (hd : decode y.2.1 pc = .ok (.if_icmp .ge off, 3)) (ht : (pc : Int) + off = (tgt : Int)) (kt : z ≤ x → zG g d y post M tgt lv st) (kf : ¬ z ≤ x → zG g d y post M (pc + 3) lv st) : zG g d y post M pc lv (.int z :: .int x :: st) := by
  intro p e R s m args below meth c Q H locs ls hc hM hS hl hz
  exact lv_icmp_ge hc.1.1 hc.1.2.1 hd ht (fun q => kt q p e R s m args below meth c Q H locs ls hc hM hS hl hz) (fun q => kf q p e R s m args below meth c Q H locs ls hc hM hS hl hz)
theorem zi_if_gt {g : zg} {d : Nat} {y : zm} {post : zR → zM → Prop} {M : zM} {pc : Nat} {lv : List (Nat × Value)} {st : List Value} {x : Int32} {off : Int} {tgt : Nat} (hd : decode y.2.1 pc = .ok (.ifCond .gt off, 3)) (ht : (pc : Int) + off = (tgt : Int)) (kt : 0 < x → zG g d y post M tgt lv st) (kf : ¬ 0 < x → zG g d y post M (pc + 3) lv st) : zG g d y post M pc lv (.int x :: st) := by
  intro p e R s m args below meth c Q H locs ls hc hM hS hl hz
  exact lv_if_gt hc.1.1 hc.1.2.1 hd ht (fun q => kt q p e R s m args below meth c Q H locs ls hc hM hS hl hz) (fun q => kf q p e R s m args below meth c Q H locs ls hc hM hS hl hz)
theorem zi_icmp_gt {g : zg} {d : Nat} {y : zm} {post : zR → zM → Prop} {M : zM} {pc : Nat} {lv : List (Nat × Value)} {st : List Value} {x z : Int32} {off : Int} {tgt : Nat} (hd : decode y.2.1 pc = .ok (.if_icmp .gt off, 3)) (ht : (pc : Int) + off = (tgt : Int)) (kt : z < x → zG g d y post M tgt lv st) (kf : ¬ z < x → zG g d y post M (pc + 3) lv st) : zG g d y post M pc lv (.int z :: .int x :: st) := by
  intro p e R s m args below meth c Q H locs ls hc hM hS hl hz
  exact lv_icmp_gt hc.1.1 hc.1.2.1 hd ht (fun q => kt q p e R s m args below meth c Q H locs ls hc hM hS hl hz) (fun q => kf q p e R s m args below meth c Q H locs ls hc hM hS hl hz)
theorem zi_if_le {g : zg} {d : Nat} {y : zm} {post : zR → zM → Prop} {M : zM} {pc : Nat} {lv : List (Nat × Value)} {st : List Value} {x : Int32} {off : Int} {tgt : Nat} (hd : decode y.2.1 pc = .ok (.ifCond .le off, 3)) (ht : (pc : Int) + off = (tgt : Int)) (kt : x ≤ 0 → zG g d y post M tgt lv st) (kf : ¬ x ≤ 0 → zG g d y post M (pc + 3) lv st) : zG g d y post M pc lv (.int x :: st) := by
  intro p e R s m args below meth c Q H locs ls hc hM hS hl hz
  exact lv_if_le hc.1.1 hc.1.2.1 hd ht (fun q => kt q p e R s m args below meth c Q H locs ls hc hM hS hl hz) (fun q => kf q p e R s m args below meth c Q H locs ls hc hM hS hl hz)
theorem zi_icmp_le {g : zg} {d : Nat} {y : zm} {post : zR → zM → Prop} {M : zM} {pc : Nat} {lv : List (Nat × Value)} {st : List Value} {x z : Int32} {off : Int} {tgt : Nat} (hd : decode y.2.1 pc = .ok (.if_icmp .le off, 3)) (ht : (pc : Int) + off = (tgt : Int)) (kt : x ≤ z → zG g d y post M tgt lv st) (kf : ¬ x ≤ z → zG g d y post M (pc + 3) lv st) : zG g d y post M pc lv (.int z :: .int x :: st) := by
  intro p e R s m args below meth c Q H locs ls hc hM hS hl hz
  exact lv_icmp_le hc.1.1 hc.1.2.1 hd ht (fun q => kt q p e R s m args below meth c Q H locs ls hc hM hS hl hz) (fun q => kf q p e R s m args below meth c Q H locs ls hc hM hS hl hz)
theorem zi_acmp_eq {g : zg} {d : Nat} {y : zm} {post : zR → zM → Prop} {M : zM} {pc : Nat} {lv : List (Nat × Value)} {st : List Value} {x z : Option Nat} {off : Int} {tgt : Nat} (hd : decode y.2.1 pc = .ok (.if_acmp .eq off, 3)) (ht : (pc : Int) + off = (tgt : Int)) (kt : x = z → zG g d y post M tgt lv st) (kf : ¬ x = z → zG g d y post M (pc + 3) lv st) : zG g d y post M pc lv (va_rf z :: va_rf x :: st) := by
  intro p e R s m args below meth c Q H locs ls hc hM hS hl hz
  exact lv_acmp_eq hc.1.1 hc.1.2.1 hd ht (fun q => kt q p e R s m args below meth c Q H locs ls hc hM hS hl hz) (fun q => kf q p e R s m args below meth c Q H locs ls hc hM hS hl hz)
theorem zi_acmp_ne {g : zg} {d : Nat} {y : zm} {post : zR → zM → Prop} {M : zM} {pc : Nat} {lv : List (Nat × Value)} {st : List Value} {x z : Option Nat} {off : Int} {tgt : Nat} (hd : decode y.2.1 pc = .ok (.if_acmp .ne off, 3)) (ht : (pc : Int) + off = (tgt : Int)) (kt : ¬ x = z → zG g d y post M tgt lv st) (kf : x = z → zG g d y post M (pc + 3) lv st) : zG g d y post M pc lv (va_rf z :: va_rf x :: st) := by
  intro p e R s m args below meth c Q H locs ls hc hM hS hl hz
  exact lv_acmp_ne hc.1.1 hc.1.2.1 hd ht (fun q => kt q p e R s m args below meth c Q H locs ls hc hM hS hl hz) (fun q => kf q p e R s m args below meth c Q H locs ls hc hM hS hl hz)
theorem zi_goto {g : zg} {d : Nat} {y : zm} {post : zR → zM → Prop} {M : zM} {pc : Nat} {lv : List (Nat × Value)} {st : List Value} {off : Int} {tgt : Nat} (hd : decode y.2.1 pc = .ok (.goto off, 3)) (ht : (pc : Int) + off = (tgt : Int)) (k : zG g d y post M tgt lv st) : zG g d y post M pc lv st := by
  intro p e R s m args below meth c Q H locs ls hc hM hS hl hz
  exact lv_goto hc.1.1 hc.1.2.1 hd ht (k p e R s m args below meth c Q H locs ls hc hM hS hl hz)
theorem zi_ifnull {g : zg} {d : Nat} {y : zm} {post : zR → zM → Prop} {M : zM} {pc : Nat} {lv : List (Nat × Value)} {st : List Value} {x : Option Nat} {off : Int} {tgt : Nat} (hd : decode y.2.1 pc = .ok (.ifnull off, 3)) (ht : (pc : Int) + off = (tgt : Int)) (kt : x = none → zG g d y post M tgt lv st) (kf : ∀ a, x = some a → zG g d y post M (pc + 3) lv st) : zG g d y post M pc lv (va_rf x :: st) := by
  intro p e R s m args below meth c Q H locs ls hc hM hS hl hz
  cases x with
  | none => exact lv_ifnullN hc.1.1 hc.1.2.1 hd ht (kt rfl p e R s m args below meth c Q H locs ls hc hM hS hl hz)
  | some a => exact lv_ifnull hc.1.1 hc.1.2.1 hd (kf a rfl p e R s m args below meth c Q H locs ls hc hM hS hl hz)
theorem zi_ifnonnull {g : zg} {d : Nat} {y : zm} {post : zR → zM → Prop} {M : zM} {pc : Nat} {lv : List (Nat × Value)} {st : List Value} {x : Option Nat} {off : Int} {tgt : Nat} (hd : decode y.2.1 pc = .ok (.ifnonnull off, 3)) (ht : (pc : Int) + off = (tgt : Int)) (kt : ∀ a, x = some a → zG g d y post M tgt lv st) (kf : x = none → zG g d y post M (pc + 3) lv st) : zG g d y post M pc lv (va_rf x :: st) := by
  intro p e R s m args below meth c Q H locs ls hc hM hS hl hz
  cases x with
  | none => exact lv_ifnonnullN hc.1.1 hc.1.2.1 hd (kf rfl p e R s m args below meth c Q H locs ls hc hM hS hl hz)
  | some a => exact lv_ifnonnull hc.1.1 hc.1.2.1 hd ht (kt a rfl p e R s m args below meth c Q H locs ls hc hM hS hl hz)
theorem zi_lookup {g : zg} {d : Nat} {y : zm} {post : zR → zM → Prop} {M : zM} {pc : Nat} {lv : List (Nat × Value)} {st : List Value} {dflt : Int} {ps : Array (Int × Int)} {len : Nat} {x : Int32} {off : Int} {tgt : Nat} (hd : decode y.2.1 pc = .ok (.lookupswitch dflt ps, len)) (hp : (ps.toList.zip (ps.toList.drop 1)).all (fun (a, next) => a.1 < next.1) = true) (ho : Op.lookupswitch.offset ps.toList dflt x.toInt = off) (ht : (pc : Int) + off = (tgt : Int)) (k : zG g d y post M tgt lv st) : zG g d y post M pc lv (.int x :: st) := by
  intro p e R s m args below meth c Q H locs ls hc hM hS hl hz
  exact lv_lookup hc.1.1 hc.1.2.1 hd hp ho ht (k p e R s m args below meth c Q H locs ls hc hM hS hl hz)
theorem zi_tableOut {g : zg} {d : Nat} {y : zm} {post : zR → zM → Prop} {M : zM} {pc : Nat} {lv : List (Nat × Value)} {st : List Value} {dflt lo hi : Int} {offs : Array Int} {len : Nat} {x : Int32} {tgt : Nat} (hd : decode y.2.1 pc = .ok (.tableswitch dflt lo hi offs, len)) (h : x.toInt < lo ∨ hi < x.toInt) (ht : (pc : Int) + dflt = (tgt : Int)) (k : zG g d y post M tgt lv st) : zG g d y post M pc lv (.int x :: st) := by
  intro p e R s m args below meth c Q H locs ls hc hM hS hl hz
  exact lv_tableOut hc.1.1 hc.1.2.1 hd h ht (k p e R s m args below meth c Q H locs ls hc hM hS hl hz)
theorem zi_tableIn {g : zg} {d : Nat} {y : zm} {post : zR → zM → Prop} {M : zM} {pc : Nat} {lv : List (Nat × Value)} {st : List Value} {dflt lo hi : Int} {offs : Array Int} {len : Nat} {x : Int32} {off : Int} {tgt : Nat} (hd : decode y.2.1 pc = .ok (.tableswitch dflt lo hi offs, len)) (h1 : ¬ x.toInt < lo) (h2 : ¬ hi < x.toInt) (ho : offs[(x.toInt - lo).toNat]? = some off) (ht : (pc : Int) + off = (tgt : Int)) (k : zG g d y post M tgt lv st) : zG g d y post M pc lv (.int x :: st) := by
  intro p e R s m args below meth c Q H locs ls hc hM hS hl hz
  exact lv_tableIn hc.1.1 hc.1.2.1 hd h1 h2 ho ht (k p e R s m args below meth c Q H locs ls hc hM hS hl hz)
end
section
/-! rows that read and write cells -/
/-- a class of the tables: its number, name, fields, how many, their types -/
def z_cl (ci : Nat) (C : String) (T : u_T) (N : Nat) (ty : Nat → FieldType) : Prop :=
  zcl[ci]? = some (C, T, N) ∧ (∀ w ∈ u_ws C T N, w ∈ zCW) ∧ (∀ k, k < N → parseFieldDescriptor (T k).2.2.1 = some (ty k)) ∧ (∀ a, a < N → ∀ b, b < N → a ≠ b → (T a).2.1 ≠ (T b).2.1) ∧ (zkd ci).length = N
/-- entry i of own's pool is field k of class ci, of kind kd and type ty; fin: it is final, own's own -/
def z_fl (own : String) (i ci k kd : Nat) (ty : FieldType) (fin : Bool) : Prop :=
  ∃ (C : String) (T : u_T) (N : Nat) (tyf : Nat → FieldType), z_cl ci C T N tyf ∧ k < N ∧ Cond.fieldLink own i (T k).1 (T k).2.1 (T k).2.2.1 ∈ zCW ∧ (zkd ci).getD k 0 = kd ∧ tyf k = ty ∧ (T k).2.2.2 = fin ∧ (fin = true → C = own → (T k).1 = own)
theorem zfs_len (M : zM) (a ci : Nat) : (zfs M a ci).length = (zkd ci).length := by simp [zfs]
theorem zfs_at (M : zM) (a ci : Nat) {k : Nat} (h : k < (zkd ci).length) : (zfs M a ci)[k]? = some (zv M a k ((zkd ci).getD k 0)) := by
  simp [zfs, List.getElem?_map, List.getElem?_range h]
theorem z_one {g : zg} {M : zM} {H : Heap} {a : Nat} {sh : Nat ⊕ Nat × Nat} (hM : z_ok g M H) (hs : zsh M a = some sh) : va_P g.D zcl [(a, zcell g.tys M a sh)] H := by
  intro k q hk
  have hz : k < 1 := (List.getElem?_eq_some_iff.mp hk).1
  rw [show k = 0 by omega] at hk
  cases hk
  exact (hM.2 a sh hs).2
theorem z_lt {g : zg} {M : zM} {H : Heap} {a : Nat} {sh : Nat ⊕ Nat × Nat} (hM : z_ok g M H) (hs : zsh M a = some sh) : a < zsz M := by
  rw [← hM.1.1]
  exact (hM.2 a sh hs).2.lt
theorem z_ty {g : zg} {U : State} (hK : z_K g U) {t : Nat} {ty : FieldType} (ht : zAT[t]? = some ty) : g.tys[t]? = some ((g.tys.getD t (0, .int)).1, ty) ∧ (g.tys.getD t (0, .int)).2 = ty := by
  have h := hK.2.1
  have h1 : (g.tys.map Prod.snd)[t]? = some ty := by rw [h]; exact ht
  rw [List.getElem?_map] at h1
  cases hq : g.tys[t]? with
  | none => rw [hq] at h1; cases h1
  | some q =>
    rw [hq] at h1
    have h2 : q.2 = ty := Option.some.inj h1
    have h3 : g.tys.getD t (0, .int) = q := by rw [List.getD_eq_getElem?_getD, hq]; rfl
    rw [h3]
    exact ⟨by rw [← h2], h2⟩
section ZH
variable {g : zg} {d : Nat} {y : zm} {post : zR → zM → Prop} {M : zM} {pc : Nat} {lv : List (Nat × Value)} {st : List Value}
theorem zi_getv {a i ci k kd : Nat} {ty : FieldType} {fin : Bool} (hs : zsh M a = some (.inl ci)) (hf : z_fl y.1.cls i ci k kd ty fin) (hd : decode y.2.1 pc = .ok (.getfield i, 3)) (kk : zG g d y post M (pc + 3) lv (zv M a k kd :: st)) : zG g d y post M pc lv (va_rf (some a) :: st) := by
  intro p e R s m args below meth c Q H locs ls hc hM hS hl hz
  obtain ⟨C, T, N, tyf, ⟨hcl, hin, hty, hnm, hlen⟩, hk, hlink, hkd, hte, hfn, hown⟩ := hf
  exact va_get (D := g.D) (cl := zcl) (ci := ci) (v := zv M a k kd) (C := C) (T := T) (N := N) hc.1.1 hc.1.2.1 hc.1.2.2.2.2.1 hin hc.1.2.2.2.1 hc.2.1.1 (z_one hM hs) 0 rfl hcl k hk (hc.1.2.2.2.2.1 _ hlink) (fun _ h9 => h9) (by rw [zfs_at _ _ _ (by rw [hlen]; exact hk), hkd]) hd (kk p e R s m args below meth c Q H locs ls hc hM hS hl hz)
theorem zi_geti {a i ci k : Nat} {ty : FieldType} {fin : Bool} (hs : zsh M a = some (.inl ci)) (hf : z_fl y.1.cls i ci k 0 ty fin) (hd : decode y.2.1 pc = .ok (.getfield i, 3)) (kk : zG g d y post M (pc + 3) lv (.int (zi M a k) :: st)) : zG g d y post M pc lv (va_rf (some a) :: st) := zi_getv hs hf hd kk
theorem zi_getr {a i ci k : Nat} {ty : FieldType} {fin : Bool} (hs : zsh M a = some (.inl ci)) (hf : z_fl y.1.cls i ci k 1 ty fin) (hd : decode y.2.1 pc = .ok (.getfield i, 3)) (kk : zG g d y post M (pc + 3) lv (va_rf (zr M a k) :: st)) : zG g d y post M pc lv (va_rf (some a) :: st) := zi_getv hs hf hd kk
theorem zi_getl {a i ci k : Nat} {ty : FieldType} {fin : Bool} (hs : zsh M a = some (.inl ci)) (hf : z_fl y.1.cls i ci k 2 ty fin) (hd : decode y.2.1 pc = .ok (.getfield i, 3)) (kk : zG g d y post M (pc + 3) lv (.long (zl M a k) :: st)) : zG g d y post M pc lv (va_rf (some a) :: st) := zi_getv hs hf hd kk
end ZH
/-- M1 differs from M in the cell a alone -/
def zdiff (M M1 : zM) (a : Nat) : Prop := zsh M1 = zsh M ∧ zsz M1 = zsz M ∧ zsl M1 = zsl M ∧ ∀ b, b ≠ a → zi M1 b = zi M b ∧ zl M1 b = zl M b ∧ zr M1 b = zr M b
theorem zdiff_i (M : zM) (a k : Nat) (v : Int32) : zdiff M (zpi M a k v) a := ⟨rfl, rfl, rfl, fun b hb => ⟨zu_ne _ _ _ hb, rfl, rfl⟩⟩
theorem zdiff_l (M : zM) (a k : Nat) (v : Int64) : zdiff M (zpl M a k v) a := ⟨rfl, rfl, rfl, fun b hb => ⟨rfl, zu_ne _ _ _ hb, rfl⟩⟩
theorem zdiff_r (M : zM) (a k : Nat) (v : Option Nat) : zdiff M (zpr M a k v) a := ⟨rfl, rfl, rfl, fun b hb => ⟨rfl, rfl, zu_ne _ _ _ hb⟩⟩
theorem zcell_same {tys : List (ClassId × FieldType)} {M M1 : zM} {b : Nat} (h1 : zi M1 b = zi M b) (h2 : zl M1 b = zl M b) (h3 : zr M1 b = zr M b) (sh : Nat ⊕ Nat × Nat) : zcell tys M1 b sh = zcell tys M b sh := by
  cases sh with
  | inl ci => simp only [zcell, zfs, zv, h1, h2, h3]
  | inr q =>
    obtain ⟨t, n⟩ := q
    simp only [zcell]
    congr 2
    cases (tys.getD t (0, .int)).2 <;> simp only [zarr, h1, h2, h3]
theorem z_put {g : zg} {M M1 : zM} {H H1 : Heap} {a : Nat} {sh : Nat ⊕ Nat × Nat} (hM : z_ok g M H) (hs : zsh M a = some sh) (hd : zdiff M M1 a) (hat : va_at g.D zcl (a, zcell g.tys M1 a sh) H1) (z : H1.size = H.size) (zz : zt H1 = zt H) (o : ∀ q : Nat, q ≠ a → H1[q]? = H[q]?) : z_ok g M1 H1 := by
  obtain ⟨d1, d2, d3, d4⟩ := hd
  refine ⟨⟨by rw [z, d2]; exact hM.1.1, by rw [zz, d3]; exact hM.1.2.1, by rw [d2]; exact hM.1.2.2.1, by rw [d3]; exact hM.1.2.2.2⟩, fun b sb hb => ?_⟩
  rw [d1] at hb
  by_cases hba : b = a
  · subst hba
    cases hs.symm.trans hb
    exact ⟨(hM.2 b sh hs).1, hat⟩
  · obtain ⟨e1, e2, e3⟩ := d4 b hba
    rw [zcell_same e1 e2 e3]
    exact ⟨(hM.2 b sb hb).1, (hM.2 b sb hb).2.kept (o b hba)⟩
theorem z_setSize (cell : Cell) (i : Nat) (v : Value) : (cell.setSlot i v).slots.size = cell.slots.size := by simp [Cell.setSlot]
section ZP
variable {g : zg} {d : Nat} {y : zm} {post : zR → zM → Prop} {M M1 : zM} {pc : Nat} {lv : List (Nat × Value)} {st : List Value}
set_option maxHeartbeats 1000000 in
theorem zi_putv {a i ci k kd : Nat} {ty : FieldType} {fin : Bool} {v : Value} (hs : zsh M a = some (.inl ci)) (hf : z_fl y.1.cls i ci k kd ty fin) (hin2 : fin = true → y.1.name = "<init>" ∧ ∃ T N, zcl[ci]? = some (y.1.cls, T, N)) (hn : narrow ty v = v) (hfit : fits ty v = true) (hdf : zdiff M M1 a) (hv : ∀ j, j < (zkd ci).length → zv M1 a j ((zkd ci).getD j 0) = if j = k then v else zv M a j ((zkd ci).getD j 0))
    (hd : decode y.2.1 pc = .ok (.putfield i, 3)) (kk : zG g d y post M1 (pc + 3) lv st) : zG g d y post M pc lv (v :: va_rf (some a) :: st) := by
  intro p e R s m args below meth c Q H locs ls hc hM hS hl hz
  obtain ⟨C, T, N, tyf, ⟨hcl, hin, hty, hnm, hlen⟩, hk, hlink, hkd, hte, hfn, hown⟩ := hf
  have hts := hc.1.2.2.2.2.1
  have hK := hc.2.1.1
  have hap := va_apart (own := y.1.cls) hts hin tyf hty hnm hK hcl
  have hat := (hM.2 a _ hs).2
  obtain ⟨r, h1, cell, q1, q2, q3, q4⟩ := hat
  have hr : r = (C, T, N) := Option.some.inj (h1.symm.trans hcl)
  subst hr
  obtain ⟨hSl, hfc, kC, hkC, hkind⟩ := hK.1 ci _ hcl
  obtain ⟨cf, kf, fi, f, hi, hsl⟩ := hSl k hk
  have hlay := hts _ (hin _ (u_in_lay hk))
  unfold u_lay at hlay
  have hst := (u_facts hfc hkC (u_lays hts hin hk) hi).1
  have hpd : parseFieldDescriptor (T k).2.2.1 = some ty := by rw [hty k hk, hte]
  have fin_ : ∀ H' : Heap, H'[a]? = some (cell.setSlot f.slot v) → H'.size = H.size → (∀ q, q ≠ a → H'[q]? = H[q]?) → W p g.l e R s m args below meth c H' (locs ++ [⟨a, f.slot⟩]) (H.size - s.heap.size) (zt H - zt s.heap) Q (F0 m (pc + 3) ls st) := by
    intro H' e1 e2 e3
    have hat1 : va_at g.D zcl (a, zcell g.tys M1 a (.inl ci)) H' := by
      refine ⟨_, hcl, ?_⟩
      rw [hsl] at e1
      refine t_OB.to (V := updV (vp_V (zfs M a ci)) k v) ⟨_, e1, q2, q3, t_set q4 hap hk v⟩ (fun j hj => ?_)
      have hj' : j < (zkd ci).length := by rw [hlen]; exact hj
      have e0 : vp_V (zfs M1 a ci) j = zv M1 a j ((zkd ci).getD j 0) := by
        simp [vp_V, List.getD_eq_getElem?_getD, zfs_at _ _ _ hj']
      have e00 : vp_V (zfs M a ci) j = zv M a j ((zkd ci).getD j 0) := by
        simp [vp_V, List.getD_eq_getElem?_getD, zfs_at _ _ _ hj']
      show updV (vp_V (zfs M a ci)) k v j = vp_V (zfs M1 a ci) j
      rw [e0, hv j hj']
      unfold updV
      by_cases hjk : j = k
      · simp [hjk]
      · simp [hjk, e00]
    have hzt : zt H' = zt H := zt_set q1 e1 (z_setSize _ _ _) e3
    exact z_tight (fun hz => kk p e R s m args below meth c Q H' _ ls hc (z_put hM hs hdf hat1 e2 hzt e3) (hS.put e2 e3 (hM.2 a _ hs).1) hl hz)
  cases fin with
  | false =>
    rw [if_neg (by rw [hfn]; decide)] at hlay
    have h6 := u_store hfc hkC hkind hlay hi hpd hn hfit
    exact W.putK hc.1.1 hc.1.2.1 (f := f) ⟨hc.1.2.2.2.1, hts _ hlink, ⟨_, _, _, hi⟩, hst⟩ (by rw [q2]; exact h6) q1 q3 (by rw [hsl]; exact k2_hasslot (q4 k hk)) rfl rfl hd fin_
  | true =>
    rw [if_pos hfn] at hlay
    have hcf : m.cls = cf := by
      obtain ⟨_, _, c', _, _, _, -, -, hf', -, -, -, hown2, -⟩ := Cond.laysFinal_spec hlay
      have e1 : c' = cf := by have := hi.symm.trans hf'; simp at this; exact this.1.symm
      have hC : C = y.1.cls := by
        obtain ⟨-, T2, N2, h2⟩ := hin2 rfl
        exact congrArg Prod.fst (Option.some.inj (hcl.symm.trans h2))
      rw [hown rfl hC] at hown2
      rw [← e1]; exact Option.some.inj (hc.1.2.2.2.1.symm.trans hown2)
    have h6 := u_fits hfc hkC hkind (Or.inr hlay) hi hpd hn hfit
    exact W.putFinK hc.1.1 hc.1.2.1 hc.1.2.2.2.1 (hts _ hlink) hi hst hcf (by rw [hc.1.2.2.2.2.2.2.1]; exact (hin2 rfl).1) (by rw [q2]; exact h6) q1 q3 (by rw [hsl]; exact k2_hasslot (q4 k hk)) rfl rfl hd fin_
theorem zv_pi (M : zM) (a k : Nat) (v : Int32) {L : List Nat} (hk : L.getD k 0 = 0) : ∀ j, zv (zpi M a k v) a j (L.getD j 0) = if j = k then .int v else zv M a j (L.getD j 0) := by
  intro j
  by_cases hj : j = k
  · subst hj
    rw [hk, if_pos rfl]
    simp [zv, zi, zpi, zu]
  · rw [if_neg hj]
    unfold zv
    split <;> simp [zi, zl, zr, zpi, zu, hj]
theorem zv_pr (M : zM) (a k : Nat) (v : Option Nat) {L : List Nat} (hk : L.getD k 0 = 1) : ∀ j, zv (zpr M a k v) a j (L.getD j 0) = if j = k then va_rf v else zv M a j (L.getD j 0) := by
  intro j
  by_cases hj : j = k
  · subst hj
    rw [hk, if_pos rfl]
    simp [zv, zr, zpr, zu]
  · rw [if_neg hj]
    unfold zv
    split <;> simp [zi, zl, zr, zpr, zu, hj]
theorem z_kd {own : String} {i ci k kd : Nat} {ty : FieldType} {fin : Bool} (hf : z_fl own i ci k kd ty fin) : (zkd ci).getD k 0 = kd := by
  obtain ⟨C, T, N, tyf, -, -, -, hkd, -⟩ := hf
  exact hkd
theorem zi_puti {a i ci k : Nat} {ty : FieldType} {fin : Bool} {v : Int32} (hs : zsh M a = some (.inl ci)) (hf : z_fl y.1.cls i ci k 0 ty fin) (hin2 : fin = true → y.1.name = "<init>" ∧ ∃ T N, zcl[ci]? = some (y.1.cls, T, N)) (hn : narrow ty (.int v) = .int v) (hfit : fits ty (.int v) = true)
    (hd : decode y.2.1 pc = .ok (.putfield i, 3)) (kk : zG g d y post (zpi M a k v) (pc + 3) lv st) : zG g d y post M pc lv (.int v :: va_rf (some a) :: st) :=
  zi_putv hs hf hin2 hn hfit (zdiff_i M a k v) (fun j _ => zv_pi M a k v (z_kd hf) j) hd kk
theorem z_nar_r (C : String) (r : Option Nat) : narrow (.object C) (va_rf r) = va_rf r ∧ fits (.object C) (va_rf r) = true := by
  cases r <;> exact ⟨rfl, rfl⟩
theorem z_nar_a (t : FieldType) (r : Option Nat) : narrow (.array t) (va_rf r) = va_rf r ∧ fits (.array t) (va_rf r) = true := by
  cases r <;> exact ⟨rfl, rfl⟩
theorem zi_putr {a i ci k : Nat} {ty : FieldType} {fin : Bool} {r : Option Nat} (hs : zsh M a = some (.inl ci)) (hf : z_fl y.1.cls i ci k 1 ty fin) (hin2 : fin = true → y.1.name = "<init>" ∧ ∃ T N, zcl[ci]? = some (y.1.cls, T, N)) (hn : narrow ty (va_rf r) = va_rf r ∧ fits ty (va_rf r) = true)
    (hd : decode y.2.1 pc = .ok (.putfield i, 3)) (kk : zG g d y post (zpr M a k r) (pc + 3) lv st) : zG g d y post M pc lv (va_rf r :: va_rf (some a) :: st) :=
  zi_putv hs hf hin2 hn.1 hn.2 (zdiff_r M a k r) (fun j _ => zv_pr M a k r (z_kd hf) j) hd kk
end ZP
end
section
/-! rows of arrays, and of what is new -/
theorem z_arr {g : zg} {M : zM} {H : Heap} {U : State} {a t n : Nat} {ty : FieldType} (hM : z_ok g M H) (hK : z_K g U) (hs : zsh M a = some (.inr (t, n))) (ht : zAT[t]? = some ty) : va_at g.D zcl (a, .inl ((g.tys.getD t (0, .int)).1, zarr M a n ty)) H := by
  have h := (hM.2 a _ hs).2
  have h2 := (z_ty hK ht).2
  have h3 : zcell g.tys M a (.inr (t, n)) = .inl ((g.tys.getD t (0, .int)).1, zarr M a n (g.tys.getD t (0, .int)).2) := rfl
  rw [h3, h2] at h
  exact h
theorem z_arrP {g : zg} {M : zM} {H : Heap} {U : State} {a t n : Nat} {ty : FieldType} (hM : z_ok g M H) (hK : z_K g U) (hs : zsh M a = some (.inr (t, n))) (ht : zAT[t]? = some ty) : va_P g.D zcl [(a, .inl ((g.tys.getD t (0, .int)).1, zarr M a n ty))] H := by
  intro k q hk
  have hz : k < 1 := (List.getElem?_eq_some_iff.mp hk).1
  rw [show k = 0 by omega] at hk
  cases hk
  exact z_arr hM hK hs ht
section ZA
variable {g : zg} {d : Nat} {y : zm} {post : zR → zM → Prop} {M : zM} {pc : Nat} {lv : List (Nat × Value)} {st : List Value}
theorem zi_iald {a t n : Nat} {i : Int32} (hs : zsh M a = some (.inr (t, n))) (ht : zAT[t]? = some .int) (hi : vp_in i n) (hd : decode y.2.1 pc = .ok (.iaload, 1)) (kk : zG g d y post M (pc + 1) lv (.int (zi M a i.toNatClampNeg) :: st)) : zG g d y post M pc lv (.int i :: va_rf (some a) :: st) := by
  intro p e R s m args below meth c Q H locs ls hc hM hS hl hz
  exact va_iald hc.1.1 hc.1.2.1 hc.2.1.1 (z_arrP hM hc.2.1 hs ht) 0 t rfl (z_ty hc.2.1 ht).1 hi hd (kk p e R s m args below meth c Q H locs ls hc hM hS hl hz)
theorem zi_cald {a t n : Nat} {i : Int32} (hs : zsh M a = some (.inr (t, n))) (ht : zAT[t]? = some .char) (hi : vp_in i n) (hd : decode y.2.1 pc = .ok (.caload, 1)) (kk : zG g d y post M (pc + 1) lv (.int (zi M a i.toNatClampNeg) :: st)) : zG g d y post M pc lv (.int i :: va_rf (some a) :: st) := by
  intro p e R s m args below meth c Q H locs ls hc hM hS hl hz
  exact va_cald hc.1.1 hc.1.2.1 hc.2.1.1 (z_arrP hM hc.2.1 hs ht) 0 t rfl (z_ty hc.2.1 ht).1 hi hd (kk p e R s m args below meth c Q H locs ls hc hM hS hl hz)
theorem zi_lald {a t n : Nat} {i : Int32} (hs : zsh M a = some (.inr (t, n))) (ht : zAT[t]? = some .long) (hi : vp_in i n) (hd : decode y.2.1 pc = .ok (.laload, 1)) (kk : zG g d y post M (pc + 1) lv (.long (zl M a i.toNatClampNeg) :: st)) : zG g d y post M pc lv (.int i :: va_rf (some a) :: st) := by
  intro p e R s m args below meth c Q H locs ls hc hM hS hl hz
  exact va_lald hc.1.1 hc.1.2.1 hc.2.1.1 (z_arrP hM hc.2.1 hs ht) 0 t rfl (z_ty hc.2.1 ht).1 hi hd (kk p e R s m args below meth c Q H locs ls hc hM hS hl hz)
theorem zi_aald {a t n : Nat} {C : String} {i : Int32} (hs : zsh M a = some (.inr (t, n))) (ht : zAT[t]? = some (.object C)) (hi : vp_in i n) (hd : decode y.2.1 pc = .ok (.aaload, 1)) (kk : zG g d y post M (pc + 1) lv (va_rf (zr M a i.toNatClampNeg) :: st)) : zG g d y post M pc lv (.int i :: va_rf (some a) :: st) := by
  intro p e R s m args below meth c Q H locs ls hc hM hS hl hz
  exact va_aldq hc.1.1 hc.1.2.1 hc.2.1.1 (z_arrP hM hc.2.1 hs ht) 0 t rfl (z_ty hc.2.1 ht).1 hi hd (kk p e R s m args below meth c Q H locs ls hc hM hS hl hz)
theorem zarr_len (M : zM) (a n : Nat) (ty : FieldType) : (zarr M a n ty).1 = n := by cases ty <;> rfl
theorem zi_alen {a t n : Nat} {ty : FieldType} (hs : zsh M a = some (.inr (t, n))) (ht : zAT[t]? = some ty) (hd : decode y.2.1 pc = .ok (.arraylength, 1)) (kk : zG g d y post M (pc + 1) lv (.int (nI n) :: st)) : zG g d y post M pc lv (va_rf (some a) :: st) := by
  intro p e R s m args below meth c Q H locs ls hc hM hS hl hz
  exact va_alen hc.1.1 hc.1.2.1 hc.2.1.1 (z_arrP hM hc.2.1 hs ht) 0 t rfl (z_ty hc.2.1 ht).1 (v := nI n) (by rw [zarr_len]; rfl) hd (kk p e R s m args below meth c Q H locs ls hc hM hS hl hz)
theorem z_put_a {M1 : zM} {H H1 : Heap} {U : State} {a t n k : Nat} {ty : FieldType} {f f1 : Nat → Value} {v : Value} (hM : z_ok g M H) (hK : z_K g U) (hs : zsh M a = some (.inr (t, n))) (ht : zAT[t]? = some ty) (hdf : zdiff M M1 a)
    (e0 : ∀ cA : ClassId, vp_cell cA (zarr M a n ty) = arrV cA n f) (e1 : ∀ cA : ClassId, vp_cell cA (zarr M1 a n ty) = arrV cA n f1) (hf : f1 = updV f k v)
    (e : H1[a]? = some ((vp_cell (g.tys.getD t (0, .int)).1 (zarr M a n ty)).setSlot k v)) (z : H1.size = H.size) (o : ∀ q : Nat, q ≠ a → H1[q]? = H[q]?) : z_ok g M1 H1 := by
  have h0 : H[a]? = some (vp_cell (g.tys.getD t (0, .int)).1 (zarr M a n ty)) := z_arr hM hK hs ht
  refine z_put hM hs hdf ?_ z (zt_set h0 e (z_setSize _ _ _) o) o
  have h3 : zcell g.tys M1 a (.inr (t, n)) = .inl ((g.tys.getD t (0, .int)).1, zarr M1 a n (g.tys.getD t (0, .int)).2) := rfl
  rw [h3, (z_ty hK ht).2]
  show H1[a]? = some (vp_cell _ _)
  rw [e, e0, arrV_store, e1, hf]
theorem z_updi (M : zM) (a k : Nat) (x : Int32) : (fun j => Value.int (zi (zpi M a k x) a j)) = updV (fun j => .int (zi M a j)) k (.int x) := by
  funext j
  by_cases hj : j = k <;> simp [updV, zi, zpi, zu, hj]
theorem z_updl (M : zM) (a k : Nat) (x : Int64) : (fun j => Value.long (zl (zpl M a k x) a j)) = updV (fun j => .long (zl M a j)) k (.long x) := by
  funext j
  by_cases hj : j = k <;> simp [updV, zl, zpl, zu, hj]
theorem z_updr (M : zM) (a k : Nat) (x : Option Nat) : (fun j => va_rf (zr (zpr M a k x) a j)) = updV (fun j => va_rf (zr M a j)) k (va_rf x) := by
  funext j
  by_cases hj : j = k <;> simp [updV, zr, zpr, zu, hj]
theorem zi_iast {a t n : Nat} {i x : Int32} (hs : zsh M a = some (.inr (t, n))) (ht : zAT[t]? = some .int) (hi : vp_in i n) (hd : decode y.2.1 pc = .ok (.iastore, 1)) (kk : zG g d y post (zpi M a i.toNatClampNeg x) (pc + 1) lv st) : zG g d y post M pc lv (.int x :: .int i :: va_rf (some a) :: st) := by
  intro p e R s m args below meth c Q H locs ls hc hM hS hl hz
  refine W.iast hc.1.1 hc.1.2.1 (z_arr hM hc.2.1 hs ht) ((hc.2.1.1.2 t _ (z_ty hc.2.1 ht).1).1 n (fun j => .int (zi M a j))) (fun q => by cases q) (by show ¬ (i < 0 ∨ (arrV _ _ _).slots.size ≤ _); rw [arrV_size]; exact hi) rfl rfl hd fun H1 e1 z oq => ?_
  exact z_tight (fun hz => kk p e R s m args below meth c Q H1 _ ls hc (z_put_a hM hc.2.1 hs ht (zdiff_i M a _ x) (fun _ => rfl) (fun _ => rfl) (z_updi M a _ x) e1 z oq) (hS.put z oq (hM.2 a _ hs).1) hl hz)
theorem zi_cast {a t n : Nat} {i x : Int32} (hs : zsh M a = some (.inr (t, n))) (ht : zAT[t]? = some .char) (hi : vp_in i n) (hx : narrow .char (.int x) = .int x) (hd : decode y.2.1 pc = .ok (.castore, 1)) (kk : zG g d y post (zpi M a i.toNatClampNeg x) (pc + 1) lv st) : zG g d y post M pc lv (.int x :: .int i :: va_rf (some a) :: st) := by
  intro p e R s m args below meth c Q H locs ls hc hM hS hl hz
  refine W.cast hc.1.1 hc.1.2.1 (z_arr hM hc.2.1 hs ht) ((hc.2.1.1.2 t _ (z_ty hc.2.1 ht).1).1 n (fun j => .int (zi M a j))) (fun q => by cases q) (by show ¬ (i < 0 ∨ (arrV _ _ _).slots.size ≤ _); rw [arrV_size]; exact hi) rfl rfl hd fun H1 e1 z oq => ?_
  rw [hx] at e1
  exact z_tight (fun hz => kk p e R s m args below meth c Q H1 _ ls hc (z_put_a hM hc.2.1 hs ht (zdiff_i M a _ x) (fun _ => rfl) (fun _ => rfl) (z_updi M a _ x) e1 z oq) (hS.put z oq (hM.2 a _ hs).1) hl hz)
theorem zi_last {a t n : Nat} {i : Int32} {x : Int64} (hs : zsh M a = some (.inr (t, n))) (ht : zAT[t]? = some .long) (hi : vp_in i n) (hd : decode y.2.1 pc = .ok (.lastore, 1)) (kk : zG g d y post (zpl M a i.toNatClampNeg x) (pc + 1) lv st) : zG g d y post M pc lv (.long x :: .int i :: va_rf (some a) :: st) := by
  intro p e R s m args below meth c Q H locs ls hc hM hS hl hz
  refine W.last hc.1.1 hc.1.2.1 (z_arr hM hc.2.1 hs ht) ((hc.2.1.1.2 t _ (z_ty hc.2.1 ht).1).1 n (fun j => .long (zl M a j))) (fun q => by cases q) (by show ¬ (i < 0 ∨ (arrV _ _ _).slots.size ≤ _); rw [arrV_size]; exact hi) rfl rfl hd fun H1 e1 z oq => ?_
  exact z_tight (fun hz => kk p e R s m args below meth c Q H1 _ ls hc (z_put_a hM hc.2.1 hs ht (zdiff_l M a _ x) (fun _ => rfl) (fun _ => rfl) (z_updl M a _ x) e1 z oq) (hS.put z oq (hM.2 a _ hs).1) hl hz)
theorem zi_aastN {a t n : Nat} {C : String} {i : Int32} (hs : zsh M a = some (.inr (t, n))) (ht : zAT[t]? = some (.object C)) (hi : vp_in i n) (hd : decode y.2.1 pc = .ok (.aastore, 1)) (kk : zG g d y post (zpr M a i.toNatClampNeg none) (pc + 1) lv st) : zG g d y post M pc lv (va_rf none :: .int i :: va_rf (some a) :: st) := by
  intro p e R s m args below meth c Q H locs ls hc hM hS hl hz
  refine va_WaastN (C := C) hc.1.1 hc.1.2.1 (z_arr hM hc.2.1 hs ht) ((hc.2.1.1.2 t _ (z_ty hc.2.1 ht).1).1 n (fun j => va_rf (zr M a j))) (fun q => by cases q) (by show ¬ (i < 0 ∨ (arrV _ _ _).slots.size ≤ _); rw [arrV_size]; exact hi) rfl rfl hd fun H1 e1 z oq => ?_
  exact z_tight (fun hz => kk p e R s m args below meth c Q H1 _ ls hc (z_put_a hM hc.2.1 hs ht (zdiff_r M a _ none) (fun _ => rfl) (fun _ => rfl) (z_updr M a _ none) e1 z oq) (hS.put z oq (hM.2 a _ hs).1) hl hz)
theorem zi_aast {a t n v ci N : Nat} {C : String} {T : u_T} {i : Int32} (hs : zsh M a = some (.inr (t, n))) (ht : zAT[t]? = some (.object C)) (hv : zsh M v = some (.inl ci)) (hcl : zcl[ci]? = some (C, T, N)) (hi : vp_in i n) (hd : decode y.2.1 pc = .ok (.aastore, 1)) (kk : zG g d y post (zpr M a i.toNatClampNeg (some v)) (pc + 1) lv st) : zG g d y post M pc lv (va_rf (some v) :: .int i :: va_rf (some a) :: st) := by
  intro p e R s m args below meth c Q H locs ls hc hM hS hl hz
  have hlt : i.toNatClampNeg < n := Nat.not_le.mp fun q => hi (Or.inr q)
  have h0 : ¬ i < 0 := fun q => hi (Or.inl q)
  obtain ⟨r', hr', cellV, g1, g2, g3, -⟩ := (hM.2 v _ hv).2
  have hcls := (hc.2.1.1.1 ci _ hcl).2
  obtain ⟨kA, comp, k1, k2, k3, -⟩ := (hc.2.1.1.2 t _ (z_ty hc.2.1 ht).1).2
  have hcomp : comp = g.D.1 ci := Option.some.inj (k3.symm.trans hcls.1)
  subst hcomp
  obtain ⟨kC, hkC, -⟩ := hcls.2
  refine W.aast hc.1.1 hc.1.2.1 (z_arr hM hc.2.1 hs ht) (fun q h => by cases h) (fun h => by cases h) k1 k2 rfl hkC ⟨h0, by show _ < (arrV _ _ _).slots.size; rw [arrV_size]; exact hlt⟩ g1 (fun q h => by rw [g3] at h; cases h) (by rw [g2]; exact hkC) (by rw [g2]; exact va_assign hcls) rfl rfl hd fun H1 e1 z oq => ?_
  exact z_tight (fun hz => kk p e R s m args below meth c Q H1 _ ls hc (z_put_a hM hc.2.1 hs ht (zdiff_r M a _ (some v)) (fun _ => rfl) (fun _ => rfl) (z_updr M a _ (some v)) e1 z oq) (hS.put z oq (hM.2 a _ hs).1) hl hz)
/-- a new cell behind the others -/
theorem z_born {sh : Nat ⊕ Nat × Nat} {n : Nat} {H : Heap} {ce : Cell} (hM : z_ok g M H) (hA : g.A H.size) (hn : ce.slots.size = n) (hr : zsz M + 1 ≤ g.KC ∧ zsl M + n ≤ g.KS) (hat : va_at g.D zcl (zsz M, zcell g.tys (znew M sh n) (zsz M) sh) (H.push ce)) : z_ok g (znew M sh n) (H.push ce) := by
  have hsz : H.size = zsz M := hM.1.1
  refine ⟨⟨by rw [Array.size_push, hsz]; rfl, by rw [zt_push, hM.1.2.1, hn]; rfl, hr.1, hr.2⟩, fun b sb hb => ?_⟩
  by_cases hbz : b = zsz M
  · subst hbz
    have : some sh = some sb := by simpa [znew, zsh] using hb
    cases this
    exact ⟨by rw [← hsz]; exact hA, hat⟩
  · have hb0 : zsh M b = some sb := by simpa [znew, zsh, hbz] using hb
    have e1 : zi (znew M sh n) b = zi M b := by simp [znew, zi, hbz]
    have e2 : zl (znew M sh n) b = zl M b := by simp [znew, zl, hbz]
    have e3 : zr (znew M sh n) b = zr M b := by simp [znew, zr, hbz]
    rw [zcell_same e1 e2 e3]
    refine ⟨(hM.2 b sb hb0).1, (hM.2 b sb hb0).2.kept ?_⟩
    have hlt : b < H.size := (hM.2 b sb hb0).2.lt
    show (H.push ce)[b]? = H[b]?
    rw [Array.getElem?_push, if_neg (Nat.ne_of_lt hlt)]
theorem z_bornS {A : Nat → Prop} {H0 H : Heap} {locs : List Loc} {ce : Cell} (hS : va_S A H0 H locs) : va_S A H0 (H.push ce) locs := by
  refine ⟨Nat.le_trans hS.1 (by rw [Array.size_push]; omega), fun q h1 h2 => ?_, hS.2.2⟩
  have : q < H.size := Nat.lt_of_lt_of_le h1 hS.1
  rw [Array.getElem?_push, if_neg (Nat.ne_of_lt this)]
  exact hS.2.1 q h1 h2
/-- a kind's default -/
def zdv (kd : Nat) : Value := match kd with
  | 0 => .int 0
  | 1 => .null
  | _ => .long 0
theorem zi_new {i ci N : Nat} {C : String} {T : u_T} {tyf : Nat → FieldType} (hcl : z_cl ci C T N tyf) (hdv : ∀ j, j < N → defaultValue (tyf j) = zdv ((zkd ci).getD j 0)) (hw1 : Cond.classLink y.1.cls i C ∈ zCW) (hw2 : Cond.instantiable C N ∈ zCW) (hw3 : Cond.initialized C ∈ zCW) (hr : zsz M + 1 ≤ g.KC ∧ zsl M + N ≤ g.KS)
    (hd : decode y.2.1 pc = .ok (.new i, 3)) (kk : zG g d y post (znew M (.inl ci) N) (pc + 3) lv (va_rf (some (zsz M)) :: st)) : zG g d y post M pc lv st := by
  intro p e R s m args below meth c Q H locs ls hc hM hS hl hz
  have hts := hc.1.2.2.2.2.1
  have hsz : H.size = zsz M := hM.1.1
  have hzt := hM.1.2.1
  have hrc := hc.2.2.1.2.2.1
  have hrs := hc.2.2.1.2.2.2
  have hS1 := hS.1
  obtain ⟨hcl0, hin, hty, hnm, hlen⟩ := hcl
  have hKn := hc.2.1.1.1 ci _ hcl0
  refine W.newc hc.1.1 hc.1.2.1 hc.1.2.2.2.1 (hts _ hw1) (hts _ hw2) (hts _ hw3) rfl hd (by omega) (by have := hr.2; omega) fun cC kC h1 h2 h3 h4 => ?_
  cases hKn.2.1.symm.trans h1
  have hat : va_at g.D zcl (zsz M, zcell g.tys (znew M (.inl ci) N) (zsz M) (.inl ci)) (H.push { cls := g.D.1 ci, slots := kC.instanceTypes.map defaultValue, vm := .none }) := by
    refine ⟨_, hcl0, ?_⟩
    have e1 : (H.push { cls := g.D.1 ci, slots := kC.instanceTypes.map defaultValue, vm := .none } : Heap)[zsz M]? = some (blank (g.D.1 ci) kC) := by
      rw [← hsz]; simp [blank]
    refine (u_born tyf hts hin hKn h2 e1 hty).to (fun j hj => ?_)
    have hj' : j < (zkd ci).length := by rw [hlen]; exact hj
    show defaultValue (tyf j) = vp_V (zfs (znew M (.inl ci) N) (zsz M) ci) j
    rw [hdv j hj]
    simp only [vp_V, List.getD_eq_getElem?_getD, zfs_at _ _ _ hj', Option.getD_some]
    generalize (zkd ci)[j]?.getD 0 = w
    match w with
    | 0 => simp [zv, zdv, znew, zi]
    | 1 => simp [zv, zdv, znew, zr, va_rf]
    | w + 2 => simp [zv, zdv, znew, zl]
  have h := kk p e R s m args below meth c Q (H.push { cls := g.D.1 ci, slots := kC.instanceTypes.map defaultValue, vm := .none }) locs ls hc (z_born hM (hc.2.2.2.1 _ hS1) (by rw [Array.size_map]; exact h4) hr hat) (z_bornS hS) hl
  rw [← hsz] at h
  exact z_tight h
end ZA
end
section
/-! new arrays, returns, calls -/
section ZN
variable {g : zg} {d : Nat} {y : zm} {post : zR → zM → Prop} {M : zM} {pc : Nat} {lv : List (Nat × Value)} {st : List Value}
theorem zi_newa {t N : Nat} {ty : FieldType} {atype : ArrayType} {n : Int32} (hw : Cond.arrayClass ty ∈ zCW) (hat : newarray.typeOf atype = ty) (ht : zAT[t]? = some ty) (hprim : ty = .int ∨ ty = .char ∨ ty = .long ∨ ty = .boolean ∨ ty = .byte) (hn : n = nI N) (hN : N ≤ 65536) (hr : zsz M + 1 ≤ g.KC ∧ zsl M + N ≤ g.KS)
    (hd : decode y.2.1 pc = .ok (.newarray atype, 2)) (kk : zG g d y post (znew M (.inr (t, N)) N) (pc + 2) lv (va_rf (some (zsz M)) :: st)) : zG g d y post M pc lv (.int n :: st) := by
  intro p e R s m args below meth c Q H locs ls hc hM hS hl hz
  have hts := hc.1.2.2.2.2.1
  have hsz : H.size = zsz M := hM.1.1
  have hzt := hM.1.2.1
  have hrc := hc.2.2.1.2.2.1
  have hrs := hc.2.2.1.2.2.2
  have hS1 := hS.1
  have hr2 := hr.2
  have hcl : n.toNatClampNeg = N := by rw [hn]; exact nI_clamp (by omega)
  have hn0 : ¬ n < 0 := by rw [hn]; exact nI_pos (by omega)
  have hb : componentBytes ty ≤ 8 := by rcases hprim with rfl | rfl | rfl | rfl | rfl <;> decide
  refine W.newa hc.1.1 hc.1.2.1 (by rw [hat]; exact hts _ hw) rfl hd rfl hn0 (by rw [hat, hcl]; calc N * componentBytes ty ≤ 65536 * 8 := Nat.mul_le_mul hN hb
                                                                                            _ ≤ 536870912 := by decide) (by omega) (by rw [hcl]; omega) fun cA kA comp h1 h2 h3 => ?_
  rw [hat] at h1 h3 ⊢
  rw [hcl]
  have hcA : cA = (g.tys.getD t (0, .int)).1 := by
    have h4 := (hc.2.1.1.2 t _ (z_ty hc.2.1 ht).1).2
    have h5 : s.vm.findClass ("[" ++ ty.toString) = some (g.tys.getD t (0, .int)).1 := by
      rcases hprim with rfl | rfl | rfl | rfl | rfl <;> exact h4
    exact Option.some.inj (h1.symm.trans h5)
  subst hcA
  have hat2 : va_at g.D zcl (zsz M, zcell g.tys (znew M (.inr (t, N)) N) (zsz M) (.inr (t, N))) (H.push { cls := (g.tys.getD t (0, .int)).1, slots := Array.replicate N (defaultValue ty), vm := .none }) := by
    have h3 : zcell g.tys (znew M (.inr (t, N)) N) (zsz M) (.inr (t, N)) = .inl ((g.tys.getD t (0, .int)).1, zarr (znew M (.inr (t, N)) N) (zsz M) N (g.tys.getD t (0, .int)).2) := rfl
    rw [h3, (z_ty hc.2.1 ht).2]
    show (H.push _)[zsz M]? = some (vp_cell _ _)
    rw [← hsz, Array.getElem?_push_size, arrV_new]
    rcases hprim with rfl | rfl | rfl | rfl | rfl <;> simp [zarr, znew, zi, zl, vp_cell, hsz, defaultValue]
  have h := kk p e R s m args below meth c Q _ locs ls hc (z_born hM (hc.2.2.2.1 _ hS1) (by simp) hr hat2) (z_bornS hS) hl
  rw [← hsz] at h
  exact z_tight h
theorem zi_newq {i t N : Nat} {C : String} {n : Int32} (hw : Cond.classLink y.1.cls i C ∈ zCW) (ho : C ∈ zAO) (ht : zAT[t]? = some (.object C)) (hn : n = nI N) (hN : N ≤ 65536) (hr : zsz M + 1 ≤ g.KC ∧ zsl M + N ≤ g.KS)
    (hd : decode y.2.1 pc = .ok (.anewarray i, 3)) (kk : zG g d y post (znew M (.inr (t, N)) N) (pc + 3) lv (va_rf (some (zsz M)) :: st)) : zG g d y post M pc lv (.int n :: st) := by
  intro p e R s m args below meth c Q H locs ls hc hM hS hl hz
  have hts := hc.1.2.2.2.2.1
  have hsz : H.size = zsz M := hM.1.1
  have hzt := hM.1.2.1
  have hrc := hc.2.2.1.2.2.1
  have hrs := hc.2.2.1.2.2.2
  have hS1 := hS.1
  have hr2 := hr.2
  have hcl : n.toNatClampNeg = N := by rw [hn]; exact nI_clamp (by omega)
  have hn0 : ¬ n < 0 := by rw [hn]; exact nI_pos (by omega)
  refine W.anew hc.1.1 hc.1.2.1 hc.1.2.2.2.1 (hts _ hw) (va_AO.use (hc.2.1.2.2.1 C ho)) rfl hd rfl hn0 (by rw [hcl]; omega) (by omega) (by rw [hcl]; omega) fun cA kA comp h1 h2 h3 h4 => ?_
  rw [hcl]
  have hcA : cA = (g.tys.getD t (0, .int)).1 := by
    obtain ⟨_, _, _, _, _, h5⟩ := (hc.2.1.1.2 t _ (z_ty hc.2.1 ht).1).2
    exact Option.some.inj (h1.symm.trans h5)
  subst hcA
  have hat2 : va_at g.D zcl (zsz M, zcell g.tys (znew M (.inr (t, N)) N) (zsz M) (.inr (t, N))) (H.push { cls := (g.tys.getD t (0, .int)).1, slots := Array.replicate N .null, vm := .none }) := by
    have h3 : zcell g.tys (znew M (.inr (t, N)) N) (zsz M) (.inr (t, N)) = .inl ((g.tys.getD t (0, .int)).1, zarr (znew M (.inr (t, N)) N) (zsz M) N (g.tys.getD t (0, .int)).2) := rfl
    rw [h3, (z_ty hc.2.1 ht).2]
    show (H.push _)[zsz M]? = some (vp_cell _ _)
    rw [← hsz, Array.getElem?_push_size, arrV_new]
    simp [zarr, znew, zr, vp_cell, hsz, va_rf]
  have h := kk p e R s m args below meth c Q _ locs ls hc (z_born hM (hc.2.2.2.1 _ hS1) (by simp) hr hat2) (z_bornS hS) hl
  rw [← hsz] at h
  exact z_tight h
/-- the end of a walk: the machine has come to t with the answer v -/
theorem z_end {p : Program} {e : Env} {R : Room} {s : State} {m : MethodId} {args : Array Value} {below : List Frame} {meth : Method} {c : Code} {Q : State → Prop} {H : Heap} {locs : List Loc} {f : JFrame} {v : Option Value}
    (hc : zctx g d y post p e R s m args below meth c Q) (hM : z_ok g M H) (hS : va_S g.A s.heap H locs) (hp : post (.inl v) M)
    (w : W p g.l e R s m args below meth c H locs (H.size - s.heap.size) (zt H - zt s.heap) (MQ below (fun _ _ o t => o = .returned v ∧ t.heap = H) args s (H.size - s.heap.size) (zt H - zt s.heap) g.A) f) : W p g.l e R s m args below meth c H locs (H.size - s.heap.size) (zt H - zt s.heap) Q f := by
  intro T hT X
  obtain ⟨t, st, o, hrun, hend, ⟨ho, hh⟩, L, ⟨-, hW, hsame⟩, hL⟩ := w T hT X
  subst hh
  exact ⟨t, st, hc.2.2.2.2 t o (.inl v) M L hrun hend hW hsame hL ho hp hM (hS.F rfl)⟩
theorem zi_ireturn {x : Int32} {ty : FieldType} (hr : y.2.2.2 = some ty) (hn : narrow ty (.int x) = .int x) (hd : decode y.2.1 pc = .ok (.ireturn, 1)) (hp : post (.inl (some (.int x))) M) : zG g d y post M pc lv [.int x] := by
  intro p e R s m args below meth c Q H locs ls hc hM hS hl hz
  exact z_end hc hM hS hp (W.zret hc.1.1 hc.1.2.1 (hc.1.2.2.2.2.2.2.2.1.trans hr) hn (fun t ht _ => ⟨rfl, ht⟩) hS.2.2 hd hc.1.2.2.2.2.2.1)
theorem zi_return (hr : y.2.2.2 = none) (hd : decode y.2.1 pc = .ok (.return_, 1)) (hp : post (.inl none) M) : zG g d y post M pc lv [] := by
  intro p e R s m args below meth c Q H locs ls hc hM hS hl hz
  exact z_end hc hM hS hp (W.vret hc.1.1 hc.1.2.1 (hc.1.2.2.2.2.2.2.2.1.trans hr) (fun t ht _ => ⟨rfl, ht⟩) hS.2.2 hd hc.1.2.2.2.2.2.1)
theorem zi_areturn {r : Option Nat} {C : String} (hr : y.2.2.2 = some (.object C)) (hd : decode y.2.1 pc = .ok (.areturn, 1)) (hp : post (.inl (some (va_rf r))) M) : zG g d y post M pc lv [va_rf r] := by
  intro p e R s m args below meth c Q H locs ls hc hM hS hl hz
  exact z_end hc hM hS hp (W.aret hc.1.1 hc.1.2.1 (hc.1.2.2.2.2.2.2.2.1.trans hr) (Or.inl ⟨C, rfl⟩) (va_rf_or r) (fun t ht _ => ⟨rfl, ht⟩) hS.2.2 hd hc.1.2.2.2.2.2.1)
end ZN
/-- a method's contract: from the memory M and these arguments, with room for d calls inside each other, it returns, and post says what and how -/
def zE (g : zg) (d : Nat) (y : zm) (av : List Value) (M : zM) (post : Option Value → zM → Prop) : Prop :=
  Met g.l y.1 (.code y.1 y.2.1 y.2.2.1 y.2.2.2 :: zCW) { frames := d, cells := g.KC - zsz M, slots := g.KS - zsl M, locals := 60 * d + 12 } (va_Pc av (fun U => z_ok g M U.heap ∧ z_K g U ∧ ∀ q : Nat, U.heap.size ≤ q → g.A q))
    (fun _ st o t => (∃ (v : Option Value) (M1 : zM), o = .returned v ∧ post v M1 ∧ z_ok g M1 t.heap ∧ z_K g t) ∧ va_F g.A st t) (g.KC - zsz M) (g.KS - zsl M) g.A
/-- what a method's number of locals and name must be -/
def zmok (y : zm) : Prop := plainName y.1.cls = true ∧ y.2.2.1 ≤ 40 ∧ zhd y.1 = []
theorem zK_moved {g : zg} {u U : State} (hW : u.WarmedH U.vm) (hq : ∀ q : Nat, q < u.heap.size → ¬ g.A q → U.heap[q]? = u.heap[q]?) (h : z_K g u) : z_K g U := by
  obtain ⟨h1, h2, h3, h4, h5, h6, h7⟩ := h
  have h8 := hq g.sb h6 h7
  refine ⟨va_K.moved hW.alike h1, h2, fun C hC => va_AO.moved hW.alike (h3 C hC), zXP_moved hW hq h4, (va_X.moved hW.alike h5).kept h8, ?_, h7⟩
  obtain ⟨scr, q1, -⟩ := h5
  rw [q1] at h8
  exact (Array.getElem?_eq_some_iff.mp h8).1
set_option maxHeartbeats 1000000 in
theorem zE_of {g : zg} {d : Nat} {y : zm} {av : List Value} {M : zM} {post : Option Value → zM → Prop} {lv : List (Nat × Value)} (hy : zmok y) (hlen : (lg_sl av).length ≤ y.2.2.1) (hlv : lv_args 0 av = lv)
    (h : zG g d y (fun r M1 => ∃ v, r = .inl v ∧ post v M1) M 0 lv []) : zE g d y av M post := by
  unfold zE
  refine Met.ofW (cc := y.2.1) (maxL := y.2.2.1) (ret := y.2.2.2) hy.1 rfl ?_
  intro p e s m args below meth c s₁ B hml hv
  obtain ⟨rfl, hM, hK, hA⟩ := hv
  have hts := atoms_spec (ws := .code y.1 y.2.1 y.2.2.1 y.2.2.2 :: zCW) B.pre
  have hl := lv_entry av (n := y.2.2.1) hlen
  rw [lg_entry_eq]
  generalize (lg_sl av ++ List.replicate (y.2.2.1 - (lg_sl av).length) Slot.unset).toArray = ls at hl ⊢
  rw [hlv] at hl
  have hsz : s.heap.size = zsz M := hM.1.1
  have hzt : zt s.heap = zsl M := hM.1.2.1
  have hkc := hM.1.2.2.1
  have hks := hM.1.2.2.2
  have w := h p e (headSpec (.code y.1 y.2.1 y.2.2.1 y.2.2.2 :: zCW) { frames := d, cells := g.KC - zsz M, slots := g.KS - zsl M, locals := 60 * d + 12 }).room s m av.toArray below meth c
    (MQ below (fun _ st o t => (∃ (v : Option Value) (M1 : zM), o = .returned v ∧ post v M1 ∧ z_ok g M1 t.heap ∧ z_K g t) ∧ va_F g.A st t) av.toArray s (g.KC - zsz M) (g.KS - zsl M) g.A) s.heap [] ls
    ⟨⟨B.exec, B.bytes, hml, findClass_of_methodNamed B.named, fun w hw => hts w (List.mem_cons_of_mem _ hw), B.notSynchronized, (name_of_methodNamed B.named B.method).1, B.returns, ?_⟩, hK, ⟨Nat.le_refl _, Nat.le_refl _, by show g.KC ≤ (g.KC - zsz M) + s.heap.size; omega, by show g.KS ≤ (g.KS - zsl M) + zt s.heap; omega⟩, hA, ?_⟩ hM va_S.rf hl (Nat.le_refl _)
  · exact W.cs (by omega) (by omega) w
  · have hne := B.noHandlers (hts _ List.mem_cons_self)
    have he : c.exceptionTable.toList = [] := by
      have h0 : c.exceptionTable = #[] := by simpa using hne
      rw [h0]
    rw [hy.2.2, he]
    rfl
  · intro t o r M1 L hrun hend hW hsame hL ho hp hM1 hF
    obtain ⟨v, rfl, hp⟩ := hp
    refine ⟨o, hrun, hend, ⟨⟨v, M1, ho, hp, hM1, zK_moved hW hF.2 hK⟩, hF⟩, L, ⟨⟨v, ho⟩, hW, ?_⟩, hL⟩
    have h1 := hM1.1.1
    have h2 := hM1.1.2.1
    have h3 := hM1.1.2.2.1
    have h4 := hM1.1.2.2.2
    exact hsame.mono (by omega) (by omega)
theorem z_cat (v : Value) : v.category ≤ 2 := by rcases lv_cat v with h | h <;> omega
theorem z_weight : ∀ (l : List Value), (l.map fun v => v.category).sum ≤ 2 * l.length := by
  intro l
  induction l with
  | nil => simp
  | cons v t ih =>
    have := z_cat v
    simp only [List.map_cons, List.sum_cons, List.length_cons]
    omega
theorem z_good {ws : List Cond} (h : ∀ w ∈ ws, w ∈ zCW) : GoodIn zCW ws := fun w hw => ⟨h w hw, zCW_good w (h w hw)⟩
/-- behind a call -/
theorem z_after {g : zg} {d : Nat} {y : zm} {post : zR → zM → Prop} {pc : Nat} {lv : List (Nat × Value)} {rest st0 : List Value} {post1 : Option Value → zM → Prop} {p : Program} {e : Env} {R : Room} {s : State} {m : MethodId} {args : Array Value} {below : List Frame} {meth : Method} {c : Code} {Q : State → Prop} {H : Heap} {locs : List Loc} {ls : Array Slot} {cells slots mc ms : Nat}
    (hc : zctx g d y post p e R s m args below meth c Q) (hS : va_S g.A s.heap H locs) (hl : lv_has ls y.2.2.1 lv)
    (hr : va_Run p g.l e R s m args below meth c H locs cells slots mc ms (F0 m pc ls st0) rest (fun st o t => (∃ (v : Option Value) (M1 : zM), o = .returned v ∧ post1 v M1 ∧ z_ok g M1 t.heap ∧ z_K g t) ∧ va_F g.A st t) g.A)
    (kk : ∀ (v : Option Value) (M1 : zM), post1 v M1 → zG g d y post M1 (pc + 3) lv (v.toList ++ rest)) : W p g.l e R s m args below meth c H locs cells slots Q (F0 m pc ls st0) := by
  intro T hT X
  obtain ⟨v, st₀, t, T', L, h0, X', hL, e1, e2, ⟨⟨v1, M1, hv, hp, hM1, -⟩, hF1, hF2⟩, st⟩ := hr T hT X
  cases hv
  have hS' : va_S g.A s.heap T'.heap (locs ++ L) := by
    refine ⟨?_, fun q h1 h2 => ?_, fun q hq => ?_⟩
    · rw [e1]
      rw [h0] at hF1
      exact Nat.le_trans hS.1 hF1
    · rw [e1, hF2 q (by rw [h0]; exact Nat.lt_of_lt_of_le h1 hS.1) h2, h0]
      exact hS.2.1 q h1 h2
    · rcases List.mem_append.mp hq with h | h
      · exact hS.2.2 q h
      · exact hL q h
  obtain ⟨t2, a1, b1⟩ := z_tight (kk v M1 hp p e R s m args below meth c Q T'.heap (locs ++ L) ls hc (by rw [e1]; exact hM1) hS' hl) T' rfl X'
  exact ⟨t2, st t2 a1, b1⟩
/-- what a call of y1 needs of the words: its code, its class made, how many arguments it takes -/
def z_mw (y1 : zm) (n : Nat) : Prop := Cond.code y1.1 y1.2.1 y1.2.2.1 y1.2.2.2 ∈ zCW ∧ Cond.initialized y1.1.cls ∈ zCW ∧ (y1.1.cls ≠ "java/lang/invoke/MethodHandle" ∧ y1.1.cls ≠ "java/lang/invoke/VarHandle" ∧ (parseMethodDescriptor y1.1.desc).map (fun d => d.parameters.length) = some n) ∧ y1.2.2.1 ≤ 40
section ZC
variable {g : zg} {d d1 : Nat} {y y1 : zm} {post : zR → zM → Prop} {M : zM} {pc : Nat} {lv : List (Nat × Value)} {st As : List Value} {post1 : Option Value → zM → Prop} {i n : Nat}
theorem z_callB {p : Program} {e : Env} {R : Room} {s : State} {m : MethodId} {args : Array Value} {below : List Frame} {meth : Method} {c : Code} {Q : State → Prop} (hc : zctx g d y post p e R s m args below meth c Q) (hw : z_mw y1 n) (hlk : Cond.methodLink y.1.cls i y1.1 ∈ zCW) (hd1 : d1 + 1 ≤ d) :
    CallB R s args y.1.cls i y1.1 y1.2.1 y1.2.2.1 y1.2.2.2 (.code y1.1 y1.2.1 y1.2.2.1 y1.2.2.2 :: zCW) { frames := d1, cells := g.KC - zsz M, slots := g.KS - zsl M, locals := 60 * d1 + 12 } (g.KC - zsz M) (g.KS - zsl M) n := by
  have hts := hc.1.2.2.2.2.1
  have h1 := hc.2.2.1.1
  have h2 := hc.2.2.1.2.1
  have h3 := hw.2.2.2
  refine callB_of n hts (z_good (fun w h => ?_)) rfl rfl rfl (hts _ hw.2.1) (hts _ hlk) hw.2.2.1 ⟨by show d1 + 1 ≤ R.frames; omega, by show 8 + (y1.2.2.1 + 11) + (60 * d1 + 12) ≤ R.locals; omega⟩
  rcases List.mem_cons.mp h with rfl | h
  · exact hw.1
  · exact h
theorem z_blind (av : List Value) : FrameBlind (va_Pc av (fun U => z_ok g M U.heap ∧ z_K g U ∧ ∀ q : Nat, U.heap.size ≤ q → g.A q)) := by
  intro a U g' mk q
  obtain ⟨q0, q1, q2, q3⟩ := q
  exact ⟨q0, q1, zK_moved (u := U) (U := U.calling g' mk a) (State.WarmedH.refl U) (fun _ _ _ => rfl) q2, q3⟩
theorem zi_callV {ci b N : Nat} {T : u_T} (hE : zE g d1 y1 (va_rf (some b) :: As) M post1) (hw : z_mw y1 n) (hlk : Cond.methodLink y.1.cls i y1.1 ∈ zCW) (him : Cond.instanceMethod y1.1 ∈ zCW) (hsel : Cond.selects y1.1.cls y1.1 y1.1 ∈ zCW) (hd1 : d1 + 1 ≤ d) (hs : zsh M b = some (.inl ci)) (hcl : zcl[ci]? = some (y1.1.cls, T, N)) (hn : As.length = n) (hst : st.length ≤ 4)
    (hd : decode y.2.1 pc = .ok (.invokevirtual i, 3)) (kk : ∀ (v : Option Value) (M1 : zM), post1 v M1 → zG g d y post M1 (pc + 3) lv (v.toList ++ st)) : zG g d y post M pc lv (As.reverse ++ va_rf (some b) :: st) := by
  intro p e R s m args below meth c Q H locs ls hc hM hS hl hz
  have hts := hc.1.2.2.2.2.1
  have hwt := z_weight st
  have hsz : H.size = zsz M := hM.1.1
  have hzt := hM.1.2.1
  have hkc := hM.1.2.2.1
  have hks := hM.1.2.2.2
  have hrc := hc.2.2.1.2.2.1
  have hrs := hc.2.2.1.2.2.2
  have hS1 := hS.1
  refine z_after hc hS hl (va_runV (C := y1.1.cls) (As := As) (rest := st) ⟨hc.1.1, hc.1.2.1, hc.1.2.2.1, hc.1.2.2.2.1, hts⟩ hE ⟨z_callB hc hw hlk hd1, hts _ him, hts _ hsel⟩ ⟨z_blind _, va_recv hc.2.1.1 (z_one hM hs) hcl (q0 := 0) rfl, fun U hU hW => ⟨rfl, by rw [hU]; exact hM, zK_moved hW (fun q h1 h2 => by rw [hU]; exact hS.2.1 q h1 h2) hc.2.1, fun q hq => hc.2.2.2.1 q (by rw [hU] at hq; omega)⟩⟩ rfl hn hl.1 rfl (by show 2 * 0 + _ ≤ 8; omega) hd ⟨by omega, by omega⟩) kk
theorem zi_callS (hE : zE g d1 y1 As M post1) (hw : z_mw y1 n) (hlk : Cond.methodLink y.1.cls i y1.1 ∈ zCW) (hstt : Cond.static y1.1 ∈ zCW) (hd1 : d1 + 1 ≤ d) (hn : As.length = n) (hst : st.length ≤ 4)
    (hd : decode y.2.1 pc = .ok (.invokestatic i, 3)) (kk : ∀ (v : Option Value) (M1 : zM), post1 v M1 → zG g d y post M1 (pc + 3) lv (v.toList ++ st)) : zG g d y post M pc lv (As.reverse ++ st) := by
  intro p e R s m args below meth c Q H locs ls hc hM hS hl hz
  have hts := hc.1.2.2.2.2.1
  have hwt := z_weight st
  have hsz : H.size = zsz M := hM.1.1
  have hzt := hM.1.2.1
  have hkc := hM.1.2.2.1
  have hks := hM.1.2.2.2
  have hrc := hc.2.2.1.2.2.1
  have hrs := hc.2.2.1.2.2.2
  have hS1 := hS.1
  refine z_after hc hS hl (va_runS (As := As) (rest := st) ⟨hc.1.1, hc.1.2.1, hc.1.2.2.1, hc.1.2.2.2.1, hts⟩ hE ⟨z_callB hc hw hlk hd1, hts _ hstt⟩ ⟨z_blind _, fun U hU hW => ⟨rfl, by rw [hU]; exact hM, zK_moved hW (fun q h1 h2 => by rw [hU]; exact hS.2.1 q h1 h2) hc.2.1, fun q hq => hc.2.2.2.1 q (by rw [hU] at hq; omega)⟩⟩ rfl hn hl.1 rfl (by show 2 * 0 + _ ≤ 8; omega) hd ⟨by omega, by omega⟩) kk
theorem zi_callI {b : Nat} (hr1 : y1.2.2.2 = none) (hE : zE g d1 y1 (va_rf (some b) :: As) M post1) (hw : z_mw y1 n) (hlk : Cond.methodLink y.1.cls i y1.1 ∈ zCW) (him : Cond.instanceMethod y1.1 ∈ zCW) (hin : y1.1.name = "<init>") (hd1 : d1 + 1 ≤ d) (hn : As.length = n) (hst : st.length ≤ 4)
    (hd : decode y.2.1 pc = .ok (.invokespecial i, 3)) (kk : ∀ (v : Option Value) (M1 : zM), post1 v M1 → zG g d y post M1 (pc + 3) lv (v.toList ++ st)) : zG g d y post M pc lv (As.reverse ++ va_rf (some b) :: st) := by
  intro p e R s m args below meth c Q H locs ls hc hM hS hl hz
  have hts := hc.1.2.2.2.2.1
  have hwt := z_weight st
  have hsz : H.size = zsz M := hM.1.1
  have hzt := hM.1.2.1
  have hkc := hM.1.2.2.1
  have hks := hM.1.2.2.2
  have hrc := hc.2.2.1.2.2.1
  have hrs := hc.2.2.1.2.2.2
  have hS1 := hS.1
  have hcb := z_callB (M := M) hc hw hlk hd1
  unfold zE at hE
  rw [hr1] at hcb hE
  refine z_after hc hS hl (va_runI (b := b) (As := As) (rest := st) ⟨hc.1.1, hc.1.2.1, hc.1.2.2.1, hc.1.2.2.2.1, hts⟩ hE ⟨hcb, hin, hts _ him⟩ ⟨z_blind _, fun U hU hW => ⟨rfl, by rw [hU]; exact hM, zK_moved hW (fun q h1 h2 => by rw [hU]; exact hS.2.1 q h1 h2) hc.2.1, fun q hq => hc.2.2.2.1 q (by rw [hU] at hq; omega)⟩⟩ rfl hn hl.1 rfl (by show 2 * 0 + _ ≤ 8; omega) hd ⟨by omega, by omega⟩) kk
theorem zi_objInit {b : Nat} (hlk : Cond.methodLink y.1.cls i Lib.objectInit ∈ zCW) (him : Cond.instanceMethod Lib.objectInit ∈ zCW) (hco : Cond.code Lib.objectInit ⟨#[0xb1]⟩ 1 none ∈ zCW) (hd0 : 1 ≤ d) (hst : st.length ≤ 4) (hd : decode y.2.1 pc = .ok (.invokespecial i, 3)) (kk : zG g d y post M (pc + 3) lv st) : zG g d y post M pc lv (va_rf (some b) :: st) := by
  intro p e R s m args below meth c Q H locs ls hc hM hS hl hz
  have hts := hc.1.2.2.2.2.1
  have hwt := z_weight st
  have h1 := hc.2.2.1.1
  have h2 := hc.2.2.1.2.1
  exact W.objInit hc.1.1 hc.1.2.1 hc.1.2.2.2.1 (hts _ hlk) (hts _ him) (hts _ hco) rfl (hl.1.trans hc.1.2.2.1.symm) rfl hd (by omega) (by show 2 * 0 + _ + 12 ≤ _; omega) (kk p e R s m args below meth c Q H locs ls hc hM hS hl hz)
end ZC
end
section
/-! LINKS: by program (tools/gen_links.py): entries of the pools, methods, classes, as words -/
theorem zin1 (i : Nat) {w : Cond} (hi : tables_1_1[i]? = some w) (hg : goodWord w = true) : w ∈ zCW := by
  have h := List.mem_of_getElem? hi
  exact List.mem_filter.mpr ⟨List.mem_append_right _ (List.mem_append_left _ h), hg⟩
theorem zin2 (i : Nat) {w : Cond} (hi : tables_1_2[i]? = some w) (hg : goodWord w = true) : w ∈ zCW := by
  have h := List.mem_of_getElem? hi
  exact List.mem_filter.mpr ⟨List.mem_append_right _ (List.mem_append_right _ (List.mem_append_left _ h)), hg⟩
theorem zin3 (i : Nat) {w : Cond} (hi : tables_1_3[i]? = some w) (hg : goodWord w = true) : w ∈ zCW := by
  have h := List.mem_of_getElem? hi
  exact List.mem_filter.mpr ⟨List.mem_append_right _ (List.mem_append_right _ (List.mem_append_right _ (List.mem_append_left _ h))), hg⟩
theorem zin4 (i : Nat) {w : Cond} (hi : tables_1_4[i]? = some w) (hg : goodWord w = true) : w ∈ zCW := by
  have h := List.mem_of_getElem? hi
  exact List.mem_filter.mpr ⟨List.mem_append_right _ (List.mem_append_right _ (List.mem_append_right _ (List.mem_append_right _ (List.mem_append_left _ h)))), hg⟩
theorem zin5 (i : Nat) {w : Cond} (hi : tables_1_5[i]? = some w) (hg : goodWord w = true) : w ∈ zCW := by
  have h := List.mem_of_getElem? hi
  exact List.mem_filter.mpr ⟨List.mem_append_right _ (List.mem_append_right _ (List.mem_append_right _ (List.mem_append_right _ (List.mem_append_right _ (List.mem_append_left _ h))))), hg⟩
theorem zin6 (i : Nat) {w : Cond} (hi : tables_1_6[i]? = some w) (hg : goodWord w = true) : w ∈ zCW := by
  have h := List.mem_of_getElem? hi
  exact List.mem_filter.mpr ⟨List.mem_append_right _ (List.mem_append_right _ (List.mem_append_right _ (List.mem_append_right _ (List.mem_append_right _ (List.mem_append_right _ (List.mem_append_left _ h)))))), hg⟩
theorem zin7 (i : Nat) {w : Cond} (hi : tables_1_7[i]? = some w) (hg : goodWord w = true) : w ∈ zCW := by
  have h := List.mem_of_getElem? hi
  exact List.mem_filter.mpr ⟨List.mem_append_right _ (List.mem_append_right _ (List.mem_append_right _ (List.mem_append_right _ (List.mem_append_right _ (List.mem_append_right _ (List.mem_append_right _ (h))))))), hg⟩
theorem kC : z_cl 0 "NotationDesk$Compiler" TC 10 tyC := ⟨rfl, uC, by decide +kernel, by decide +kernel, rfl⟩
theorem vC : ∀ j, j < 10 → defaultValue (tyC j) = zdv ((zkd 0).getD j 0) := by decide +kernel
theorem kK : z_cl 1 "NotationDesk$Component" TK 6 tyK := ⟨rfl, uK, by decide +kernel, by decide +kernel, rfl⟩
theorem vK : ∀ j, j < 6 → defaultValue (tyK j) = zdv ((zkd 1).getD j 0) := by decide +kernel
theorem kO : z_cl 2 "NotationDesk$OpenReader" TO 4 tyO := ⟨rfl, uO, by decide +kernel, by decide +kernel, rfl⟩
theorem vO : ∀ j, j < 4 → defaultValue (tyO j) = zdv ((zkd 2).getD j 0) := by decide +kernel
theorem kP : z_cl 3 "NotationDesk$PackedReader" TP 4 tyP := ⟨rfl, uP, by decide +kernel, by decide +kernel, rfl⟩
theorem vP : ∀ j, j < 4 → defaultValue (tyP j) = zdv ((zkd 3).getD j 0) := by decide +kernel
theorem kQ : z_cl 4 "NotationDesk$PackedWriter" TQ 5 tyQ := ⟨rfl, uQ, by decide +kernel, by decide +kernel, rfl⟩
theorem vQ : ∀ j, j < 5 → defaultValue (tyQ j) = zdv ((zkd 4).getD j 0) := by decide +kernel
theorem kS : z_cl 5 "NotationDesk$StrictWriter" TS 5 tyS := ⟨rfl, uS, by decide +kernel, by decide +kernel, rfl⟩
theorem vS : ∀ j, j < 5 → defaultValue (tyS j) = zdv ((zkd 5).getD j 0) := by decide +kernel
theorem kT : z_cl 6 "NotationDesk$Type" TT 12 tyT := ⟨rfl, uT, by decide +kernel, by decide +kernel, rfl⟩
theorem vT : ∀ j, j < 12 → defaultValue (tyT j) = zdv ((zkd 6).getD j 0) := by decide +kernel
theorem kV : z_cl 7 "NotationDesk$Value" TV 9 tyV := ⟨rfl, uV, by decide +kernel, by decide +kernel, rfl⟩
theorem vV : ∀ j, j < 9 → defaultValue (tyV j) = zdv ((zkd 7).getD j 0) := by decide +kernel
theorem kD : z_cl 8 "NotationDesk" TD 17 tyD := ⟨rfl, uD, by decide +kernel, by decide +kernel, rfl⟩
theorem vD : ∀ j, j < 17 → defaultValue (tyD j) = zdv ((zkd 8).getD j 0) := by decide +kernel
theorem kM : z_cl 9 "NotationDeskModel" TM 59 tyM := ⟨rfl, uM, by decide +kernel, by decide +kernel, rfl⟩
theorem vM : ∀ j, j < 59 → defaultValue (tyM j) = zdv ((zkd 9).getD j 0) := by decide +kernel
theorem gL : Cond.initialized "NotationDeskLaw" ∈ zCW := zin 0 (by decide +kernel) rfl
theorem gD : Cond.initialized "NotationDesk" ∈ zCW := zin 1 (by decide +kernel) rfl
theorem gC : Cond.initialized "NotationDesk$Compiler" ∈ zCW := zin 2 (by decide +kernel) rfl
theorem gV : Cond.initialized "NotationDesk$Value" ∈ zCW := zin 3 (by decide +kernel) rfl
theorem gO : Cond.initialized "NotationDesk$OpenReader" ∈ zCW := zin 4 (by decide +kernel) rfl
theorem gP : Cond.initialized "NotationDesk$PackedReader" ∈ zCW := zin 5 (by decide +kernel) rfl
theorem gS : Cond.initialized "NotationDesk$StrictWriter" ∈ zCW := zin 6 (by decide +kernel) rfl
theorem gQ : Cond.initialized "NotationDesk$PackedWriter" ∈ zCW := zin 7 (by decide +kernel) rfl
theorem gM : Cond.initialized "NotationDeskModel" ∈ zCW := zin 8 (by decide +kernel) rfl
theorem gT : Cond.initialized "NotationDesk$Type" ∈ zCW := zin 10 (by decide +kernel) rfl
theorem gK : Cond.initialized "NotationDesk$Component" ∈ zCW := zin 11 (by decide +kernel) rfl
theorem gI : Cond.initialized "NotationDesk$Integers" ∈ zCW := zin 19 (by decide +kernel) rfl
theorem bL_8 : Cond.classLink "NotationDeskLaw" 8 "NotationDesk" ∈ zCW := zin 22 (by decide +kernel) rfl
theorem nD : Cond.instantiable "NotationDesk" 17 ∈ zCW := zin 23 (by decide +kernel) rfl
theorem aL_42 : Cond.methodLink "NotationDeskLaw" 42 mD_init.1 ∈ zCW := zin 24 (by decide +kernel) rfl
theorem aD_1 : Cond.methodLink "NotationDesk" 1 Lib.objectInit ∈ zCW := zin 27 (by decide +kernel) rfl
theorem bD_13 : Cond.classLink "NotationDesk" 13 "NotationDesk$Compiler" ∈ zCW := zin 30 (by decide +kernel) rfl
theorem nC : Cond.instantiable "NotationDesk$Compiler" 10 ∈ zCW := zin 31 (by decide +kernel) rfl
theorem aD_15 : Cond.methodLink "NotationDesk" 15 mC_init.1 ∈ zCW := zin 32 (by decide +kernel) rfl
theorem aC_3 : Cond.methodLink "NotationDesk$Compiler" 3 Lib.objectInit ∈ zCW := zin 35 (by decide +kernel) rfl
theorem bC_15 : Cond.classLink "NotationDesk$Compiler" 15 "NotationDesk$Type" ∈ zCW := zin 36 (by decide +kernel) rfl
theorem bC_24 : Cond.classLink "NotationDesk$Compiler" 24 "NotationDesk$Component" ∈ zCW := zin 38 (by decide +kernel) rfl
theorem fC_9 : z_fl "NotationDesk$Compiler" 9 0 0 1 (.array .char) true := ⟨_, _, _, _, kC, by decide, zin 40 (by decide +kernel) rfl, rfl, rfl, rfl, fun _ _ => rfl⟩
theorem fC_17 : z_fl "NotationDesk$Compiler" 17 0 1 1 (.array (.object "NotationDesk$Type")) true := ⟨_, _, _, _, kC, by decide, zin 41 (by decide +kernel) rfl, rfl, rfl, rfl, fun _ _ => rfl⟩
theorem fC_21 : z_fl "NotationDesk$Compiler" 21 0 2 1 (.array (.object "NotationDesk$Type")) true := ⟨_, _, _, _, kC, by decide, zin 42 (by decide +kernel) rfl, rfl, rfl, rfl, fun _ _ => rfl⟩
theorem fC_26 : z_fl "NotationDesk$Compiler" 26 0 3 1 (.array (.object "NotationDesk$Component")) true := ⟨_, _, _, _, kC, by decide, zin 43 (by decide +kernel) rfl, rfl, rfl, rfl, fun _ _ => rfl⟩
theorem fC_50 : z_fl "NotationDesk$Compiler" 50 0 4 0 .int false := ⟨_, _, _, _, kC, by decide, zin 44 (by decide +kernel) rfl, rfl, rfl, rfl, fun _ _ => rfl⟩
theorem fC_53 : z_fl "NotationDesk$Compiler" 53 0 5 0 .int false := ⟨_, _, _, _, kC, by decide, zin 45 (by decide +kernel) rfl, rfl, rfl, rfl, fun _ _ => rfl⟩
theorem fC_40 : z_fl "NotationDesk$Compiler" 40 0 6 0 .int false := ⟨_, _, _, _, kC, by decide, zin 46 (by decide +kernel) rfl, rfl, rfl, rfl, fun _ _ => rfl⟩
theorem fC_44 : z_fl "NotationDesk$Compiler" 44 0 7 0 .int false := ⟨_, _, _, _, kC, by decide, zin 47 (by decide +kernel) rfl, rfl, rfl, rfl, fun _ _ => rfl⟩
theorem fC_47 : z_fl "NotationDesk$Compiler" 47 0 8 0 .int false := ⟨_, _, _, _, kC, by decide, zin 48 (by decide +kernel) rfl, rfl, rfl, rfl, fun _ _ => rfl⟩
theorem fC_133 : z_fl "NotationDesk$Compiler" 133 0 9 0 .int false := ⟨_, _, _, _, kC, by decide, zin 49 (by decide +kernel) rfl, rfl, rfl, rfl, fun _ _ => rfl⟩
theorem r_char : Cond.arrayClass .char ∈ zCW := zin 71 (by decide +kernel) rfl
theorem bD_29 : Cond.classLink "NotationDesk" 29 "NotationDesk$Value" ∈ zCW := zin 72 (by decide +kernel) rfl
theorem nV : Cond.instantiable "NotationDesk$Value" 9 ∈ zCW := zin 73 (by decide +kernel) rfl
theorem aD_31 : Cond.methodLink "NotationDesk" 31 mV_init.1 ∈ zCW := zin 74 (by decide +kernel) rfl
theorem aV_3 : Cond.methodLink "NotationDesk$Value" 3 Lib.objectInit ∈ zCW := zin 77 (by decide +kernel) rfl
theorem fV_33 : z_fl "NotationDesk$Value" 33 7 0 0 .int false := ⟨_, _, _, _, kV, by decide, zin 78 (by decide +kernel) rfl, rfl, rfl, rfl, fun _ _ => rfl⟩
theorem fQ_41 : z_fl "NotationDesk$PackedWriter" 41 7 0 0 .int false := ⟨_, _, _, _, kV, by decide, zin 79 (by decide +kernel) rfl, rfl, rfl, rfl, fun _ h => absurd h (by decide)⟩
theorem fS_34 : z_fl "NotationDesk$StrictWriter" 34 7 0 0 .int false := ⟨_, _, _, _, kV, by decide, zin 80 (by decide +kernel) rfl, rfl, rfl, rfl, fun _ h => absurd h (by decide)⟩
theorem fO_104 : z_fl "NotationDesk$OpenReader" 104 7 0 0 .int false := ⟨_, _, _, _, kV, by decide, zin 81 (by decide +kernel) rfl, rfl, rfl, rfl, fun _ h => absurd h (by decide)⟩
theorem fP_128 : z_fl "NotationDesk$PackedReader" 128 7 0 0 .int false := ⟨_, _, _, _, kV, by decide, zin 82 (by decide +kernel) rfl, rfl, rfl, rfl, fun _ h => absurd h (by decide)⟩
theorem fD_154 : z_fl "NotationDesk" 154 7 0 0 .int false := ⟨_, _, _, _, kV, by decide, zin 83 (by decide +kernel) rfl, rfl, rfl, rfl, fun _ h => absurd h (by decide)⟩
theorem fV_9 : z_fl "NotationDesk$Value" 9 7 1 1 (.array .int) true := ⟨_, _, _, _, kV, by decide, zin 84 (by decide +kernel) rfl, rfl, rfl, rfl, fun _ _ => rfl⟩
theorem fD_161 : z_fl "NotationDesk" 161 7 1 1 (.array .int) true := ⟨_, _, _, _, kV, by decide, zin 85 (by decide +kernel) rfl, rfl, rfl, rfl, fun _ h => absurd h (by decide)⟩
theorem fV_15 : z_fl "NotationDesk$Value" 15 7 2 1 (.array .int) true := ⟨_, _, _, _, kV, by decide, zin 86 (by decide +kernel) rfl, rfl, rfl, rfl, fun _ _ => rfl⟩
theorem fQ_55 : z_fl "NotationDesk$PackedWriter" 55 7 2 1 (.array .int) true := ⟨_, _, _, _, kV, by decide, zin 87 (by decide +kernel) rfl, rfl, rfl, rfl, fun _ h => absurd h (by decide)⟩
theorem fP_59 : z_fl "NotationDesk$PackedReader" 59 7 2 1 (.array .int) true := ⟨_, _, _, _, kV, by decide, zin 88 (by decide +kernel) rfl, rfl, rfl, rfl, fun _ h => absurd h (by decide)⟩
theorem fS_72 : z_fl "NotationDesk$StrictWriter" 72 7 2 1 (.array .int) true := ⟨_, _, _, _, kV, by decide, zin 89 (by decide +kernel) rfl, rfl, rfl, rfl, fun _ h => absurd h (by decide)⟩
theorem fO_89 : z_fl "NotationDesk$OpenReader" 89 7 2 1 (.array .int) true := ⟨_, _, _, _, kV, by decide, zin 90 (by decide +kernel) rfl, rfl, rfl, rfl, fun _ h => absurd h (by decide)⟩
theorem fD_164 : z_fl "NotationDesk" 164 7 2 1 (.array .int) true := ⟨_, _, _, _, kV, by decide, zin 91 (by decide +kernel) rfl, rfl, rfl, rfl, fun _ h => absurd h (by decide)⟩
theorem fV_18 : z_fl "NotationDesk$Value" 18 7 3 1 (.array .int) true := ⟨_, _, _, _, kV, by decide, zin 92 (by decide +kernel) rfl, rfl, rfl, rfl, fun _ _ => rfl⟩
theorem fD_167 : z_fl "NotationDesk" 167 7 3 1 (.array .int) true := ⟨_, _, _, _, kV, by decide, zin 93 (by decide +kernel) rfl, rfl, rfl, rfl, fun _ h => absurd h (by decide)⟩
theorem fV_21 : z_fl "NotationDesk$Value" 21 7 4 1 (.array .int) true := ⟨_, _, _, _, kV, by decide, zin 94 (by decide +kernel) rfl, rfl, rfl, rfl, fun _ _ => rfl⟩
theorem fD_170 : z_fl "NotationDesk" 170 7 4 1 (.array .int) true := ⟨_, _, _, _, kV, by decide, zin 95 (by decide +kernel) rfl, rfl, rfl, rfl, fun _ h => absurd h (by decide)⟩
theorem fV_24 : z_fl "NotationDesk$Value" 24 7 5 1 (.array .int) true := ⟨_, _, _, _, kV, by decide, zin 96 (by decide +kernel) rfl, rfl, rfl, rfl, fun _ _ => rfl⟩
theorem fV_27 : z_fl "NotationDesk$Value" 27 7 6 1 (.array .int) true := ⟨_, _, _, _, kV, by decide, zin 97 (by decide +kernel) rfl, rfl, rfl, rfl, fun _ _ => rfl⟩
theorem fV_30 : z_fl "NotationDesk$Value" 30 7 7 1 (.array .int) true := ⟨_, _, _, _, kV, by decide, zin 98 (by decide +kernel) rfl, rfl, rfl, rfl, fun _ _ => rfl⟩
theorem fV_37 : z_fl "NotationDesk$Value" 37 7 8 0 .int false := ⟨_, _, _, _, kV, by decide, zin 99 (by decide +kernel) rfl, rfl, rfl, rfl, fun _ _ => rfl⟩
theorem r_int : Cond.arrayClass .int ∈ zCW := zin 119 (by decide +kernel) rfl
theorem bD_39 : Cond.classLink "NotationDesk" 39 "NotationDesk$OpenReader" ∈ zCW := zin 120 (by decide +kernel) rfl
theorem nO : Cond.instantiable "NotationDesk$OpenReader" 4 ∈ zCW := zin 121 (by decide +kernel) rfl
theorem aD_41 : Cond.methodLink "NotationDesk" 41 mO_init.1 ∈ zCW := zin 122 (by decide +kernel) rfl
theorem aO_3 : Cond.methodLink "NotationDesk$OpenReader" 3 Lib.objectInit ∈ zCW := zin 125 (by decide +kernel) rfl
theorem fO_9 : z_fl "NotationDesk$OpenReader" 9 2 0 1 (.array .int) true := ⟨_, _, _, _, kO, by decide, zin 126 (by decide +kernel) rfl, rfl, rfl, rfl, fun _ _ => rfl⟩
theorem fO_15 : z_fl "NotationDesk$OpenReader" 15 2 1 1 (.object "NotationDesk$Value") true := ⟨_, _, _, _, kO, by decide, zin 127 (by decide +kernel) rfl, rfl, rfl, rfl, fun _ _ => rfl⟩
theorem fO_19 : z_fl "NotationDesk$OpenReader" 19 2 2 0 .boolean false := ⟨_, _, _, _, kO, by decide, zin 128 (by decide +kernel) rfl, rfl, rfl, rfl, fun _ _ => rfl⟩
theorem fO_23 : z_fl "NotationDesk$OpenReader" 23 2 3 0 .int false := ⟨_, _, _, _, kO, by decide, zin 129 (by decide +kernel) rfl, rfl, rfl, rfl, fun _ _ => rfl⟩
theorem bD_48 : Cond.classLink "NotationDesk" 48 "NotationDesk$PackedReader" ∈ zCW := zin 139 (by decide +kernel) rfl
theorem nP : Cond.instantiable "NotationDesk$PackedReader" 4 ∈ zCW := zin 140 (by decide +kernel) rfl
theorem aD_50 : Cond.methodLink "NotationDesk" 50 mP_init.1 ∈ zCW := zin 141 (by decide +kernel) rfl
theorem aP_3 : Cond.methodLink "NotationDesk$PackedReader" 3 Lib.objectInit ∈ zCW := zin 144 (by decide +kernel) rfl
theorem fP_9 : z_fl "NotationDesk$PackedReader" 9 3 0 1 (.array .int) true := ⟨_, _, _, _, kP, by decide, zin 145 (by decide +kernel) rfl, rfl, rfl, rfl, fun _ _ => rfl⟩
theorem fP_15 : z_fl "NotationDesk$PackedReader" 15 3 1 1 (.object "NotationDesk$Value") true := ⟨_, _, _, _, kP, by decide, zin 146 (by decide +kernel) rfl, rfl, rfl, rfl, fun _ _ => rfl⟩
theorem fP_19 : z_fl "NotationDesk$PackedReader" 19 3 2 0 .int false := ⟨_, _, _, _, kP, by decide, zin 147 (by decide +kernel) rfl, rfl, rfl, rfl, fun _ _ => rfl⟩
theorem fP_29 : z_fl "NotationDesk$PackedReader" 29 3 3 0 .int false := ⟨_, _, _, _, kP, by decide, zin 148 (by decide +kernel) rfl, rfl, rfl, rfl, fun _ _ => rfl⟩
theorem bD_55 : Cond.classLink "NotationDesk" 55 "NotationDesk$StrictWriter" ∈ zCW := zin 158 (by decide +kernel) rfl
theorem nS : Cond.instantiable "NotationDesk$StrictWriter" 5 ∈ zCW := zin 159 (by decide +kernel) rfl
theorem aD_57 : Cond.methodLink "NotationDesk" 57 mS_init.1 ∈ zCW := zin 160 (by decide +kernel) rfl
theorem aS_3 : Cond.methodLink "NotationDesk$StrictWriter" 3 Lib.objectInit ∈ zCW := zin 163 (by decide +kernel) rfl
theorem fS_9 : z_fl "NotationDesk$StrictWriter" 9 5 0 1 (.array .int) true := ⟨_, _, _, _, kS, by decide, zin 164 (by decide +kernel) rfl, rfl, rfl, rfl, fun _ _ => rfl⟩
theorem fS_15 : z_fl "NotationDesk$StrictWriter" 15 5 1 1 (.object "NotationDesk$Value") true := ⟨_, _, _, _, kS, by decide, zin 165 (by decide +kernel) rfl, rfl, rfl, rfl, fun _ _ => rfl⟩
theorem fS_19 : z_fl "NotationDesk$StrictWriter" 19 5 2 0 .int false := ⟨_, _, _, _, kS, by decide, zin 166 (by decide +kernel) rfl, rfl, rfl, rfl, fun _ _ => rfl⟩
theorem fS_23 : z_fl "NotationDesk$StrictWriter" 23 5 3 0 .int false := ⟨_, _, _, _, kS, by decide, zin 167 (by decide +kernel) rfl, rfl, rfl, rfl, fun _ _ => rfl⟩
theorem fS_26 : z_fl "NotationDesk$StrictWriter" 26 5 4 0 .boolean false := ⟨_, _, _, _, kS, by decide, zin 168 (by decide +kernel) rfl, rfl, rfl, rfl, fun _ _ => rfl⟩
theorem bD_62 : Cond.classLink "NotationDesk" 62 "NotationDesk$PackedWriter" ∈ zCW := zin 180 (by decide +kernel) rfl
theorem nQ : Cond.instantiable "NotationDesk$PackedWriter" 5 ∈ zCW := zin 181 (by decide +kernel) rfl
theorem aD_64 : Cond.methodLink "NotationDesk" 64 mQ_init.1 ∈ zCW := zin 182 (by decide +kernel) rfl
theorem aQ_3 : Cond.methodLink "NotationDesk$PackedWriter" 3 Lib.objectInit ∈ zCW := zin 185 (by decide +kernel) rfl
theorem fQ_9 : z_fl "NotationDesk$PackedWriter" 9 4 0 1 (.array .int) true := ⟨_, _, _, _, kQ, by decide, zin 186 (by decide +kernel) rfl, rfl, rfl, rfl, fun _ _ => rfl⟩
theorem fQ_15 : z_fl "NotationDesk$PackedWriter" 15 4 1 1 (.object "NotationDesk$Value") true := ⟨_, _, _, _, kQ, by decide, zin 187 (by decide +kernel) rfl, rfl, rfl, rfl, fun _ _ => rfl⟩
theorem fQ_19 : z_fl "NotationDesk$PackedWriter" 19 4 2 0 .int false := ⟨_, _, _, _, kQ, by decide, zin 188 (by decide +kernel) rfl, rfl, rfl, rfl, fun _ _ => rfl⟩
theorem fQ_23 : z_fl "NotationDesk$PackedWriter" 23 4 3 0 .int false := ⟨_, _, _, _, kQ, by decide, zin 189 (by decide +kernel) rfl, rfl, rfl, rfl, fun _ _ => rfl⟩
theorem fQ_26 : z_fl "NotationDesk$PackedWriter" 26 4 4 0 .boolean false := ⟨_, _, _, _, kQ, by decide, zin 190 (by decide +kernel) rfl, rfl, rfl, rfl, fun _ _ => rfl⟩
theorem bD_69 : Cond.classLink "NotationDesk" 69 "NotationDesk$Type" ∈ zCW := zin 202 (by decide +kernel) rfl
theorem fD_9 : z_fl "NotationDesk" 9 8 0 1 (.array .char) true := ⟨_, _, _, _, kD, by decide, zin 203 (by decide +kernel) rfl, rfl, rfl, rfl, fun _ _ => rfl⟩
theorem fD_85 : z_fl "NotationDesk" 85 8 1 0 .int false := ⟨_, _, _, _, kD, by decide, zin 204 (by decide +kernel) rfl, rfl, rfl, rfl, fun _ _ => rfl⟩
theorem fD_18 : z_fl "NotationDesk" 18 8 2 1 (.object "NotationDesk$Compiler") true := ⟨_, _, _, _, kD, by decide, zin 205 (by decide +kernel) rfl, rfl, rfl, rfl, fun _ _ => rfl⟩
theorem fD_96 : z_fl "NotationDesk" 96 8 3 0 .boolean false := ⟨_, _, _, _, kD, by decide, zin 206 (by decide +kernel) rfl, rfl, rfl, rfl, fun _ _ => rfl⟩
theorem fD_22 : z_fl "NotationDesk" 22 8 4 1 (.array .int) true := ⟨_, _, _, _, kD, by decide, zin 207 (by decide +kernel) rfl, rfl, rfl, rfl, fun _ _ => rfl⟩
theorem fD_100 : z_fl "NotationDesk" 100 8 5 0 .int false := ⟨_, _, _, _, kD, by decide, zin 208 (by decide +kernel) rfl, rfl, rfl, rfl, fun _ _ => rfl⟩
theorem fD_26 : z_fl "NotationDesk" 26 8 6 1 (.array .int) true := ⟨_, _, _, _, kD, by decide, zin 209 (by decide +kernel) rfl, rfl, rfl, rfl, fun _ _ => rfl⟩
theorem fD_32 : z_fl "NotationDesk" 32 8 7 1 (.object "NotationDesk$Value") true := ⟨_, _, _, _, kD, by decide, zin 210 (by decide +kernel) rfl, rfl, rfl, rfl, fun _ _ => rfl⟩
theorem fD_36 : z_fl "NotationDesk" 36 8 8 1 (.object "NotationDesk$Value") true := ⟨_, _, _, _, kD, by decide, zin 211 (by decide +kernel) rfl, rfl, rfl, rfl, fun _ _ => rfl⟩
theorem fD_44 : z_fl "NotationDesk" 44 8 9 1 (.object "NotationDesk$OpenReader") true := ⟨_, _, _, _, kD, by decide, zin 212 (by decide +kernel) rfl, rfl, rfl, rfl, fun _ _ => rfl⟩
theorem fD_51 : z_fl "NotationDesk" 51 8 10 1 (.object "NotationDesk$PackedReader") true := ⟨_, _, _, _, kD, by decide, zin 213 (by decide +kernel) rfl, rfl, rfl, rfl, fun _ _ => rfl⟩
theorem fD_58 : z_fl "NotationDesk" 58 8 11 1 (.object "NotationDesk$StrictWriter") true := ⟨_, _, _, _, kD, by decide, zin 214 (by decide +kernel) rfl, rfl, rfl, rfl, fun _ _ => rfl⟩
theorem fD_65 : z_fl "NotationDesk" 65 8 12 1 (.object "NotationDesk$PackedWriter") true := ⟨_, _, _, _, kD, by decide, zin 215 (by decide +kernel) rfl, rfl, rfl, rfl, fun _ _ => rfl⟩
theorem fD_71 : z_fl "NotationDesk" 71 8 13 1 (.array (.object "NotationDesk$Type")) true := ⟨_, _, _, _, kD, by decide, zin 216 (by decide +kernel) rfl, rfl, rfl, rfl, fun _ _ => rfl⟩
theorem fD_75 : z_fl "NotationDesk" 75 8 14 1 (.array .int) true := ⟨_, _, _, _, kD, by decide, zin 217 (by decide +kernel) rfl, rfl, rfl, rfl, fun _ _ => rfl⟩
theorem fD_78 : z_fl "NotationDesk" 78 8 15 1 (.array .int) true := ⟨_, _, _, _, kD, by decide, zin 218 (by decide +kernel) rfl, rfl, rfl, rfl, fun _ _ => rfl⟩
theorem fD_81 : z_fl "NotationDesk" 81 8 16 1 (.array .long) true := ⟨_, _, _, _, kD, by decide, zin 219 (by decide +kernel) rfl, rfl, rfl, rfl, fun _ _ => rfl⟩
theorem r_long : Cond.arrayClass .long ∈ zCW := zin 255 (by decide +kernel) rfl
theorem aL_46 : Cond.methodLink "NotationDeskLaw" 46 mD_type.1 ∈ zCW := zin 256 (by decide +kernel) rfl
theorem aD_89 : Cond.methodLink "NotationDesk" 89 mD_forgetModule.1 ∈ zCW := zin 260 (by decide +kernel) rfl
theorem aD_192 : Cond.methodLink "NotationDesk" 192 mV_empty.1 ∈ zCW := zin 264 (by decide +kernel) rfl
theorem aL_51 : Cond.methodLink "NotationDeskLaw" 51 mD_clear.1 ∈ zCW := zin 268 (by decide +kernel) rfl
theorem aL_55 : Cond.methodLink "NotationDeskLaw" 55 mD_compile.1 ∈ zCW := zin 272 (by decide +kernel) rfl
theorem aD_92 : Cond.methodLink "NotationDesk" 92 mC_translate.1 ∈ zCW := zin 276 (by decide +kernel) rfl
theorem aC_56 : Cond.methodLink "NotationDesk$Compiler" 56 mC_readDefinition.1 ∈ zCW := zin 283 (by decide +kernel) rfl
theorem aC_59 : Cond.methodLink "NotationDesk$Compiler" 59 mC_nextCharacter.1 ∈ zCW := zin 287 (by decide +kernel) rfl
theorem aC_30 : Cond.methodLink "NotationDesk$Compiler" 30 mC_isName.1 ∈ zCW := zin 291 (by decide +kernel) rfl
theorem aC_63 : Cond.methodLink "NotationDesk$Compiler" 63 mC_refuse.1 ∈ zCW := zin 294 (by decide +kernel) rfl
theorem aC_67 : Cond.methodLink "NotationDesk$Compiler" 67 mC_pass.1 ∈ zCW := zin 298 (by decide +kernel) rfl
theorem aC_71 : Cond.methodLink "NotationDesk$Compiler" 71 mC_readType.1 ∈ zCW := zin 302 (by decide +kernel) rfl
theorem aC_75 : Cond.methodLink "NotationDesk$Compiler" 75 mC_readTag.1 ∈ zCW := zin 306 (by decide +kernel) rfl
theorem aC_100 : Cond.methodLink "NotationDesk$Compiler" 100 mC_isDigit.1 ∈ zCW := zin 310 (by decide +kernel) rfl
theorem aC_103 : Cond.methodLink "NotationDesk$Compiler" 103 mC_newType.1 ∈ zCW := zin 313 (by decide +kernel) rfl
theorem nT : Cond.instantiable "NotationDesk$Type" 12 ∈ zCW := zin 317 (by decide +kernel) rfl
theorem aC_211 : Cond.methodLink "NotationDesk$Compiler" 211 mT_init.1 ∈ zCW := zin 318 (by decide +kernel) rfl
theorem aT_3 : Cond.methodLink "NotationDesk$Type" 3 Lib.objectInit ∈ zCW := zin 321 (by decide +kernel) rfl
theorem fT_9 : z_fl "NotationDesk$Type" 9 6 0 0 .int false := ⟨_, _, _, _, kT, by decide, zin 322 (by decide +kernel) rfl, rfl, rfl, rfl, fun _ _ => rfl⟩
theorem fP_44 : z_fl "NotationDesk$PackedReader" 44 6 0 0 .int false := ⟨_, _, _, _, kT, by decide, zin 323 (by decide +kernel) rfl, rfl, rfl, rfl, fun _ h => absurd h (by decide)⟩
theorem fO_31 : z_fl "NotationDesk$OpenReader" 31 6 0 0 .int false := ⟨_, _, _, _, kT, by decide, zin 324 (by decide +kernel) rfl, rfl, rfl, rfl, fun _ h => absurd h (by decide)⟩
theorem fQ_46 : z_fl "NotationDesk$PackedWriter" 46 6 0 0 .int false := ⟨_, _, _, _, kT, by decide, zin 325 (by decide +kernel) rfl, rfl, rfl, rfl, fun _ h => absurd h (by decide)⟩
theorem fS_39 : z_fl "NotationDesk$StrictWriter" 39 6 0 0 .int false := ⟨_, _, _, _, kT, by decide, zin 326 (by decide +kernel) rfl, rfl, rfl, rfl, fun _ h => absurd h (by decide)⟩
theorem fC_86 : z_fl "NotationDesk$Compiler" 86 6 0 0 .int false := ⟨_, _, _, _, kT, by decide, zin 327 (by decide +kernel) rfl, rfl, rfl, rfl, fun _ h => absurd h (by decide)⟩
theorem fV_66 : z_fl "NotationDesk$Value" 66 6 0 0 .int false := ⟨_, _, _, _, kT, by decide, zin 328 (by decide +kernel) rfl, rfl, rfl, rfl, fun _ h => absurd h (by decide)⟩
theorem fT_15 : z_fl "NotationDesk$Type" 15 6 1 0 .boolean false := ⟨_, _, _, _, kT, by decide, zin 329 (by decide +kernel) rfl, rfl, rfl, rfl, fun _ _ => rfl⟩
theorem fP_62 : z_fl "NotationDesk$PackedReader" 62 6 1 0 .boolean false := ⟨_, _, _, _, kT, by decide, zin 330 (by decide +kernel) rfl, rfl, rfl, rfl, fun _ h => absurd h (by decide)⟩
theorem fQ_74 : z_fl "NotationDesk$PackedWriter" 74 6 1 0 .boolean false := ⟨_, _, _, _, kT, by decide, zin 331 (by decide +kernel) rfl, rfl, rfl, rfl, fun _ h => absurd h (by decide)⟩
theorem fC_145 : z_fl "NotationDesk$Compiler" 145 6 1 0 .boolean false := ⟨_, _, _, _, kT, by decide, zin 332 (by decide +kernel) rfl, rfl, rfl, rfl, fun _ h => absurd h (by decide)⟩
theorem fT_19 : z_fl "NotationDesk$Type" 19 6 2 0 .int false := ⟨_, _, _, _, kT, by decide, zin 333 (by decide +kernel) rfl, rfl, rfl, rfl, fun _ _ => rfl⟩
theorem fP_90 : z_fl "NotationDesk$PackedReader" 90 6 2 0 .int false := ⟨_, _, _, _, kT, by decide, zin 334 (by decide +kernel) rfl, rfl, rfl, rfl, fun _ h => absurd h (by decide)⟩
theorem fQ_77 : z_fl "NotationDesk$PackedWriter" 77 6 2 0 .int false := ⟨_, _, _, _, kT, by decide, zin 335 (by decide +kernel) rfl, rfl, rfl, rfl, fun _ h => absurd h (by decide)⟩
theorem fC_136 : z_fl "NotationDesk$Compiler" 136 6 2 0 .int false := ⟨_, _, _, _, kT, by decide, zin 336 (by decide +kernel) rfl, rfl, rfl, rfl, fun _ h => absurd h (by decide)⟩
theorem fT_22 : z_fl "NotationDesk$Type" 22 6 3 0 .int false := ⟨_, _, _, _, kT, by decide, zin 337 (by decide +kernel) rfl, rfl, rfl, rfl, fun _ _ => rfl⟩
theorem fP_87 : z_fl "NotationDesk$PackedReader" 87 6 3 0 .int false := ⟨_, _, _, _, kT, by decide, zin 338 (by decide +kernel) rfl, rfl, rfl, rfl, fun _ h => absurd h (by decide)⟩
theorem fQ_80 : z_fl "NotationDesk$PackedWriter" 80 6 3 0 .int false := ⟨_, _, _, _, kT, by decide, zin 339 (by decide +kernel) rfl, rfl, rfl, rfl, fun _ h => absurd h (by decide)⟩
theorem fC_139 : z_fl "NotationDesk$Compiler" 139 6 3 0 .int false := ⟨_, _, _, _, kT, by decide, zin 340 (by decide +kernel) rfl, rfl, rfl, rfl, fun _ h => absurd h (by decide)⟩
theorem fT_25 : z_fl "NotationDesk$Type" 25 6 4 0 .int false := ⟨_, _, _, _, kT, by decide, zin 341 (by decide +kernel) rfl, rfl, rfl, rfl, fun _ _ => rfl⟩
theorem fS_69 : z_fl "NotationDesk$StrictWriter" 69 6 4 0 .int false := ⟨_, _, _, _, kT, by decide, zin 342 (by decide +kernel) rfl, rfl, rfl, rfl, fun _ h => absurd h (by decide)⟩
theorem fO_75 : z_fl "NotationDesk$OpenReader" 75 6 4 0 .int false := ⟨_, _, _, _, kT, by decide, zin 343 (by decide +kernel) rfl, rfl, rfl, rfl, fun _ h => absurd h (by decide)⟩
theorem fT_28 : z_fl "NotationDesk$Type" 28 6 5 0 .boolean false := ⟨_, _, _, _, kT, by decide, zin 344 (by decide +kernel) rfl, rfl, rfl, rfl, fun _ _ => rfl⟩
theorem fS_62 : z_fl "NotationDesk$StrictWriter" 62 6 5 0 .boolean false := ⟨_, _, _, _, kT, by decide, zin 345 (by decide +kernel) rfl, rfl, rfl, rfl, fun _ h => absurd h (by decide)⟩
theorem fO_72 : z_fl "NotationDesk$OpenReader" 72 6 5 0 .boolean false := ⟨_, _, _, _, kT, by decide, zin 346 (by decide +kernel) rfl, rfl, rfl, rfl, fun _ h => absurd h (by decide)⟩
theorem fC_89 : z_fl "NotationDesk$Compiler" 89 6 5 0 .boolean false := ⟨_, _, _, _, kT, by decide, zin 347 (by decide +kernel) rfl, rfl, rfl, rfl, fun _ h => absurd h (by decide)⟩
theorem fT_35 : z_fl "NotationDesk$Type" 35 6 6 0 .int false := ⟨_, _, _, _, kT, by decide, zin 348 (by decide +kernel) rfl, rfl, rfl, rfl, fun _ _ => rfl⟩
theorem fK_32 : z_fl "NotationDesk$Component" 32 6 6 0 .int false := ⟨_, _, _, _, kT, by decide, zin 349 (by decide +kernel) rfl, rfl, rfl, rfl, fun _ h => absurd h (by decide)⟩
theorem fC_203 : z_fl "NotationDesk$Compiler" 203 6 6 0 .int false := ⟨_, _, _, _, kT, by decide, zin 350 (by decide +kernel) rfl, rfl, rfl, rfl, fun _ h => absurd h (by decide)⟩
theorem fT_38 : z_fl "NotationDesk$Type" 38 6 7 0 .int false := ⟨_, _, _, _, kT, by decide, zin 351 (by decide +kernel) rfl, rfl, rfl, rfl, fun _ _ => rfl⟩
theorem fC_97 : z_fl "NotationDesk$Compiler" 97 6 7 0 .int false := ⟨_, _, _, _, kT, by decide, zin 352 (by decide +kernel) rfl, rfl, rfl, rfl, fun _ h => absurd h (by decide)⟩
theorem fT_41 : z_fl "NotationDesk$Type" 41 6 8 0 .int false := ⟨_, _, _, _, kT, by decide, zin 353 (by decide +kernel) rfl, rfl, rfl, rfl, fun _ _ => rfl⟩
theorem fQ_129 : z_fl "NotationDesk$PackedWriter" 129 6 8 0 .int false := ⟨_, _, _, _, kT, by decide, zin 354 (by decide +kernel) rfl, rfl, rfl, rfl, fun _ h => absurd h (by decide)⟩
theorem fP_153 : z_fl "NotationDesk$PackedReader" 153 6 8 0 .int false := ⟨_, _, _, _, kT, by decide, zin 355 (by decide +kernel) rfl, rfl, rfl, rfl, fun _ h => absurd h (by decide)⟩
theorem fT_44 : z_fl "NotationDesk$Type" 44 6 9 1 (.object "NotationDesk$Type") false := ⟨_, _, _, _, kT, by decide, zin 356 (by decide +kernel) rfl, rfl, rfl, rfl, fun _ _ => rfl⟩
theorem fP_49 : z_fl "NotationDesk$PackedReader" 49 6 9 1 (.object "NotationDesk$Type") false := ⟨_, _, _, _, kT, by decide, zin 357 (by decide +kernel) rfl, rfl, rfl, rfl, fun _ h => absurd h (by decide)⟩
theorem fQ_51 : z_fl "NotationDesk$PackedWriter" 51 6 9 1 (.object "NotationDesk$Type") false := ⟨_, _, _, _, kT, by decide, zin 358 (by decide +kernel) rfl, rfl, rfl, rfl, fun _ h => absurd h (by decide)⟩
theorem fS_65 : z_fl "NotationDesk$StrictWriter" 65 6 9 1 (.object "NotationDesk$Type") false := ⟨_, _, _, _, kT, by decide, zin 359 (by decide +kernel) rfl, rfl, rfl, rfl, fun _ h => absurd h (by decide)⟩
theorem fO_78 : z_fl "NotationDesk$OpenReader" 78 6 9 1 (.object "NotationDesk$Type") false := ⟨_, _, _, _, kT, by decide, zin 360 (by decide +kernel) rfl, rfl, rfl, rfl, fun _ h => absurd h (by decide)⟩
theorem fC_79 : z_fl "NotationDesk$Compiler" 79 6 9 1 (.object "NotationDesk$Type") false := ⟨_, _, _, _, kT, by decide, zin 361 (by decide +kernel) rfl, rfl, rfl, rfl, fun _ h => absurd h (by decide)⟩
theorem fT_48 : z_fl "NotationDesk$Type" 48 6 10 1 (.object "NotationDesk$Component") false := ⟨_, _, _, _, kT, by decide, zin 362 (by decide +kernel) rfl, rfl, rfl, rfl, fun _ _ => rfl⟩
theorem fO_100 : z_fl "NotationDesk$OpenReader" 100 6 10 1 (.object "NotationDesk$Component") false := ⟨_, _, _, _, kT, by decide, zin 363 (by decide +kernel) rfl, rfl, rfl, rfl, fun _ h => absurd h (by decide)⟩
theorem fQ_103 : z_fl "NotationDesk$PackedWriter" 103 6 10 1 (.object "NotationDesk$Component") false := ⟨_, _, _, _, kT, by decide, zin 364 (by decide +kernel) rfl, rfl, rfl, rfl, fun _ h => absurd h (by decide)⟩
theorem fS_102 : z_fl "NotationDesk$StrictWriter" 102 6 10 1 (.object "NotationDesk$Component") false := ⟨_, _, _, _, kT, by decide, zin 365 (by decide +kernel) rfl, rfl, rfl, rfl, fun _ h => absurd h (by decide)⟩
theorem fP_124 : z_fl "NotationDesk$PackedReader" 124 6 10 1 (.object "NotationDesk$Component") false := ⟨_, _, _, _, kT, by decide, zin 366 (by decide +kernel) rfl, rfl, rfl, rfl, fun _ h => absurd h (by decide)⟩
theorem fC_193 : z_fl "NotationDesk$Compiler" 193 6 10 1 (.object "NotationDesk$Component") false := ⟨_, _, _, _, kT, by decide, zin 367 (by decide +kernel) rfl, rfl, rfl, rfl, fun _ h => absurd h (by decide)⟩
theorem fT_52 : z_fl "NotationDesk$Type" 52 6 11 1 (.object "NotationDesk$Component") false := ⟨_, _, _, _, kT, by decide, zin 368 (by decide +kernel) rfl, rfl, rfl, rfl, fun _ _ => rfl⟩
theorem aC_212 : Cond.methodLink "NotationDesk$Compiler" 212 mT_begin.1 ∈ zCW := zin 394 (by decide +kernel) rfl
theorem aT_31 : Cond.methodLink "NotationDesk$Type" 31 mT_tagsOf.1 ∈ zCW := zin 398 (by decide +kernel) rfl
theorem cT_55 : Cond.constant "NotationDesk$Type" 55 (65536 : Int32) ∈ zCW := zin 401 (by decide +kernel) rfl
theorem aC_106 : Cond.methodLink "NotationDesk$Compiler" 106 mT_beginTag.1 ∈ zCW := zin 402 (by decide +kernel) rfl
theorem aT_56 : Cond.methodLink "NotationDesk$Type" 56 mT_begin.1 ∈ zCW := zin 406 (by decide +kernel) rfl
theorem aC_83 : Cond.methodLink "NotationDesk$Compiler" 83 mC_readUntagged.1 ∈ zCW := zin 407 (by decide +kernel) rfl
theorem aC_110 : Cond.methodLink "NotationDesk$Compiler" 110 mC_readReference.1 ∈ zCW := zin 411 (by decide +kernel) rfl
theorem aC_114 : Cond.methodLink "NotationDesk$Compiler" 114 mC_kindOf.1 ∈ zCW := zin 415 (by decide +kernel) rfl
theorem aC_118 : Cond.methodLink "NotationDesk$Compiler" 118 mC_readMembers.1 ∈ zCW := zin 418 (by decide +kernel) rfl
theorem aC_149 : Cond.methodLink "NotationDesk$Compiler" 149 mC_readMember.1 ∈ zCW := zin 422 (by decide +kernel) rfl
theorem aC_155 : Cond.methodLink "NotationDesk$Compiler" 155 mC_newMember.1 ∈ zCW := zin 426 (by decide +kernel) rfl
theorem nK : Cond.instantiable "NotationDesk$Component" 6 ∈ zCW := zin 430 (by decide +kernel) rfl
theorem aC_216 : Cond.methodLink "NotationDesk$Compiler" 216 mK_init.1 ∈ zCW := zin 431 (by decide +kernel) rfl
theorem aK_3 : Cond.methodLink "NotationDesk$Component" 3 Lib.objectInit ∈ zCW := zin 434 (by decide +kernel) rfl
theorem fK_9 : z_fl "NotationDesk$Component" 9 1 0 1 (.object "NotationDesk$Type") false := ⟨_, _, _, _, kK, by decide, zin 435 (by decide +kernel) rfl, rfl, rfl, rfl, fun _ _ => rfl⟩
theorem fS_79 : z_fl "NotationDesk$StrictWriter" 79 1 0 1 (.object "NotationDesk$Type") false := ⟨_, _, _, _, kK, by decide, zin 436 (by decide +kernel) rfl, rfl, rfl, rfl, fun _ h => absurd h (by decide)⟩
theorem fO_97 : z_fl "NotationDesk$OpenReader" 97 1 0 1 (.object "NotationDesk$Type") false := ⟨_, _, _, _, kK, by decide, zin 437 (by decide +kernel) rfl, rfl, rfl, rfl, fun _ h => absurd h (by decide)⟩
theorem fQ_119 : z_fl "NotationDesk$PackedWriter" 119 1 0 1 (.object "NotationDesk$Type") false := ⟨_, _, _, _, kK, by decide, zin 438 (by decide +kernel) rfl, rfl, rfl, rfl, fun _ h => absurd h (by decide)⟩
theorem fP_140 : z_fl "NotationDesk$PackedReader" 140 1 0 1 (.object "NotationDesk$Type") false := ⟨_, _, _, _, kK, by decide, zin 439 (by decide +kernel) rfl, rfl, rfl, rfl, fun _ h => absurd h (by decide)⟩
theorem fV_56 : z_fl "NotationDesk$Value" 56 1 0 1 (.object "NotationDesk$Type") false := ⟨_, _, _, _, kK, by decide, zin 440 (by decide +kernel) rfl, rfl, rfl, rfl, fun _ h => absurd h (by decide)⟩
theorem fK_15 : z_fl "NotationDesk$Component" 15 1 1 0 .int false := ⟨_, _, _, _, kK, by decide, zin 441 (by decide +kernel) rfl, rfl, rfl, rfl, fun _ _ => rfl⟩
theorem fT_60 : z_fl "NotationDesk$Type" 60 1 1 0 .int false := ⟨_, _, _, _, kK, by decide, zin 442 (by decide +kernel) rfl, rfl, rfl, rfl, fun _ h => absurd h (by decide)⟩
theorem fO_92 : z_fl "NotationDesk$OpenReader" 92 1 1 0 .int false := ⟨_, _, _, _, kK, by decide, zin 443 (by decide +kernel) rfl, rfl, rfl, rfl, fun _ h => absurd h (by decide)⟩
theorem fP_131 : z_fl "NotationDesk$PackedReader" 131 1 1 0 .int false := ⟨_, _, _, _, kK, by decide, zin 444 (by decide +kernel) rfl, rfl, rfl, rfl, fun _ h => absurd h (by decide)⟩
theorem fV_53 : z_fl "NotationDesk$Value" 53 1 1 0 .int false := ⟨_, _, _, _, kK, by decide, zin 445 (by decide +kernel) rfl, rfl, rfl, rfl, fun _ h => absurd h (by decide)⟩
theorem fK_19 : z_fl "NotationDesk$Component" 19 1 2 0 .int false := ⟨_, _, _, _, kK, by decide, zin 446 (by decide +kernel) rfl, rfl, rfl, rfl, fun _ _ => rfl⟩
theorem fQ_107 : z_fl "NotationDesk$PackedWriter" 107 1 2 0 .int false := ⟨_, _, _, _, kK, by decide, zin 447 (by decide +kernel) rfl, rfl, rfl, rfl, fun _ h => absurd h (by decide)⟩
theorem fV_46 : z_fl "NotationDesk$Value" 46 1 2 0 .int false := ⟨_, _, _, _, kK, by decide, zin 448 (by decide +kernel) rfl, rfl, rfl, rfl, fun _ h => absurd h (by decide)⟩
theorem fS_110 : z_fl "NotationDesk$StrictWriter" 110 1 2 0 .int false := ⟨_, _, _, _, kK, by decide, zin 449 (by decide +kernel) rfl, rfl, rfl, rfl, fun _ h => absurd h (by decide)⟩
theorem fP_150 : z_fl "NotationDesk$PackedReader" 150 1 2 0 .int false := ⟨_, _, _, _, kK, by decide, zin 450 (by decide +kernel) rfl, rfl, rfl, rfl, fun _ h => absurd h (by decide)⟩
theorem fC_173 : z_fl "NotationDesk$Compiler" 173 1 2 0 .int false := ⟨_, _, _, _, kK, by decide, zin 451 (by decide +kernel) rfl, rfl, rfl, rfl, fun _ h => absurd h (by decide)⟩
theorem fK_22 : z_fl "NotationDesk$Component" 22 1 3 0 .int false := ⟨_, _, _, _, kK, by decide, zin 452 (by decide +kernel) rfl, rfl, rfl, rfl, fun _ _ => rfl⟩
theorem fV_51 : z_fl "NotationDesk$Value" 51 1 3 0 .int false := ⟨_, _, _, _, kK, by decide, zin 453 (by decide +kernel) rfl, rfl, rfl, rfl, fun _ h => absurd h (by decide)⟩
theorem fC_179 : z_fl "NotationDesk$Compiler" 179 1 3 0 .int false := ⟨_, _, _, _, kK, by decide, zin 454 (by decide +kernel) rfl, rfl, rfl, rfl, fun _ h => absurd h (by decide)⟩
theorem fK_25 : z_fl "NotationDesk$Component" 25 1 4 0 .int false := ⟨_, _, _, _, kK, by decide, zin 455 (by decide +kernel) rfl, rfl, rfl, rfl, fun _ _ => rfl⟩
theorem fQ_126 : z_fl "NotationDesk$PackedWriter" 126 1 4 0 .int false := ⟨_, _, _, _, kK, by decide, zin 456 (by decide +kernel) rfl, rfl, rfl, rfl, fun _ h => absurd h (by decide)⟩
theorem fT_68 : z_fl "NotationDesk$Type" 68 1 4 0 .int false := ⟨_, _, _, _, kK, by decide, zin 457 (by decide +kernel) rfl, rfl, rfl, rfl, fun _ h => absurd h (by decide)⟩
theorem fC_208 : z_fl "NotationDesk$Compiler" 208 1 4 0 .int false := ⟨_, _, _, _, kK, by decide, zin 458 (by decide +kernel) rfl, rfl, rfl, rfl, fun _ h => absurd h (by decide)⟩
theorem fK_28 : z_fl "NotationDesk$Component" 28 1 5 1 (.object "NotationDesk$Component") false := ⟨_, _, _, _, kK, by decide, zin 459 (by decide +kernel) rfl, rfl, rfl, rfl, fun _ _ => rfl⟩
theorem fT_65 : z_fl "NotationDesk$Type" 65 1 5 1 (.object "NotationDesk$Component") false := ⟨_, _, _, _, kK, by decide, zin 460 (by decide +kernel) rfl, rfl, rfl, rfl, fun _ h => absurd h (by decide)⟩
theorem fQ_116 : z_fl "NotationDesk$PackedWriter" 116 1 5 1 (.object "NotationDesk$Component") false := ⟨_, _, _, _, kK, by decide, zin 461 (by decide +kernel) rfl, rfl, rfl, rfl, fun _ h => absurd h (by decide)⟩
theorem fO_119 : z_fl "NotationDesk$OpenReader" 119 1 5 1 (.object "NotationDesk$Component") false := ⟨_, _, _, _, kK, by decide, zin 462 (by decide +kernel) rfl, rfl, rfl, rfl, fun _ h => absurd h (by decide)⟩
theorem fS_113 : z_fl "NotationDesk$StrictWriter" 113 1 5 1 (.object "NotationDesk$Component") false := ⟨_, _, _, _, kK, by decide, zin 463 (by decide +kernel) rfl, rfl, rfl, rfl, fun _ h => absurd h (by decide)⟩
theorem fP_147 : z_fl "NotationDesk$PackedReader" 147 1 5 1 (.object "NotationDesk$Component") false := ⟨_, _, _, _, kK, by decide, zin 464 (by decide +kernel) rfl, rfl, rfl, rfl, fun _ h => absurd h (by decide)⟩
theorem fC_200 : z_fl "NotationDesk$Compiler" 200 1 5 1 (.object "NotationDesk$Component") false := ⟨_, _, _, _, kK, by decide, zin 465 (by decide +kernel) rfl, rfl, rfl, rfl, fun _ h => absurd h (by decide)⟩
theorem aC_217 : Cond.methodLink "NotationDesk$Compiler" 217 mK_begin.1 ∈ zCW := zin 479 (by decide +kernel) rfl
theorem aC_159 : Cond.methodLink "NotationDesk$Compiler" 159 mT_addMember.1 ∈ zCW := zin 483 (by decide +kernel) rfl
theorem aC_166 : Cond.methodLink "NotationDesk$Compiler" 166 mT_untagged.1 ∈ zCW := zin 490 (by decide +kernel) rfl
theorem aC_169 : Cond.methodLink "NotationDesk$Compiler" 169 mC_readMode.1 ∈ zCW := zin 494 (by decide +kernel) rfl
theorem aC_129 : Cond.methodLink "NotationDesk$Compiler" 129 mC_readNumber.1 ∈ zCW := zin 498 (by decide +kernel) rfl
theorem aC_176 : Cond.methodLink "NotationDesk$Compiler" 176 mC_isDefault.1 ∈ zCW := zin 502 (by decide +kernel) rfl
theorem aC_180 : Cond.methodLink "NotationDesk$Compiler" 180 mT_allows.1 ∈ zCW := zin 505 (by decide +kernel) rfl
theorem aC_152 : Cond.methodLink "NotationDesk$Compiler" 152 mC_closeMembers.1 ∈ zCW := zin 509 (by decide +kernel) rfl
theorem aC_183 : Cond.methodLink "NotationDesk$Compiler" 183 mC_alternativesClash.1 ∈ zCW := zin 513 (by decide +kernel) rfl
theorem aC_197 : Cond.methodLink "NotationDesk$Compiler" 197 mK_tags.1 ∈ zCW := zin 516 (by decide +kernel) rfl
theorem aC_186 : Cond.methodLink "NotationDesk$Compiler" 186 mC_componentsClash.1 ∈ zCW := zin 520 (by decide +kernel) rfl
theorem aC_189 : Cond.methodLink "NotationDesk$Compiler" 189 mC_gatherAlternatives.1 ∈ zCW := zin 523 (by decide +kernel) rfl
theorem aC_205 : Cond.methodLink "NotationDesk$Compiler" 205 mK_leastTag.1 ∈ zCW := zin 526 (by decide +kernel) rfl
theorem aK_37 : Cond.methodLink "NotationDesk$Component" 37 mK_tags.1 ∈ zCW := zin 530 (by decide +kernel) rfl
theorem aC_122 : Cond.methodLink "NotationDesk$Compiler" 122 mC_readBounds.1 ∈ zCW := zin 531 (by decide +kernel) rfl
theorem aC_142 : Cond.methodLink "NotationDesk$Compiler" 142 mC_areBounds.1 ∈ zCW := zin 535 (by decide +kernel) rfl
theorem cC_148 : Cond.constant "NotationDesk$Compiler" 148 (65536 : Int32) ∈ zCW := zin 538 (by decide +kernel) rfl
theorem aC_126 : Cond.methodLink "NotationDesk$Compiler" 126 mC_readItems.1 ∈ zCW := zin 539 (by decide +kernel) rfl
theorem aC_93 : Cond.methodLink "NotationDesk$Compiler" 93 mC_setHeights.1 ∈ zCW := zin 543 (by decide +kernel) rfl
theorem aL_61 : Cond.methodLink "NotationDeskLaw" 61 mD_put.1 ∈ zCW := zin 546 (by decide +kernel) rfl
theorem aL_66 : Cond.methodLink "NotationDeskLaw" 66 mD_wipe.1 ∈ zCW := zin 550 (by decide +kernel) rfl
theorem aL_83 : Cond.methodLink "NotationDeskLaw" 83 mD_parts.1 ∈ zCW := zin 554 (by decide +kernel) rfl
theorem aL_70 : Cond.methodLink "NotationDeskLaw" 70 mL_at.1 ∈ zCW := zin 558 (by decide +kernel) rfl
theorem bL_13 : Cond.classLink "NotationDeskLaw" 13 "java/lang/IndexOutOfBoundsException" ∈ zCW := zin 561 (by decide +kernel) rfl
theorem aL_7 : Cond.methodLink "NotationDeskLaw" 7 mD_at.1 ∈ zCW := zin 562 (by decide +kernel) rfl
theorem bD_103 : Cond.classLink "NotationDesk" 103 "java/lang/IndexOutOfBoundsException" ∈ zCW := zin 566 (by decide +kernel) rfl
theorem r_byte : Cond.arrayClass .byte ∈ zCW := zin 635 (by decide +kernel) rfl
theorem aL_79 : Cond.methodLink "NotationDeskLaw" 79 mL_transcode.1 ∈ zCW := zin 636 (by decide +kernel) rfl
theorem bL_19 : Cond.classLink "NotationDeskLaw" 19 "java/lang/IllegalArgumentException" ∈ zCW := zin 639 (by decide +kernel) rfl
theorem bL_21 : Cond.classLink "NotationDeskLaw" 21 "java/lang/IllegalStateException" ∈ zCW := zin 640 (by decide +kernel) rfl
theorem bL_23 : Cond.classLink "NotationDeskLaw" 23 "java/util/NoSuchElementException" ∈ zCW := zin 641 (by decide +kernel) rfl
theorem bL_25 : Cond.classLink "NotationDeskLaw" 25 "java/lang/UnsupportedOperationException" ∈ zCW := zin 642 (by decide +kernel) rfl
theorem aL_15 : Cond.methodLink "NotationDeskLaw" 15 mD_transcode.1 ∈ zCW := zin 643 (by decide +kernel) rfl
theorem aD_110 : Cond.methodLink "NotationDesk" 110 mD_areRules.1 ∈ zCW := zin 647 (by decide +kernel) rfl
theorem bD_114 : Cond.classLink "NotationDesk" 114 "java/lang/IllegalArgumentException" ∈ zCW := zin 650 (by decide +kernel) rfl
theorem bD_119 : Cond.classLink "NotationDesk" 119 "java/lang/IllegalStateException" ∈ zCW := zin 666 (by decide +kernel) rfl
theorem aD_124 : Cond.methodLink "NotationDesk" 124 mC_typeNamed.1 ∈ zCW := zin 682 (by decide +kernel) rfl
theorem bD_128 : Cond.classLink "NotationDesk" 128 "java/util/NoSuchElementException" ∈ zCW := zin 686 (by decide +kernel) rfl
theorem aD_133 : Cond.methodLink "NotationDesk" 133 mD_readBuffer.1 ∈ zCW := zin 702 (by decide +kernel) rfl
theorem aD_195 : Cond.methodLink "NotationDesk" 195 mP_readAll.1 ∈ zCW := zin 706 (by decide +kernel) rfl
theorem aP_32 : Cond.methodLink "NotationDesk$PackedReader" 32 mP_readValue.1 ∈ zCW := zin 711 (by decide +kernel) rfl
theorem aP_53 : Cond.methodLink "NotationDesk$PackedReader" 53 mV_addPart.1 ∈ zCW := zin 715 (by decide +kernel) rfl
theorem aP_36 : Cond.methodLink "NotationDesk$PackedReader" 36 mP_takeBits.1 ∈ zCW := zin 719 (by decide +kernel) rfl
theorem aP_66 : Cond.methodLink "NotationDesk$PackedReader" 66 mP_readBounded.1 ∈ zCW := zin 723 (by decide +kernel) rfl
theorem aP_93 : Cond.methodLink "NotationDesk$PackedReader" 93 mP_takeNumber.1 ∈ zCW := zin 727 (by decide +kernel) rfl
theorem aP_40 : Cond.methodLink "NotationDesk$PackedReader" 40 mP_align.1 ∈ zCW := zin 731 (by decide +kernel) rfl
theorem aP_160 : Cond.methodLink "NotationDesk$PackedReader" 160 mI_bitsOfNumbersTo.1 ∈ zCW := zin 735 (by decide +kernel) rfl
theorem aP_70 : Cond.methodLink "NotationDesk$PackedReader" 70 mP_readUnbounded.1 ∈ zCW := zin 738 (by decide +kernel) rfl
theorem aP_96 : Cond.methodLink "NotationDesk$PackedReader" 96 mP_takeByte.1 ∈ zCW := zin 742 (by decide +kernel) rfl
theorem aP_100 : Cond.methodLink "NotationDesk$PackedReader" 100 mI_areBytesOfOne.1 ∈ zCW := zin 746 (by decide +kernel) rfl
theorem aP_106 : Cond.methodLink "NotationDesk$PackedReader" 106 mI_fromBytes.1 ∈ zCW := zin 749 (by decide +kernel) rfl
theorem aP_74 : Cond.methodLink "NotationDesk$PackedReader" 74 mP_readOctets.1 ∈ zCW := zin 752 (by decide +kernel) rfl
theorem aP_110 : Cond.methodLink "NotationDesk$PackedReader" 110 mP_takeCount.1 ∈ zCW := zin 756 (by decide +kernel) rfl
theorem aP_114 : Cond.methodLink "NotationDesk$PackedReader" 114 mT_isAlignedOctets.1 ∈ zCW := zin 760 (by decide +kernel) rfl
theorem aP_117 : Cond.methodLink "NotationDesk$PackedReader" 117 mV_addOctet.1 ∈ zCW := zin 764 (by decide +kernel) rfl
theorem aP_77 : Cond.methodLink "NotationDesk$PackedReader" 77 mP_readComponents.1 ∈ zCW := zin 768 (by decide +kernel) rfl
theorem aP_121 : Cond.methodLink "NotationDesk$PackedReader" 121 mP_takePresence.1 ∈ zCW := zin 772 (by decide +kernel) rfl
theorem aP_136 : Cond.methodLink "NotationDesk$PackedReader" 136 mV_leaveOutComponent.1 ∈ zCW := zin 776 (by decide +kernel) rfl
theorem aV_60 : Cond.methodLink "NotationDesk$Value" 60 mT_untagged.1 ∈ zCW := zin 780 (by decide +kernel) rfl
theorem aV_68 : Cond.methodLink "NotationDesk$Value" 68 mV_addPart.1 ∈ zCW := zin 781 (by decide +kernel) rfl
theorem aP_143 : Cond.methodLink "NotationDesk$PackedReader" 143 mV_takeComponent.1 ∈ zCW := zin 782 (by decide +kernel) rfl
theorem aP_81 : Cond.methodLink "NotationDesk$PackedReader" 81 mP_readItems.1 ∈ zCW := zin 786 (by decide +kernel) rfl
theorem aP_84 : Cond.methodLink "NotationDesk$PackedReader" 84 mP_readChoice.1 ∈ zCW := zin 790 (by decide +kernel) rfl
theorem aP_156 : Cond.methodLink "NotationDesk$PackedReader" 156 mT_memberRanked.1 ∈ zCW := zin 794 (by decide +kernel) rfl
theorem aD_198 : Cond.methodLink "NotationDesk" 198 mO_readAll.1 ∈ zCW := zin 798 (by decide +kernel) rfl
theorem aO_27 : Cond.methodLink "NotationDesk$OpenReader" 27 mO_readElement.1 ∈ zCW := zin 802 (by decide +kernel) rfl
theorem aO_36 : Cond.methodLink "NotationDesk$OpenReader" 36 mO_readTagged.1 ∈ zCW := zin 806 (by decide +kernel) rfl
theorem aO_43 : Cond.methodLink "NotationDesk$OpenReader" 43 mT_tagByte.1 ∈ zCW := zin 810 (by decide +kernel) rfl
theorem aO_47 : Cond.methodLink "NotationDesk$OpenReader" 47 mO_readHeader.1 ∈ zCW := zin 814 (by decide +kernel) rfl
theorem aO_148 : Cond.methodLink "NotationDesk$OpenReader" 148 mO_readLongLength.1 ∈ zCW := zin 818 (by decide +kernel) rfl
theorem aO_68 : Cond.methodLink "NotationDesk$OpenReader" 68 mO_readContentEnd.1 ∈ zCW := zin 822 (by decide +kernel) rfl
theorem aO_39 : Cond.methodLink "NotationDesk$OpenReader" 39 mO_readChoice.1 ∈ zCW := zin 826 (by decide +kernel) rfl
theorem aO_82 : Cond.methodLink "NotationDesk$OpenReader" 82 mO_nextTagBit.1 ∈ zCW := zin 830 (by decide +kernel) rfl
theorem aO_152 : Cond.methodLink "NotationDesk$OpenReader" 152 mO_tagBitOf.1 ∈ zCW := zin 834 (by decide +kernel) rfl
theorem cO_155 : Cond.constant "NotationDesk$OpenReader" 155 (65536 : Int32) ∈ zCW := zin 837 (by decide +kernel) rfl
theorem aO_85 : Cond.methodLink "NotationDesk$OpenReader" 85 mT_memberWithTag.1 ∈ zCW := zin 838 (by decide +kernel) rfl
theorem aT_71 : Cond.methodLink "NotationDesk$Type" 71 mK_tags.1 ∈ zCW := zin 842 (by decide +kernel) rfl
theorem aO_51 : Cond.methodLink "NotationDesk$OpenReader" 51 mV_addPart.1 ∈ zCW := zin 843 (by decide +kernel) rfl
theorem aO_57 : Cond.methodLink "NotationDesk$OpenReader" 57 mO_readPlain.1 ∈ zCW := zin 844 (by decide +kernel) rfl
theorem aO_126 : Cond.methodLink "NotationDesk$OpenReader" 126 mO_readBoolean.1 ∈ zCW := zin 848 (by decide +kernel) rfl
theorem aO_129 : Cond.methodLink "NotationDesk$OpenReader" 129 mO_readInteger.1 ∈ zCW := zin 852 (by decide +kernel) rfl
theorem aO_135 : Cond.methodLink "NotationDesk$OpenReader" 135 mI_areBytesOfOne.1 ∈ zCW := zin 856 (by decide +kernel) rfl
theorem aO_141 : Cond.methodLink "NotationDesk$OpenReader" 141 mI_fromBytes.1 ∈ zCW := zin 857 (by decide +kernel) rfl
theorem aO_122 : Cond.methodLink "NotationDesk$OpenReader" 122 mT_allows.1 ∈ zCW := zin 858 (by decide +kernel) rfl
theorem aO_132 : Cond.methodLink "NotationDesk$OpenReader" 132 mO_readOctets.1 ∈ zCW := zin 859 (by decide +kernel) rfl
theorem aO_145 : Cond.methodLink "NotationDesk$OpenReader" 145 mV_addOctet.1 ∈ zCW := zin 863 (by decide +kernel) rfl
theorem aO_61 : Cond.methodLink "NotationDesk$OpenReader" 61 mO_readItems.1 ∈ zCW := zin 864 (by decide +kernel) rfl
theorem aO_65 : Cond.methodLink "NotationDesk$OpenReader" 65 mO_readComponents.1 ∈ zCW := zin 868 (by decide +kernel) rfl
theorem aO_107 : Cond.methodLink "NotationDesk$OpenReader" 107 mK_tags.1 ∈ zCW := zin 872 (by decide +kernel) rfl
theorem aO_111 : Cond.methodLink "NotationDesk$OpenReader" 111 mV_leaveOutComponent.1 ∈ zCW := zin 873 (by decide +kernel) rfl
theorem aO_115 : Cond.methodLink "NotationDesk$OpenReader" 115 mV_takeComponent.1 ∈ zCW := zin 874 (by decide +kernel) rfl
theorem aD_137 : Cond.methodLink "NotationDesk" 137 mD_writeFound.1 ∈ zCW := zin 875 (by decide +kernel) rfl
theorem aD_201 : Cond.methodLink "NotationDesk" 201 mQ_writeAll.1 ∈ zCW := zin 879 (by decide +kernel) rfl
theorem aQ_30 : Cond.methodLink "NotationDesk$PackedWriter" 30 mQ_writeValue.1 ∈ zCW := zin 883 (by decide +kernel) rfl
theorem aQ_34 : Cond.methodLink "NotationDesk$PackedWriter" 34 mQ_appendBits.1 ∈ zCW := zin 887 (by decide +kernel) rfl
theorem aQ_58 : Cond.methodLink "NotationDesk$PackedWriter" 58 mQ_writeInteger.1 ∈ zCW := zin 891 (by decide +kernel) rfl
theorem aQ_83 : Cond.methodLink "NotationDesk$PackedWriter" 83 mQ_appendNumber.1 ∈ zCW := zin 895 (by decide +kernel) rfl
theorem aQ_38 : Cond.methodLink "NotationDesk$PackedWriter" 38 mQ_align.1 ∈ zCW := zin 899 (by decide +kernel) rfl
theorem aQ_132 : Cond.methodLink "NotationDesk$PackedWriter" 132 mI_bitsOfNumbersTo.1 ∈ zCW := zin 903 (by decide +kernel) rfl
theorem aQ_86 : Cond.methodLink "NotationDesk$PackedWriter" 86 mI_byteCount.1 ∈ zCW := zin 904 (by decide +kernel) rfl
theorem aQ_61 : Cond.methodLink "NotationDesk$PackedWriter" 61 mQ_writeOctets.1 ∈ zCW := zin 907 (by decide +kernel) rfl
theorem aQ_92 : Cond.methodLink "NotationDesk$PackedWriter" 92 mQ_appendCount.1 ∈ zCW := zin 911 (by decide +kernel) rfl
theorem aQ_95 : Cond.methodLink "NotationDesk$PackedWriter" 95 mT_isAlignedOctets.1 ∈ zCW := zin 915 (by decide +kernel) rfl
theorem aQ_99 : Cond.methodLink "NotationDesk$PackedWriter" 99 mV_octetAt.1 ∈ zCW := zin 916 (by decide +kernel) rfl
theorem aQ_64 : Cond.methodLink "NotationDesk$PackedWriter" 64 mQ_writeComponents.1 ∈ zCW := zin 920 (by decide +kernel) rfl
theorem aQ_112 : Cond.methodLink "NotationDesk$PackedWriter" 112 mV_shows.1 ∈ zCW := zin 924 (by decide +kernel) rfl
theorem aQ_68 : Cond.methodLink "NotationDesk$PackedWriter" 68 mQ_writeItems.1 ∈ zCW := zin 928 (by decide +kernel) rfl
theorem aQ_71 : Cond.methodLink "NotationDesk$PackedWriter" 71 mQ_writeChoice.1 ∈ zCW := zin 932 (by decide +kernel) rfl
theorem aQ_122 : Cond.methodLink "NotationDesk$PackedWriter" 122 mT_memberAt.1 ∈ zCW := zin 936 (by decide +kernel) rfl
theorem aD_205 : Cond.methodLink "NotationDesk" 205 mS_writeAll.1 ∈ zCW := zin 940 (by decide +kernel) rfl
theorem aS_30 : Cond.methodLink "NotationDesk$StrictWriter" 30 mS_writeElement.1 ∈ zCW := zin 944 (by decide +kernel) rfl
theorem aS_44 : Cond.methodLink "NotationDesk$StrictWriter" 44 mS_writeChoice.1 ∈ zCW := zin 948 (by decide +kernel) rfl
theorem aS_75 : Cond.methodLink "NotationDesk$StrictWriter" 75 mT_memberAt.1 ∈ zCW := zin 952 (by decide +kernel) rfl
theorem aS_48 : Cond.methodLink "NotationDesk$StrictWriter" 48 mT_tagByte.1 ∈ zCW := zin 953 (by decide +kernel) rfl
theorem aS_52 : Cond.methodLink "NotationDesk$StrictWriter" 52 mS_beginElement.1 ∈ zCW := zin 954 (by decide +kernel) rfl
theorem aS_84 : Cond.methodLink "NotationDesk$StrictWriter" 84 mS_append.1 ∈ zCW := zin 958 (by decide +kernel) rfl
theorem aS_55 : Cond.methodLink "NotationDesk$StrictWriter" 55 mS_writeContent.1 ∈ zCW := zin 962 (by decide +kernel) rfl
theorem aS_87 : Cond.methodLink "NotationDesk$StrictWriter" 87 mS_writeInteger.1 ∈ zCW := zin 966 (by decide +kernel) rfl
theorem aS_97 : Cond.methodLink "NotationDesk$StrictWriter" 97 mI_byteCount.1 ∈ zCW := zin 970 (by decide +kernel) rfl
theorem aS_90 : Cond.methodLink "NotationDesk$StrictWriter" 90 mV_octetAt.1 ∈ zCW := zin 971 (by decide +kernel) rfl
theorem aS_94 : Cond.methodLink "NotationDesk$StrictWriter" 94 mS_writeComponents.1 ∈ zCW := zin 972 (by decide +kernel) rfl
theorem aS_106 : Cond.methodLink "NotationDesk$StrictWriter" 106 mV_shows.1 ∈ zCW := zin 976 (by decide +kernel) rfl
theorem aS_58 : Cond.methodLink "NotationDesk$StrictWriter" 58 mS_endElement.1 ∈ zCW := zin 977 (by decide +kernel) rfl
theorem bD_141 : Cond.classLink "NotationDesk" 141 "java/lang/UnsupportedOperationException" ∈ zCW := zin 981 (by decide +kernel) rfl
theorem aD_146 : Cond.methodLink "NotationDesk" 146 mV_copyOf.1 ∈ zCW := zin 997 (by decide +kernel) rfl
theorem aD_150 : Cond.methodLink "NotationDesk" 150 mD_keepWritten.1 ∈ zCW := zin 1004 (by decide +kernel) rfl
theorem aL_87 : Cond.methodLink "NotationDeskLaw" 87 mL_part.1 ∈ zCW := zin 1009 (by decide +kernel) rfl
theorem aL_27 : Cond.methodLink "NotationDeskLaw" 27 mD_part.1 ∈ zCW := zin 1012 (by decide +kernel) rfl
theorem aL_91 : Cond.methodLink "NotationDeskLaw" 91 mL_octet.1 ∈ zCW := zin 1018 (by decide +kernel) rfl
theorem aL_31 : Cond.methodLink "NotationDeskLaw" 31 mD_octet.1 ∈ zCW := zin 1021 (by decide +kernel) rfl
theorem aD_173 : Cond.methodLink "NotationDesk" 173 mV_octetAt.1 ∈ zCW := zin 1025 (by decide +kernel) rfl
theorem aL_94 : Cond.methodLink "NotationDeskLaw" 94 mL_operation.1 ∈ zCW := zin 1026 (by decide +kernel) rfl
theorem aL_34 : Cond.methodLink "NotationDeskLaw" 34 mD_operation.1 ∈ zCW := zin 1029 (by decide +kernel) rfl
theorem aL_98 : Cond.methodLink "NotationDeskLaw" 98 mL_serve.1 ∈ zCW := zin 1034 (by decide +kernel) rfl
theorem aL_38 : Cond.methodLink "NotationDeskLaw" 38 mD_serve.1 ∈ zCW := zin 1037 (by decide +kernel) rfl
theorem aD_179 : Cond.methodLink "NotationDesk" 179 mD_refuseMessage.1 ∈ zCW := zin 1041 (by decide +kernel) rfl
theorem aD_182 : Cond.methodLink "NotationDesk" 182 mD_wasServed.1 ∈ zCW := zin 1045 (by decide +kernel) rfl
theorem aD_186 : Cond.methodLink "NotationDesk" 186 mD_markServed.1 ∈ zCW := zin 1049 (by decide +kernel) rfl
theorem aD_189 : Cond.methodLink "NotationDesk" 189 mD_sayNoValue.1 ∈ zCW := zin 1053 (by decide +kernel) rfl
theorem bL_43 : Cond.classLink "NotationDeskLaw" 43 "NotationDeskModel" ∈ zCW := zin 1057 (by decide +kernel) rfl
theorem nM : Cond.instantiable "NotationDeskModel" 59 ∈ zCW := zin 1058 (by decide +kernel) rfl
theorem aL_45 : Cond.methodLink "NotationDeskLaw" 45 mM_init.1 ∈ zCW := zin 1059 (by decide +kernel) rfl
theorem aM_1 : Cond.methodLink "NotationDeskModel" 1 Lib.objectInit ∈ zCW := zin 1062 (by decide +kernel) rfl
theorem aM_129 : Cond.methodLink "NotationDeskModel" 129 mM_leave.1 ∈ zCW := zin 1063 (by decide +kernel) rfl
theorem fM_132 : z_fl "NotationDeskModel" 132 9 0 0 .int false := ⟨_, _, _, _, kM, by decide, zin 1067 (by decide +kernel) rfl, rfl, rfl, rfl, fun _ _ => rfl⟩
theorem fM_136 : z_fl "NotationDeskModel" 136 9 1 0 .boolean false := ⟨_, _, _, _, kM, by decide, zin 1068 (by decide +kernel) rfl, rfl, rfl, rfl, fun _ _ => rfl⟩
theorem fM_143 : z_fl "NotationDeskModel" 143 9 2 0 .int false := ⟨_, _, _, _, kM, by decide, zin 1069 (by decide +kernel) rfl, rfl, rfl, rfl, fun _ _ => rfl⟩
theorem fM_146 : z_fl "NotationDeskModel" 146 9 3 0 .int false := ⟨_, _, _, _, kM, by decide, zin 1070 (by decide +kernel) rfl, rfl, rfl, rfl, fun _ _ => rfl⟩
theorem fM_149 : z_fl "NotationDeskModel" 149 9 4 0 .int false := ⟨_, _, _, _, kM, by decide, zin 1071 (by decide +kernel) rfl, rfl, rfl, rfl, fun _ _ => rfl⟩
theorem fM_177 : z_fl "NotationDeskModel" 177 9 5 0 .int false := ⟨_, _, _, _, kM, by decide, zin 1072 (by decide +kernel) rfl, rfl, rfl, rfl, fun _ _ => rfl⟩
theorem fM_203 : z_fl "NotationDeskModel" 203 9 6 0 .int false := ⟨_, _, _, _, kM, by decide, zin 1073 (by decide +kernel) rfl, rfl, rfl, rfl, fun _ _ => rfl⟩
theorem fM_7 : z_fl "NotationDeskModel" 7 9 7 1 (.array .char) true := ⟨_, _, _, _, kM, by decide, zin 1074 (by decide +kernel) rfl, rfl, rfl, rfl, fun _ _ => rfl⟩
theorem fM_13 : z_fl "NotationDeskModel" 13 9 8 1 (.array .int) true := ⟨_, _, _, _, kM, by decide, zin 1075 (by decide +kernel) rfl, rfl, rfl, rfl, fun _ _ => rfl⟩
theorem fM_17 : z_fl "NotationDeskModel" 17 9 9 1 (.array .int) true := ⟨_, _, _, _, kM, by decide, zin 1076 (by decide +kernel) rfl, rfl, rfl, rfl, fun _ _ => rfl⟩
theorem fM_160 : z_fl "NotationDeskModel" 160 9 10 0 .int false := ⟨_, _, _, _, kM, by decide, zin 1077 (by decide +kernel) rfl, rfl, rfl, rfl, fun _ _ => rfl⟩
theorem fM_20 : z_fl "NotationDeskModel" 20 9 11 1 (.array .int) true := ⟨_, _, _, _, kM, by decide, zin 1078 (by decide +kernel) rfl, rfl, rfl, rfl, fun _ _ => rfl⟩
theorem fM_23 : z_fl "NotationDeskModel" 23 9 12 1 (.array .int) true := ⟨_, _, _, _, kM, by decide, zin 1079 (by decide +kernel) rfl, rfl, rfl, rfl, fun _ _ => rfl⟩
theorem fM_26 : z_fl "NotationDeskModel" 26 9 13 1 (.array .int) true := ⟨_, _, _, _, kM, by decide, zin 1080 (by decide +kernel) rfl, rfl, rfl, rfl, fun _ _ => rfl⟩
theorem fM_29 : z_fl "NotationDeskModel" 29 9 14 1 (.array .int) true := ⟨_, _, _, _, kM, by decide, zin 1081 (by decide +kernel) rfl, rfl, rfl, rfl, fun _ _ => rfl⟩
theorem fM_32 : z_fl "NotationDeskModel" 32 9 15 1 (.array .int) true := ⟨_, _, _, _, kM, by decide, zin 1082 (by decide +kernel) rfl, rfl, rfl, rfl, fun _ _ => rfl⟩
theorem fM_35 : z_fl "NotationDeskModel" 35 9 16 1 (.array .int) true := ⟨_, _, _, _, kM, by decide, zin 1083 (by decide +kernel) rfl, rfl, rfl, rfl, fun _ _ => rfl⟩
theorem fM_38 : z_fl "NotationDeskModel" 38 9 17 1 (.array .int) true := ⟨_, _, _, _, kM, by decide, zin 1084 (by decide +kernel) rfl, rfl, rfl, rfl, fun _ _ => rfl⟩
theorem fM_41 : z_fl "NotationDeskModel" 41 9 18 1 (.array .boolean) true := ⟨_, _, _, _, kM, by decide, zin 1085 (by decide +kernel) rfl, rfl, rfl, rfl, fun _ _ => rfl⟩
theorem fM_45 : z_fl "NotationDeskModel" 45 9 19 1 (.array .boolean) true := ⟨_, _, _, _, kM, by decide, zin 1086 (by decide +kernel) rfl, rfl, rfl, rfl, fun _ _ => rfl⟩
theorem fM_48 : z_fl "NotationDeskModel" 48 9 20 1 (.array .int) true := ⟨_, _, _, _, kM, by decide, zin 1087 (by decide +kernel) rfl, rfl, rfl, rfl, fun _ _ => rfl⟩
theorem fM_51 : z_fl "NotationDeskModel" 51 9 21 1 (.array .int) true := ⟨_, _, _, _, kM, by decide, zin 1088 (by decide +kernel) rfl, rfl, rfl, rfl, fun _ _ => rfl⟩
theorem fM_54 : z_fl "NotationDeskModel" 54 9 22 1 (.array .int) true := ⟨_, _, _, _, kM, by decide, zin 1089 (by decide +kernel) rfl, rfl, rfl, rfl, fun _ _ => rfl⟩
theorem fM_222 : z_fl "NotationDeskModel" 222 9 23 0 .int false := ⟨_, _, _, _, kM, by decide, zin 1090 (by decide +kernel) rfl, rfl, rfl, rfl, fun _ _ => rfl⟩
theorem fM_225 : z_fl "NotationDeskModel" 225 9 24 0 .int false := ⟨_, _, _, _, kM, by decide, zin 1091 (by decide +kernel) rfl, rfl, rfl, rfl, fun _ _ => rfl⟩
theorem fM_57 : z_fl "NotationDeskModel" 57 9 25 1 (.array .int) true := ⟨_, _, _, _, kM, by decide, zin 1092 (by decide +kernel) rfl, rfl, rfl, rfl, fun _ _ => rfl⟩
theorem fM_60 : z_fl "NotationDeskModel" 60 9 26 1 (.array .int) true := ⟨_, _, _, _, kM, by decide, zin 1093 (by decide +kernel) rfl, rfl, rfl, rfl, fun _ _ => rfl⟩
theorem fM_228 : z_fl "NotationDeskModel" 228 9 27 0 .int false := ⟨_, _, _, _, kM, by decide, zin 1094 (by decide +kernel) rfl, rfl, rfl, rfl, fun _ _ => rfl⟩
theorem fM_261 : z_fl "NotationDeskModel" 261 9 28 0 .int false := ⟨_, _, _, _, kM, by decide, zin 1095 (by decide +kernel) rfl, rfl, rfl, rfl, fun _ _ => rfl⟩
theorem fM_270 : z_fl "NotationDeskModel" 270 9 29 0 .int false := ⟨_, _, _, _, kM, by decide, zin 1096 (by decide +kernel) rfl, rfl, rfl, rfl, fun _ _ => rfl⟩
theorem fM_341 : z_fl "NotationDeskModel" 341 9 30 0 .int false := ⟨_, _, _, _, kM, by decide, zin 1097 (by decide +kernel) rfl, rfl, rfl, rfl, fun _ _ => rfl⟩
theorem fM_63 : z_fl "NotationDeskModel" 63 9 31 1 (.array .int) true := ⟨_, _, _, _, kM, by decide, zin 1098 (by decide +kernel) rfl, rfl, rfl, rfl, fun _ _ => rfl⟩
theorem fM_66 : z_fl "NotationDeskModel" 66 9 32 1 (.array .int) true := ⟨_, _, _, _, kM, by decide, zin 1099 (by decide +kernel) rfl, rfl, rfl, rfl, fun _ _ => rfl⟩
theorem fM_69 : z_fl "NotationDeskModel" 69 9 33 1 (.array .int) true := ⟨_, _, _, _, kM, by decide, zin 1100 (by decide +kernel) rfl, rfl, rfl, rfl, fun _ _ => rfl⟩
theorem fM_233 : z_fl "NotationDeskModel" 233 9 34 0 .int false := ⟨_, _, _, _, kM, by decide, zin 1101 (by decide +kernel) rfl, rfl, rfl, rfl, fun _ _ => rfl⟩
theorem fM_239 : z_fl "NotationDeskModel" 239 9 35 0 .int false := ⟨_, _, _, _, kM, by decide, zin 1102 (by decide +kernel) rfl, rfl, rfl, rfl, fun _ _ => rfl⟩
theorem fM_72 : z_fl "NotationDeskModel" 72 9 36 1 (.array .int) true := ⟨_, _, _, _, kM, by decide, zin 1103 (by decide +kernel) rfl, rfl, rfl, rfl, fun _ _ => rfl⟩
theorem fM_75 : z_fl "NotationDeskModel" 75 9 37 1 (.array .int) true := ⟨_, _, _, _, kM, by decide, zin 1104 (by decide +kernel) rfl, rfl, rfl, rfl, fun _ _ => rfl⟩
theorem fM_78 : z_fl "NotationDeskModel" 78 9 38 1 (.array .int) true := ⟨_, _, _, _, kM, by decide, zin 1105 (by decide +kernel) rfl, rfl, rfl, rfl, fun _ _ => rfl⟩
theorem fM_81 : z_fl "NotationDeskModel" 81 9 39 1 (.array .int) true := ⟨_, _, _, _, kM, by decide, zin 1106 (by decide +kernel) rfl, rfl, rfl, rfl, fun _ _ => rfl⟩
theorem fM_84 : z_fl "NotationDeskModel" 84 9 40 1 (.array .int) true := ⟨_, _, _, _, kM, by decide, zin 1107 (by decide +kernel) rfl, rfl, rfl, rfl, fun _ _ => rfl⟩
theorem fM_87 : z_fl "NotationDeskModel" 87 9 41 1 (.array .int) true := ⟨_, _, _, _, kM, by decide, zin 1108 (by decide +kernel) rfl, rfl, rfl, rfl, fun _ _ => rfl⟩
theorem fM_90 : z_fl "NotationDeskModel" 90 9 42 1 (.array .int) true := ⟨_, _, _, _, kM, by decide, zin 1109 (by decide +kernel) rfl, rfl, rfl, rfl, fun _ _ => rfl⟩
theorem fM_93 : z_fl "NotationDeskModel" 93 9 43 1 (.array .int) true := ⟨_, _, _, _, kM, by decide, zin 1110 (by decide +kernel) rfl, rfl, rfl, rfl, fun _ _ => rfl⟩
theorem fM_140 : z_fl "NotationDeskModel" 140 9 44 0 .int false := ⟨_, _, _, _, kM, by decide, zin 1111 (by decide +kernel) rfl, rfl, rfl, rfl, fun _ _ => rfl⟩
theorem fM_96 : z_fl "NotationDeskModel" 96 9 45 1 (.array .int) true := ⟨_, _, _, _, kM, by decide, zin 1112 (by decide +kernel) rfl, rfl, rfl, rfl, fun _ _ => rfl⟩
theorem fM_99 : z_fl "NotationDeskModel" 99 9 46 1 (.array .int) true := ⟨_, _, _, _, kM, by decide, zin 1113 (by decide +kernel) rfl, rfl, rfl, rfl, fun _ _ => rfl⟩
theorem fM_245 : z_fl "NotationDeskModel" 245 9 47 0 .int false := ⟨_, _, _, _, kM, by decide, zin 1114 (by decide +kernel) rfl, rfl, rfl, rfl, fun _ _ => rfl⟩
theorem fM_242 : z_fl "NotationDeskModel" 242 9 48 0 .int false := ⟨_, _, _, _, kM, by decide, zin 1115 (by decide +kernel) rfl, rfl, rfl, rfl, fun _ _ => rfl⟩
theorem fM_236 : z_fl "NotationDeskModel" 236 9 49 0 .boolean false := ⟨_, _, _, _, kM, by decide, zin 1116 (by decide +kernel) rfl, rfl, rfl, rfl, fun _ _ => rfl⟩
theorem fM_102 : z_fl "NotationDeskModel" 102 9 50 1 (.array .int) true := ⟨_, _, _, _, kM, by decide, zin 1117 (by decide +kernel) rfl, rfl, rfl, rfl, fun _ _ => rfl⟩
theorem fM_105 : z_fl "NotationDeskModel" 105 9 51 1 (.array .int) true := ⟨_, _, _, _, kM, by decide, zin 1118 (by decide +kernel) rfl, rfl, rfl, rfl, fun _ _ => rfl⟩
theorem fM_108 : z_fl "NotationDeskModel" 108 9 52 1 (.array .int) true := ⟨_, _, _, _, kM, by decide, zin 1119 (by decide +kernel) rfl, rfl, rfl, rfl, fun _ _ => rfl⟩
theorem fM_111 : z_fl "NotationDeskModel" 111 9 53 1 (.array .int) true := ⟨_, _, _, _, kM, by decide, zin 1120 (by decide +kernel) rfl, rfl, rfl, rfl, fun _ _ => rfl⟩
theorem fM_114 : z_fl "NotationDeskModel" 114 9 54 1 (.array .boolean) true := ⟨_, _, _, _, kM, by decide, zin 1121 (by decide +kernel) rfl, rfl, rfl, rfl, fun _ _ => rfl⟩
theorem fM_117 : z_fl "NotationDeskModel" 117 9 55 1 (.array .int) true := ⟨_, _, _, _, kM, by decide, zin 1122 (by decide +kernel) rfl, rfl, rfl, rfl, fun _ _ => rfl⟩
theorem fM_120 : z_fl "NotationDeskModel" 120 9 56 1 (.array .int) true := ⟨_, _, _, _, kM, by decide, zin 1123 (by decide +kernel) rfl, rfl, rfl, rfl, fun _ _ => rfl⟩
theorem fM_123 : z_fl "NotationDeskModel" 123 9 57 1 (.array .int) true := ⟨_, _, _, _, kM, by decide, zin 1124 (by decide +kernel) rfl, rfl, rfl, rfl, fun _ _ => rfl⟩
theorem fM_126 : z_fl "NotationDeskModel" 126 9 58 1 (.array .boolean) true := ⟨_, _, _, _, kM, by decide, zin 1125 (by decide +kernel) rfl, rfl, rfl, rfl, fun _ _ => rfl⟩
theorem r_boolean : Cond.arrayClass .boolean ∈ zCW := zin 1245 (by decide +kernel) rfl
theorem aL_76 : Cond.methodLink "NotationDeskLaw" 76 mM_thrown.1 ∈ zCW := zin 1246 (by decide +kernel) rfl
theorem aL_50 : Cond.methodLink "NotationDeskLaw" 50 mM_type.1 ∈ zCW := zin 1250 (by decide +kernel) rfl
theorem aL_54 : Cond.methodLink "NotationDeskLaw" 54 mM_clear.1 ∈ zCW := zin 1254 (by decide +kernel) rfl
theorem aL_58 : Cond.methodLink "NotationDeskLaw" 58 mM_compile.1 ∈ zCW := zin 1258 (by decide +kernel) rfl
theorem aM_163 : Cond.methodLink "NotationDeskModel" 163 mM_definition.1 ∈ zCW := zin 1262 (by decide +kernel) rfl
theorem aM_152 : Cond.methodLink "NotationDeskModel" 152 mM_look.1 ∈ zCW := zin 1266 (by decide +kernel) rfl
theorem aM_166 : Cond.methodLink "NotationDeskModel" 166 mM_in.1 ∈ zCW := zin 1270 (by decide +kernel) rfl
theorem aM_156 : Cond.methodLink "NotationDeskModel" 156 mM_stop.1 ∈ zCW := zin 1273 (by decide +kernel) rfl
theorem aM_170 : Cond.methodLink "NotationDeskModel" 170 mM_need.1 ∈ zCW := zin 1277 (by decide +kernel) rfl
theorem aM_174 : Cond.methodLink "NotationDeskModel" 174 mM_whole.1 ∈ zCW := zin 1281 (by decide +kernel) rfl
theorem aM_180 : Cond.methodLink "NotationDeskModel" 180 mM_begin.1 ∈ zCW := zin 1285 (by decide +kernel) rfl
theorem aM_187 : Cond.methodLink "NotationDeskModel" 187 mM_tagged.1 ∈ zCW := zin 1289 (by decide +kernel) rfl
theorem aM_193 : Cond.methodLink "NotationDeskModel" 193 mM_add.1 ∈ zCW := zin 1293 (by decide +kernel) rfl
theorem aM_196 : Cond.methodLink "NotationDeskModel" 196 mM_push.1 ∈ zCW := zin 1297 (by decide +kernel) rfl
theorem aM_190 : Cond.methodLink "NotationDeskModel" 190 mM_named.1 ∈ zCW := zin 1301 (by decide +kernel) rfl
theorem aM_199 : Cond.methodLink "NotationDeskModel" 199 mM_ranged.1 ∈ zCW := zin 1305 (by decide +kernel) rfl
theorem aM_206 : Cond.methodLink "NotationDeskModel" 206 mM_numeral.1 ∈ zCW := zin 1309 (by decide +kernel) rfl
theorem cM_210 : Cond.constant "NotationDeskModel" 210 (65536 : Int32) ∈ zCW := zin 1313 (by decide +kernel) rfl
theorem aM_183 : Cond.methodLink "NotationDeskModel" 183 mM_end.1 ∈ zCW := zin 1314 (by decide +kernel) rfl
theorem aM_211 : Cond.methodLink "NotationDeskModel" 211 mM_component.1 ∈ zCW := zin 1318 (by decide +kernel) rfl
theorem aM_218 : Cond.methodLink "NotationDeskModel" 218 mM_unwrap.1 ∈ zCW := zin 1322 (by decide +kernel) rfl
theorem aM_215 : Cond.methodLink "NotationDeskModel" 215 mM_clashes.1 ∈ zCW := zin 1326 (by decide +kernel) rfl
theorem aL_65 : Cond.methodLink "NotationDeskLaw" 65 mM_put.1 ∈ zCW := zin 1330 (by decide +kernel) rfl
theorem cM_231 : Cond.constantLong "NotationDeskModel" 231 (255 : Int64) ∈ zCW := zin 1334 (by decide +kernel) rfl
theorem aL_69 : Cond.methodLink "NotationDeskLaw" 69 mM_wipe.1 ∈ zCW := zin 1335 (by decide +kernel) rfl
theorem aL_75 : Cond.methodLink "NotationDeskLaw" 75 mM_at.1 ∈ zCW := zin 1339 (by decide +kernel) rfl
theorem aL_82 : Cond.methodLink "NotationDeskLaw" 82 mM_transcode.1 ∈ zCW := zin 1343 (by decide +kernel) rfl
theorem aM_372 : Cond.methodLink "NotationDeskModel" 372 mM_asked.1 ∈ zCW := zin 1347 (by decide +kernel) rfl
theorem aM_368 : Cond.methodLink "NotationDeskModel" 368 mM_typeOf.1 ∈ zCW := zin 1351 (by decide +kernel) rfl
theorem aM_376 : Cond.methodLink "NotationDeskModel" 376 mM_load.1 ∈ zCW := zin 1355 (by decide +kernel) rfl
theorem aM_379 : Cond.methodLink "NotationDeskModel" 379 mM_isValue.1 ∈ zCW := zin 1359 (by decide +kernel) rfl
theorem aM_248 : Cond.methodLink "NotationDeskModel" 248 mM_element.1 ∈ zCW := zin 1363 (by decide +kernel) rfl
theorem aM_276 : Cond.methodLink "NotationDeskModel" 276 mM_next.1 ∈ zCW := zin 1367 (by decide +kernel) rfl
theorem aM_273 : Cond.methodLink "NotationDeskModel" 273 mM_bound.1 ∈ zCW := zin 1371 (by decide +kernel) rfl
theorem aM_287 : Cond.methodLink "NotationDeskModel" 287 mM_enter.1 ∈ zCW := zin 1375 (by decide +kernel) rfl
theorem aM_279 : Cond.methodLink "NotationDeskModel" 279 mM_length.1 ∈ zCW := zin 1379 (by decide +kernel) rfl
theorem aM_283 : Cond.methodLink "NotationDeskModel" 283 mM_frame.1 ∈ zCW := zin 1383 (by decide +kernel) rfl
theorem aM_290 : Cond.methodLink "NotationDeskModel" 290 mM_bitOf.1 ∈ zCW := zin 1387 (by decide +kernel) rfl
theorem aM_293 : Cond.methodLink "NotationDeskModel" 293 mM_adds.1 ∈ zCW := zin 1390 (by decide +kernel) rfl
theorem aM_297 : Cond.methodLink "NotationDeskModel" 297 mM_inner.1 ∈ zCW := zin 1394 (by decide +kernel) rfl
theorem aM_300 : Cond.methodLink "NotationDeskModel" 300 mM_bytesOf.1 ∈ zCW := zin 1398 (by decide +kernel) rfl
theorem cM_303 : Cond.constant "NotationDeskModel" 303 (-8388608 : Int32) ∈ zCW := zin 1401 (by decide +kernel) rfl
theorem cM_304 : Cond.constant "NotationDeskModel" 304 (8388607 : Int32) ∈ zCW := zin 1402 (by decide +kernel) rfl
theorem aM_252 : Cond.methodLink "NotationDeskModel" 252 mM_want.1 ∈ zCW := zin 1403 (by decide +kernel) rfl
theorem aM_329 : Cond.methodLink "NotationDeskModel" 329 mM_ranging.1 ∈ zCW := zin 1407 (by decide +kernel) rfl
theorem aM_320 : Cond.methodLink "NotationDeskModel" 320 mM_align.1 ∈ zCW := zin 1411 (by decide +kernel) rfl
theorem aM_323 : Cond.methodLink "NotationDeskModel" 323 mM_width.1 ∈ zCW := zin 1415 (by decide +kernel) rfl
theorem aM_326 : Cond.methodLink "NotationDeskModel" 326 mM_some.1 ∈ zCW := zin 1418 (by decide +kernel) rfl
theorem aM_317 : Cond.methodLink "NotationDeskModel" 317 mM_bit.1 ∈ zCW := zin 1422 (by decide +kernel) rfl
theorem aM_332 : Cond.methodLink "NotationDeskModel" 332 mM_rank.1 ∈ zCW := zin 1426 (by decide +kernel) rfl
theorem aM_335 : Cond.methodLink "NotationDeskModel" 335 mM_counted.1 ∈ zCW := zin 1430 (by decide +kernel) rfl
theorem aM_255 : Cond.methodLink "NotationDeskModel" 255 mM_goOn.1 ∈ zCW := zin 1434 (by decide +kernel) rfl
theorem aM_305 : Cond.methodLink "NotationDeskModel" 305 mM_isEnd.1 ∈ zCW := zin 1438 (by decide +kernel) rfl
theorem aM_308 : Cond.methodLink "NotationDeskModel" 308 mM_baseOf.1 ∈ zCW := zin 1442 (by decide +kernel) rfl
theorem aM_311 : Cond.methodLink "NotationDeskModel" 311 mM_leaveFrame.1 ∈ zCW := zin 1446 (by decide +kernel) rfl
theorem aM_314 : Cond.methodLink "NotationDeskModel" 314 mM_absent.1 ∈ zCW := zin 1450 (by decide +kernel) rfl
theorem aM_258 : Cond.methodLink "NotationDeskModel" 258 mM_goOnPacked.1 ∈ zCW := zin 1454 (by decide +kernel) rfl
theorem aM_264 : Cond.methodLink "NotationDeskModel" 264 mM_settle.1 ∈ zCW := zin 1458 (by decide +kernel) rfl
theorem aM_267 : Cond.methodLink "NotationDeskModel" 267 mM_write.1 ∈ zCW := zin 1462 (by decide +kernel) rfl
theorem aM_344 : Cond.methodLink "NotationDeskModel" 344 mM_isLeft.1 ∈ zCW := zin 1466 (by decide +kernel) rfl
theorem aM_347 : Cond.methodLink "NotationDeskModel" 347 mM_encode.1 ∈ zCW := zin 1470 (by decide +kernel) rfl
theorem aM_338 : Cond.methodLink "NotationDeskModel" 338 mM_make.1 ∈ zCW := zin 1474 (by decide +kernel) rfl
theorem aM_350 : Cond.methodLink "NotationDeskModel" 350 mM_packed.1 ∈ zCW := zin 1478 (by decide +kernel) rfl
theorem aM_353 : Cond.methodLink "NotationDeskModel" 353 mM_bring.1 ∈ zCW := zin 1482 (by decide +kernel) rfl
theorem aM_362 : Cond.methodLink "NotationDeskModel" 362 mM_bringCount.1 ∈ zCW := zin 1486 (by decide +kernel) rfl
theorem aM_356 : Cond.methodLink "NotationDeskModel" 356 mM_fill.1 ∈ zCW := zin 1490 (by decide +kernel) rfl
theorem aM_359 : Cond.methodLink "NotationDeskModel" 359 mM_bringOf.1 ∈ zCW := zin 1494 (by decide +kernel) rfl
theorem aM_365 : Cond.methodLink "NotationDeskModel" 365 mM_marks.1 ∈ zCW := zin 1498 (by decide +kernel) rfl
theorem aM_383 : Cond.methodLink "NotationDeskModel" 383 mM_fails.1 ∈ zCW := zin 1502 (by decide +kernel) rfl
theorem aM_386 : Cond.methodLink "NotationDeskModel" 386 mM_keep.1 ∈ zCW := zin 1506 (by decide +kernel) rfl
theorem aL_86 : Cond.methodLink "NotationDeskLaw" 86 mM_parts.1 ∈ zCW := zin 1510 (by decide +kernel) rfl
theorem aL_90 : Cond.methodLink "NotationDeskLaw" 90 mM_part.1 ∈ zCW := zin 1514 (by decide +kernel) rfl
theorem aL_93 : Cond.methodLink "NotationDeskLaw" 93 mM_octet.1 ∈ zCW := zin 1518 (by decide +kernel) rfl
theorem aL_97 : Cond.methodLink "NotationDeskLaw" 97 mM_operation.1 ∈ zCW := zin 1522 (by decide +kernel) rfl
theorem aL_101 : Cond.methodLink "NotationDeskLaw" 101 mM_serve.1 ∈ zCW := zin 1526 (by decide +kernel) rfl
theorem aM_389 : Cond.methodLink "NotationDeskModel" 389 mM_reply.1 ∈ zCW := zin 1530 (by decide +kernel) rfl
theorem cL_59 : Cond.constantLong "NotationDeskLaw" 59 (4294967295 : Int64) ∈ zCW := zin 1534 (by decide +kernel) rfl
theorem iD_init : Cond.instanceMethod mD_init.1 ∈ zCW := zin 25 (by decide +kernel) rfl
theorem wD_init : z_mw mD_init 0 := ⟨zin1 26 rfl rfl, gD, ⟨by decide, by decide, by decide +kernel⟩, by decide⟩
theorem i_obj : Cond.instanceMethod Lib.objectInit ∈ zCW := zin 28 (by decide +kernel) rfl
theorem w_obj : Cond.code Lib.objectInit ⟨#[0xb1]⟩ 1 none ∈ zCW := zin 29 (by rfl) rfl
theorem iC_init : Cond.instanceMethod mC_init.1 ∈ zCW := zin 33 (by decide +kernel) rfl
theorem wC_init : z_mw mC_init 1 := ⟨zin1 34 rfl rfl, gC, ⟨by decide, by decide, by decide +kernel⟩, by decide⟩
theorem iV_init : Cond.instanceMethod mV_init.1 ∈ zCW := zin 75 (by decide +kernel) rfl
theorem wV_init : z_mw mV_init 0 := ⟨zin1 76 rfl rfl, gV, ⟨by decide, by decide, by decide +kernel⟩, by decide⟩
theorem iO_init : Cond.instanceMethod mO_init.1 ∈ zCW := zin 123 (by decide +kernel) rfl
theorem wO_init : z_mw mO_init 2 := ⟨zin1 124 rfl rfl, gO, ⟨by decide, by decide, by decide +kernel⟩, by decide⟩
theorem iP_init : Cond.instanceMethod mP_init.1 ∈ zCW := zin 142 (by decide +kernel) rfl
theorem wP_init : z_mw mP_init 2 := ⟨zin1 143 rfl rfl, gP, ⟨by decide, by decide, by decide +kernel⟩, by decide⟩
theorem iS_init : Cond.instanceMethod mS_init.1 ∈ zCW := zin 161 (by decide +kernel) rfl
theorem wS_init : z_mw mS_init 2 := ⟨zin1 162 rfl rfl, gS, ⟨by decide, by decide, by decide +kernel⟩, by decide⟩
theorem iQ_init : Cond.instanceMethod mQ_init.1 ∈ zCW := zin 183 (by decide +kernel) rfl
theorem wQ_init : z_mw mQ_init 2 := ⟨zin1 184 rfl rfl, gQ, ⟨by decide, by decide, by decide +kernel⟩, by decide⟩
theorem iD_type : Cond.instanceMethod mD_type.1 ∈ zCW := zin 257 (by decide +kernel) rfl
theorem wD_type : z_mw mD_type 1 := ⟨zin2 19 rfl rfl, gD, ⟨by decide, by decide, by decide +kernel⟩, by decide⟩
theorem iD_forgetModule : Cond.instanceMethod mD_forgetModule.1 ∈ zCW := zin 262 (by decide +kernel) rfl
theorem wD_forgetModule : z_mw mD_forgetModule 0 := ⟨zin2 23 rfl rfl, gD, ⟨by decide, by decide, by decide +kernel⟩, by decide⟩
theorem iV_empty : Cond.instanceMethod mV_empty.1 ∈ zCW := zin 265 (by decide +kernel) rfl
theorem wV_empty : z_mw mV_empty 0 := ⟨zin2 27 rfl rfl, gV, ⟨by decide, by decide, by decide +kernel⟩, by decide⟩
theorem iD_clear : Cond.instanceMethod mD_clear.1 ∈ zCW := zin 269 (by decide +kernel) rfl
theorem wD_clear : z_mw mD_clear 0 := ⟨zin2 31 rfl rfl, gD, ⟨by decide, by decide, by decide +kernel⟩, by decide⟩
theorem iD_compile : Cond.instanceMethod mD_compile.1 ∈ zCW := zin 273 (by decide +kernel) rfl
theorem wD_compile : z_mw mD_compile 0 := ⟨zin2 35 rfl rfl, gD, ⟨by decide, by decide, by decide +kernel⟩, by decide⟩
theorem iC_translate : Cond.instanceMethod mC_translate.1 ∈ zCW := zin 277 (by decide +kernel) rfl
theorem wC_translate : z_mw mC_translate 1 := ⟨zin2 39 rfl rfl, gC, ⟨by decide, by decide, by decide +kernel⟩, by decide⟩
theorem iC_readDefinition : Cond.instanceMethod mC_readDefinition.1 ∈ zCW := zin 285 (by decide +kernel) rfl
theorem wC_readDefinition : z_mw mC_readDefinition 0 := ⟨zin2 46 rfl rfl, gC, ⟨by decide, by decide, by decide +kernel⟩, by decide⟩
theorem iC_nextCharacter : Cond.instanceMethod mC_nextCharacter.1 ∈ zCW := zin 289 (by decide +kernel) rfl
theorem wC_nextCharacter : z_mw mC_nextCharacter 0 := ⟨zin2 50 rfl rfl, gC, ⟨by decide, by decide, by decide +kernel⟩, by decide⟩
theorem tC_isName : Cond.static mC_isName.1 ∈ zCW := zin 292 (by decide +kernel) rfl
theorem wC_isName : z_mw mC_isName 1 := ⟨zin2 53 rfl rfl, gC, ⟨by decide, by decide, by decide +kernel⟩, by decide⟩
theorem iC_refuse : Cond.instanceMethod mC_refuse.1 ∈ zCW := zin 296 (by decide +kernel) rfl
theorem wC_refuse : z_mw mC_refuse 2 := ⟨zin2 57 rfl rfl, gC, ⟨by decide, by decide, by decide +kernel⟩, by decide⟩
theorem iC_pass : Cond.instanceMethod mC_pass.1 ∈ zCW := zin 300 (by decide +kernel) rfl
theorem wC_pass : z_mw mC_pass 1 := ⟨zin2 61 rfl rfl, gC, ⟨by decide, by decide, by decide +kernel⟩, by decide⟩
theorem iC_readType : Cond.instanceMethod mC_readType.1 ∈ zCW := zin 304 (by decide +kernel) rfl
theorem wC_readType : z_mw mC_readType 1 := ⟨zin2 65 rfl rfl, gC, ⟨by decide, by decide, by decide +kernel⟩, by decide⟩
theorem iC_readTag : Cond.instanceMethod mC_readTag.1 ∈ zCW := zin 308 (by decide +kernel) rfl
theorem wC_readTag : z_mw mC_readTag 0 := ⟨zin2 69 rfl rfl, gC, ⟨by decide, by decide, by decide +kernel⟩, by decide⟩
theorem tC_isDigit : Cond.static mC_isDigit.1 ∈ zCW := zin 311 (by decide +kernel) rfl
theorem wC_isDigit : z_mw mC_isDigit 1 := ⟨zin2 72 rfl rfl, gC, ⟨by decide, by decide, by decide +kernel⟩, by decide⟩
theorem iC_newType : Cond.instanceMethod mC_newType.1 ∈ zCW := zin 315 (by decide +kernel) rfl
theorem wC_newType : z_mw mC_newType 1 := ⟨zin2 76 rfl rfl, gC, ⟨by decide, by decide, by decide +kernel⟩, by decide⟩
theorem iT_init : Cond.instanceMethod mT_init.1 ∈ zCW := zin 319 (by decide +kernel) rfl
theorem wT_init : z_mw mT_init 0 := ⟨zin2 80 rfl rfl, gT, ⟨by decide, by decide, by decide +kernel⟩, by decide⟩
theorem iT_begin : Cond.instanceMethod mT_begin.1 ∈ zCW := zin 395 (by decide +kernel) rfl
theorem wT_begin : z_mw mT_begin 1 := ⟨zin2 157 rfl rfl, gT, ⟨by decide, by decide, by decide +kernel⟩, by decide⟩
theorem tT_tagsOf : Cond.static mT_tagsOf.1 ∈ zCW := zin 399 (by decide +kernel) rfl
theorem wT_tagsOf : z_mw mT_tagsOf 1 := ⟨zin2 160 rfl rfl, gT, ⟨by decide, by decide, by decide +kernel⟩, by decide⟩
theorem iT_beginTag : Cond.instanceMethod mT_beginTag.1 ∈ zCW := zin 403 (by decide +kernel) rfl
theorem wT_beginTag : z_mw mT_beginTag 2 := ⟨zin2 165 rfl rfl, gT, ⟨by decide, by decide, by decide +kernel⟩, by decide⟩
theorem iC_readUntagged : Cond.instanceMethod mC_readUntagged.1 ∈ zCW := zin 409 (by decide +kernel) rfl
theorem wC_readUntagged : z_mw mC_readUntagged 1 := ⟨zin2 170 rfl rfl, gC, ⟨by decide, by decide, by decide +kernel⟩, by decide⟩
theorem iC_readReference : Cond.instanceMethod mC_readReference.1 ∈ zCW := zin 413 (by decide +kernel) rfl
theorem wC_readReference : z_mw mC_readReference 2 := ⟨zin2 174 rfl rfl, gC, ⟨by decide, by decide, by decide +kernel⟩, by decide⟩
theorem tC_kindOf : Cond.static mC_kindOf.1 ∈ zCW := zin 416 (by decide +kernel) rfl
theorem wC_kindOf : z_mw mC_kindOf 1 := ⟨zin2 177 rfl rfl, gC, ⟨by decide, by decide, by decide +kernel⟩, by decide⟩
theorem iC_readMembers : Cond.instanceMethod mC_readMembers.1 ∈ zCW := zin 420 (by decide +kernel) rfl
theorem wC_readMembers : z_mw mC_readMembers 2 := ⟨zin2 181 rfl rfl, gC, ⟨by decide, by decide, by decide +kernel⟩, by decide⟩
theorem iC_readMember : Cond.instanceMethod mC_readMember.1 ∈ zCW := zin 424 (by decide +kernel) rfl
theorem wC_readMember : z_mw mC_readMember 2 := ⟨zin2 185 rfl rfl, gC, ⟨by decide, by decide, by decide +kernel⟩, by decide⟩
theorem iC_newMember : Cond.instanceMethod mC_newMember.1 ∈ zCW := zin 428 (by decide +kernel) rfl
theorem wC_newMember : z_mw mC_newMember 1 := ⟨zin2 189 rfl rfl, gC, ⟨by decide, by decide, by decide +kernel⟩, by decide⟩
theorem iK_init : Cond.instanceMethod mK_init.1 ∈ zCW := zin 432 (by decide +kernel) rfl
theorem wK_init : z_mw mK_init 0 := ⟨zin2 193 rfl rfl, gK, ⟨by decide, by decide, by decide +kernel⟩, by decide⟩
theorem iK_begin : Cond.instanceMethod mK_begin.1 ∈ zCW := zin 480 (by decide +kernel) rfl
theorem wK_begin : z_mw mK_begin 1 := ⟨zin3 2 rfl rfl, gK, ⟨by decide, by decide, by decide +kernel⟩, by decide⟩
theorem iT_addMember : Cond.instanceMethod mT_addMember.1 ∈ zCW := zin 484 (by decide +kernel) rfl
theorem wT_addMember : z_mw mT_addMember 1 := ⟨zin3 6 rfl rfl, gT, ⟨by decide, by decide, by decide +kernel⟩, by decide⟩
theorem iT_untagged : Cond.instanceMethod mT_untagged.1 ∈ zCW := zin 491 (by decide +kernel) rfl
theorem wT_untagged : z_mw mT_untagged 0 := ⟨zin3 13 rfl rfl, gT, ⟨by decide, by decide, by decide +kernel⟩, by decide⟩
theorem iC_readMode : Cond.instanceMethod mC_readMode.1 ∈ zCW := zin 496 (by decide +kernel) rfl
theorem wC_readMode : z_mw mC_readMode 2 := ⟨zin3 17 rfl rfl, gC, ⟨by decide, by decide, by decide +kernel⟩, by decide⟩
theorem iC_readNumber : Cond.instanceMethod mC_readNumber.1 ∈ zCW := zin 500 (by decide +kernel) rfl
theorem wC_readNumber : z_mw mC_readNumber 0 := ⟨zin3 21 rfl rfl, gC, ⟨by decide, by decide, by decide +kernel⟩, by decide⟩
theorem tC_isDefault : Cond.static mC_isDefault.1 ∈ zCW := zin 503 (by decide +kernel) rfl
theorem wC_isDefault : z_mw mC_isDefault 2 := ⟨zin3 24 rfl rfl, gC, ⟨by decide, by decide, by decide +kernel⟩, by decide⟩
theorem iT_allows : Cond.instanceMethod mT_allows.1 ∈ zCW := zin 506 (by decide +kernel) rfl
theorem wT_allows : z_mw mT_allows 1 := ⟨zin3 28 rfl rfl, gT, ⟨by decide, by decide, by decide +kernel⟩, by decide⟩
theorem iC_closeMembers : Cond.instanceMethod mC_closeMembers.1 ∈ zCW := zin 511 (by decide +kernel) rfl
theorem wC_closeMembers : z_mw mC_closeMembers 1 := ⟨zin3 32 rfl rfl, gC, ⟨by decide, by decide, by decide +kernel⟩, by decide⟩
theorem tC_alternativesClash : Cond.static mC_alternativesClash.1 ∈ zCW := zin 514 (by decide +kernel) rfl
theorem wC_alternativesClash : z_mw mC_alternativesClash 1 := ⟨zin3 35 rfl rfl, gC, ⟨by decide, by decide, by decide +kernel⟩, by decide⟩
theorem iK_tags : Cond.instanceMethod mK_tags.1 ∈ zCW := zin 517 (by decide +kernel) rfl
theorem wK_tags : z_mw mK_tags 0 := ⟨zin3 39 rfl rfl, gK, ⟨by decide, by decide, by decide +kernel⟩, by decide⟩
theorem tC_componentsClash : Cond.static mC_componentsClash.1 ∈ zCW := zin 521 (by decide +kernel) rfl
theorem wC_componentsClash : z_mw mC_componentsClash 1 := ⟨zin3 42 rfl rfl, gC, ⟨by decide, by decide, by decide +kernel⟩, by decide⟩
theorem tC_gatherAlternatives : Cond.static mC_gatherAlternatives.1 ∈ zCW := zin 524 (by decide +kernel) rfl
theorem wC_gatherAlternatives : z_mw mC_gatherAlternatives 1 := ⟨zin3 45 rfl rfl, gC, ⟨by decide, by decide, by decide +kernel⟩, by decide⟩
theorem iK_leastTag : Cond.instanceMethod mK_leastTag.1 ∈ zCW := zin 527 (by decide +kernel) rfl
theorem wK_leastTag : z_mw mK_leastTag 0 := ⟨zin3 49 rfl rfl, gK, ⟨by decide, by decide, by decide +kernel⟩, by decide⟩
theorem iC_readBounds : Cond.instanceMethod mC_readBounds.1 ∈ zCW := zin 533 (by decide +kernel) rfl
theorem wC_readBounds : z_mw mC_readBounds 1 := ⟨zin3 54 rfl rfl, gC, ⟨by decide, by decide, by decide +kernel⟩, by decide⟩
theorem tC_areBounds : Cond.static mC_areBounds.1 ∈ zCW := zin 536 (by decide +kernel) rfl
theorem wC_areBounds : z_mw mC_areBounds 1 := ⟨zin3 57 rfl rfl, gC, ⟨by decide, by decide, by decide +kernel⟩, by decide⟩
theorem iC_readItems : Cond.instanceMethod mC_readItems.1 ∈ zCW := zin 541 (by decide +kernel) rfl
theorem wC_readItems : z_mw mC_readItems 2 := ⟨zin3 62 rfl rfl, gC, ⟨by decide, by decide, by decide +kernel⟩, by decide⟩
theorem tC_setHeights : Cond.static mC_setHeights.1 ∈ zCW := zin 544 (by decide +kernel) rfl
theorem wC_setHeights : z_mw mC_setHeights 3 := ⟨zin3 65 rfl rfl, gC, ⟨by decide, by decide, by decide +kernel⟩, by decide⟩
theorem iD_put : Cond.instanceMethod mD_put.1 ∈ zCW := zin 547 (by decide +kernel) rfl
theorem wD_put : z_mw mD_put 2 := ⟨zin3 69 rfl rfl, gD, ⟨by decide, by decide, by decide +kernel⟩, by decide⟩
theorem iD_wipe : Cond.instanceMethod mD_wipe.1 ∈ zCW := zin 551 (by decide +kernel) rfl
theorem wD_wipe : z_mw mD_wipe 0 := ⟨zin3 73 rfl rfl, gD, ⟨by decide, by decide, by decide +kernel⟩, by decide⟩
theorem iD_parts : Cond.instanceMethod mD_parts.1 ∈ zCW := zin 555 (by decide +kernel) rfl
theorem wD_parts : z_mw mD_parts 0 := ⟨zin3 77 rfl rfl, gD, ⟨by decide, by decide, by decide +kernel⟩, by decide⟩
theorem tL_at : Cond.static mL_at.1 ∈ zCW := zin 559 (by decide +kernel) rfl
theorem iD_at : Cond.instanceMethod mD_at.1 ∈ zCW := zin 563 (by decide +kernel) rfl
theorem wD_at : z_mw mD_at 1 := ⟨zin3 85 rfl rfl, gD, ⟨by decide, by decide, by decide +kernel⟩, by decide⟩
theorem tL_transcode : Cond.static mL_transcode.1 ∈ zCW := zin 637 (by decide +kernel) rfl
theorem iD_transcode : Cond.instanceMethod mD_transcode.1 ∈ zCW := zin 644 (by decide +kernel) rfl
theorem wD_transcode : z_mw mD_transcode 3 := ⟨zin3 166 rfl rfl, gD, ⟨by decide, by decide, by decide +kernel⟩, by decide⟩
theorem tD_areRules : Cond.static mD_areRules.1 ∈ zCW := zin 648 (by decide +kernel) rfl
theorem wD_areRules : z_mw mD_areRules 2 := ⟨zin3 169 rfl rfl, gD, ⟨by decide, by decide, by decide +kernel⟩, by decide⟩
theorem iC_typeNamed : Cond.instanceMethod mC_typeNamed.1 ∈ zCW := zin 683 (by decide +kernel) rfl
theorem wC_typeNamed : z_mw mC_typeNamed 1 := ⟨zin3 205 rfl rfl, gC, ⟨by decide, by decide, by decide +kernel⟩, by decide⟩
theorem iD_readBuffer : Cond.instanceMethod mD_readBuffer.1 ∈ zCW := zin 704 (by decide +kernel) rfl
theorem wD_readBuffer : z_mw mD_readBuffer 3 := ⟨zin3 225 rfl rfl, gD, ⟨by decide, by decide, by decide +kernel⟩, by decide⟩
theorem iP_readAll : Cond.instanceMethod mP_readAll.1 ∈ zCW := zin 707 (by decide +kernel) rfl
theorem wP_readAll : z_mw mP_readAll 3 := ⟨zin3 229 rfl rfl, gP, ⟨by decide, by decide, by decide +kernel⟩, by decide⟩
theorem iP_readValue : Cond.instanceMethod mP_readValue.1 ∈ zCW := zin 713 (by decide +kernel) rfl
theorem wP_readValue : z_mw mP_readValue 4 := ⟨zin3 234 rfl rfl, gP, ⟨by decide, by decide, by decide +kernel⟩, by decide⟩
theorem iV_addPart : Cond.instanceMethod mV_addPart.1 ∈ zCW := zin 716 (by decide +kernel) rfl
theorem wV_addPart : z_mw mV_addPart 3 := ⟨zin3 238 rfl rfl, gV, ⟨by decide, by decide, by decide +kernel⟩, by decide⟩
theorem iP_takeBits : Cond.instanceMethod mP_takeBits.1 ∈ zCW := zin 721 (by decide +kernel) rfl
theorem wP_takeBits : z_mw mP_takeBits 1 := ⟨zin4 2 rfl rfl, gP, ⟨by decide, by decide, by decide +kernel⟩, by decide⟩
theorem iP_readBounded : Cond.instanceMethod mP_readBounded.1 ∈ zCW := zin 725 (by decide +kernel) rfl
theorem wP_readBounded : z_mw mP_readBounded 2 := ⟨zin4 6 rfl rfl, gP, ⟨by decide, by decide, by decide +kernel⟩, by decide⟩
theorem iP_takeNumber : Cond.instanceMethod mP_takeNumber.1 ∈ zCW := zin 729 (by decide +kernel) rfl
theorem wP_takeNumber : z_mw mP_takeNumber 1 := ⟨zin4 10 rfl rfl, gP, ⟨by decide, by decide, by decide +kernel⟩, by decide⟩
theorem iP_align : Cond.instanceMethod mP_align.1 ∈ zCW := zin 733 (by decide +kernel) rfl
theorem wP_align : z_mw mP_align 0 := ⟨zin4 14 rfl rfl, gP, ⟨by decide, by decide, by decide +kernel⟩, by decide⟩
theorem tI_bitsOfNumbersTo : Cond.static mI_bitsOfNumbersTo.1 ∈ zCW := zin 736 (by decide +kernel) rfl
theorem wI_bitsOfNumbersTo : z_mw mI_bitsOfNumbersTo 1 := ⟨zin4 17 rfl rfl, gI, ⟨by decide, by decide, by decide +kernel⟩, by decide⟩
theorem iP_readUnbounded : Cond.instanceMethod mP_readUnbounded.1 ∈ zCW := zin 740 (by decide +kernel) rfl
theorem wP_readUnbounded : z_mw mP_readUnbounded 1 := ⟨zin4 21 rfl rfl, gP, ⟨by decide, by decide, by decide +kernel⟩, by decide⟩
theorem iP_takeByte : Cond.instanceMethod mP_takeByte.1 ∈ zCW := zin 744 (by decide +kernel) rfl
theorem wP_takeByte : z_mw mP_takeByte 0 := ⟨zin4 25 rfl rfl, gP, ⟨by decide, by decide, by decide +kernel⟩, by decide⟩
theorem tI_areBytesOfOne : Cond.static mI_areBytesOfOne.1 ∈ zCW := zin 747 (by decide +kernel) rfl
theorem wI_areBytesOfOne : z_mw mI_areBytesOfOne 3 := ⟨zin4 28 rfl rfl, gI, ⟨by decide, by decide, by decide +kernel⟩, by decide⟩
theorem tI_fromBytes : Cond.static mI_fromBytes.1 ∈ zCW := zin 750 (by decide +kernel) rfl
theorem wI_fromBytes : z_mw mI_fromBytes 3 := ⟨zin4 31 rfl rfl, gI, ⟨by decide, by decide, by decide +kernel⟩, by decide⟩
theorem iP_readOctets : Cond.instanceMethod mP_readOctets.1 ∈ zCW := zin 754 (by decide +kernel) rfl
theorem wP_readOctets : z_mw mP_readOctets 2 := ⟨zin4 35 rfl rfl, gP, ⟨by decide, by decide, by decide +kernel⟩, by decide⟩
theorem iP_takeCount : Cond.instanceMethod mP_takeCount.1 ∈ zCW := zin 758 (by decide +kernel) rfl
theorem wP_takeCount : z_mw mP_takeCount 1 := ⟨zin4 39 rfl rfl, gP, ⟨by decide, by decide, by decide +kernel⟩, by decide⟩
theorem iT_isAlignedOctets : Cond.instanceMethod mT_isAlignedOctets.1 ∈ zCW := zin 761 (by decide +kernel) rfl
theorem wT_isAlignedOctets : z_mw mT_isAlignedOctets 0 := ⟨zin4 43 rfl rfl, gT, ⟨by decide, by decide, by decide +kernel⟩, by decide⟩
theorem iV_addOctet : Cond.instanceMethod mV_addOctet.1 ∈ zCW := zin 765 (by decide +kernel) rfl
theorem wV_addOctet : z_mw mV_addOctet 2 := ⟨zin4 47 rfl rfl, gV, ⟨by decide, by decide, by decide +kernel⟩, by decide⟩
theorem iP_readComponents : Cond.instanceMethod mP_readComponents.1 ∈ zCW := zin 770 (by decide +kernel) rfl
theorem wP_readComponents : z_mw mP_readComponents 3 := ⟨zin4 51 rfl rfl, gP, ⟨by decide, by decide, by decide +kernel⟩, by decide⟩
theorem iP_takePresence : Cond.instanceMethod mP_takePresence.1 ∈ zCW := zin 774 (by decide +kernel) rfl
theorem wP_takePresence : z_mw mP_takePresence 1 := ⟨zin4 55 rfl rfl, gP, ⟨by decide, by decide, by decide +kernel⟩, by decide⟩
theorem iV_leaveOutComponent : Cond.instanceMethod mV_leaveOutComponent.1 ∈ zCW := zin 777 (by decide +kernel) rfl
theorem wV_leaveOutComponent : z_mw mV_leaveOutComponent 2 := ⟨zin4 59 rfl rfl, gV, ⟨by decide, by decide, by decide +kernel⟩, by decide⟩
theorem iV_takeComponent : Cond.instanceMethod mV_takeComponent.1 ∈ zCW := zin 783 (by decide +kernel) rfl
theorem wV_takeComponent : z_mw mV_takeComponent 4 := ⟨zin4 65 rfl rfl, gV, ⟨by decide, by decide, by decide +kernel⟩, by decide⟩
theorem iP_readItems : Cond.instanceMethod mP_readItems.1 ∈ zCW := zin 788 (by decide +kernel) rfl
theorem wP_readItems : z_mw mP_readItems 3 := ⟨zin4 69 rfl rfl, gP, ⟨by decide, by decide, by decide +kernel⟩, by decide⟩
theorem iP_readChoice : Cond.instanceMethod mP_readChoice.1 ∈ zCW := zin 792 (by decide +kernel) rfl
theorem wP_readChoice : z_mw mP_readChoice 3 := ⟨zin4 73 rfl rfl, gP, ⟨by decide, by decide, by decide +kernel⟩, by decide⟩
theorem iT_memberRanked : Cond.instanceMethod mT_memberRanked.1 ∈ zCW := zin 795 (by decide +kernel) rfl
theorem wT_memberRanked : z_mw mT_memberRanked 1 := ⟨zin4 77 rfl rfl, gT, ⟨by decide, by decide, by decide +kernel⟩, by decide⟩
theorem iO_readAll : Cond.instanceMethod mO_readAll.1 ∈ zCW := zin 799 (by decide +kernel) rfl
theorem wO_readAll : z_mw mO_readAll 4 := ⟨zin4 81 rfl rfl, gO, ⟨by decide, by decide, by decide +kernel⟩, by decide⟩
theorem iO_readElement : Cond.instanceMethod mO_readElement.1 ∈ zCW := zin 804 (by decide +kernel) rfl
theorem wO_readElement : z_mw mO_readElement 6 := ⟨zin4 85 rfl rfl, gO, ⟨by decide, by decide, by decide +kernel⟩, by decide⟩
theorem iO_readTagged : Cond.instanceMethod mO_readTagged.1 ∈ zCW := zin 808 (by decide +kernel) rfl
theorem wO_readTagged : z_mw mO_readTagged 6 := ⟨zin4 89 rfl rfl, gO, ⟨by decide, by decide, by decide +kernel⟩, by decide⟩
theorem iT_tagByte : Cond.instanceMethod mT_tagByte.1 ∈ zCW := zin 811 (by decide +kernel) rfl
theorem wT_tagByte : z_mw mT_tagByte 1 := ⟨zin4 93 rfl rfl, gT, ⟨by decide, by decide, by decide +kernel⟩, by decide⟩
theorem iO_readHeader : Cond.instanceMethod mO_readHeader.1 ∈ zCW := zin 816 (by decide +kernel) rfl
theorem wO_readHeader : z_mw mO_readHeader 3 := ⟨zin4 97 rfl rfl, gO, ⟨by decide, by decide, by decide +kernel⟩, by decide⟩
theorem iO_readLongLength : Cond.instanceMethod mO_readLongLength.1 ∈ zCW := zin 820 (by decide +kernel) rfl
theorem wO_readLongLength : z_mw mO_readLongLength 2 := ⟨zin4 101 rfl rfl, gO, ⟨by decide, by decide, by decide +kernel⟩, by decide⟩
theorem iO_readContentEnd : Cond.instanceMethod mO_readContentEnd.1 ∈ zCW := zin 824 (by decide +kernel) rfl
theorem wO_readContentEnd : z_mw mO_readContentEnd 2 := ⟨zin4 105 rfl rfl, gO, ⟨by decide, by decide, by decide +kernel⟩, by decide⟩
theorem iO_readChoice : Cond.instanceMethod mO_readChoice.1 ∈ zCW := zin 828 (by decide +kernel) rfl
theorem wO_readChoice : z_mw mO_readChoice 5 := ⟨zin4 109 rfl rfl, gO, ⟨by decide, by decide, by decide +kernel⟩, by decide⟩
theorem iO_nextTagBit : Cond.instanceMethod mO_nextTagBit.1 ∈ zCW := zin 832 (by decide +kernel) rfl
theorem wO_nextTagBit : z_mw mO_nextTagBit 1 := ⟨zin4 113 rfl rfl, gO, ⟨by decide, by decide, by decide +kernel⟩, by decide⟩
theorem tO_tagBitOf : Cond.static mO_tagBitOf.1 ∈ zCW := zin 835 (by decide +kernel) rfl
theorem wO_tagBitOf : z_mw mO_tagBitOf 1 := ⟨zin4 116 rfl rfl, gO, ⟨by decide, by decide, by decide +kernel⟩, by decide⟩
theorem iT_memberWithTag : Cond.instanceMethod mT_memberWithTag.1 ∈ zCW := zin 839 (by decide +kernel) rfl
theorem wT_memberWithTag : z_mw mT_memberWithTag 1 := ⟨zin4 121 rfl rfl, gT, ⟨by decide, by decide, by decide +kernel⟩, by decide⟩
theorem iO_readPlain : Cond.instanceMethod mO_readPlain.1 ∈ zCW := zin 846 (by decide +kernel) rfl
theorem wO_readPlain : z_mw mO_readPlain 3 := ⟨zin4 127 rfl rfl, gO, ⟨by decide, by decide, by decide +kernel⟩, by decide⟩
theorem iO_readBoolean : Cond.instanceMethod mO_readBoolean.1 ∈ zCW := zin 850 (by decide +kernel) rfl
theorem wO_readBoolean : z_mw mO_readBoolean 1 := ⟨zin4 131 rfl rfl, gO, ⟨by decide, by decide, by decide +kernel⟩, by decide⟩
theorem iO_readInteger : Cond.instanceMethod mO_readInteger.1 ∈ zCW := zin 854 (by decide +kernel) rfl
theorem wO_readInteger : z_mw mO_readInteger 3 := ⟨zin4 135 rfl rfl, gO, ⟨by decide, by decide, by decide +kernel⟩, by decide⟩
theorem iO_readOctets : Cond.instanceMethod mO_readOctets.1 ∈ zCW := zin 861 (by decide +kernel) rfl
theorem wO_readOctets : z_mw mO_readOctets 2 := ⟨zin4 142 rfl rfl, gO, ⟨by decide, by decide, by decide +kernel⟩, by decide⟩
theorem iO_readItems : Cond.instanceMethod mO_readItems.1 ∈ zCW := zin 866 (by decide +kernel) rfl
theorem wO_readItems : z_mw mO_readItems 4 := ⟨zin4 147 rfl rfl, gO, ⟨by decide, by decide, by decide +kernel⟩, by decide⟩
theorem iO_readComponents : Cond.instanceMethod mO_readComponents.1 ∈ zCW := zin 870 (by decide +kernel) rfl
theorem wO_readComponents : z_mw mO_readComponents 4 := ⟨zin4 151 rfl rfl, gO, ⟨by decide, by decide, by decide +kernel⟩, by decide⟩
theorem iD_writeFound : Cond.instanceMethod mD_writeFound.1 ∈ zCW := zin 877 (by decide +kernel) rfl
theorem wD_writeFound : z_mw mD_writeFound 3 := ⟨zin4 158 rfl rfl, gD, ⟨by decide, by decide, by decide +kernel⟩, by decide⟩
theorem iQ_writeAll : Cond.instanceMethod mQ_writeAll.1 ∈ zCW := zin 880 (by decide +kernel) rfl
theorem wQ_writeAll : z_mw mQ_writeAll 2 := ⟨zin4 162 rfl rfl, gQ, ⟨by decide, by decide, by decide +kernel⟩, by decide⟩
theorem iQ_writeValue : Cond.instanceMethod mQ_writeValue.1 ∈ zCW := zin 885 (by decide +kernel) rfl
theorem wQ_writeValue : z_mw mQ_writeValue 2 := ⟨zin4 166 rfl rfl, gQ, ⟨by decide, by decide, by decide +kernel⟩, by decide⟩
theorem iQ_appendBits : Cond.instanceMethod mQ_appendBits.1 ∈ zCW := zin 889 (by decide +kernel) rfl
theorem wQ_appendBits : z_mw mQ_appendBits 2 := ⟨zin4 170 rfl rfl, gQ, ⟨by decide, by decide, by decide +kernel⟩, by decide⟩
theorem iQ_writeInteger : Cond.instanceMethod mQ_writeInteger.1 ∈ zCW := zin 893 (by decide +kernel) rfl
theorem wQ_writeInteger : z_mw mQ_writeInteger 2 := ⟨zin4 174 rfl rfl, gQ, ⟨by decide, by decide, by decide +kernel⟩, by decide⟩
theorem iQ_appendNumber : Cond.instanceMethod mQ_appendNumber.1 ∈ zCW := zin 897 (by decide +kernel) rfl
theorem wQ_appendNumber : z_mw mQ_appendNumber 2 := ⟨zin4 178 rfl rfl, gQ, ⟨by decide, by decide, by decide +kernel⟩, by decide⟩
theorem iQ_align : Cond.instanceMethod mQ_align.1 ∈ zCW := zin 901 (by decide +kernel) rfl
theorem wQ_align : z_mw mQ_align 0 := ⟨zin4 182 rfl rfl, gQ, ⟨by decide, by decide, by decide +kernel⟩, by decide⟩
theorem tI_byteCount : Cond.static mI_byteCount.1 ∈ zCW := zin 905 (by decide +kernel) rfl
theorem wI_byteCount : z_mw mI_byteCount 1 := ⟨zin4 186 rfl rfl, gI, ⟨by decide, by decide, by decide +kernel⟩, by decide⟩
theorem iQ_writeOctets : Cond.instanceMethod mQ_writeOctets.1 ∈ zCW := zin 909 (by decide +kernel) rfl
theorem wQ_writeOctets : z_mw mQ_writeOctets 2 := ⟨zin4 190 rfl rfl, gQ, ⟨by decide, by decide, by decide +kernel⟩, by decide⟩
theorem iQ_appendCount : Cond.instanceMethod mQ_appendCount.1 ∈ zCW := zin 913 (by decide +kernel) rfl
theorem wQ_appendCount : z_mw mQ_appendCount 2 := ⟨zin4 194 rfl rfl, gQ, ⟨by decide, by decide, by decide +kernel⟩, by decide⟩
theorem iV_octetAt : Cond.instanceMethod mV_octetAt.1 ∈ zCW := zin 917 (by decide +kernel) rfl
theorem wV_octetAt : z_mw mV_octetAt 2 := ⟨zin4 199 rfl rfl, gV, ⟨by decide, by decide, by decide +kernel⟩, by decide⟩
theorem iQ_writeComponents : Cond.instanceMethod mQ_writeComponents.1 ∈ zCW := zin 922 (by decide +kernel) rfl
theorem wQ_writeComponents : z_mw mQ_writeComponents 3 := ⟨zin4 203 rfl rfl, gQ, ⟨by decide, by decide, by decide +kernel⟩, by decide⟩
theorem iV_shows : Cond.instanceMethod mV_shows.1 ∈ zCW := zin 925 (by decide +kernel) rfl
theorem wV_shows : z_mw mV_shows 2 := ⟨zin4 207 rfl rfl, gV, ⟨by decide, by decide, by decide +kernel⟩, by decide⟩
theorem iQ_writeItems : Cond.instanceMethod mQ_writeItems.1 ∈ zCW := zin 930 (by decide +kernel) rfl
theorem wQ_writeItems : z_mw mQ_writeItems 3 := ⟨zin4 211 rfl rfl, gQ, ⟨by decide, by decide, by decide +kernel⟩, by decide⟩
theorem iQ_writeChoice : Cond.instanceMethod mQ_writeChoice.1 ∈ zCW := zin 934 (by decide +kernel) rfl
theorem wQ_writeChoice : z_mw mQ_writeChoice 3 := ⟨zin4 215 rfl rfl, gQ, ⟨by decide, by decide, by decide +kernel⟩, by decide⟩
theorem iT_memberAt : Cond.instanceMethod mT_memberAt.1 ∈ zCW := zin 937 (by decide +kernel) rfl
theorem wT_memberAt : z_mw mT_memberAt 1 := ⟨zin4 219 rfl rfl, gT, ⟨by decide, by decide, by decide +kernel⟩, by decide⟩
theorem iS_writeAll : Cond.instanceMethod mS_writeAll.1 ∈ zCW := zin 941 (by decide +kernel) rfl
theorem wS_writeAll : z_mw mS_writeAll 2 := ⟨zin4 223 rfl rfl, gS, ⟨by decide, by decide, by decide +kernel⟩, by decide⟩
theorem iS_writeElement : Cond.instanceMethod mS_writeElement.1 ∈ zCW := zin 946 (by decide +kernel) rfl
theorem wS_writeElement : z_mw mS_writeElement 3 := ⟨zin4 227 rfl rfl, gS, ⟨by decide, by decide, by decide +kernel⟩, by decide⟩
theorem iS_writeChoice : Cond.instanceMethod mS_writeChoice.1 ∈ zCW := zin 950 (by decide +kernel) rfl
theorem wS_writeChoice : z_mw mS_writeChoice 2 := ⟨zin4 231 rfl rfl, gS, ⟨by decide, by decide, by decide +kernel⟩, by decide⟩
theorem iS_beginElement : Cond.instanceMethod mS_beginElement.1 ∈ zCW := zin 956 (by decide +kernel) rfl
theorem wS_beginElement : z_mw mS_beginElement 1 := ⟨zin4 237 rfl rfl, gS, ⟨by decide, by decide, by decide +kernel⟩, by decide⟩
theorem iS_append : Cond.instanceMethod mS_append.1 ∈ zCW := zin 960 (by decide +kernel) rfl
theorem wS_append : z_mw mS_append 1 := ⟨zin5 1 rfl rfl, gS, ⟨by decide, by decide, by decide +kernel⟩, by decide⟩
theorem iS_writeContent : Cond.instanceMethod mS_writeContent.1 ∈ zCW := zin 964 (by decide +kernel) rfl
theorem wS_writeContent : z_mw mS_writeContent 2 := ⟨zin5 5 rfl rfl, gS, ⟨by decide, by decide, by decide +kernel⟩, by decide⟩
theorem iS_writeInteger : Cond.instanceMethod mS_writeInteger.1 ∈ zCW := zin 968 (by decide +kernel) rfl
theorem wS_writeInteger : z_mw mS_writeInteger 1 := ⟨zin5 9 rfl rfl, gS, ⟨by decide, by decide, by decide +kernel⟩, by decide⟩
theorem iS_writeComponents : Cond.instanceMethod mS_writeComponents.1 ∈ zCW := zin 974 (by decide +kernel) rfl
theorem wS_writeComponents : z_mw mS_writeComponents 3 := ⟨zin5 15 rfl rfl, gS, ⟨by decide, by decide, by decide +kernel⟩, by decide⟩
theorem iS_endElement : Cond.instanceMethod mS_endElement.1 ∈ zCW := zin 979 (by decide +kernel) rfl
theorem wS_endElement : z_mw mS_endElement 1 := ⟨zin5 20 rfl rfl, gS, ⟨by decide, by decide, by decide +kernel⟩, by decide⟩
theorem iV_copyOf : Cond.instanceMethod mV_copyOf.1 ∈ zCW := zin 998 (by decide +kernel) rfl
theorem wV_copyOf : z_mw mV_copyOf 1 := ⟨zin5 40 rfl rfl, gV, ⟨by decide, by decide, by decide +kernel⟩, by decide⟩
theorem iD_keepWritten : Cond.instanceMethod mD_keepWritten.1 ∈ zCW := zin 1006 (by decide +kernel) rfl
theorem wD_keepWritten : z_mw mD_keepWritten 1 := ⟨zin5 47 rfl rfl, gD, ⟨by decide, by decide, by decide +kernel⟩, by decide⟩
theorem tL_part : Cond.static mL_part.1 ∈ zCW := zin 1010 (by decide +kernel) rfl
theorem iD_part : Cond.instanceMethod mD_part.1 ∈ zCW := zin 1013 (by decide +kernel) rfl
theorem wD_part : z_mw mD_part 2 := ⟨zin5 55 rfl rfl, gD, ⟨by decide, by decide, by decide +kernel⟩, by decide⟩
theorem tL_octet : Cond.static mL_octet.1 ∈ zCW := zin 1019 (by decide +kernel) rfl
theorem iD_octet : Cond.instanceMethod mD_octet.1 ∈ zCW := zin 1022 (by decide +kernel) rfl
theorem wD_octet : z_mw mD_octet 2 := ⟨zin5 64 rfl rfl, gD, ⟨by decide, by decide, by decide +kernel⟩, by decide⟩
theorem tL_operation : Cond.static mL_operation.1 ∈ zCW := zin 1027 (by decide +kernel) rfl
theorem iD_operation : Cond.instanceMethod mD_operation.1 ∈ zCW := zin 1030 (by decide +kernel) rfl
theorem wD_operation : z_mw mD_operation 4 := ⟨zin5 72 rfl rfl, gD, ⟨by decide, by decide, by decide +kernel⟩, by decide⟩
theorem tL_serve : Cond.static mL_serve.1 ∈ zCW := zin 1035 (by decide +kernel) rfl
theorem iD_serve : Cond.instanceMethod mD_serve.1 ∈ zCW := zin 1038 (by decide +kernel) rfl
theorem wD_serve : z_mw mD_serve 0 := ⟨zin5 80 rfl rfl, gD, ⟨by decide, by decide, by decide +kernel⟩, by decide⟩
theorem iD_refuseMessage : Cond.instanceMethod mD_refuseMessage.1 ∈ zCW := zin 1043 (by decide +kernel) rfl
theorem wD_refuseMessage : z_mw mD_refuseMessage 2 := ⟨zin5 84 rfl rfl, gD, ⟨by decide, by decide, by decide +kernel⟩, by decide⟩
theorem iD_wasServed : Cond.instanceMethod mD_wasServed.1 ∈ zCW := zin 1047 (by decide +kernel) rfl
theorem wD_wasServed : z_mw mD_wasServed 1 := ⟨zin5 88 rfl rfl, gD, ⟨by decide, by decide, by decide +kernel⟩, by decide⟩
theorem iD_markServed : Cond.instanceMethod mD_markServed.1 ∈ zCW := zin 1051 (by decide +kernel) rfl
theorem wD_markServed : z_mw mD_markServed 1 := ⟨zin5 92 rfl rfl, gD, ⟨by decide, by decide, by decide +kernel⟩, by decide⟩
theorem iD_sayNoValue : Cond.instanceMethod mD_sayNoValue.1 ∈ zCW := zin 1055 (by decide +kernel) rfl
theorem wD_sayNoValue : z_mw mD_sayNoValue 1 := ⟨zin5 96 rfl rfl, gD, ⟨by decide, by decide, by decide +kernel⟩, by decide⟩
theorem iM_init : Cond.instanceMethod mM_init.1 ∈ zCW := zin 1060 (by decide +kernel) rfl
theorem wM_init : z_mw mM_init 0 := ⟨zin5 101 rfl rfl, gM, ⟨by decide, by decide, by decide +kernel⟩, by decide⟩
theorem iM_leave : Cond.instanceMethod mM_leave.1 ∈ zCW := zin 1065 (by decide +kernel) rfl
theorem wM_leave : z_mw mM_leave 0 := ⟨zin5 106 rfl rfl, gM, ⟨by decide, by decide, by decide +kernel⟩, by decide⟩
theorem iM_thrown : Cond.instanceMethod mM_thrown.1 ∈ zCW := zin 1247 (by decide +kernel) rfl
theorem wM_thrown : z_mw mM_thrown 0 := ⟨zin6 49 rfl rfl, gM, ⟨by decide, by decide, by decide +kernel⟩, by decide⟩
theorem iM_type : Cond.instanceMethod mM_type.1 ∈ zCW := zin 1251 (by decide +kernel) rfl
theorem wM_type : z_mw mM_type 1 := ⟨zin6 53 rfl rfl, gM, ⟨by decide, by decide, by decide +kernel⟩, by decide⟩
theorem iM_clear : Cond.instanceMethod mM_clear.1 ∈ zCW := zin 1255 (by decide +kernel) rfl
theorem wM_clear : z_mw mM_clear 0 := ⟨zin6 57 rfl rfl, gM, ⟨by decide, by decide, by decide +kernel⟩, by decide⟩
theorem iM_compile : Cond.instanceMethod mM_compile.1 ∈ zCW := zin 1259 (by decide +kernel) rfl
theorem wM_compile : z_mw mM_compile 0 := ⟨zin6 61 rfl rfl, gM, ⟨by decide, by decide, by decide +kernel⟩, by decide⟩
theorem iM_definition : Cond.instanceMethod mM_definition.1 ∈ zCW := zin 1264 (by decide +kernel) rfl
theorem wM_definition : z_mw mM_definition 0 := ⟨zin6 65 rfl rfl, gM, ⟨by decide, by decide, by decide +kernel⟩, by decide⟩
theorem iM_look : Cond.instanceMethod mM_look.1 ∈ zCW := zin 1268 (by decide +kernel) rfl
theorem wM_look : z_mw mM_look 0 := ⟨zin6 69 rfl rfl, gM, ⟨by decide, by decide, by decide +kernel⟩, by decide⟩
theorem tM_in : Cond.static mM_in.1 ∈ zCW := zin 1271 (by decide +kernel) rfl
theorem wM_in : z_mw mM_in 3 := ⟨zin6 72 rfl rfl, gM, ⟨by decide, by decide, by decide +kernel⟩, by decide⟩
theorem iM_stop : Cond.instanceMethod mM_stop.1 ∈ zCW := zin 1275 (by decide +kernel) rfl
theorem wM_stop : z_mw mM_stop 2 := ⟨zin6 76 rfl rfl, gM, ⟨by decide, by decide, by decide +kernel⟩, by decide⟩
theorem iM_need : Cond.instanceMethod mM_need.1 ∈ zCW := zin 1279 (by decide +kernel) rfl
theorem wM_need : z_mw mM_need 1 := ⟨zin6 80 rfl rfl, gM, ⟨by decide, by decide, by decide +kernel⟩, by decide⟩
theorem iM_whole : Cond.instanceMethod mM_whole.1 ∈ zCW := zin 1283 (by decide +kernel) rfl
theorem wM_whole : z_mw mM_whole 0 := ⟨zin6 84 rfl rfl, gM, ⟨by decide, by decide, by decide +kernel⟩, by decide⟩
theorem iM_begin : Cond.instanceMethod mM_begin.1 ∈ zCW := zin 1287 (by decide +kernel) rfl
theorem wM_begin : z_mw mM_begin 0 := ⟨zin6 88 rfl rfl, gM, ⟨by decide, by decide, by decide +kernel⟩, by decide⟩
theorem iM_tagged : Cond.instanceMethod mM_tagged.1 ∈ zCW := zin 1291 (by decide +kernel) rfl
theorem wM_tagged : z_mw mM_tagged 0 := ⟨zin6 92 rfl rfl, gM, ⟨by decide, by decide, by decide +kernel⟩, by decide⟩
theorem iM_add : Cond.instanceMethod mM_add.1 ∈ zCW := zin 1295 (by decide +kernel) rfl
theorem wM_add : z_mw mM_add 1 := ⟨zin6 96 rfl rfl, gM, ⟨by decide, by decide, by decide +kernel⟩, by decide⟩
theorem iM_push : Cond.instanceMethod mM_push.1 ∈ zCW := zin 1299 (by decide +kernel) rfl
theorem wM_push : z_mw mM_push 1 := ⟨zin6 100 rfl rfl, gM, ⟨by decide, by decide, by decide +kernel⟩, by decide⟩
theorem iM_named : Cond.instanceMethod mM_named.1 ∈ zCW := zin 1303 (by decide +kernel) rfl
theorem wM_named : z_mw mM_named 1 := ⟨zin6 104 rfl rfl, gM, ⟨by decide, by decide, by decide +kernel⟩, by decide⟩
theorem iM_ranged : Cond.instanceMethod mM_ranged.1 ∈ zCW := zin 1307 (by decide +kernel) rfl
theorem wM_ranged : z_mw mM_ranged 2 := ⟨zin6 108 rfl rfl, gM, ⟨by decide, by decide, by decide +kernel⟩, by decide⟩
theorem iM_numeral : Cond.instanceMethod mM_numeral.1 ∈ zCW := zin 1311 (by decide +kernel) rfl
theorem wM_numeral : z_mw mM_numeral 0 := ⟨zin6 112 rfl rfl, gM, ⟨by decide, by decide, by decide +kernel⟩, by decide⟩
theorem iM_end : Cond.instanceMethod mM_end.1 ∈ zCW := zin 1316 (by decide +kernel) rfl
theorem wM_end : z_mw mM_end 1 := ⟨zin6 117 rfl rfl, gM, ⟨by decide, by decide, by decide +kernel⟩, by decide⟩
theorem iM_component : Cond.instanceMethod mM_component.1 ∈ zCW := zin 1320 (by decide +kernel) rfl
theorem wM_component : z_mw mM_component 2 := ⟨zin6 121 rfl rfl, gM, ⟨by decide, by decide, by decide +kernel⟩, by decide⟩
theorem iM_unwrap : Cond.instanceMethod mM_unwrap.1 ∈ zCW := zin 1324 (by decide +kernel) rfl
theorem wM_unwrap : z_mw mM_unwrap 1 := ⟨zin6 125 rfl rfl, gM, ⟨by decide, by decide, by decide +kernel⟩, by decide⟩
theorem iM_clashes : Cond.instanceMethod mM_clashes.1 ∈ zCW := zin 1328 (by decide +kernel) rfl
theorem wM_clashes : z_mw mM_clashes 1 := ⟨zin6 129 rfl rfl, gM, ⟨by decide, by decide, by decide +kernel⟩, by decide⟩
theorem iM_put : Cond.instanceMethod mM_put.1 ∈ zCW := zin 1331 (by decide +kernel) rfl
theorem wM_put : z_mw mM_put 2 := ⟨zin6 133 rfl rfl, gM, ⟨by decide, by decide, by decide +kernel⟩, by decide⟩
theorem iM_wipe : Cond.instanceMethod mM_wipe.1 ∈ zCW := zin 1336 (by decide +kernel) rfl
theorem wM_wipe : z_mw mM_wipe 0 := ⟨zin6 138 rfl rfl, gM, ⟨by decide, by decide, by decide +kernel⟩, by decide⟩
theorem iM_at : Cond.instanceMethod mM_at.1 ∈ zCW := zin 1340 (by decide +kernel) rfl
theorem wM_at : z_mw mM_at 1 := ⟨zin6 142 rfl rfl, gM, ⟨by decide, by decide, by decide +kernel⟩, by decide⟩
theorem iM_transcode : Cond.instanceMethod mM_transcode.1 ∈ zCW := zin 1344 (by decide +kernel) rfl
theorem wM_transcode : z_mw mM_transcode 3 := ⟨zin6 146 rfl rfl, gM, ⟨by decide, by decide, by decide +kernel⟩, by decide⟩
theorem iM_asked : Cond.instanceMethod mM_asked.1 ∈ zCW := zin 1349 (by decide +kernel) rfl
theorem wM_asked : z_mw mM_asked 2 := ⟨zin6 150 rfl rfl, gM, ⟨by decide, by decide, by decide +kernel⟩, by decide⟩
theorem iM_typeOf : Cond.instanceMethod mM_typeOf.1 ∈ zCW := zin 1353 (by decide +kernel) rfl
theorem wM_typeOf : z_mw mM_typeOf 1 := ⟨zin6 154 rfl rfl, gM, ⟨by decide, by decide, by decide +kernel⟩, by decide⟩
theorem iM_load : Cond.instanceMethod mM_load.1 ∈ zCW := zin 1357 (by decide +kernel) rfl
theorem wM_load : z_mw mM_load 1 := ⟨zin6 158 rfl rfl, gM, ⟨by decide, by decide, by decide +kernel⟩, by decide⟩
theorem iM_isValue : Cond.instanceMethod mM_isValue.1 ∈ zCW := zin 1361 (by decide +kernel) rfl
theorem wM_isValue : z_mw mM_isValue 2 := ⟨zin6 162 rfl rfl, gM, ⟨by decide, by decide, by decide +kernel⟩, by decide⟩
theorem iM_element : Cond.instanceMethod mM_element.1 ∈ zCW := zin 1365 (by decide +kernel) rfl
theorem wM_element : z_mw mM_element 3 := ⟨zin6 166 rfl rfl, gM, ⟨by decide, by decide, by decide +kernel⟩, by decide⟩
theorem iM_next : Cond.instanceMethod mM_next.1 ∈ zCW := zin 1369 (by decide +kernel) rfl
theorem wM_next : z_mw mM_next 0 := ⟨zin6 170 rfl rfl, gM, ⟨by decide, by decide, by decide +kernel⟩, by decide⟩
theorem iM_bound : Cond.instanceMethod mM_bound.1 ∈ zCW := zin 1373 (by decide +kernel) rfl
theorem wM_bound : z_mw mM_bound 0 := ⟨zin6 174 rfl rfl, gM, ⟨by decide, by decide, by decide +kernel⟩, by decide⟩
theorem iM_enter : Cond.instanceMethod mM_enter.1 ∈ zCW := zin 1377 (by decide +kernel) rfl
theorem wM_enter : z_mw mM_enter 1 := ⟨zin6 178 rfl rfl, gM, ⟨by decide, by decide, by decide +kernel⟩, by decide⟩
theorem iM_length : Cond.instanceMethod mM_length.1 ∈ zCW := zin 1381 (by decide +kernel) rfl
theorem wM_length : z_mw mM_length 1 := ⟨zin6 182 rfl rfl, gM, ⟨by decide, by decide, by decide +kernel⟩, by decide⟩
theorem iM_frame : Cond.instanceMethod mM_frame.1 ∈ zCW := zin 1385 (by decide +kernel) rfl
theorem wM_frame : z_mw mM_frame 3 := ⟨zin6 186 rfl rfl, gM, ⟨by decide, by decide, by decide +kernel⟩, by decide⟩
theorem tM_bitOf : Cond.static mM_bitOf.1 ∈ zCW := zin 1388 (by decide +kernel) rfl
theorem wM_bitOf : z_mw mM_bitOf 1 := ⟨zin6 189 rfl rfl, gM, ⟨by decide, by decide, by decide +kernel⟩, by decide⟩
theorem iM_adds : Cond.instanceMethod mM_adds.1 ∈ zCW := zin 1392 (by decide +kernel) rfl
theorem wM_adds : z_mw mM_adds 4 := ⟨zin6 193 rfl rfl, gM, ⟨by decide, by decide, by decide +kernel⟩, by decide⟩
theorem iM_inner : Cond.instanceMethod mM_inner.1 ∈ zCW := zin 1396 (by decide +kernel) rfl
theorem wM_inner : z_mw mM_inner 3 := ⟨zin6 197 rfl rfl, gM, ⟨by decide, by decide, by decide +kernel⟩, by decide⟩
theorem tM_bytesOf : Cond.static mM_bytesOf.1 ∈ zCW := zin 1399 (by decide +kernel) rfl
theorem wM_bytesOf : z_mw mM_bytesOf 1 := ⟨zin6 200 rfl rfl, gM, ⟨by decide, by decide, by decide +kernel⟩, by decide⟩
theorem iM_want : Cond.instanceMethod mM_want.1 ∈ zCW := zin 1405 (by decide +kernel) rfl
theorem wM_want : z_mw mM_want 3 := ⟨zin6 206 rfl rfl, gM, ⟨by decide, by decide, by decide +kernel⟩, by decide⟩
theorem iM_ranging : Cond.instanceMethod mM_ranging.1 ∈ zCW := zin 1409 (by decide +kernel) rfl
theorem wM_ranging : z_mw mM_ranging 2 := ⟨zin6 210 rfl rfl, gM, ⟨by decide, by decide, by decide +kernel⟩, by decide⟩
theorem iM_align : Cond.instanceMethod mM_align.1 ∈ zCW := zin 1413 (by decide +kernel) rfl
theorem wM_align : z_mw mM_align 0 := ⟨zin6 214 rfl rfl, gM, ⟨by decide, by decide, by decide +kernel⟩, by decide⟩
theorem tM_width : Cond.static mM_width.1 ∈ zCW := zin 1416 (by decide +kernel) rfl
theorem wM_width : z_mw mM_width 1 := ⟨zin6 217 rfl rfl, gM, ⟨by decide, by decide, by decide +kernel⟩, by decide⟩
theorem iM_some : Cond.instanceMethod mM_some.1 ∈ zCW := zin 1420 (by decide +kernel) rfl
theorem wM_some : z_mw mM_some 1 := ⟨zin6 221 rfl rfl, gM, ⟨by decide, by decide, by decide +kernel⟩, by decide⟩
theorem iM_bit : Cond.instanceMethod mM_bit.1 ∈ zCW := zin 1424 (by decide +kernel) rfl
theorem wM_bit : z_mw mM_bit 0 := ⟨zin6 225 rfl rfl, gM, ⟨by decide, by decide, by decide +kernel⟩, by decide⟩
theorem iM_rank : Cond.instanceMethod mM_rank.1 ∈ zCW := zin 1428 (by decide +kernel) rfl
theorem wM_rank : z_mw mM_rank 2 := ⟨zin6 229 rfl rfl, gM, ⟨by decide, by decide, by decide +kernel⟩, by decide⟩
theorem iM_counted : Cond.instanceMethod mM_counted.1 ∈ zCW := zin 1432 (by decide +kernel) rfl
theorem wM_counted : z_mw mM_counted 1 := ⟨zin6 233 rfl rfl, gM, ⟨by decide, by decide, by decide +kernel⟩, by decide⟩
theorem iM_goOn : Cond.instanceMethod mM_goOn.1 ∈ zCW := zin 1436 (by decide +kernel) rfl
theorem wM_goOn : z_mw mM_goOn 0 := ⟨zin6 237 rfl rfl, gM, ⟨by decide, by decide, by decide +kernel⟩, by decide⟩
theorem iM_isEnd : Cond.instanceMethod mM_isEnd.1 ∈ zCW := zin 1440 (by decide +kernel) rfl
theorem wM_isEnd : z_mw mM_isEnd 0 := ⟨zin7 1 rfl rfl, gM, ⟨by decide, by decide, by decide +kernel⟩, by decide⟩
theorem iM_baseOf : Cond.instanceMethod mM_baseOf.1 ∈ zCW := zin 1444 (by decide +kernel) rfl
theorem wM_baseOf : z_mw mM_baseOf 1 := ⟨zin7 5 rfl rfl, gM, ⟨by decide, by decide, by decide +kernel⟩, by decide⟩
theorem iM_leaveFrame : Cond.instanceMethod mM_leaveFrame.1 ∈ zCW := zin 1448 (by decide +kernel) rfl
theorem wM_leaveFrame : z_mw mM_leaveFrame 0 := ⟨zin7 9 rfl rfl, gM, ⟨by decide, by decide, by decide +kernel⟩, by decide⟩
theorem iM_absent : Cond.instanceMethod mM_absent.1 ∈ zCW := zin 1452 (by decide +kernel) rfl
theorem wM_absent : z_mw mM_absent 3 := ⟨zin7 13 rfl rfl, gM, ⟨by decide, by decide, by decide +kernel⟩, by decide⟩
theorem iM_goOnPacked : Cond.instanceMethod mM_goOnPacked.1 ∈ zCW := zin 1456 (by decide +kernel) rfl
theorem wM_goOnPacked : z_mw mM_goOnPacked 0 := ⟨zin7 17 rfl rfl, gM, ⟨by decide, by decide, by decide +kernel⟩, by decide⟩
theorem iM_settle : Cond.instanceMethod mM_settle.1 ∈ zCW := zin 1460 (by decide +kernel) rfl
theorem wM_settle : z_mw mM_settle 0 := ⟨zin7 21 rfl rfl, gM, ⟨by decide, by decide, by decide +kernel⟩, by decide⟩
theorem iM_write : Cond.instanceMethod mM_write.1 ∈ zCW := zin 1464 (by decide +kernel) rfl
theorem wM_write : z_mw mM_write 1 := ⟨zin7 25 rfl rfl, gM, ⟨by decide, by decide, by decide +kernel⟩, by decide⟩
theorem iM_isLeft : Cond.instanceMethod mM_isLeft.1 ∈ zCW := zin 1468 (by decide +kernel) rfl
theorem wM_isLeft : z_mw mM_isLeft 1 := ⟨zin7 29 rfl rfl, gM, ⟨by decide, by decide, by decide +kernel⟩, by decide⟩
theorem iM_encode : Cond.instanceMethod mM_encode.1 ∈ zCW := zin 1472 (by decide +kernel) rfl
theorem wM_encode : z_mw mM_encode 1 := ⟨zin7 33 rfl rfl, gM, ⟨by decide, by decide, by decide +kernel⟩, by decide⟩
theorem iM_make : Cond.instanceMethod mM_make.1 ∈ zCW := zin 1476 (by decide +kernel) rfl
theorem wM_make : z_mw mM_make 1 := ⟨zin7 37 rfl rfl, gM, ⟨by decide, by decide, by decide +kernel⟩, by decide⟩
theorem iM_packed : Cond.instanceMethod mM_packed.1 ∈ zCW := zin 1480 (by decide +kernel) rfl
theorem wM_packed : z_mw mM_packed 1 := ⟨zin7 41 rfl rfl, gM, ⟨by decide, by decide, by decide +kernel⟩, by decide⟩
theorem iM_bring : Cond.instanceMethod mM_bring.1 ∈ zCW := zin 1484 (by decide +kernel) rfl
theorem wM_bring : z_mw mM_bring 2 := ⟨zin7 45 rfl rfl, gM, ⟨by decide, by decide, by decide +kernel⟩, by decide⟩
theorem iM_bringCount : Cond.instanceMethod mM_bringCount.1 ∈ zCW := zin 1488 (by decide +kernel) rfl
theorem wM_bringCount : z_mw mM_bringCount 2 := ⟨zin7 49 rfl rfl, gM, ⟨by decide, by decide, by decide +kernel⟩, by decide⟩
theorem iM_fill : Cond.instanceMethod mM_fill.1 ∈ zCW := zin 1492 (by decide +kernel) rfl
theorem wM_fill : z_mw mM_fill 0 := ⟨zin7 53 rfl rfl, gM, ⟨by decide, by decide, by decide +kernel⟩, by decide⟩
theorem iM_bringOf : Cond.instanceMethod mM_bringOf.1 ∈ zCW := zin 1496 (by decide +kernel) rfl
theorem wM_bringOf : z_mw mM_bringOf 3 := ⟨zin7 57 rfl rfl, gM, ⟨by decide, by decide, by decide +kernel⟩, by decide⟩
theorem iM_marks : Cond.instanceMethod mM_marks.1 ∈ zCW := zin 1500 (by decide +kernel) rfl
theorem wM_marks : z_mw mM_marks 2 := ⟨zin7 61 rfl rfl, gM, ⟨by decide, by decide, by decide +kernel⟩, by decide⟩
theorem iM_fails : Cond.instanceMethod mM_fails.1 ∈ zCW := zin 1504 (by decide +kernel) rfl
theorem wM_fails : z_mw mM_fails 1 := ⟨zin7 65 rfl rfl, gM, ⟨by decide, by decide, by decide +kernel⟩, by decide⟩
theorem iM_keep : Cond.instanceMethod mM_keep.1 ∈ zCW := zin 1508 (by decide +kernel) rfl
theorem wM_keep : z_mw mM_keep 0 := ⟨zin7 69 rfl rfl, gM, ⟨by decide, by decide, by decide +kernel⟩, by decide⟩
theorem iM_parts : Cond.instanceMethod mM_parts.1 ∈ zCW := zin 1511 (by decide +kernel) rfl
theorem wM_parts : z_mw mM_parts 0 := ⟨zin7 73 rfl rfl, gM, ⟨by decide, by decide, by decide +kernel⟩, by decide⟩
theorem iM_part : Cond.instanceMethod mM_part.1 ∈ zCW := zin 1515 (by decide +kernel) rfl
theorem wM_part : z_mw mM_part 2 := ⟨zin7 77 rfl rfl, gM, ⟨by decide, by decide, by decide +kernel⟩, by decide⟩
theorem iM_octet : Cond.instanceMethod mM_octet.1 ∈ zCW := zin 1519 (by decide +kernel) rfl
theorem wM_octet : z_mw mM_octet 2 := ⟨zin7 81 rfl rfl, gM, ⟨by decide, by decide, by decide +kernel⟩, by decide⟩
theorem iM_operation : Cond.instanceMethod mM_operation.1 ∈ zCW := zin 1523 (by decide +kernel) rfl
theorem wM_operation : z_mw mM_operation 4 := ⟨zin7 85 rfl rfl, gM, ⟨by decide, by decide, by decide +kernel⟩, by decide⟩
theorem iM_serve : Cond.instanceMethod mM_serve.1 ∈ zCW := zin 1527 (by decide +kernel) rfl
theorem wM_serve : z_mw mM_serve 0 := ⟨zin7 89 rfl rfl, gM, ⟨by decide, by decide, by decide +kernel⟩, by decide⟩
theorem iM_reply : Cond.instanceMethod mM_reply.1 ∈ zCW := zin 1532 (by decide +kernel) rfl
theorem wM_reply : z_mw mM_reply 4 := ⟨zin7 93 rfl rfl, gM, ⟨by decide, by decide, by decide +kernel⟩, by decide⟩
theorem sD_type : Cond.selects mD_type.1.cls mD_type.1 mD_type.1 ∈ zCW := zin 258 (by decide +kernel) rfl
theorem sV_empty : Cond.selects mV_empty.1.cls mV_empty.1 mV_empty.1 ∈ zCW := zin 266 (by decide +kernel) rfl
theorem sD_clear : Cond.selects mD_clear.1.cls mD_clear.1 mD_clear.1 ∈ zCW := zin 270 (by decide +kernel) rfl
theorem sD_compile : Cond.selects mD_compile.1.cls mD_compile.1 mD_compile.1 ∈ zCW := zin 274 (by decide +kernel) rfl
theorem sC_translate : Cond.selects mC_translate.1.cls mC_translate.1 mC_translate.1 ∈ zCW := zin 278 (by decide +kernel) rfl
theorem sT_begin : Cond.selects mT_begin.1.cls mT_begin.1 mT_begin.1 ∈ zCW := zin 396 (by decide +kernel) rfl
theorem sT_beginTag : Cond.selects mT_beginTag.1.cls mT_beginTag.1 mT_beginTag.1 ∈ zCW := zin 404 (by decide +kernel) rfl
theorem sK_begin : Cond.selects mK_begin.1.cls mK_begin.1 mK_begin.1 ∈ zCW := zin 481 (by decide +kernel) rfl
theorem sT_addMember : Cond.selects mT_addMember.1.cls mT_addMember.1 mT_addMember.1 ∈ zCW := zin 485 (by decide +kernel) rfl
theorem sT_untagged : Cond.selects mT_untagged.1.cls mT_untagged.1 mT_untagged.1 ∈ zCW := zin 492 (by decide +kernel) rfl
theorem sT_allows : Cond.selects mT_allows.1.cls mT_allows.1 mT_allows.1 ∈ zCW := zin 507 (by decide +kernel) rfl
theorem sK_tags : Cond.selects mK_tags.1.cls mK_tags.1 mK_tags.1 ∈ zCW := zin 518 (by decide +kernel) rfl
theorem sK_leastTag : Cond.selects mK_leastTag.1.cls mK_leastTag.1 mK_leastTag.1 ∈ zCW := zin 528 (by decide +kernel) rfl
theorem sD_put : Cond.selects mD_put.1.cls mD_put.1 mD_put.1 ∈ zCW := zin 548 (by decide +kernel) rfl
theorem sD_wipe : Cond.selects mD_wipe.1.cls mD_wipe.1 mD_wipe.1 ∈ zCW := zin 552 (by decide +kernel) rfl
theorem sD_parts : Cond.selects mD_parts.1.cls mD_parts.1 mD_parts.1 ∈ zCW := zin 556 (by decide +kernel) rfl
theorem sD_at : Cond.selects mD_at.1.cls mD_at.1 mD_at.1 ∈ zCW := zin 564 (by decide +kernel) rfl
theorem sD_transcode : Cond.selects mD_transcode.1.cls mD_transcode.1 mD_transcode.1 ∈ zCW := zin 645 (by decide +kernel) rfl
theorem sC_typeNamed : Cond.selects mC_typeNamed.1.cls mC_typeNamed.1 mC_typeNamed.1 ∈ zCW := zin 684 (by decide +kernel) rfl
theorem sP_readAll : Cond.selects mP_readAll.1.cls mP_readAll.1 mP_readAll.1 ∈ zCW := zin 708 (by decide +kernel) rfl
theorem sV_addPart : Cond.selects mV_addPart.1.cls mV_addPart.1 mV_addPart.1 ∈ zCW := zin 717 (by decide +kernel) rfl
theorem sT_isAlignedOctets : Cond.selects mT_isAlignedOctets.1.cls mT_isAlignedOctets.1 mT_isAlignedOctets.1 ∈ zCW := zin 762 (by decide +kernel) rfl
theorem sV_addOctet : Cond.selects mV_addOctet.1.cls mV_addOctet.1 mV_addOctet.1 ∈ zCW := zin 766 (by decide +kernel) rfl
theorem sV_leaveOutComponent : Cond.selects mV_leaveOutComponent.1.cls mV_leaveOutComponent.1 mV_leaveOutComponent.1 ∈ zCW := zin 778 (by decide +kernel) rfl
theorem sV_takeComponent : Cond.selects mV_takeComponent.1.cls mV_takeComponent.1 mV_takeComponent.1 ∈ zCW := zin 784 (by decide +kernel) rfl
theorem sT_memberRanked : Cond.selects mT_memberRanked.1.cls mT_memberRanked.1 mT_memberRanked.1 ∈ zCW := zin 796 (by decide +kernel) rfl
theorem sO_readAll : Cond.selects mO_readAll.1.cls mO_readAll.1 mO_readAll.1 ∈ zCW := zin 800 (by decide +kernel) rfl
theorem sT_tagByte : Cond.selects mT_tagByte.1.cls mT_tagByte.1 mT_tagByte.1 ∈ zCW := zin 812 (by decide +kernel) rfl
theorem sT_memberWithTag : Cond.selects mT_memberWithTag.1.cls mT_memberWithTag.1 mT_memberWithTag.1 ∈ zCW := zin 840 (by decide +kernel) rfl
theorem sQ_writeAll : Cond.selects mQ_writeAll.1.cls mQ_writeAll.1 mQ_writeAll.1 ∈ zCW := zin 881 (by decide +kernel) rfl
theorem sV_octetAt : Cond.selects mV_octetAt.1.cls mV_octetAt.1 mV_octetAt.1 ∈ zCW := zin 918 (by decide +kernel) rfl
theorem sV_shows : Cond.selects mV_shows.1.cls mV_shows.1 mV_shows.1 ∈ zCW := zin 926 (by decide +kernel) rfl
theorem sT_memberAt : Cond.selects mT_memberAt.1.cls mT_memberAt.1 mT_memberAt.1 ∈ zCW := zin 938 (by decide +kernel) rfl
theorem sS_writeAll : Cond.selects mS_writeAll.1.cls mS_writeAll.1 mS_writeAll.1 ∈ zCW := zin 942 (by decide +kernel) rfl
theorem sV_copyOf : Cond.selects mV_copyOf.1.cls mV_copyOf.1 mV_copyOf.1 ∈ zCW := zin 999 (by decide +kernel) rfl
theorem sD_part : Cond.selects mD_part.1.cls mD_part.1 mD_part.1 ∈ zCW := zin 1014 (by decide +kernel) rfl
theorem sD_octet : Cond.selects mD_octet.1.cls mD_octet.1 mD_octet.1 ∈ zCW := zin 1023 (by decide +kernel) rfl
theorem sD_operation : Cond.selects mD_operation.1.cls mD_operation.1 mD_operation.1 ∈ zCW := zin 1031 (by decide +kernel) rfl
theorem sD_serve : Cond.selects mD_serve.1.cls mD_serve.1 mD_serve.1 ∈ zCW := zin 1039 (by decide +kernel) rfl
theorem sM_thrown : Cond.selects mM_thrown.1.cls mM_thrown.1 mM_thrown.1 ∈ zCW := zin 1248 (by decide +kernel) rfl
theorem sM_type : Cond.selects mM_type.1.cls mM_type.1 mM_type.1 ∈ zCW := zin 1252 (by decide +kernel) rfl
theorem sM_clear : Cond.selects mM_clear.1.cls mM_clear.1 mM_clear.1 ∈ zCW := zin 1256 (by decide +kernel) rfl
theorem sM_compile : Cond.selects mM_compile.1.cls mM_compile.1 mM_compile.1 ∈ zCW := zin 1260 (by decide +kernel) rfl
theorem sM_put : Cond.selects mM_put.1.cls mM_put.1 mM_put.1 ∈ zCW := zin 1332 (by decide +kernel) rfl
theorem sM_wipe : Cond.selects mM_wipe.1.cls mM_wipe.1 mM_wipe.1 ∈ zCW := zin 1337 (by decide +kernel) rfl
theorem sM_at : Cond.selects mM_at.1.cls mM_at.1 mM_at.1 ∈ zCW := zin 1341 (by decide +kernel) rfl
theorem sM_transcode : Cond.selects mM_transcode.1.cls mM_transcode.1 mM_transcode.1 ∈ zCW := zin 1345 (by decide +kernel) rfl
theorem sM_parts : Cond.selects mM_parts.1.cls mM_parts.1 mM_parts.1 ∈ zCW := zin 1512 (by decide +kernel) rfl
theorem sM_part : Cond.selects mM_part.1.cls mM_part.1 mM_part.1 ∈ zCW := zin 1516 (by decide +kernel) rfl
theorem sM_octet : Cond.selects mM_octet.1.cls mM_octet.1 mM_octet.1 ∈ zCW := zin 1520 (by decide +kernel) rfl
theorem sM_operation : Cond.selects mM_operation.1.cls mM_operation.1 mM_operation.1 ∈ zCW := zin 1524 (by decide +kernel) rfl
theorem sM_serve : Cond.selects mM_serve.1.cls mM_serve.1 mM_serve.1 ∈ zCW := zin 1528 (by decide +kernel) rfl
theorem sD_forgetModule : Cond.selects mD_forgetModule.1.cls mD_forgetModule.1 mD_forgetModule.1 ∈ zCW := zsel 0 (y := mD_forgetModule.1) (n := 17) (by decide +kernel) rfl
theorem sC_readDefinition : Cond.selects mC_readDefinition.1.cls mC_readDefinition.1 mC_readDefinition.1 ∈ zCW := zsel 1 (y := mC_readDefinition.1) (n := 10) (by decide +kernel) rfl
theorem sC_nextCharacter : Cond.selects mC_nextCharacter.1.cls mC_nextCharacter.1 mC_nextCharacter.1 ∈ zCW := zsel 2 (y := mC_nextCharacter.1) (n := 10) (by decide +kernel) rfl
theorem sC_refuse : Cond.selects mC_refuse.1.cls mC_refuse.1 mC_refuse.1 ∈ zCW := zsel 3 (y := mC_refuse.1) (n := 10) (by decide +kernel) rfl
theorem sC_pass : Cond.selects mC_pass.1.cls mC_pass.1 mC_pass.1 ∈ zCW := zsel 4 (y := mC_pass.1) (n := 10) (by decide +kernel) rfl
theorem sC_readType : Cond.selects mC_readType.1.cls mC_readType.1 mC_readType.1 ∈ zCW := zsel 5 (y := mC_readType.1) (n := 10) (by decide +kernel) rfl
theorem sC_readTag : Cond.selects mC_readTag.1.cls mC_readTag.1 mC_readTag.1 ∈ zCW := zsel 6 (y := mC_readTag.1) (n := 10) (by decide +kernel) rfl
theorem sC_newType : Cond.selects mC_newType.1.cls mC_newType.1 mC_newType.1 ∈ zCW := zsel 7 (y := mC_newType.1) (n := 10) (by decide +kernel) rfl
theorem sC_readUntagged : Cond.selects mC_readUntagged.1.cls mC_readUntagged.1 mC_readUntagged.1 ∈ zCW := zsel 8 (y := mC_readUntagged.1) (n := 10) (by decide +kernel) rfl
theorem sC_readReference : Cond.selects mC_readReference.1.cls mC_readReference.1 mC_readReference.1 ∈ zCW := zsel 9 (y := mC_readReference.1) (n := 10) (by decide +kernel) rfl
theorem sC_readMembers : Cond.selects mC_readMembers.1.cls mC_readMembers.1 mC_readMembers.1 ∈ zCW := zsel 10 (y := mC_readMembers.1) (n := 10) (by decide +kernel) rfl
theorem sC_readMember : Cond.selects mC_readMember.1.cls mC_readMember.1 mC_readMember.1 ∈ zCW := zsel 11 (y := mC_readMember.1) (n := 10) (by decide +kernel) rfl
theorem sC_newMember : Cond.selects mC_newMember.1.cls mC_newMember.1 mC_newMember.1 ∈ zCW := zsel 12 (y := mC_newMember.1) (n := 10) (by decide +kernel) rfl
theorem sC_readMode : Cond.selects mC_readMode.1.cls mC_readMode.1 mC_readMode.1 ∈ zCW := zsel 13 (y := mC_readMode.1) (n := 10) (by decide +kernel) rfl
theorem sC_readNumber : Cond.selects mC_readNumber.1.cls mC_readNumber.1 mC_readNumber.1 ∈ zCW := zsel 14 (y := mC_readNumber.1) (n := 10) (by decide +kernel) rfl
theorem sC_closeMembers : Cond.selects mC_closeMembers.1.cls mC_closeMembers.1 mC_closeMembers.1 ∈ zCW := zsel 15 (y := mC_closeMembers.1) (n := 10) (by decide +kernel) rfl
theorem sC_readBounds : Cond.selects mC_readBounds.1.cls mC_readBounds.1 mC_readBounds.1 ∈ zCW := zsel 16 (y := mC_readBounds.1) (n := 10) (by decide +kernel) rfl
theorem sC_readItems : Cond.selects mC_readItems.1.cls mC_readItems.1 mC_readItems.1 ∈ zCW := zsel 17 (y := mC_readItems.1) (n := 10) (by decide +kernel) rfl
theorem sD_readBuffer : Cond.selects mD_readBuffer.1.cls mD_readBuffer.1 mD_readBuffer.1 ∈ zCW := zsel 19 (y := mD_readBuffer.1) (n := 17) (by decide +kernel) rfl
theorem sP_readValue : Cond.selects mP_readValue.1.cls mP_readValue.1 mP_readValue.1 ∈ zCW := zsel 20 (y := mP_readValue.1) (n := 4) (by decide +kernel) rfl
theorem sP_takeBits : Cond.selects mP_takeBits.1.cls mP_takeBits.1 mP_takeBits.1 ∈ zCW := zsel 21 (y := mP_takeBits.1) (n := 4) (by decide +kernel) rfl
theorem sP_readBounded : Cond.selects mP_readBounded.1.cls mP_readBounded.1 mP_readBounded.1 ∈ zCW := zsel 22 (y := mP_readBounded.1) (n := 4) (by decide +kernel) rfl
theorem sP_takeNumber : Cond.selects mP_takeNumber.1.cls mP_takeNumber.1 mP_takeNumber.1 ∈ zCW := zsel 23 (y := mP_takeNumber.1) (n := 4) (by decide +kernel) rfl
theorem sP_align : Cond.selects mP_align.1.cls mP_align.1 mP_align.1 ∈ zCW := zsel 24 (y := mP_align.1) (n := 4) (by decide +kernel) rfl
theorem sP_readUnbounded : Cond.selects mP_readUnbounded.1.cls mP_readUnbounded.1 mP_readUnbounded.1 ∈ zCW := zsel 25 (y := mP_readUnbounded.1) (n := 4) (by decide +kernel) rfl
theorem sP_takeByte : Cond.selects mP_takeByte.1.cls mP_takeByte.1 mP_takeByte.1 ∈ zCW := zsel 26 (y := mP_takeByte.1) (n := 4) (by decide +kernel) rfl
theorem sP_readOctets : Cond.selects mP_readOctets.1.cls mP_readOctets.1 mP_readOctets.1 ∈ zCW := zsel 27 (y := mP_readOctets.1) (n := 4) (by decide +kernel) rfl
theorem sP_takeCount : Cond.selects mP_takeCount.1.cls mP_takeCount.1 mP_takeCount.1 ∈ zCW := zsel 28 (y := mP_takeCount.1) (n := 4) (by decide +kernel) rfl
theorem sP_readComponents : Cond.selects mP_readComponents.1.cls mP_readComponents.1 mP_readComponents.1 ∈ zCW := zsel 29 (y := mP_readComponents.1) (n := 4) (by decide +kernel) rfl
theorem sP_takePresence : Cond.selects mP_takePresence.1.cls mP_takePresence.1 mP_takePresence.1 ∈ zCW := zsel 30 (y := mP_takePresence.1) (n := 4) (by decide +kernel) rfl
theorem sP_readItems : Cond.selects mP_readItems.1.cls mP_readItems.1 mP_readItems.1 ∈ zCW := zsel 31 (y := mP_readItems.1) (n := 4) (by decide +kernel) rfl
theorem sP_readChoice : Cond.selects mP_readChoice.1.cls mP_readChoice.1 mP_readChoice.1 ∈ zCW := zsel 32 (y := mP_readChoice.1) (n := 4) (by decide +kernel) rfl
theorem sO_readElement : Cond.selects mO_readElement.1.cls mO_readElement.1 mO_readElement.1 ∈ zCW := zsel 33 (y := mO_readElement.1) (n := 4) (by decide +kernel) rfl
theorem sO_readTagged : Cond.selects mO_readTagged.1.cls mO_readTagged.1 mO_readTagged.1 ∈ zCW := zsel 34 (y := mO_readTagged.1) (n := 4) (by decide +kernel) rfl
theorem sO_readHeader : Cond.selects mO_readHeader.1.cls mO_readHeader.1 mO_readHeader.1 ∈ zCW := zsel 35 (y := mO_readHeader.1) (n := 4) (by decide +kernel) rfl
theorem sO_readLongLength : Cond.selects mO_readLongLength.1.cls mO_readLongLength.1 mO_readLongLength.1 ∈ zCW := zsel 36 (y := mO_readLongLength.1) (n := 4) (by decide +kernel) rfl
theorem sO_readContentEnd : Cond.selects mO_readContentEnd.1.cls mO_readContentEnd.1 mO_readContentEnd.1 ∈ zCW := zsel 37 (y := mO_readContentEnd.1) (n := 4) (by decide +kernel) rfl
theorem sO_readChoice : Cond.selects mO_readChoice.1.cls mO_readChoice.1 mO_readChoice.1 ∈ zCW := zsel 38 (y := mO_readChoice.1) (n := 4) (by decide +kernel) rfl
theorem sO_nextTagBit : Cond.selects mO_nextTagBit.1.cls mO_nextTagBit.1 mO_nextTagBit.1 ∈ zCW := zsel 39 (y := mO_nextTagBit.1) (n := 4) (by decide +kernel) rfl
theorem sO_readPlain : Cond.selects mO_readPlain.1.cls mO_readPlain.1 mO_readPlain.1 ∈ zCW := zsel 40 (y := mO_readPlain.1) (n := 4) (by decide +kernel) rfl
theorem sO_readBoolean : Cond.selects mO_readBoolean.1.cls mO_readBoolean.1 mO_readBoolean.1 ∈ zCW := zsel 41 (y := mO_readBoolean.1) (n := 4) (by decide +kernel) rfl
theorem sO_readInteger : Cond.selects mO_readInteger.1.cls mO_readInteger.1 mO_readInteger.1 ∈ zCW := zsel 42 (y := mO_readInteger.1) (n := 4) (by decide +kernel) rfl
theorem sO_readOctets : Cond.selects mO_readOctets.1.cls mO_readOctets.1 mO_readOctets.1 ∈ zCW := zsel 43 (y := mO_readOctets.1) (n := 4) (by decide +kernel) rfl
theorem sO_readItems : Cond.selects mO_readItems.1.cls mO_readItems.1 mO_readItems.1 ∈ zCW := zsel 44 (y := mO_readItems.1) (n := 4) (by decide +kernel) rfl
theorem sO_readComponents : Cond.selects mO_readComponents.1.cls mO_readComponents.1 mO_readComponents.1 ∈ zCW := zsel 45 (y := mO_readComponents.1) (n := 4) (by decide +kernel) rfl
theorem sD_writeFound : Cond.selects mD_writeFound.1.cls mD_writeFound.1 mD_writeFound.1 ∈ zCW := zsel 46 (y := mD_writeFound.1) (n := 17) (by decide +kernel) rfl
theorem sQ_writeValue : Cond.selects mQ_writeValue.1.cls mQ_writeValue.1 mQ_writeValue.1 ∈ zCW := zsel 47 (y := mQ_writeValue.1) (n := 5) (by decide +kernel) rfl
theorem sQ_appendBits : Cond.selects mQ_appendBits.1.cls mQ_appendBits.1 mQ_appendBits.1 ∈ zCW := zsel 48 (y := mQ_appendBits.1) (n := 5) (by decide +kernel) rfl
theorem sQ_writeInteger : Cond.selects mQ_writeInteger.1.cls mQ_writeInteger.1 mQ_writeInteger.1 ∈ zCW := zsel 49 (y := mQ_writeInteger.1) (n := 5) (by decide +kernel) rfl
theorem sQ_appendNumber : Cond.selects mQ_appendNumber.1.cls mQ_appendNumber.1 mQ_appendNumber.1 ∈ zCW := zsel 50 (y := mQ_appendNumber.1) (n := 5) (by decide +kernel) rfl
theorem sQ_align : Cond.selects mQ_align.1.cls mQ_align.1 mQ_align.1 ∈ zCW := zsel 51 (y := mQ_align.1) (n := 5) (by decide +kernel) rfl
theorem sQ_writeOctets : Cond.selects mQ_writeOctets.1.cls mQ_writeOctets.1 mQ_writeOctets.1 ∈ zCW := zsel 52 (y := mQ_writeOctets.1) (n := 5) (by decide +kernel) rfl
theorem sQ_appendCount : Cond.selects mQ_appendCount.1.cls mQ_appendCount.1 mQ_appendCount.1 ∈ zCW := zsel 53 (y := mQ_appendCount.1) (n := 5) (by decide +kernel) rfl
theorem sQ_writeComponents : Cond.selects mQ_writeComponents.1.cls mQ_writeComponents.1 mQ_writeComponents.1 ∈ zCW := zsel 54 (y := mQ_writeComponents.1) (n := 5) (by decide +kernel) rfl
theorem sQ_writeItems : Cond.selects mQ_writeItems.1.cls mQ_writeItems.1 mQ_writeItems.1 ∈ zCW := zsel 55 (y := mQ_writeItems.1) (n := 5) (by decide +kernel) rfl
theorem sQ_writeChoice : Cond.selects mQ_writeChoice.1.cls mQ_writeChoice.1 mQ_writeChoice.1 ∈ zCW := zsel 56 (y := mQ_writeChoice.1) (n := 5) (by decide +kernel) rfl
theorem sS_writeElement : Cond.selects mS_writeElement.1.cls mS_writeElement.1 mS_writeElement.1 ∈ zCW := zsel 57 (y := mS_writeElement.1) (n := 5) (by decide +kernel) rfl
theorem sS_writeChoice : Cond.selects mS_writeChoice.1.cls mS_writeChoice.1 mS_writeChoice.1 ∈ zCW := zsel 58 (y := mS_writeChoice.1) (n := 5) (by decide +kernel) rfl
theorem sS_beginElement : Cond.selects mS_beginElement.1.cls mS_beginElement.1 mS_beginElement.1 ∈ zCW := zsel 59 (y := mS_beginElement.1) (n := 5) (by decide +kernel) rfl
theorem sS_append : Cond.selects mS_append.1.cls mS_append.1 mS_append.1 ∈ zCW := zsel 60 (y := mS_append.1) (n := 5) (by decide +kernel) rfl
theorem sS_writeContent : Cond.selects mS_writeContent.1.cls mS_writeContent.1 mS_writeContent.1 ∈ zCW := zsel 61 (y := mS_writeContent.1) (n := 5) (by decide +kernel) rfl
theorem sS_writeInteger : Cond.selects mS_writeInteger.1.cls mS_writeInteger.1 mS_writeInteger.1 ∈ zCW := zsel 62 (y := mS_writeInteger.1) (n := 5) (by decide +kernel) rfl
theorem sS_writeComponents : Cond.selects mS_writeComponents.1.cls mS_writeComponents.1 mS_writeComponents.1 ∈ zCW := zsel 63 (y := mS_writeComponents.1) (n := 5) (by decide +kernel) rfl
theorem sS_endElement : Cond.selects mS_endElement.1.cls mS_endElement.1 mS_endElement.1 ∈ zCW := zsel 64 (y := mS_endElement.1) (n := 5) (by decide +kernel) rfl
theorem sD_keepWritten : Cond.selects mD_keepWritten.1.cls mD_keepWritten.1 mD_keepWritten.1 ∈ zCW := zsel 65 (y := mD_keepWritten.1) (n := 17) (by decide +kernel) rfl
theorem sD_refuseMessage : Cond.selects mD_refuseMessage.1.cls mD_refuseMessage.1 mD_refuseMessage.1 ∈ zCW := zsel 66 (y := mD_refuseMessage.1) (n := 17) (by decide +kernel) rfl
theorem sD_wasServed : Cond.selects mD_wasServed.1.cls mD_wasServed.1 mD_wasServed.1 ∈ zCW := zsel 67 (y := mD_wasServed.1) (n := 17) (by decide +kernel) rfl
theorem sD_markServed : Cond.selects mD_markServed.1.cls mD_markServed.1 mD_markServed.1 ∈ zCW := zsel 68 (y := mD_markServed.1) (n := 17) (by decide +kernel) rfl
theorem sD_sayNoValue : Cond.selects mD_sayNoValue.1.cls mD_sayNoValue.1 mD_sayNoValue.1 ∈ zCW := zsel 69 (y := mD_sayNoValue.1) (n := 17) (by decide +kernel) rfl
theorem sM_leave : Cond.selects mM_leave.1.cls mM_leave.1 mM_leave.1 ∈ zCW := zsel 70 (y := mM_leave.1) (n := 59) (by decide +kernel) rfl
theorem sM_definition : Cond.selects mM_definition.1.cls mM_definition.1 mM_definition.1 ∈ zCW := zsel 71 (y := mM_definition.1) (n := 59) (by decide +kernel) rfl
theorem sM_look : Cond.selects mM_look.1.cls mM_look.1 mM_look.1 ∈ zCW := zsel 72 (y := mM_look.1) (n := 59) (by decide +kernel) rfl
theorem sM_stop : Cond.selects mM_stop.1.cls mM_stop.1 mM_stop.1 ∈ zCW := zsel 73 (y := mM_stop.1) (n := 59) (by decide +kernel) rfl
theorem sM_need : Cond.selects mM_need.1.cls mM_need.1 mM_need.1 ∈ zCW := zsel 74 (y := mM_need.1) (n := 59) (by decide +kernel) rfl
theorem sM_whole : Cond.selects mM_whole.1.cls mM_whole.1 mM_whole.1 ∈ zCW := zsel 75 (y := mM_whole.1) (n := 59) (by decide +kernel) rfl
theorem sM_begin : Cond.selects mM_begin.1.cls mM_begin.1 mM_begin.1 ∈ zCW := zsel 76 (y := mM_begin.1) (n := 59) (by decide +kernel) rfl
theorem sM_tagged : Cond.selects mM_tagged.1.cls mM_tagged.1 mM_tagged.1 ∈ zCW := zsel 77 (y := mM_tagged.1) (n := 59) (by decide +kernel) rfl
theorem sM_add : Cond.selects mM_add.1.cls mM_add.1 mM_add.1 ∈ zCW := zsel 78 (y := mM_add.1) (n := 59) (by decide +kernel) rfl
theorem sM_push : Cond.selects mM_push.1.cls mM_push.1 mM_push.1 ∈ zCW := zsel 79 (y := mM_push.1) (n := 59) (by decide +kernel) rfl
theorem sM_named : Cond.selects mM_named.1.cls mM_named.1 mM_named.1 ∈ zCW := zsel 80 (y := mM_named.1) (n := 59) (by decide +kernel) rfl
theorem sM_ranged : Cond.selects mM_ranged.1.cls mM_ranged.1 mM_ranged.1 ∈ zCW := zsel 81 (y := mM_ranged.1) (n := 59) (by decide +kernel) rfl
theorem sM_numeral : Cond.selects mM_numeral.1.cls mM_numeral.1 mM_numeral.1 ∈ zCW := zsel 82 (y := mM_numeral.1) (n := 59) (by decide +kernel) rfl
theorem sM_end : Cond.selects mM_end.1.cls mM_end.1 mM_end.1 ∈ zCW := zsel 83 (y := mM_end.1) (n := 59) (by decide +kernel) rfl
theorem sM_component : Cond.selects mM_component.1.cls mM_component.1 mM_component.1 ∈ zCW := zsel 84 (y := mM_component.1) (n := 59) (by decide +kernel) rfl
theorem sM_unwrap : Cond.selects mM_unwrap.1.cls mM_unwrap.1 mM_unwrap.1 ∈ zCW := zsel 85 (y := mM_unwrap.1) (n := 59) (by decide +kernel) rfl
theorem sM_clashes : Cond.selects mM_clashes.1.cls mM_clashes.1 mM_clashes.1 ∈ zCW := zsel 86 (y := mM_clashes.1) (n := 59) (by decide +kernel) rfl
theorem sM_asked : Cond.selects mM_asked.1.cls mM_asked.1 mM_asked.1 ∈ zCW := zsel 87 (y := mM_asked.1) (n := 59) (by decide +kernel) rfl
theorem sM_typeOf : Cond.selects mM_typeOf.1.cls mM_typeOf.1 mM_typeOf.1 ∈ zCW := zsel 88 (y := mM_typeOf.1) (n := 59) (by decide +kernel) rfl
theorem sM_load : Cond.selects mM_load.1.cls mM_load.1 mM_load.1 ∈ zCW := zsel 89 (y := mM_load.1) (n := 59) (by decide +kernel) rfl
theorem sM_isValue : Cond.selects mM_isValue.1.cls mM_isValue.1 mM_isValue.1 ∈ zCW := zsel 90 (y := mM_isValue.1) (n := 59) (by decide +kernel) rfl
theorem sM_element : Cond.selects mM_element.1.cls mM_element.1 mM_element.1 ∈ zCW := zsel 91 (y := mM_element.1) (n := 59) (by decide +kernel) rfl
theorem sM_next : Cond.selects mM_next.1.cls mM_next.1 mM_next.1 ∈ zCW := zsel 92 (y := mM_next.1) (n := 59) (by decide +kernel) rfl
theorem sM_bound : Cond.selects mM_bound.1.cls mM_bound.1 mM_bound.1 ∈ zCW := zsel 93 (y := mM_bound.1) (n := 59) (by decide +kernel) rfl
theorem sM_enter : Cond.selects mM_enter.1.cls mM_enter.1 mM_enter.1 ∈ zCW := zsel 94 (y := mM_enter.1) (n := 59) (by decide +kernel) rfl
theorem sM_length : Cond.selects mM_length.1.cls mM_length.1 mM_length.1 ∈ zCW := zsel 95 (y := mM_length.1) (n := 59) (by decide +kernel) rfl
theorem sM_frame : Cond.selects mM_frame.1.cls mM_frame.1 mM_frame.1 ∈ zCW := zsel 96 (y := mM_frame.1) (n := 59) (by decide +kernel) rfl
theorem sM_adds : Cond.selects mM_adds.1.cls mM_adds.1 mM_adds.1 ∈ zCW := zsel 97 (y := mM_adds.1) (n := 59) (by decide +kernel) rfl
theorem sM_inner : Cond.selects mM_inner.1.cls mM_inner.1 mM_inner.1 ∈ zCW := zsel 98 (y := mM_inner.1) (n := 59) (by decide +kernel) rfl
theorem sM_want : Cond.selects mM_want.1.cls mM_want.1 mM_want.1 ∈ zCW := zsel 99 (y := mM_want.1) (n := 59) (by decide +kernel) rfl
theorem sM_ranging : Cond.selects mM_ranging.1.cls mM_ranging.1 mM_ranging.1 ∈ zCW := zsel 100 (y := mM_ranging.1) (n := 59) (by decide +kernel) rfl
theorem sM_align : Cond.selects mM_align.1.cls mM_align.1 mM_align.1 ∈ zCW := zsel 101 (y := mM_align.1) (n := 59) (by decide +kernel) rfl
theorem sM_some : Cond.selects mM_some.1.cls mM_some.1 mM_some.1 ∈ zCW := zsel 102 (y := mM_some.1) (n := 59) (by decide +kernel) rfl
theorem sM_bit : Cond.selects mM_bit.1.cls mM_bit.1 mM_bit.1 ∈ zCW := zsel 103 (y := mM_bit.1) (n := 59) (by decide +kernel) rfl
theorem sM_rank : Cond.selects mM_rank.1.cls mM_rank.1 mM_rank.1 ∈ zCW := zsel 104 (y := mM_rank.1) (n := 59) (by decide +kernel) rfl
theorem sM_counted : Cond.selects mM_counted.1.cls mM_counted.1 mM_counted.1 ∈ zCW := zsel 105 (y := mM_counted.1) (n := 59) (by decide +kernel) rfl
theorem sM_goOn : Cond.selects mM_goOn.1.cls mM_goOn.1 mM_goOn.1 ∈ zCW := zsel 106 (y := mM_goOn.1) (n := 59) (by decide +kernel) rfl
theorem sM_isEnd : Cond.selects mM_isEnd.1.cls mM_isEnd.1 mM_isEnd.1 ∈ zCW := zsel 107 (y := mM_isEnd.1) (n := 59) (by decide +kernel) rfl
theorem sM_baseOf : Cond.selects mM_baseOf.1.cls mM_baseOf.1 mM_baseOf.1 ∈ zCW := zsel 108 (y := mM_baseOf.1) (n := 59) (by decide +kernel) rfl
theorem sM_leaveFrame : Cond.selects mM_leaveFrame.1.cls mM_leaveFrame.1 mM_leaveFrame.1 ∈ zCW := zsel 109 (y := mM_leaveFrame.1) (n := 59) (by decide +kernel) rfl
theorem sM_absent : Cond.selects mM_absent.1.cls mM_absent.1 mM_absent.1 ∈ zCW := zsel 110 (y := mM_absent.1) (n := 59) (by decide +kernel) rfl
theorem sM_goOnPacked : Cond.selects mM_goOnPacked.1.cls mM_goOnPacked.1 mM_goOnPacked.1 ∈ zCW := zsel 111 (y := mM_goOnPacked.1) (n := 59) (by decide +kernel) rfl
theorem sM_settle : Cond.selects mM_settle.1.cls mM_settle.1 mM_settle.1 ∈ zCW := zsel 112 (y := mM_settle.1) (n := 59) (by decide +kernel) rfl
theorem sM_write : Cond.selects mM_write.1.cls mM_write.1 mM_write.1 ∈ zCW := zsel 113 (y := mM_write.1) (n := 59) (by decide +kernel) rfl
theorem sM_isLeft : Cond.selects mM_isLeft.1.cls mM_isLeft.1 mM_isLeft.1 ∈ zCW := zsel 114 (y := mM_isLeft.1) (n := 59) (by decide +kernel) rfl
theorem sM_encode : Cond.selects mM_encode.1.cls mM_encode.1 mM_encode.1 ∈ zCW := zsel 115 (y := mM_encode.1) (n := 59) (by decide +kernel) rfl
theorem sM_make : Cond.selects mM_make.1.cls mM_make.1 mM_make.1 ∈ zCW := zsel 116 (y := mM_make.1) (n := 59) (by decide +kernel) rfl
theorem sM_packed : Cond.selects mM_packed.1.cls mM_packed.1 mM_packed.1 ∈ zCW := zsel 117 (y := mM_packed.1) (n := 59) (by decide +kernel) rfl
theorem sM_bring : Cond.selects mM_bring.1.cls mM_bring.1 mM_bring.1 ∈ zCW := zsel 118 (y := mM_bring.1) (n := 59) (by decide +kernel) rfl
theorem sM_bringCount : Cond.selects mM_bringCount.1.cls mM_bringCount.1 mM_bringCount.1 ∈ zCW := zsel 119 (y := mM_bringCount.1) (n := 59) (by decide +kernel) rfl
theorem sM_fill : Cond.selects mM_fill.1.cls mM_fill.1 mM_fill.1 ∈ zCW := zsel 120 (y := mM_fill.1) (n := 59) (by decide +kernel) rfl
theorem sM_bringOf : Cond.selects mM_bringOf.1.cls mM_bringOf.1 mM_bringOf.1 ∈ zCW := zsel 121 (y := mM_bringOf.1) (n := 59) (by decide +kernel) rfl
theorem sM_marks : Cond.selects mM_marks.1.cls mM_marks.1 mM_marks.1 ∈ zCW := zsel 122 (y := mM_marks.1) (n := 59) (by decide +kernel) rfl
theorem sM_fails : Cond.selects mM_fails.1.cls mM_fails.1 mM_fails.1 ∈ zCW := zsel 123 (y := mM_fails.1) (n := 59) (by decide +kernel) rfl
theorem sM_keep : Cond.selects mM_keep.1.cls mM_keep.1 mM_keep.1 ∈ zCW := zsel 124 (y := mM_keep.1) (n := 59) (by decide +kernel) rfl
theorem sM_reply : Cond.selects mM_reply.1.cls mM_reply.1 mM_reply.1 ∈ zCW := zsel 125 (y := mM_reply.1) (n := 59) (by decide +kernel) rfl
end
section
/-! MORE ROWS: booleans, library functions, locals without a long beside them; what memory holds behind a write -/
theorem z_cr (r : Option Nat) : (va_rf r).category = 1 := by cases r <;> rfl
theorem z_flt {lv : List (Nat × Value)} {i : Nat} (hcat : ∀ e ∈ lv, e.1 + 1 = i → e.2.category = 1) : lv.filter (fun q => !(q.1 == i) && !(q.1 + 1 == i && q.2.category == 2)) = lv.filter (fun q => !(q.1 == i)) := by
  apply List.filter_congr
  intro e he
  by_cases h : e.1 + 1 = i
  · have := hcat e he h
    simp [h, this]
  · simp [h]
section ZM1
variable {g : zg} {d : Nat} {y : zm} {post : zR → zM → Prop} {M : zM} {pc : Nat} {lv lv' : List (Nat × Value)} {st : List Value}
theorem zi_istC_n {i : Fin 4} {x : Int32} (hd : decode y.2.1 pc = .ok (.istore_n i, 1)) (hn : (i : Nat) < y.2.2.1) (hcat : ∀ e ∈ lv, e.1 + 1 = (i : Nat) → e.2.category = 1) (hf : ((i : Nat), Value.int x) :: lv.filter (fun q => !(q.1 == (i : Nat))) = lv') (k : zG g d y post M (pc + 1) lv' st) : zG g d y post M pc lv (.int x :: st) := zi_istore_n hd hn (by rw [z_flt hcat]; exact hf) k
theorem zi_istC {i : Nat} {x : Int32} (hd : decode y.2.1 pc = .ok (.istore i, 2)) (hn : i < y.2.2.1) (hcat : ∀ e ∈ lv, e.1 + 1 = i → e.2.category = 1) (hf : (i, Value.int x) :: lv.filter (fun q => !(q.1 == i)) = lv') (k : zG g d y post M (pc + 2) lv' st) : zG g d y post M pc lv (.int x :: st) := zi_istore hd hn (by rw [z_flt hcat]; exact hf) k
theorem zi_astC_n {i : Fin 4} {x : Option Nat} (hd : decode y.2.1 pc = .ok (.astore_n i, 1)) (hn : (i : Nat) < y.2.2.1) (hcat : ∀ e ∈ lv, e.1 + 1 = (i : Nat) → e.2.category = 1) (hf : ((i : Nat), va_rf x) :: lv.filter (fun q => !(q.1 == (i : Nat))) = lv') (k : zG g d y post M (pc + 1) lv' st) : zG g d y post M pc lv (va_rf x :: st) := zi_astore_n hd hn (by rw [z_flt hcat]; exact hf) k
theorem zi_astC {i : Nat} {x : Option Nat} (hd : decode y.2.1 pc = .ok (.astore i, 2)) (hn : i < y.2.2.1) (hcat : ∀ e ∈ lv, e.1 + 1 = i → e.2.category = 1) (hf : (i, va_rf x) :: lv.filter (fun q => !(q.1 == i)) = lv') (k : zG g d y post M (pc + 2) lv' st) : zG g d y post M pc lv (va_rf x :: st) := zi_astore hd hn (by rw [z_flt hcat]; exact hf) k
theorem zi_iincC {i : Nat} {n : Int} {x v : Int32} (q : Nat) (hd : decode y.2.1 pc = .ok (.iinc i n, 3)) (hq : lv[q]? = some (i, .int x)) (hv : x + Int32.ofInt n = v) (hn : i < y.2.2.1) (hcat : ∀ e ∈ lv, e.1 + 1 = i → e.2.category = 1) (hf : (i, Value.int v) :: lv.filter (fun q => !(q.1 == i)) = lv') (k : zG g d y post M (pc + 3) lv' st) : zG g d y post M pc lv st := zi_iinc q hd hq hv hn (by rw [z_flt hcat]; exact hf) k
theorem zi_getR {a i ci k x : Nat} {ty : FieldType} {fin : Bool} (hs : zsh M a = some (.inl ci)) (hf : z_fl y.1.cls i ci k 1 ty fin) (hr : zr M a k = some x) (hd : decode y.2.1 pc = .ok (.getfield i, 3)) (kk : zG g d y post M (pc + 3) lv (va_rf (some x) :: st)) : zG g d y post M pc lv (va_rf (some a) :: st) := zi_getr hs hf hd (by rw [hr]; exact kk)
theorem zi_zald {a t n : Nat} {i : Int32} (hs : zsh M a = some (.inr (t, n))) (ht : zAT[t]? = some .boolean) (hi : vp_in i n) (hd : decode y.2.1 pc = .ok (.baload, 1)) (kk : zG g d y post M (pc + 1) lv (.int (zi M a i.toNatClampNeg) :: st)) : zG g d y post M pc lv (.int i :: va_rf (some a) :: st) := by
  intro p e R s m args below meth c Q H locs ls hc hM hS hl hz
  exact va_zald hc.1.1 hc.1.2.1 hc.2.1.1 (z_arrP hM hc.2.1 hs ht) 0 t rfl (z_ty hc.2.1 ht).1 hi hd (kk p e R s m args below meth c Q H locs ls hc hM hS hl hz)
theorem zi_zast {a t n : Nat} {i x : Int32} (hs : zsh M a = some (.inr (t, n))) (ht : zAT[t]? = some .boolean) (hi : vp_in i n) (hx : narrow .boolean (.int x) = .int x) (hd : decode y.2.1 pc = .ok (.bastore, 1)) (kk : zG g d y post (zpi M a i.toNatClampNeg x) (pc + 1) lv st) : zG g d y post M pc lv (.int x :: .int i :: va_rf (some a) :: st) := by
  intro p e R s m args below meth c Q H locs ls hc hM hS hl hz
  refine W.zast hc.1.1 hc.1.2.1 (z_arr hM hc.2.1 hs ht) ((hc.2.1.1.2 t _ (z_ty hc.2.1 ht).1).1 n (fun j => .int (zi M a j))) (fun q => by cases q) (by show ¬ (i < 0 ∨ (arrV _ _ _).slots.size ≤ _); rw [arrV_size]; exact hi) rfl rfl hd fun H1 e1 z oq => ?_
  rw [hx] at e1
  exact z_tight (fun hz => kk p e R s m args below meth c Q H1 _ ls hc (z_put_a hM hc.2.1 hs ht (zdiff_i M a _ x) (fun _ => rfl) (fun _ => rfl) (z_updi M a _ x) e1 z oq) (hS.put z oq (hM.2 a _ hs).1) hl hz)
theorem zi_lcmp {x z : Int64} (hd : decode y.2.1 pc = .ok (.lcmp, 1)) (k : zG g d y post M (pc + 1) lv (.int (lg_cmp x z) :: st)) : zG g d y post M pc lv (.long z :: .long x :: st) := by
  intro p e R s m args below meth c Q H locs ls hc hM hS hl hz
  exact W.lcmp hc.1.1 hc.1.2.1 hd (k p e R s m args below meth c Q H locs ls hc hM hS hl hz)
theorem zi_lshr {x : Int64} {z : Int32} (hd : decode y.2.1 pc = .ok (.lshr, 1)) (k : zG g d y post M (pc + 1) lv (.long (x >>> (z.toInt64 &&& 63)) :: st)) : zG g d y post M pc lv (.int z :: .long x :: st) := by
  intro p e R s m args below meth c Q H locs ls hc hM hS hl hz
  exact lv_lshr hc.1.1 hc.1.2.1 hd rfl (k p e R s m args below meth c Q H locs ls hc hM hS hl hz)
theorem zi_ldcw {i : Nat} {v : Int32} (hw : Cond.constant y.1.cls i v ∈ zCW) (hd : decode y.2.1 pc = .ok (.ldc_w i, 3)) (k : zG g d y post M (pc + 3) lv (.int v :: st)) : zG g d y post M pc lv st := by
  intro p e R s m args below meth c Q H locs ls hc hM hS hl hz
  exact lv_ldcw hc.1.1 hc.1.2.1 hc.1.2.2.2.1 (hc.1.2.2.2.2.1 _ hw) hd (k p e R s m args below meth c Q H locs ls hc hM hS hl hz)
theorem zi_mmin {i : Nat} {x z : Int32} (h1 : Cond.methodLink y.1.cls i Lib.Math.min.name ∈ zCW) (h2 : Cond.static Lib.Math.min.name ∈ zCW) (h3 : Cond.initialized "java/lang/Math" ∈ zCW) (h4 : Cond.code Lib.Math.min.name Lib.Math.min.code 2 (some .int) ∈ zCW) (hd0 : 1 ≤ d) (hst : st.length ≤ 4) (hd : decode y.2.1 pc = .ok (.invokestatic i, 3)) (k : zG g d y post M (pc + 3) lv (.int (if z < x then z else x) :: st)) : zG g d y post M pc lv (.int z :: .int x :: st) := by
  intro p e R s m args below meth c Q H locs ls hc hM hS hl hz
  have hts := hc.1.2.2.2.2.1
  have hwt := z_weight st
  have a1 := hc.2.2.1.1
  have a2 := hc.2.2.1.2.1
  have a3 := hc.2.2.1.2.2.1
  have a4 := hc.2.2.1.2.2.2
  have b1 := hM.1.1
  have b2 := hM.1.2.1
  have b3 := hM.1.2.2.1
  have b4 := hM.1.2.2.2
  have hS1 := hS.1
  exact va_mmin hc.1.1 hc.1.2.1 (hc.1.2.2.1.trans hl.1.symm) hc.1.2.2.2.1 (hts _ h1) (hts _ h2) (hts _ h3) (hts _ h4) (by omega) (by omega) (by omega) (by omega) hd (k p e R s m args below meth c Q H locs ls hc hM hS hl hz)
theorem zi_mmax {i : Nat} {x z : Int32} (h1 : Cond.methodLink y.1.cls i Lib.Math.max.name ∈ zCW) (h2 : Cond.static Lib.Math.max.name ∈ zCW) (h3 : Cond.initialized "java/lang/Math" ∈ zCW) (h4 : Cond.code Lib.Math.max.name Lib.Math.max.code 2 (some .int) ∈ zCW) (hd0 : 1 ≤ d) (hst : st.length ≤ 4) (hd : decode y.2.1 pc = .ok (.invokestatic i, 3)) (k : zG g d y post M (pc + 3) lv (.int (if x < z then z else x) :: st)) : zG g d y post M pc lv (.int z :: .int x :: st) := by
  intro p e R s m args below meth c Q H locs ls hc hM hS hl hz
  have hts := hc.1.2.2.2.2.1
  have hwt := z_weight st
  have a1 := hc.2.2.1.1
  have a2 := hc.2.2.1.2.1
  have a3 := hc.2.2.1.2.2.1
  have a4 := hc.2.2.1.2.2.2
  have b1 := hM.1.1
  have b2 := hM.1.2.1
  have b3 := hM.1.2.2.1
  have b4 := hM.1.2.2.2
  have hS1 := hS.1
  exact va_mmax hc.1.1 hc.1.2.1 (hc.1.2.2.1.trans hl.1.symm) hc.1.2.2.2.1 (hts _ h1) (hts _ h2) (hts _ h3) (hts _ h4) (by omega) (by omega) (by omega) (by omega) hd (k p e R s m args below meth c Q H locs ls hc hM hS hl hz)
/-- the law's script is read -/
theorem zi_sld {i : Int32} (hi : vp_in i g.sn) (hd : decode y.2.1 pc = .ok (.iaload, 1)) (k : zG g d y post M (pc + 1) lv (.int (g.sx i.toNatClampNeg) :: st)) : zG g d y post M pc lv (.int i :: va_rf (some g.sb) :: st) := by
  intro p e R s m args below meth c Q H locs ls hc hM hS hl hz
  obtain ⟨-, -, -, -, h5, h6, h7⟩ := hc.2.1
  exact va_sld hc.1.1 hc.1.2.1 h5 h6 h7 hS hi hd (k p e R s m args below meth c Q H locs ls hc hM hS hl hz)
theorem zi_slen (hd : decode y.2.1 pc = .ok (.arraylength, 1)) (k : zG g d y post M (pc + 1) lv (.int (nI g.sn) :: st)) : zG g d y post M pc lv (va_rf (some g.sb) :: st) := by
  intro p e R s m args below meth c Q H locs ls hc hM hS hl hz
  obtain ⟨-, -, -, -, h5, h6, h7⟩ := hc.2.1
  exact va_slen hc.1.1 hc.1.2.1 h5 h6 h7 hS hd (k p e R s m args below meth c Q H locs ls hc hM hS hl hz)
end ZM1
/-! what memory holds behind a write -/
theorem zi_pi (M : zM) (a k b j : Nat) (v : Int32) : zi (zpi M a k v) b j = if b = a ∧ j = k then v else zi M b j := zu_at _ _ _ _ _ _
theorem zr_pr (M : zM) (a k b j : Nat) (v : Option Nat) : zr (zpr M a k v) b j = if b = a ∧ j = k then v else zr M b j := zu_at _ _ _ _ _ _
theorem zl_pl (M : zM) (a k b j : Nat) (v : Int64) : zl (zpl M a k v) b j = if b = a ∧ j = k then v else zl M b j := zu_at _ _ _ _ _ _
theorem zi_pr (M : zM) (a k : Nat) (v : Option Nat) : zi (zpr M a k v) = zi M := rfl
theorem zi_pl (M : zM) (a k : Nat) (v : Int64) : zi (zpl M a k v) = zi M := rfl
theorem zr_pi (M : zM) (a k : Nat) (v : Int32) : zr (zpi M a k v) = zr M := rfl
theorem zr_pl (M : zM) (a k : Nat) (v : Int64) : zr (zpl M a k v) = zr M := rfl
theorem zl_pi (M : zM) (a k : Nat) (v : Int32) : zl (zpi M a k v) = zl M := rfl
theorem zl_pr (M : zM) (a k : Nat) (v : Option Nat) : zl (zpr M a k v) = zl M := rfl
theorem zsh_pi (M : zM) (a k : Nat) (v : Int32) : zsh (zpi M a k v) = zsh M := rfl
theorem zsh_pr (M : zM) (a k : Nat) (v : Option Nat) : zsh (zpr M a k v) = zsh M := rfl
theorem zsh_pl (M : zM) (a k : Nat) (v : Int64) : zsh (zpl M a k v) = zsh M := rfl
theorem zsz_pi (M : zM) (a k : Nat) (v : Int32) : zsz (zpi M a k v) = zsz M := rfl
theorem zsz_pr (M : zM) (a k : Nat) (v : Option Nat) : zsz (zpr M a k v) = zsz M := rfl
theorem zsz_pl (M : zM) (a k : Nat) (v : Int64) : zsz (zpl M a k v) = zsz M := rfl
theorem zsl_pi (M : zM) (a k : Nat) (v : Int32) : zsl (zpi M a k v) = zsl M := rfl
theorem zsl_pr (M : zM) (a k : Nat) (v : Option Nat) : zsl (zpr M a k v) = zsl M := rfl
theorem zsl_pl (M : zM) (a k : Nat) (v : Int64) : zsl (zpl M a k v) = zsl M := rfl
theorem zsh_nw (M : zM) (sh : Nat ⊕ Nat × Nat) (n a : Nat) : zsh (znew M sh n) a = if a = zsz M then some sh else zsh M a := rfl
theorem zi_nw (M : zM) (sh : Nat ⊕ Nat × Nat) (n a j : Nat) : zi (znew M sh n) a j = if a = zsz M then 0 else zi M a j := by
  simp only [znew, zi]
  split <;> rfl
theorem zl_nw (M : zM) (sh : Nat ⊕ Nat × Nat) (n a j : Nat) : zl (znew M sh n) a j = if a = zsz M then 0 else zl M a j := by
  simp only [znew, zl]
  split <;> rfl
theorem zr_nw (M : zM) (sh : Nat ⊕ Nat × Nat) (n a j : Nat) : zr (znew M sh n) a j = if a = zsz M then none else zr M a j := by
  simp only [znew, zr]
  split <;> rfl
theorem zsz_nw (M : zM) (sh : Nat ⊕ Nat × Nat) (n : Nat) : zsz (znew M sh n) = zsz M + 1 := rfl
theorem zsl_nw (M : zM) (sh : Nat ⊕ Nat × Nat) (n : Nat) : zsl (znew M sh n) = zsl M + n := rfl
end
section
/-! CALLS: contracts by what is answered (an int, nothing, a reference), and a row for each number of arguments -/
def zEi (g : zg) (d : Nat) (y : zm) (av : List Value) (M : zM) (post : Int32 → zM → Prop) : Prop := zE g d y av M (fun v M1 => ∃ r : Int32, v = some (.int r) ∧ post r M1)
def zEv (g : zg) (d : Nat) (y : zm) (av : List Value) (M : zM) (post : zM → Prop) : Prop := zE g d y av M (fun v M1 => v = none ∧ post M1)
def zEr (g : zg) (d : Nat) (y : zm) (av : List Value) (M : zM) (post : Option Nat → zM → Prop) : Prop := zE g d y av M (fun v M1 => ∃ r : Option Nat, v = some (va_rf r) ∧ post r M1)
/-- what a walk ends in, by what is answered -/
def zPi (post : Int32 → zM → Prop) : zR → zM → Prop := fun q M1 => ∃ r : Int32, q = .inl (some (.int r)) ∧ post r M1
def zPv (post : zM → Prop) : zR → zM → Prop := fun q M1 => q = .inl none ∧ post M1
def zPr (post : Option Nat → zM → Prop) : zR → zM → Prop := fun q M1 => ∃ r : Option Nat, q = .inl (some (va_rf r)) ∧ post r M1
/-- locals at the entry, where no argument is a long -/
def zlv : Nat → List Value → List (Nat × Value)
  | _, [] => []
  | i, v :: vs => (i, v) :: zlv (i + 1) vs
theorem zlv_eq : ∀ (av : List Value) (i : Nat), (∀ v ∈ av, v.category = 1) → lv_args i av = zlv i av := by
  intro av
  induction av with
  | nil => intro i _; rfl
  | cons v t ih =>
    intro i h
    have h1 := h v List.mem_cons_self
    simp only [lv_args, zlv]
    rw [if_neg (by omega), ih _ (fun w hw => h w (List.mem_cons_of_mem _ hw))]
theorem zlv_len : ∀ (av : List Value), (∀ v ∈ av, v.category = 1) → (lg_sl av).length = av.length := by
  intro av
  induction av with
  | nil => intro _; rfl
  | cons v t ih =>
    intro h
    have h1 := h v List.mem_cons_self
    have h2 := ih (fun w hw => h w (List.mem_cons_of_mem _ hw))
    simp only [lg_sl, List.flatMap_cons, List.length_append, List.length_cons] at h2 ⊢
    rw [if_neg (by omega)]
    simp only [List.length_cons, List.length_nil]
    omega
theorem zG_mono {g : zg} {d : Nat} {y : zm} {p1 p2 : zR → zM → Prop} {M : zM} {pc : Nat} {lv : List (Nat × Value)} {st : List Value} (h : ∀ r M1, p1 r M1 → p2 r M1) (k : zG g d y p1 M pc lv st) : zG g d y p2 M pc lv st := by
  intro p e R s m args below meth c Q H locs ls hc hM hS hl hz
  refine k p e R s m args below meth c Q H locs ls ⟨hc.1, hc.2.1, hc.2.2.1, hc.2.2.2.1, fun t o r M1 L a1 a2 a3 a4 a5 a6 a7 => hc.2.2.2.2 t o r M1 L a1 a2 a3 a4 a5 a6 (h r M1 a7)⟩ hM hS hl hz
theorem zEi_of {g : zg} {d : Nat} {y : zm} {av : List Value} {M : zM} {post : Int32 → zM → Prop} {lv : List (Nat × Value)} (hy : zmok y) (hc : ∀ v ∈ av, v.category = 1) (hlen : av.length ≤ y.2.2.1) (hlv : zlv 0 av = lv) (h : zG g d y (zPi post) M 0 lv []) : zEi g d y av M post :=
  zE_of hy (by rw [zlv_len av hc]; exact hlen) (by rw [zlv_eq av 0 hc]; exact hlv) (zG_mono (fun r M1 q => by obtain ⟨x, h1, h2⟩ := q; exact ⟨_, h1, x, rfl, h2⟩) h)
theorem zEv_of {g : zg} {d : Nat} {y : zm} {av : List Value} {M : zM} {post : zM → Prop} {lv : List (Nat × Value)} (hy : zmok y) (hc : ∀ v ∈ av, v.category = 1) (hlen : av.length ≤ y.2.2.1) (hlv : zlv 0 av = lv) (h : zG g d y (zPv post) M 0 lv []) : zEv g d y av M post :=
  zE_of hy (by rw [zlv_len av hc]; exact hlen) (by rw [zlv_eq av 0 hc]; exact hlv) (zG_mono (fun r M1 q => by obtain ⟨h1, h2⟩ := q; exact ⟨_, h1, rfl, h2⟩) h)
theorem zEr_of {g : zg} {d : Nat} {y : zm} {av : List Value} {M : zM} {post : Option Nat → zM → Prop} {lv : List (Nat × Value)} (hy : zmok y) (hc : ∀ v ∈ av, v.category = 1) (hlen : av.length ≤ y.2.2.1) (hlv : zlv 0 av = lv) (h : zG g d y (zPr post) M 0 lv []) : zEr g d y av M post :=
  zE_of hy (by rw [zlv_len av hc]; exact hlen) (by rw [zlv_eq av 0 hc]; exact hlv) (zG_mono (fun r M1 q => by obtain ⟨x, h1, h2⟩ := q; exact ⟨_, h1, x, rfl, h2⟩) h)
theorem zi_cVi0 {g : zg} {d d1 : Nat} {y y1 : zm} {post : zR → zM → Prop} {M : zM} {pc : Nat} {lv : List (Nat × Value)} {st : List Value} {i : Nat} {ci b N : Nat} {T : u_T} {post1 : Int32 → zM → Prop} (hE : zEi g d1 y1 (va_rf (some b) :: []) M post1) (hw : z_mw y1 0) (hlk : Cond.methodLink y.1.cls i y1.1 ∈ zCW) (him : Cond.instanceMethod y1.1 ∈ zCW) (hsel : Cond.selects y1.1.cls y1.1 y1.1 ∈ zCW) (hd1 : d1 + 1 ≤ d) (hs : zsh M b = some (.inl ci)) (hcl : zcl[ci]? = some (y1.1.cls, T, N)) (hst : st.length ≤ 4) (hd : decode y.2.1 pc = .ok (.invokevirtual i, 3)) (kk : ∀ (r : Int32) (M1 : zM), post1 r M1 → zG g d y post M1 (pc + 3) lv (.int r :: st)) : zG g d y post M pc lv (va_rf (some b) :: st) := zi_callV (As := []) hE hw hlk him hsel hd1 hs hcl rfl hst hd (fun v M1 h => by obtain ⟨r, rfl, h⟩ := h; exact kk r M1 h)
theorem zi_cSi0 {g : zg} {d d1 : Nat} {y y1 : zm} {post : zR → zM → Prop} {M : zM} {pc : Nat} {lv : List (Nat × Value)} {st : List Value} {i : Nat} {post1 : Int32 → zM → Prop} (hE : zEi g d1 y1 [] M post1) (hw : z_mw y1 0) (hlk : Cond.methodLink y.1.cls i y1.1 ∈ zCW) (hstt : Cond.static y1.1 ∈ zCW) (hd1 : d1 + 1 ≤ d) (hst : st.length ≤ 4) (hd : decode y.2.1 pc = .ok (.invokestatic i, 3)) (kk : ∀ (r : Int32) (M1 : zM), post1 r M1 → zG g d y post M1 (pc + 3) lv (.int r :: st)) : zG g d y post M pc lv (st) := zi_callS (As := []) hE hw hlk hstt hd1 rfl hst hd (fun v M1 h => by obtain ⟨r, rfl, h⟩ := h; exact kk r M1 h)
theorem zi_cVi1 {g : zg} {d d1 : Nat} {y y1 : zm} {post : zR → zM → Prop} {M : zM} {pc : Nat} {lv : List (Nat × Value)} {st : List Value} {i : Nat} {ci b N : Nat} {T : u_T} {x1 : Value} {post1 : Int32 → zM → Prop} (hE : zEi g d1 y1 (va_rf (some b) :: [x1]) M post1) (hw : z_mw y1 1) (hlk : Cond.methodLink y.1.cls i y1.1 ∈ zCW) (him : Cond.instanceMethod y1.1 ∈ zCW) (hsel : Cond.selects y1.1.cls y1.1 y1.1 ∈ zCW) (hd1 : d1 + 1 ≤ d) (hs : zsh M b = some (.inl ci)) (hcl : zcl[ci]? = some (y1.1.cls, T, N)) (hst : st.length ≤ 4) (hd : decode y.2.1 pc = .ok (.invokevirtual i, 3)) (kk : ∀ (r : Int32) (M1 : zM), post1 r M1 → zG g d y post M1 (pc + 3) lv (.int r :: st)) : zG g d y post M pc lv (x1 :: va_rf (some b) :: st) := zi_callV (As := [x1]) hE hw hlk him hsel hd1 hs hcl rfl hst hd (fun v M1 h => by obtain ⟨r, rfl, h⟩ := h; exact kk r M1 h)
theorem zi_cSi1 {g : zg} {d d1 : Nat} {y y1 : zm} {post : zR → zM → Prop} {M : zM} {pc : Nat} {lv : List (Nat × Value)} {st : List Value} {i : Nat} {x1 : Value} {post1 : Int32 → zM → Prop} (hE : zEi g d1 y1 [x1] M post1) (hw : z_mw y1 1) (hlk : Cond.methodLink y.1.cls i y1.1 ∈ zCW) (hstt : Cond.static y1.1 ∈ zCW) (hd1 : d1 + 1 ≤ d) (hst : st.length ≤ 4) (hd : decode y.2.1 pc = .ok (.invokestatic i, 3)) (kk : ∀ (r : Int32) (M1 : zM), post1 r M1 → zG g d y post M1 (pc + 3) lv (.int r :: st)) : zG g d y post M pc lv (x1 :: st) := zi_callS (As := [x1]) hE hw hlk hstt hd1 rfl hst hd (fun v M1 h => by obtain ⟨r, rfl, h⟩ := h; exact kk r M1 h)
theorem zi_cVi2 {g : zg} {d d1 : Nat} {y y1 : zm} {post : zR → zM → Prop} {M : zM} {pc : Nat} {lv : List (Nat × Value)} {st : List Value} {i : Nat} {ci b N : Nat} {T : u_T} {x1 x2 : Value} {post1 : Int32 → zM → Prop} (hE : zEi g d1 y1 (va_rf (some b) :: [x1, x2]) M post1) (hw : z_mw y1 2) (hlk : Cond.methodLink y.1.cls i y1.1 ∈ zCW) (him : Cond.instanceMethod y1.1 ∈ zCW) (hsel : Cond.selects y1.1.cls y1.1 y1.1 ∈ zCW) (hd1 : d1 + 1 ≤ d) (hs : zsh M b = some (.inl ci)) (hcl : zcl[ci]? = some (y1.1.cls, T, N)) (hst : st.length ≤ 4) (hd : decode y.2.1 pc = .ok (.invokevirtual i, 3)) (kk : ∀ (r : Int32) (M1 : zM), post1 r M1 → zG g d y post M1 (pc + 3) lv (.int r :: st)) : zG g d y post M pc lv (x2 :: x1 :: va_rf (some b) :: st) := zi_callV (As := [x1, x2]) hE hw hlk him hsel hd1 hs hcl rfl hst hd (fun v M1 h => by obtain ⟨r, rfl, h⟩ := h; exact kk r M1 h)
theorem zi_cSi2 {g : zg} {d d1 : Nat} {y y1 : zm} {post : zR → zM → Prop} {M : zM} {pc : Nat} {lv : List (Nat × Value)} {st : List Value} {i : Nat} {x1 x2 : Value} {post1 : Int32 → zM → Prop} (hE : zEi g d1 y1 [x1, x2] M post1) (hw : z_mw y1 2) (hlk : Cond.methodLink y.1.cls i y1.1 ∈ zCW) (hstt : Cond.static y1.1 ∈ zCW) (hd1 : d1 + 1 ≤ d) (hst : st.length ≤ 4) (hd : decode y.2.1 pc = .ok (.invokestatic i, 3)) (kk : ∀ (r : Int32) (M1 : zM), post1 r M1 → zG g d y post M1 (pc + 3) lv (.int r :: st)) : zG g d y post M pc lv (x2 :: x1 :: st) := zi_callS (As := [x1, x2]) hE hw hlk hstt hd1 rfl hst hd (fun v M1 h => by obtain ⟨r, rfl, h⟩ := h; exact kk r M1 h)
theorem zi_cVi3 {g : zg} {d d1 : Nat} {y y1 : zm} {post : zR → zM → Prop} {M : zM} {pc : Nat} {lv : List (Nat × Value)} {st : List Value} {i : Nat} {ci b N : Nat} {T : u_T} {x1 x2 x3 : Value} {post1 : Int32 → zM → Prop} (hE : zEi g d1 y1 (va_rf (some b) :: [x1, x2, x3]) M post1) (hw : z_mw y1 3) (hlk : Cond.methodLink y.1.cls i y1.1 ∈ zCW) (him : Cond.instanceMethod y1.1 ∈ zCW) (hsel : Cond.selects y1.1.cls y1.1 y1.1 ∈ zCW) (hd1 : d1 + 1 ≤ d) (hs : zsh M b = some (.inl ci)) (hcl : zcl[ci]? = some (y1.1.cls, T, N)) (hst : st.length ≤ 4) (hd : decode y.2.1 pc = .ok (.invokevirtual i, 3)) (kk : ∀ (r : Int32) (M1 : zM), post1 r M1 → zG g d y post M1 (pc + 3) lv (.int r :: st)) : zG g d y post M pc lv (x3 :: x2 :: x1 :: va_rf (some b) :: st) := zi_callV (As := [x1, x2, x3]) hE hw hlk him hsel hd1 hs hcl rfl hst hd (fun v M1 h => by obtain ⟨r, rfl, h⟩ := h; exact kk r M1 h)
theorem zi_cSi3 {g : zg} {d d1 : Nat} {y y1 : zm} {post : zR → zM → Prop} {M : zM} {pc : Nat} {lv : List (Nat × Value)} {st : List Value} {i : Nat} {x1 x2 x3 : Value} {post1 : Int32 → zM → Prop} (hE : zEi g d1 y1 [x1, x2, x3] M post1) (hw : z_mw y1 3) (hlk : Cond.methodLink y.1.cls i y1.1 ∈ zCW) (hstt : Cond.static y1.1 ∈ zCW) (hd1 : d1 + 1 ≤ d) (hst : st.length ≤ 4) (hd : decode y.2.1 pc = .ok (.invokestatic i, 3)) (kk : ∀ (r : Int32) (M1 : zM), post1 r M1 → zG g d y post M1 (pc + 3) lv (.int r :: st)) : zG g d y post M pc lv (x3 :: x2 :: x1 :: st) := zi_callS (As := [x1, x2, x3]) hE hw hlk hstt hd1 rfl hst hd (fun v M1 h => by obtain ⟨r, rfl, h⟩ := h; exact kk r M1 h)
theorem zi_cVi4 {g : zg} {d d1 : Nat} {y y1 : zm} {post : zR → zM → Prop} {M : zM} {pc : Nat} {lv : List (Nat × Value)} {st : List Value} {i : Nat} {ci b N : Nat} {T : u_T} {x1 x2 x3 x4 : Value} {post1 : Int32 → zM → Prop} (hE : zEi g d1 y1 (va_rf (some b) :: [x1, x2, x3, x4]) M post1) (hw : z_mw y1 4) (hlk : Cond.methodLink y.1.cls i y1.1 ∈ zCW) (him : Cond.instanceMethod y1.1 ∈ zCW) (hsel : Cond.selects y1.1.cls y1.1 y1.1 ∈ zCW) (hd1 : d1 + 1 ≤ d) (hs : zsh M b = some (.inl ci)) (hcl : zcl[ci]? = some (y1.1.cls, T, N)) (hst : st.length ≤ 4) (hd : decode y.2.1 pc = .ok (.invokevirtual i, 3)) (kk : ∀ (r : Int32) (M1 : zM), post1 r M1 → zG g d y post M1 (pc + 3) lv (.int r :: st)) : zG g d y post M pc lv (x4 :: x3 :: x2 :: x1 :: va_rf (some b) :: st) := zi_callV (As := [x1, x2, x3, x4]) hE hw hlk him hsel hd1 hs hcl rfl hst hd (fun v M1 h => by obtain ⟨r, rfl, h⟩ := h; exact kk r M1 h)
theorem zi_cSi4 {g : zg} {d d1 : Nat} {y y1 : zm} {post : zR → zM → Prop} {M : zM} {pc : Nat} {lv : List (Nat × Value)} {st : List Value} {i : Nat} {x1 x2 x3 x4 : Value} {post1 : Int32 → zM → Prop} (hE : zEi g d1 y1 [x1, x2, x3, x4] M post1) (hw : z_mw y1 4) (hlk : Cond.methodLink y.1.cls i y1.1 ∈ zCW) (hstt : Cond.static y1.1 ∈ zCW) (hd1 : d1 + 1 ≤ d) (hst : st.length ≤ 4) (hd : decode y.2.1 pc = .ok (.invokestatic i, 3)) (kk : ∀ (r : Int32) (M1 : zM), post1 r M1 → zG g d y post M1 (pc + 3) lv (.int r :: st)) : zG g d y post M pc lv (x4 :: x3 :: x2 :: x1 :: st) := zi_callS (As := [x1, x2, x3, x4]) hE hw hlk hstt hd1 rfl hst hd (fun v M1 h => by obtain ⟨r, rfl, h⟩ := h; exact kk r M1 h)
theorem zi_cVi5 {g : zg} {d d1 : Nat} {y y1 : zm} {post : zR → zM → Prop} {M : zM} {pc : Nat} {lv : List (Nat × Value)} {st : List Value} {i : Nat} {ci b N : Nat} {T : u_T} {x1 x2 x3 x4 x5 : Value} {post1 : Int32 → zM → Prop} (hE : zEi g d1 y1 (va_rf (some b) :: [x1, x2, x3, x4, x5]) M post1) (hw : z_mw y1 5) (hlk : Cond.methodLink y.1.cls i y1.1 ∈ zCW) (him : Cond.instanceMethod y1.1 ∈ zCW) (hsel : Cond.selects y1.1.cls y1.1 y1.1 ∈ zCW) (hd1 : d1 + 1 ≤ d) (hs : zsh M b = some (.inl ci)) (hcl : zcl[ci]? = some (y1.1.cls, T, N)) (hst : st.length ≤ 4) (hd : decode y.2.1 pc = .ok (.invokevirtual i, 3)) (kk : ∀ (r : Int32) (M1 : zM), post1 r M1 → zG g d y post M1 (pc + 3) lv (.int r :: st)) : zG g d y post M pc lv (x5 :: x4 :: x3 :: x2 :: x1 :: va_rf (some b) :: st) := zi_callV (As := [x1, x2, x3, x4, x5]) hE hw hlk him hsel hd1 hs hcl rfl hst hd (fun v M1 h => by obtain ⟨r, rfl, h⟩ := h; exact kk r M1 h)
theorem zi_cSi5 {g : zg} {d d1 : Nat} {y y1 : zm} {post : zR → zM → Prop} {M : zM} {pc : Nat} {lv : List (Nat × Value)} {st : List Value} {i : Nat} {x1 x2 x3 x4 x5 : Value} {post1 : Int32 → zM → Prop} (hE : zEi g d1 y1 [x1, x2, x3, x4, x5] M post1) (hw : z_mw y1 5) (hlk : Cond.methodLink y.1.cls i y1.1 ∈ zCW) (hstt : Cond.static y1.1 ∈ zCW) (hd1 : d1 + 1 ≤ d) (hst : st.length ≤ 4) (hd : decode y.2.1 pc = .ok (.invokestatic i, 3)) (kk : ∀ (r : Int32) (M1 : zM), post1 r M1 → zG g d y post M1 (pc + 3) lv (.int r :: st)) : zG g d y post M pc lv (x5 :: x4 :: x3 :: x2 :: x1 :: st) := zi_callS (As := [x1, x2, x3, x4, x5]) hE hw hlk hstt hd1 rfl hst hd (fun v M1 h => by obtain ⟨r, rfl, h⟩ := h; exact kk r M1 h)
theorem zi_cVi6 {g : zg} {d d1 : Nat} {y y1 : zm} {post : zR → zM → Prop} {M : zM} {pc : Nat} {lv : List (Nat × Value)} {st : List Value} {i : Nat} {ci b N : Nat} {T : u_T} {x1 x2 x3 x4 x5 x6 : Value} {post1 : Int32 → zM → Prop} (hE : zEi g d1 y1 (va_rf (some b) :: [x1, x2, x3, x4, x5, x6]) M post1) (hw : z_mw y1 6) (hlk : Cond.methodLink y.1.cls i y1.1 ∈ zCW) (him : Cond.instanceMethod y1.1 ∈ zCW) (hsel : Cond.selects y1.1.cls y1.1 y1.1 ∈ zCW) (hd1 : d1 + 1 ≤ d) (hs : zsh M b = some (.inl ci)) (hcl : zcl[ci]? = some (y1.1.cls, T, N)) (hst : st.length ≤ 4) (hd : decode y.2.1 pc = .ok (.invokevirtual i, 3)) (kk : ∀ (r : Int32) (M1 : zM), post1 r M1 → zG g d y post M1 (pc + 3) lv (.int r :: st)) : zG g d y post M pc lv (x6 :: x5 :: x4 :: x3 :: x2 :: x1 :: va_rf (some b) :: st) := zi_callV (As := [x1, x2, x3, x4, x5, x6]) hE hw hlk him hsel hd1 hs hcl rfl hst hd (fun v M1 h => by obtain ⟨r, rfl, h⟩ := h; exact kk r M1 h)
theorem zi_cSi6 {g : zg} {d d1 : Nat} {y y1 : zm} {post : zR → zM → Prop} {M : zM} {pc : Nat} {lv : List (Nat × Value)} {st : List Value} {i : Nat} {x1 x2 x3 x4 x5 x6 : Value} {post1 : Int32 → zM → Prop} (hE : zEi g d1 y1 [x1, x2, x3, x4, x5, x6] M post1) (hw : z_mw y1 6) (hlk : Cond.methodLink y.1.cls i y1.1 ∈ zCW) (hstt : Cond.static y1.1 ∈ zCW) (hd1 : d1 + 1 ≤ d) (hst : st.length ≤ 4) (hd : decode y.2.1 pc = .ok (.invokestatic i, 3)) (kk : ∀ (r : Int32) (M1 : zM), post1 r M1 → zG g d y post M1 (pc + 3) lv (.int r :: st)) : zG g d y post M pc lv (x6 :: x5 :: x4 :: x3 :: x2 :: x1 :: st) := zi_callS (As := [x1, x2, x3, x4, x5, x6]) hE hw hlk hstt hd1 rfl hst hd (fun v M1 h => by obtain ⟨r, rfl, h⟩ := h; exact kk r M1 h)
theorem zi_cSi7 {g : zg} {d d1 : Nat} {y y1 : zm} {post : zR → zM → Prop} {M : zM} {pc : Nat} {lv : List (Nat × Value)} {st : List Value} {i : Nat} {x1 x2 x3 x4 x5 x6 x7 : Value} {post1 : Int32 → zM → Prop} (hE : zEi g d1 y1 [x1, x2, x3, x4, x5, x6, x7] M post1) (hw : z_mw y1 7) (hlk : Cond.methodLink y.1.cls i y1.1 ∈ zCW) (hstt : Cond.static y1.1 ∈ zCW) (hd1 : d1 + 1 ≤ d) (hst : st.length ≤ 4) (hd : decode y.2.1 pc = .ok (.invokestatic i, 3)) (kk : ∀ (r : Int32) (M1 : zM), post1 r M1 → zG g d y post M1 (pc + 3) lv (.int r :: st)) : zG g d y post M pc lv (x7 :: x6 :: x5 :: x4 :: x3 :: x2 :: x1 :: st) := zi_callS (As := [x1, x2, x3, x4, x5, x6, x7]) hE hw hlk hstt hd1 rfl hst hd (fun v M1 h => by obtain ⟨r, rfl, h⟩ := h; exact kk r M1 h)
theorem zi_cVv0 {g : zg} {d d1 : Nat} {y y1 : zm} {post : zR → zM → Prop} {M : zM} {pc : Nat} {lv : List (Nat × Value)} {st : List Value} {i : Nat} {ci b N : Nat} {T : u_T} {post1 : zM → Prop} (hE : zEv g d1 y1 (va_rf (some b) :: []) M post1) (hw : z_mw y1 0) (hlk : Cond.methodLink y.1.cls i y1.1 ∈ zCW) (him : Cond.instanceMethod y1.1 ∈ zCW) (hsel : Cond.selects y1.1.cls y1.1 y1.1 ∈ zCW) (hd1 : d1 + 1 ≤ d) (hs : zsh M b = some (.inl ci)) (hcl : zcl[ci]? = some (y1.1.cls, T, N)) (hst : st.length ≤ 4) (hd : decode y.2.1 pc = .ok (.invokevirtual i, 3)) (kk : ∀ (M1 : zM), post1 M1 → zG g d y post M1 (pc + 3) lv st) : zG g d y post M pc lv (va_rf (some b) :: st) := zi_callV (As := []) hE hw hlk him hsel hd1 hs hcl rfl hst hd (fun v M1 h => by obtain ⟨rfl, h⟩ := h; exact kk M1 h)
theorem zi_cSv0 {g : zg} {d d1 : Nat} {y y1 : zm} {post : zR → zM → Prop} {M : zM} {pc : Nat} {lv : List (Nat × Value)} {st : List Value} {i : Nat} {post1 : zM → Prop} (hE : zEv g d1 y1 [] M post1) (hw : z_mw y1 0) (hlk : Cond.methodLink y.1.cls i y1.1 ∈ zCW) (hstt : Cond.static y1.1 ∈ zCW) (hd1 : d1 + 1 ≤ d) (hst : st.length ≤ 4) (hd : decode y.2.1 pc = .ok (.invokestatic i, 3)) (kk : ∀ (M1 : zM), post1 M1 → zG g d y post M1 (pc + 3) lv st) : zG g d y post M pc lv (st) := zi_callS (As := []) hE hw hlk hstt hd1 rfl hst hd (fun v M1 h => by obtain ⟨rfl, h⟩ := h; exact kk M1 h)
theorem zi_cI0 {g : zg} {d d1 : Nat} {y y1 : zm} {post : zR → zM → Prop} {M : zM} {pc : Nat} {lv : List (Nat × Value)} {st : List Value} {i : Nat} {b : Nat} {post1 : zM → Prop} (hr1 : y1.2.2.2 = none) (hE : zEv g d1 y1 (va_rf (some b) :: []) M post1) (hw : z_mw y1 0) (hlk : Cond.methodLink y.1.cls i y1.1 ∈ zCW) (him : Cond.instanceMethod y1.1 ∈ zCW) (hin : y1.1.name = "<init>") (hd1 : d1 + 1 ≤ d) (hst : st.length ≤ 4) (hd : decode y.2.1 pc = .ok (.invokespecial i, 3)) (kk : ∀ (M1 : zM), post1 M1 → zG g d y post M1 (pc + 3) lv st) : zG g d y post M pc lv (va_rf (some b) :: st) := zi_callI (As := []) hr1 hE hw hlk him hin hd1 rfl hst hd (fun v M1 h => by obtain ⟨rfl, h⟩ := h; exact kk M1 h)
theorem zi_cVv1 {g : zg} {d d1 : Nat} {y y1 : zm} {post : zR → zM → Prop} {M : zM} {pc : Nat} {lv : List (Nat × Value)} {st : List Value} {i : Nat} {ci b N : Nat} {T : u_T} {x1 : Value} {post1 : zM → Prop} (hE : zEv g d1 y1 (va_rf (some b) :: [x1]) M post1) (hw : z_mw y1 1) (hlk : Cond.methodLink y.1.cls i y1.1 ∈ zCW) (him : Cond.instanceMethod y1.1 ∈ zCW) (hsel : Cond.selects y1.1.cls y1.1 y1.1 ∈ zCW) (hd1 : d1 + 1 ≤ d) (hs : zsh M b = some (.inl ci)) (hcl : zcl[ci]? = some (y1.1.cls, T, N)) (hst : st.length ≤ 4) (hd : decode y.2.1 pc = .ok (.invokevirtual i, 3)) (kk : ∀ (M1 : zM), post1 M1 → zG g d y post M1 (pc + 3) lv st) : zG g d y post M pc lv (x1 :: va_rf (some b) :: st) := zi_callV (As := [x1]) hE hw hlk him hsel hd1 hs hcl rfl hst hd (fun v M1 h => by obtain ⟨rfl, h⟩ := h; exact kk M1 h)
theorem zi_cSv1 {g : zg} {d d1 : Nat} {y y1 : zm} {post : zR → zM → Prop} {M : zM} {pc : Nat} {lv : List (Nat × Value)} {st : List Value} {i : Nat} {x1 : Value} {post1 : zM → Prop} (hE : zEv g d1 y1 [x1] M post1) (hw : z_mw y1 1) (hlk : Cond.methodLink y.1.cls i y1.1 ∈ zCW) (hstt : Cond.static y1.1 ∈ zCW) (hd1 : d1 + 1 ≤ d) (hst : st.length ≤ 4) (hd : decode y.2.1 pc = .ok (.invokestatic i, 3)) (kk : ∀ (M1 : zM), post1 M1 → zG g d y post M1 (pc + 3) lv st) : zG g d y post M pc lv (x1 :: st) := zi_callS (As := [x1]) hE hw hlk hstt hd1 rfl hst hd (fun v M1 h => by obtain ⟨rfl, h⟩ := h; exact kk M1 h)
theorem zi_cI1 {g : zg} {d d1 : Nat} {y y1 : zm} {post : zR → zM → Prop} {M : zM} {pc : Nat} {lv : List (Nat × Value)} {st : List Value} {i : Nat} {b : Nat} {x1 : Value} {post1 : zM → Prop} (hr1 : y1.2.2.2 = none) (hE : zEv g d1 y1 (va_rf (some b) :: [x1]) M post1) (hw : z_mw y1 1) (hlk : Cond.methodLink y.1.cls i y1.1 ∈ zCW) (him : Cond.instanceMethod y1.1 ∈ zCW) (hin : y1.1.name = "<init>") (hd1 : d1 + 1 ≤ d) (hst : st.length ≤ 4) (hd : decode y.2.1 pc = .ok (.invokespecial i, 3)) (kk : ∀ (M1 : zM), post1 M1 → zG g d y post M1 (pc + 3) lv st) : zG g d y post M pc lv (x1 :: va_rf (some b) :: st) := zi_callI (As := [x1]) hr1 hE hw hlk him hin hd1 rfl hst hd (fun v M1 h => by obtain ⟨rfl, h⟩ := h; exact kk M1 h)
theorem zi_cVv2 {g : zg} {d d1 : Nat} {y y1 : zm} {post : zR → zM → Prop} {M : zM} {pc : Nat} {lv : List (Nat × Value)} {st : List Value} {i : Nat} {ci b N : Nat} {T : u_T} {x1 x2 : Value} {post1 : zM → Prop} (hE : zEv g d1 y1 (va_rf (some b) :: [x1, x2]) M post1) (hw : z_mw y1 2) (hlk : Cond.methodLink y.1.cls i y1.1 ∈ zCW) (him : Cond.instanceMethod y1.1 ∈ zCW) (hsel : Cond.selects y1.1.cls y1.1 y1.1 ∈ zCW) (hd1 : d1 + 1 ≤ d) (hs : zsh M b = some (.inl ci)) (hcl : zcl[ci]? = some (y1.1.cls, T, N)) (hst : st.length ≤ 4) (hd : decode y.2.1 pc = .ok (.invokevirtual i, 3)) (kk : ∀ (M1 : zM), post1 M1 → zG g d y post M1 (pc + 3) lv st) : zG g d y post M pc lv (x2 :: x1 :: va_rf (some b) :: st) := zi_callV (As := [x1, x2]) hE hw hlk him hsel hd1 hs hcl rfl hst hd (fun v M1 h => by obtain ⟨rfl, h⟩ := h; exact kk M1 h)
theorem zi_cSv2 {g : zg} {d d1 : Nat} {y y1 : zm} {post : zR → zM → Prop} {M : zM} {pc : Nat} {lv : List (Nat × Value)} {st : List Value} {i : Nat} {x1 x2 : Value} {post1 : zM → Prop} (hE : zEv g d1 y1 [x1, x2] M post1) (hw : z_mw y1 2) (hlk : Cond.methodLink y.1.cls i y1.1 ∈ zCW) (hstt : Cond.static y1.1 ∈ zCW) (hd1 : d1 + 1 ≤ d) (hst : st.length ≤ 4) (hd : decode y.2.1 pc = .ok (.invokestatic i, 3)) (kk : ∀ (M1 : zM), post1 M1 → zG g d y post M1 (pc + 3) lv st) : zG g d y post M pc lv (x2 :: x1 :: st) := zi_callS (As := [x1, x2]) hE hw hlk hstt hd1 rfl hst hd (fun v M1 h => by obtain ⟨rfl, h⟩ := h; exact kk M1 h)
theorem zi_cI2 {g : zg} {d d1 : Nat} {y y1 : zm} {post : zR → zM → Prop} {M : zM} {pc : Nat} {lv : List (Nat × Value)} {st : List Value} {i : Nat} {b : Nat} {x1 x2 : Value} {post1 : zM → Prop} (hr1 : y1.2.2.2 = none) (hE : zEv g d1 y1 (va_rf (some b) :: [x1, x2]) M post1) (hw : z_mw y1 2) (hlk : Cond.methodLink y.1.cls i y1.1 ∈ zCW) (him : Cond.instanceMethod y1.1 ∈ zCW) (hin : y1.1.name = "<init>") (hd1 : d1 + 1 ≤ d) (hst : st.length ≤ 4) (hd : decode y.2.1 pc = .ok (.invokespecial i, 3)) (kk : ∀ (M1 : zM), post1 M1 → zG g d y post M1 (pc + 3) lv st) : zG g d y post M pc lv (x2 :: x1 :: va_rf (some b) :: st) := zi_callI (As := [x1, x2]) hr1 hE hw hlk him hin hd1 rfl hst hd (fun v M1 h => by obtain ⟨rfl, h⟩ := h; exact kk M1 h)
theorem zi_cVv3 {g : zg} {d d1 : Nat} {y y1 : zm} {post : zR → zM → Prop} {M : zM} {pc : Nat} {lv : List (Nat × Value)} {st : List Value} {i : Nat} {ci b N : Nat} {T : u_T} {x1 x2 x3 : Value} {post1 : zM → Prop} (hE : zEv g d1 y1 (va_rf (some b) :: [x1, x2, x3]) M post1) (hw : z_mw y1 3) (hlk : Cond.methodLink y.1.cls i y1.1 ∈ zCW) (him : Cond.instanceMethod y1.1 ∈ zCW) (hsel : Cond.selects y1.1.cls y1.1 y1.1 ∈ zCW) (hd1 : d1 + 1 ≤ d) (hs : zsh M b = some (.inl ci)) (hcl : zcl[ci]? = some (y1.1.cls, T, N)) (hst : st.length ≤ 4) (hd : decode y.2.1 pc = .ok (.invokevirtual i, 3)) (kk : ∀ (M1 : zM), post1 M1 → zG g d y post M1 (pc + 3) lv st) : zG g d y post M pc lv (x3 :: x2 :: x1 :: va_rf (some b) :: st) := zi_callV (As := [x1, x2, x3]) hE hw hlk him hsel hd1 hs hcl rfl hst hd (fun v M1 h => by obtain ⟨rfl, h⟩ := h; exact kk M1 h)
theorem zi_cSv3 {g : zg} {d d1 : Nat} {y y1 : zm} {post : zR → zM → Prop} {M : zM} {pc : Nat} {lv : List (Nat × Value)} {st : List Value} {i : Nat} {x1 x2 x3 : Value} {post1 : zM → Prop} (hE : zEv g d1 y1 [x1, x2, x3] M post1) (hw : z_mw y1 3) (hlk : Cond.methodLink y.1.cls i y1.1 ∈ zCW) (hstt : Cond.static y1.1 ∈ zCW) (hd1 : d1 + 1 ≤ d) (hst : st.length ≤ 4) (hd : decode y.2.1 pc = .ok (.invokestatic i, 3)) (kk : ∀ (M1 : zM), post1 M1 → zG g d y post M1 (pc + 3) lv st) : zG g d y post M pc lv (x3 :: x2 :: x1 :: st) := zi_callS (As := [x1, x2, x3]) hE hw hlk hstt hd1 rfl hst hd (fun v M1 h => by obtain ⟨rfl, h⟩ := h; exact kk M1 h)
theorem zi_cI3 {g : zg} {d d1 : Nat} {y y1 : zm} {post : zR → zM → Prop} {M : zM} {pc : Nat} {lv : List (Nat × Value)} {st : List Value} {i : Nat} {b : Nat} {x1 x2 x3 : Value} {post1 : zM → Prop} (hr1 : y1.2.2.2 = none) (hE : zEv g d1 y1 (va_rf (some b) :: [x1, x2, x3]) M post1) (hw : z_mw y1 3) (hlk : Cond.methodLink y.1.cls i y1.1 ∈ zCW) (him : Cond.instanceMethod y1.1 ∈ zCW) (hin : y1.1.name = "<init>") (hd1 : d1 + 1 ≤ d) (hst : st.length ≤ 4) (hd : decode y.2.1 pc = .ok (.invokespecial i, 3)) (kk : ∀ (M1 : zM), post1 M1 → zG g d y post M1 (pc + 3) lv st) : zG g d y post M pc lv (x3 :: x2 :: x1 :: va_rf (some b) :: st) := zi_callI (As := [x1, x2, x3]) hr1 hE hw hlk him hin hd1 rfl hst hd (fun v M1 h => by obtain ⟨rfl, h⟩ := h; exact kk M1 h)
theorem zi_cVv4 {g : zg} {d d1 : Nat} {y y1 : zm} {post : zR → zM → Prop} {M : zM} {pc : Nat} {lv : List (Nat × Value)} {st : List Value} {i : Nat} {ci b N : Nat} {T : u_T} {x1 x2 x3 x4 : Value} {post1 : zM → Prop} (hE : zEv g d1 y1 (va_rf (some b) :: [x1, x2, x3, x4]) M post1) (hw : z_mw y1 4) (hlk : Cond.methodLink y.1.cls i y1.1 ∈ zCW) (him : Cond.instanceMethod y1.1 ∈ zCW) (hsel : Cond.selects y1.1.cls y1.1 y1.1 ∈ zCW) (hd1 : d1 + 1 ≤ d) (hs : zsh M b = some (.inl ci)) (hcl : zcl[ci]? = some (y1.1.cls, T, N)) (hst : st.length ≤ 4) (hd : decode y.2.1 pc = .ok (.invokevirtual i, 3)) (kk : ∀ (M1 : zM), post1 M1 → zG g d y post M1 (pc + 3) lv st) : zG g d y post M pc lv (x4 :: x3 :: x2 :: x1 :: va_rf (some b) :: st) := zi_callV (As := [x1, x2, x3, x4]) hE hw hlk him hsel hd1 hs hcl rfl hst hd (fun v M1 h => by obtain ⟨rfl, h⟩ := h; exact kk M1 h)
theorem zi_cSv4 {g : zg} {d d1 : Nat} {y y1 : zm} {post : zR → zM → Prop} {M : zM} {pc : Nat} {lv : List (Nat × Value)} {st : List Value} {i : Nat} {x1 x2 x3 x4 : Value} {post1 : zM → Prop} (hE : zEv g d1 y1 [x1, x2, x3, x4] M post1) (hw : z_mw y1 4) (hlk : Cond.methodLink y.1.cls i y1.1 ∈ zCW) (hstt : Cond.static y1.1 ∈ zCW) (hd1 : d1 + 1 ≤ d) (hst : st.length ≤ 4) (hd : decode y.2.1 pc = .ok (.invokestatic i, 3)) (kk : ∀ (M1 : zM), post1 M1 → zG g d y post M1 (pc + 3) lv st) : zG g d y post M pc lv (x4 :: x3 :: x2 :: x1 :: st) := zi_callS (As := [x1, x2, x3, x4]) hE hw hlk hstt hd1 rfl hst hd (fun v M1 h => by obtain ⟨rfl, h⟩ := h; exact kk M1 h)
theorem zi_cVv5 {g : zg} {d d1 : Nat} {y y1 : zm} {post : zR → zM → Prop} {M : zM} {pc : Nat} {lv : List (Nat × Value)} {st : List Value} {i : Nat} {ci b N : Nat} {T : u_T} {x1 x2 x3 x4 x5 : Value} {post1 : zM → Prop} (hE : zEv g d1 y1 (va_rf (some b) :: [x1, x2, x3, x4, x5]) M post1) (hw : z_mw y1 5) (hlk : Cond.methodLink y.1.cls i y1.1 ∈ zCW) (him : Cond.instanceMethod y1.1 ∈ zCW) (hsel : Cond.selects y1.1.cls y1.1 y1.1 ∈ zCW) (hd1 : d1 + 1 ≤ d) (hs : zsh M b = some (.inl ci)) (hcl : zcl[ci]? = some (y1.1.cls, T, N)) (hst : st.length ≤ 4) (hd : decode y.2.1 pc = .ok (.invokevirtual i, 3)) (kk : ∀ (M1 : zM), post1 M1 → zG g d y post M1 (pc + 3) lv st) : zG g d y post M pc lv (x5 :: x4 :: x3 :: x2 :: x1 :: va_rf (some b) :: st) := zi_callV (As := [x1, x2, x3, x4, x5]) hE hw hlk him hsel hd1 hs hcl rfl hst hd (fun v M1 h => by obtain ⟨rfl, h⟩ := h; exact kk M1 h)
theorem zi_cSv5 {g : zg} {d d1 : Nat} {y y1 : zm} {post : zR → zM → Prop} {M : zM} {pc : Nat} {lv : List (Nat × Value)} {st : List Value} {i : Nat} {x1 x2 x3 x4 x5 : Value} {post1 : zM → Prop} (hE : zEv g d1 y1 [x1, x2, x3, x4, x5] M post1) (hw : z_mw y1 5) (hlk : Cond.methodLink y.1.cls i y1.1 ∈ zCW) (hstt : Cond.static y1.1 ∈ zCW) (hd1 : d1 + 1 ≤ d) (hst : st.length ≤ 4) (hd : decode y.2.1 pc = .ok (.invokestatic i, 3)) (kk : ∀ (M1 : zM), post1 M1 → zG g d y post M1 (pc + 3) lv st) : zG g d y post M pc lv (x5 :: x4 :: x3 :: x2 :: x1 :: st) := zi_callS (As := [x1, x2, x3, x4, x5]) hE hw hlk hstt hd1 rfl hst hd (fun v M1 h => by obtain ⟨rfl, h⟩ := h; exact kk M1 h)
theorem zi_cVv6 {g : zg} {d d1 : Nat} {y y1 : zm} {post : zR → zM → Prop} {M : zM} {pc : Nat} {lv : List (Nat × Value)} {st : List Value} {i : Nat} {ci b N : Nat} {T : u_T} {x1 x2 x3 x4 x5 x6 : Value} {post1 : zM → Prop} (hE : zEv g d1 y1 (va_rf (some b) :: [x1, x2, x3, x4, x5, x6]) M post1) (hw : z_mw y1 6) (hlk : Cond.methodLink y.1.cls i y1.1 ∈ zCW) (him : Cond.instanceMethod y1.1 ∈ zCW) (hsel : Cond.selects y1.1.cls y1.1 y1.1 ∈ zCW) (hd1 : d1 + 1 ≤ d) (hs : zsh M b = some (.inl ci)) (hcl : zcl[ci]? = some (y1.1.cls, T, N)) (hst : st.length ≤ 4) (hd : decode y.2.1 pc = .ok (.invokevirtual i, 3)) (kk : ∀ (M1 : zM), post1 M1 → zG g d y post M1 (pc + 3) lv st) : zG g d y post M pc lv (x6 :: x5 :: x4 :: x3 :: x2 :: x1 :: va_rf (some b) :: st) := zi_callV (As := [x1, x2, x3, x4, x5, x6]) hE hw hlk him hsel hd1 hs hcl rfl hst hd (fun v M1 h => by obtain ⟨rfl, h⟩ := h; exact kk M1 h)
theorem zi_cSv6 {g : zg} {d d1 : Nat} {y y1 : zm} {post : zR → zM → Prop} {M : zM} {pc : Nat} {lv : List (Nat × Value)} {st : List Value} {i : Nat} {x1 x2 x3 x4 x5 x6 : Value} {post1 : zM → Prop} (hE : zEv g d1 y1 [x1, x2, x3, x4, x5, x6] M post1) (hw : z_mw y1 6) (hlk : Cond.methodLink y.1.cls i y1.1 ∈ zCW) (hstt : Cond.static y1.1 ∈ zCW) (hd1 : d1 + 1 ≤ d) (hst : st.length ≤ 4) (hd : decode y.2.1 pc = .ok (.invokestatic i, 3)) (kk : ∀ (M1 : zM), post1 M1 → zG g d y post M1 (pc + 3) lv st) : zG g d y post M pc lv (x6 :: x5 :: x4 :: x3 :: x2 :: x1 :: st) := zi_callS (As := [x1, x2, x3, x4, x5, x6]) hE hw hlk hstt hd1 rfl hst hd (fun v M1 h => by obtain ⟨rfl, h⟩ := h; exact kk M1 h)
theorem zi_cSv7 {g : zg} {d d1 : Nat} {y y1 : zm} {post : zR → zM → Prop} {M : zM} {pc : Nat} {lv : List (Nat × Value)} {st : List Value} {i : Nat} {x1 x2 x3 x4 x5 x6 x7 : Value} {post1 : zM → Prop} (hE : zEv g d1 y1 [x1, x2, x3, x4, x5, x6, x7] M post1) (hw : z_mw y1 7) (hlk : Cond.methodLink y.1.cls i y1.1 ∈ zCW) (hstt : Cond.static y1.1 ∈ zCW) (hd1 : d1 + 1 ≤ d) (hst : st.length ≤ 4) (hd : decode y.2.1 pc = .ok (.invokestatic i, 3)) (kk : ∀ (M1 : zM), post1 M1 → zG g d y post M1 (pc + 3) lv st) : zG g d y post M pc lv (x7 :: x6 :: x5 :: x4 :: x3 :: x2 :: x1 :: st) := zi_callS (As := [x1, x2, x3, x4, x5, x6, x7]) hE hw hlk hstt hd1 rfl hst hd (fun v M1 h => by obtain ⟨rfl, h⟩ := h; exact kk M1 h)
theorem zi_cVr0 {g : zg} {d d1 : Nat} {y y1 : zm} {post : zR → zM → Prop} {M : zM} {pc : Nat} {lv : List (Nat × Value)} {st : List Value} {i : Nat} {ci b N : Nat} {T : u_T} {post1 : Option Nat → zM → Prop} (hE : zEr g d1 y1 (va_rf (some b) :: []) M post1) (hw : z_mw y1 0) (hlk : Cond.methodLink y.1.cls i y1.1 ∈ zCW) (him : Cond.instanceMethod y1.1 ∈ zCW) (hsel : Cond.selects y1.1.cls y1.1 y1.1 ∈ zCW) (hd1 : d1 + 1 ≤ d) (hs : zsh M b = some (.inl ci)) (hcl : zcl[ci]? = some (y1.1.cls, T, N)) (hst : st.length ≤ 4) (hd : decode y.2.1 pc = .ok (.invokevirtual i, 3)) (kk : ∀ (r : Option Nat) (M1 : zM), post1 r M1 → zG g d y post M1 (pc + 3) lv (va_rf r :: st)) : zG g d y post M pc lv (va_rf (some b) :: st) := zi_callV (As := []) hE hw hlk him hsel hd1 hs hcl rfl hst hd (fun v M1 h => by obtain ⟨r, rfl, h⟩ := h; exact kk r M1 h)
theorem zi_cSr0 {g : zg} {d d1 : Nat} {y y1 : zm} {post : zR → zM → Prop} {M : zM} {pc : Nat} {lv : List (Nat × Value)} {st : List Value} {i : Nat} {post1 : Option Nat → zM → Prop} (hE : zEr g d1 y1 [] M post1) (hw : z_mw y1 0) (hlk : Cond.methodLink y.1.cls i y1.1 ∈ zCW) (hstt : Cond.static y1.1 ∈ zCW) (hd1 : d1 + 1 ≤ d) (hst : st.length ≤ 4) (hd : decode y.2.1 pc = .ok (.invokestatic i, 3)) (kk : ∀ (r : Option Nat) (M1 : zM), post1 r M1 → zG g d y post M1 (pc + 3) lv (va_rf r :: st)) : zG g d y post M pc lv (st) := zi_callS (As := []) hE hw hlk hstt hd1 rfl hst hd (fun v M1 h => by obtain ⟨r, rfl, h⟩ := h; exact kk r M1 h)
theorem zi_cVr1 {g : zg} {d d1 : Nat} {y y1 : zm} {post : zR → zM → Prop} {M : zM} {pc : Nat} {lv : List (Nat × Value)} {st : List Value} {i : Nat} {ci b N : Nat} {T : u_T} {x1 : Value} {post1 : Option Nat → zM → Prop} (hE : zEr g d1 y1 (va_rf (some b) :: [x1]) M post1) (hw : z_mw y1 1) (hlk : Cond.methodLink y.1.cls i y1.1 ∈ zCW) (him : Cond.instanceMethod y1.1 ∈ zCW) (hsel : Cond.selects y1.1.cls y1.1 y1.1 ∈ zCW) (hd1 : d1 + 1 ≤ d) (hs : zsh M b = some (.inl ci)) (hcl : zcl[ci]? = some (y1.1.cls, T, N)) (hst : st.length ≤ 4) (hd : decode y.2.1 pc = .ok (.invokevirtual i, 3)) (kk : ∀ (r : Option Nat) (M1 : zM), post1 r M1 → zG g d y post M1 (pc + 3) lv (va_rf r :: st)) : zG g d y post M pc lv (x1 :: va_rf (some b) :: st) := zi_callV (As := [x1]) hE hw hlk him hsel hd1 hs hcl rfl hst hd (fun v M1 h => by obtain ⟨r, rfl, h⟩ := h; exact kk r M1 h)
theorem zi_cSr1 {g : zg} {d d1 : Nat} {y y1 : zm} {post : zR → zM → Prop} {M : zM} {pc : Nat} {lv : List (Nat × Value)} {st : List Value} {i : Nat} {x1 : Value} {post1 : Option Nat → zM → Prop} (hE : zEr g d1 y1 [x1] M post1) (hw : z_mw y1 1) (hlk : Cond.methodLink y.1.cls i y1.1 ∈ zCW) (hstt : Cond.static y1.1 ∈ zCW) (hd1 : d1 + 1 ≤ d) (hst : st.length ≤ 4) (hd : decode y.2.1 pc = .ok (.invokestatic i, 3)) (kk : ∀ (r : Option Nat) (M1 : zM), post1 r M1 → zG g d y post M1 (pc + 3) lv (va_rf r :: st)) : zG g d y post M pc lv (x1 :: st) := zi_callS (As := [x1]) hE hw hlk hstt hd1 rfl hst hd (fun v M1 h => by obtain ⟨r, rfl, h⟩ := h; exact kk r M1 h)
theorem zi_cVr2 {g : zg} {d d1 : Nat} {y y1 : zm} {post : zR → zM → Prop} {M : zM} {pc : Nat} {lv : List (Nat × Value)} {st : List Value} {i : Nat} {ci b N : Nat} {T : u_T} {x1 x2 : Value} {post1 : Option Nat → zM → Prop} (hE : zEr g d1 y1 (va_rf (some b) :: [x1, x2]) M post1) (hw : z_mw y1 2) (hlk : Cond.methodLink y.1.cls i y1.1 ∈ zCW) (him : Cond.instanceMethod y1.1 ∈ zCW) (hsel : Cond.selects y1.1.cls y1.1 y1.1 ∈ zCW) (hd1 : d1 + 1 ≤ d) (hs : zsh M b = some (.inl ci)) (hcl : zcl[ci]? = some (y1.1.cls, T, N)) (hst : st.length ≤ 4) (hd : decode y.2.1 pc = .ok (.invokevirtual i, 3)) (kk : ∀ (r : Option Nat) (M1 : zM), post1 r M1 → zG g d y post M1 (pc + 3) lv (va_rf r :: st)) : zG g d y post M pc lv (x2 :: x1 :: va_rf (some b) :: st) := zi_callV (As := [x1, x2]) hE hw hlk him hsel hd1 hs hcl rfl hst hd (fun v M1 h => by obtain ⟨r, rfl, h⟩ := h; exact kk r M1 h)
theorem zi_cSr2 {g : zg} {d d1 : Nat} {y y1 : zm} {post : zR → zM → Prop} {M : zM} {pc : Nat} {lv : List (Nat × Value)} {st : List Value} {i : Nat} {x1 x2 : Value} {post1 : Option Nat → zM → Prop} (hE : zEr g d1 y1 [x1, x2] M post1) (hw : z_mw y1 2) (hlk : Cond.methodLink y.1.cls i y1.1 ∈ zCW) (hstt : Cond.static y1.1 ∈ zCW) (hd1 : d1 + 1 ≤ d) (hst : st.length ≤ 4) (hd : decode y.2.1 pc = .ok (.invokestatic i, 3)) (kk : ∀ (r : Option Nat) (M1 : zM), post1 r M1 → zG g d y post M1 (pc + 3) lv (va_rf r :: st)) : zG g d y post M pc lv (x2 :: x1 :: st) := zi_callS (As := [x1, x2]) hE hw hlk hstt hd1 rfl hst hd (fun v M1 h => by obtain ⟨r, rfl, h⟩ := h; exact kk r M1 h)
theorem zi_cVr3 {g : zg} {d d1 : Nat} {y y1 : zm} {post : zR → zM → Prop} {M : zM} {pc : Nat} {lv : List (Nat × Value)} {st : List Value} {i : Nat} {ci b N : Nat} {T : u_T} {x1 x2 x3 : Value} {post1 : Option Nat → zM → Prop} (hE : zEr g d1 y1 (va_rf (some b) :: [x1, x2, x3]) M post1) (hw : z_mw y1 3) (hlk : Cond.methodLink y.1.cls i y1.1 ∈ zCW) (him : Cond.instanceMethod y1.1 ∈ zCW) (hsel : Cond.selects y1.1.cls y1.1 y1.1 ∈ zCW) (hd1 : d1 + 1 ≤ d) (hs : zsh M b = some (.inl ci)) (hcl : zcl[ci]? = some (y1.1.cls, T, N)) (hst : st.length ≤ 4) (hd : decode y.2.1 pc = .ok (.invokevirtual i, 3)) (kk : ∀ (r : Option Nat) (M1 : zM), post1 r M1 → zG g d y post M1 (pc + 3) lv (va_rf r :: st)) : zG g d y post M pc lv (x3 :: x2 :: x1 :: va_rf (some b) :: st) := zi_callV (As := [x1, x2, x3]) hE hw hlk him hsel hd1 hs hcl rfl hst hd (fun v M1 h => by obtain ⟨r, rfl, h⟩ := h; exact kk r M1 h)
theorem zi_cSr3 {g : zg} {d d1 : Nat} {y y1 : zm} {post : zR → zM → Prop} {M : zM} {pc : Nat} {lv : List (Nat × Value)} {st : List Value} {i : Nat} {x1 x2 x3 : Value} {post1 : Option Nat → zM → Prop} (hE : zEr g d1 y1 [x1, x2, x3] M post1) (hw : z_mw y1 3) (hlk : Cond.methodLink y.1.cls i y1.1 ∈ zCW) (hstt : Cond.static y1.1 ∈ zCW) (hd1 : d1 + 1 ≤ d) (hst : st.length ≤ 4) (hd : decode y.2.1 pc = .ok (.invokestatic i, 3)) (kk : ∀ (r : Option Nat) (M1 : zM), post1 r M1 → zG g d y post M1 (pc + 3) lv (va_rf r :: st)) : zG g d y post M pc lv (x3 :: x2 :: x1 :: st) := zi_callS (As := [x1, x2, x3]) hE hw hlk hstt hd1 rfl hst hd (fun v M1 h => by obtain ⟨r, rfl, h⟩ := h; exact kk r M1 h)
theorem zi_cVr4 {g : zg} {d d1 : Nat} {y y1 : zm} {post : zR → zM → Prop} {M : zM} {pc : Nat} {lv : List (Nat × Value)} {st : List Value} {i : Nat} {ci b N : Nat} {T : u_T} {x1 x2 x3 x4 : Value} {post1 : Option Nat → zM → Prop} (hE : zEr g d1 y1 (va_rf (some b) :: [x1, x2, x3, x4]) M post1) (hw : z_mw y1 4) (hlk : Cond.methodLink y.1.cls i y1.1 ∈ zCW) (him : Cond.instanceMethod y1.1 ∈ zCW) (hsel : Cond.selects y1.1.cls y1.1 y1.1 ∈ zCW) (hd1 : d1 + 1 ≤ d) (hs : zsh M b = some (.inl ci)) (hcl : zcl[ci]? = some (y1.1.cls, T, N)) (hst : st.length ≤ 4) (hd : decode y.2.1 pc = .ok (.invokevirtual i, 3)) (kk : ∀ (r : Option Nat) (M1 : zM), post1 r M1 → zG g d y post M1 (pc + 3) lv (va_rf r :: st)) : zG g d y post M pc lv (x4 :: x3 :: x2 :: x1 :: va_rf (some b) :: st) := zi_callV (As := [x1, x2, x3, x4]) hE hw hlk him hsel hd1 hs hcl rfl hst hd (fun v M1 h => by obtain ⟨r, rfl, h⟩ := h; exact kk r M1 h)
theorem zi_cSr4 {g : zg} {d d1 : Nat} {y y1 : zm} {post : zR → zM → Prop} {M : zM} {pc : Nat} {lv : List (Nat × Value)} {st : List Value} {i : Nat} {x1 x2 x3 x4 : Value} {post1 : Option Nat → zM → Prop} (hE : zEr g d1 y1 [x1, x2, x3, x4] M post1) (hw : z_mw y1 4) (hlk : Cond.methodLink y.1.cls i y1.1 ∈ zCW) (hstt : Cond.static y1.1 ∈ zCW) (hd1 : d1 + 1 ≤ d) (hst : st.length ≤ 4) (hd : decode y.2.1 pc = .ok (.invokestatic i, 3)) (kk : ∀ (r : Option Nat) (M1 : zM), post1 r M1 → zG g d y post M1 (pc + 3) lv (va_rf r :: st)) : zG g d y post M pc lv (x4 :: x3 :: x2 :: x1 :: st) := zi_callS (As := [x1, x2, x3, x4]) hE hw hlk hstt hd1 rfl hst hd (fun v M1 h => by obtain ⟨r, rfl, h⟩ := h; exact kk r M1 h)
theorem zi_cVr5 {g : zg} {d d1 : Nat} {y y1 : zm} {post : zR → zM → Prop} {M : zM} {pc : Nat} {lv : List (Nat × Value)} {st : List Value} {i : Nat} {ci b N : Nat} {T : u_T} {x1 x2 x3 x4 x5 : Value} {post1 : Option Nat → zM → Prop} (hE : zEr g d1 y1 (va_rf (some b) :: [x1, x2, x3, x4, x5]) M post1) (hw : z_mw y1 5) (hlk : Cond.methodLink y.1.cls i y1.1 ∈ zCW) (him : Cond.instanceMethod y1.1 ∈ zCW) (hsel : Cond.selects y1.1.cls y1.1 y1.1 ∈ zCW) (hd1 : d1 + 1 ≤ d) (hs : zsh M b = some (.inl ci)) (hcl : zcl[ci]? = some (y1.1.cls, T, N)) (hst : st.length ≤ 4) (hd : decode y.2.1 pc = .ok (.invokevirtual i, 3)) (kk : ∀ (r : Option Nat) (M1 : zM), post1 r M1 → zG g d y post M1 (pc + 3) lv (va_rf r :: st)) : zG g d y post M pc lv (x5 :: x4 :: x3 :: x2 :: x1 :: va_rf (some b) :: st) := zi_callV (As := [x1, x2, x3, x4, x5]) hE hw hlk him hsel hd1 hs hcl rfl hst hd (fun v M1 h => by obtain ⟨r, rfl, h⟩ := h; exact kk r M1 h)
theorem zi_cSr5 {g : zg} {d d1 : Nat} {y y1 : zm} {post : zR → zM → Prop} {M : zM} {pc : Nat} {lv : List (Nat × Value)} {st : List Value} {i : Nat} {x1 x2 x3 x4 x5 : Value} {post1 : Option Nat → zM → Prop} (hE : zEr g d1 y1 [x1, x2, x3, x4, x5] M post1) (hw : z_mw y1 5) (hlk : Cond.methodLink y.1.cls i y1.1 ∈ zCW) (hstt : Cond.static y1.1 ∈ zCW) (hd1 : d1 + 1 ≤ d) (hst : st.length ≤ 4) (hd : decode y.2.1 pc = .ok (.invokestatic i, 3)) (kk : ∀ (r : Option Nat) (M1 : zM), post1 r M1 → zG g d y post M1 (pc + 3) lv (va_rf r :: st)) : zG g d y post M pc lv (x5 :: x4 :: x3 :: x2 :: x1 :: st) := zi_callS (As := [x1, x2, x3, x4, x5]) hE hw hlk hstt hd1 rfl hst hd (fun v M1 h => by obtain ⟨r, rfl, h⟩ := h; exact kk r M1 h)
theorem zi_cVr6 {g : zg} {d d1 : Nat} {y y1 : zm} {post : zR → zM → Prop} {M : zM} {pc : Nat} {lv : List (Nat × Value)} {st : List Value} {i : Nat} {ci b N : Nat} {T : u_T} {x1 x2 x3 x4 x5 x6 : Value} {post1 : Option Nat → zM → Prop} (hE : zEr g d1 y1 (va_rf (some b) :: [x1, x2, x3, x4, x5, x6]) M post1) (hw : z_mw y1 6) (hlk : Cond.methodLink y.1.cls i y1.1 ∈ zCW) (him : Cond.instanceMethod y1.1 ∈ zCW) (hsel : Cond.selects y1.1.cls y1.1 y1.1 ∈ zCW) (hd1 : d1 + 1 ≤ d) (hs : zsh M b = some (.inl ci)) (hcl : zcl[ci]? = some (y1.1.cls, T, N)) (hst : st.length ≤ 4) (hd : decode y.2.1 pc = .ok (.invokevirtual i, 3)) (kk : ∀ (r : Option Nat) (M1 : zM), post1 r M1 → zG g d y post M1 (pc + 3) lv (va_rf r :: st)) : zG g d y post M pc lv (x6 :: x5 :: x4 :: x3 :: x2 :: x1 :: va_rf (some b) :: st) := zi_callV (As := [x1, x2, x3, x4, x5, x6]) hE hw hlk him hsel hd1 hs hcl rfl hst hd (fun v M1 h => by obtain ⟨r, rfl, h⟩ := h; exact kk r M1 h)
theorem zi_cSr6 {g : zg} {d d1 : Nat} {y y1 : zm} {post : zR → zM → Prop} {M : zM} {pc : Nat} {lv : List (Nat × Value)} {st : List Value} {i : Nat} {x1 x2 x3 x4 x5 x6 : Value} {post1 : Option Nat → zM → Prop} (hE : zEr g d1 y1 [x1, x2, x3, x4, x5, x6] M post1) (hw : z_mw y1 6) (hlk : Cond.methodLink y.1.cls i y1.1 ∈ zCW) (hstt : Cond.static y1.1 ∈ zCW) (hd1 : d1 + 1 ≤ d) (hst : st.length ≤ 4) (hd : decode y.2.1 pc = .ok (.invokestatic i, 3)) (kk : ∀ (r : Option Nat) (M1 : zM), post1 r M1 → zG g d y post M1 (pc + 3) lv (va_rf r :: st)) : zG g d y post M pc lv (x6 :: x5 :: x4 :: x3 :: x2 :: x1 :: st) := zi_callS (As := [x1, x2, x3, x4, x5, x6]) hE hw hlk hstt hd1 rfl hst hd (fun v M1 h => by obtain ⟨r, rfl, h⟩ := h; exact kk r M1 h)
theorem zi_cSr7 {g : zg} {d d1 : Nat} {y y1 : zm} {post : zR → zM → Prop} {M : zM} {pc : Nat} {lv : List (Nat × Value)} {st : List Value} {i : Nat} {x1 x2 x3 x4 x5 x6 x7 : Value} {post1 : Option Nat → zM → Prop} (hE : zEr g d1 y1 [x1, x2, x3, x4, x5, x6, x7] M post1) (hw : z_mw y1 7) (hlk : Cond.methodLink y.1.cls i y1.1 ∈ zCW) (hstt : Cond.static y1.1 ∈ zCW) (hd1 : d1 + 1 ≤ d) (hst : st.length ≤ 4) (hd : decode y.2.1 pc = .ok (.invokestatic i, 3)) (kk : ∀ (r : Option Nat) (M1 : zM), post1 r M1 → zG g d y post M1 (pc + 3) lv (va_rf r :: st)) : zG g d y post M pc lv (x7 :: x6 :: x5 :: x4 :: x3 :: x2 :: x1 :: st) := zi_callS (As := [x1, x2, x3, x4, x5, x6, x7]) hE hw hlk hstt hd1 rfl hst hd (fun v M1 h => by obtain ⟨r, rfl, h⟩ := h; exact kk r M1 h)
end
section
/-! MEMORY: rows filled, cells made one behind the other -/
/-- ints (longs, references) of a at the places below n are v -/
def zfi (M : zM) (a n : Nat) (v : Int32) : zM := (M.1, fun b => if b = a then (fun j => if j < n then v else zi M b j) else zi M b, M.2.2)
def zfl (M : zM) (a n : Nat) (v : Int64) : zM := (M.1, M.2.1, fun b => if b = a then (fun j => if j < n then v else zl M b j) else zl M b, M.2.2.2)
def zfr (M : zM) (a n : Nat) (v : Option Nat) : zM := (M.1, M.2.1, M.2.2.1, fun b => if b = a then (fun j => if j < n then v else zr M b j) else zr M b, M.2.2.2.2)
theorem zfi_0 (M : zM) (a : Nat) (v : Int32) : zfi M a 0 v = M := by
  have : (fun b => if b = a then (fun j => if j < 0 then v else zi M b j) else zi M b) = M.2.1 := by
    funext b j
    by_cases h : b = a <;> simp [h, zi]
  simp only [zfi, this]
theorem zfl_0 (M : zM) (a : Nat) (v : Int64) : zfl M a 0 v = M := by
  have : (fun b => if b = a then (fun j => if j < 0 then v else zl M b j) else zl M b) = M.2.2.1 := by
    funext b j
    by_cases h : b = a <;> simp [h, zl]
  simp only [zfl, this]
theorem zfr_0 (M : zM) (a : Nat) (v : Option Nat) : zfr M a 0 v = M := by
  have : (fun b => if b = a then (fun j => if j < 0 then v else zr M b j) else zr M b) = M.2.2.2.1 := by
    funext b j
    by_cases h : b = a <;> simp [h, zr]
  simp only [zfr, this]
theorem zfi_s (M : zM) (a n : Nat) (v : Int32) : zpi (zfi M a n v) a n v = zfi M a (n + 1) v := by
  unfold zpi zfi
  congr 2
  funext b
  by_cases h : b = a
  · subst h
    funext j
    simp only [zu, if_true]
    by_cases h2 : j = n
    · subst h2; simp
    · by_cases h3 : j < n
      · simp [h2, h3, Nat.lt_succ_of_lt h3]
      · have : ¬ j < n + 1 := by omega
        simp [h2, h3, this]
  · simp [zu, h]
theorem zfl_s (M : zM) (a n : Nat) (v : Int64) : zpl (zfl M a n v) a n v = zfl M a (n + 1) v := by
  unfold zpl zfl
  congr 3
  funext b
  by_cases h : b = a
  · subst h
    funext j
    simp only [zu, if_true]
    by_cases h2 : j = n
    · subst h2; simp
    · by_cases h3 : j < n
      · simp [h2, h3, Nat.lt_succ_of_lt h3]
      · have : ¬ j < n + 1 := by omega
        simp [h2, h3, this]
  · simp [zu, h]
theorem zfr_s (M : zM) (a n : Nat) (v : Option Nat) : zpr (zfr M a n v) a n v = zfr M a (n + 1) v := by
  unfold zpr zfr
  congr 4
  funext b
  by_cases h : b = a
  · subst h
    funext j
    simp only [zu, if_true]
    by_cases h2 : j = n
    · subst h2; simp
    · by_cases h3 : j < n
      · simp [h2, h3, Nat.lt_succ_of_lt h3]
      · have : ¬ j < n + 1 := by omega
        simp [h2, h3, this]
  · simp [zu, h]
theorem zi_fi (M : zM) (a n b j : Nat) (v : Int32) : zi (zfi M a n v) b j = if b = a ∧ j < n then v else zi M b j := by
  by_cases h : b = a <;> by_cases h2 : j < n <;> simp [zi, zfi, h, h2]
theorem zl_fl (M : zM) (a n b j : Nat) (v : Int64) : zl (zfl M a n v) b j = if b = a ∧ j < n then v else zl M b j := by
  by_cases h : b = a <;> by_cases h2 : j < n <;> simp [zl, zfl, h, h2]
theorem zr_fr (M : zM) (a n b j : Nat) (v : Option Nat) : zr (zfr M a n v) b j = if b = a ∧ j < n then v else zr M b j := by
  by_cases h : b = a <;> by_cases h2 : j < n <;> simp [zr, zfr, h, h2]
theorem zi_fr (M : zM) (a n : Nat) (v : Option Nat) : zi (zfr M a n v) = zi M := rfl
theorem zi_fl (M : zM) (a n : Nat) (v : Int64) : zi (zfl M a n v) = zi M := rfl
theorem zl_fi (M : zM) (a n : Nat) (v : Int32) : zl (zfi M a n v) = zl M := rfl
theorem zl_fr (M : zM) (a n : Nat) (v : Option Nat) : zl (zfr M a n v) = zl M := rfl
theorem zr_fi (M : zM) (a n : Nat) (v : Int32) : zr (zfi M a n v) = zr M := rfl
theorem zr_fl (M : zM) (a n : Nat) (v : Int64) : zr (zfl M a n v) = zr M := rfl
theorem zsh_fi (M : zM) (a n : Nat) (v : Int32) : zsh (zfi M a n v) = zsh M := rfl
theorem zsh_fl (M : zM) (a n : Nat) (v : Int64) : zsh (zfl M a n v) = zsh M := rfl
theorem zsh_fr (M : zM) (a n : Nat) (v : Option Nat) : zsh (zfr M a n v) = zsh M := rfl
/-- field k of v is a new array of type t, of n places -/
def znq (M : zM) (v k t n : Nat) : zM := zpr (znew M (.inr (t, n)) n) v k (some (zsz M))
/-- such arrays one behind the other -/
def znf (M : zM) (v : Nat) : List (Nat × Nat × Nat) → zM
  | [] => M
  | (k, t, n) :: L => znf (znq M v k t n) v L
theorem znf_app (M : zM) (v : Nat) (L L2 : List (Nat × Nat × Nat)) : znf M v (L ++ L2) = znf (znf M v L) v L2 := by
  induction L generalizing M with
  | nil => rfl
  | cons q t ih => obtain ⟨k, ty, n⟩ := q; exact ih _
theorem znf_sz (M : zM) (v : Nat) (L : List (Nat × Nat × Nat)) : zsz (znf M v L) = zsz M + L.length := by
  induction L generalizing M with
  | nil => rfl
  | cons q t ih =>
    obtain ⟨k, ty, n⟩ := q
    rw [znf, ih]
    show zsz M + 1 + t.length = _
    simp only [List.length_cons]
    omega
theorem znf_sl (M : zM) (v : Nat) (L : List (Nat × Nat × Nat)) : zsl (znf M v L) = zsl M + (L.map (fun q => q.2.2)).sum := by
  induction L generalizing M with
  | nil => rfl
  | cons q t ih =>
    obtain ⟨k, ty, n⟩ := q
    rw [znf, ih]
    show zsl M + n + _ = _
    simp only [List.map_cons, List.sum_cons]
    omega
theorem znf_old (M : zM) (v : Nat) (L : List (Nat × Nat × Nat)) {a : Nat} (ha : a < zsz M) : zsh (znf M v L) a = zsh M a ∧ zi (znf M v L) a = zi M a ∧ zl (znf M v L) a = zl M a ∧ ∀ j, (a ≠ v ∨ ∀ q ∈ L, q.1 ≠ j) → zr (znf M v L) a j = zr M a j := by
  induction L generalizing M with
  | nil => exact ⟨rfl, rfl, rfl, fun _ _ => rfl⟩
  | cons q t ih =>
    obtain ⟨k, ty, n⟩ := q
    obtain ⟨h1, h2, h3, h4⟩ := ih (znq M v k ty n) (show a < zsz M + 1 by omega)
    have hne : a ≠ zsz M := by omega
    rw [znf]
    refine ⟨h1.trans ?_, h2.trans ?_, h3.trans ?_, fun j hj => (h4 j ?_).trans ?_⟩
    · simp [znq, zsh, zpr, znew, hne]
    · simp [znq, zi, zpr, znew, hne]
    · simp [znq, zl, zpr, znew, hne]
    · rcases hj with h | h
      · exact Or.inl h
      · exact Or.inr (fun q hq => h q (List.mem_cons_of_mem _ hq))
    · rw [znq, zr_pr, zr_nw, if_neg hne]
      rw [if_neg]
      intro hh
      rcases hj with h | h
      · exact h hh.1
      · exact h (k, ty, n) List.mem_cons_self hh.2.symm
theorem znf_new (M : zM) (v : Nat) (L : List (Nat × Nat × Nat)) (hv : v < zsz M) (hk : (L.map (fun q => q.1)).Nodup) {i k t n : Nat} (hi : L[i]? = some (k, t, n)) : zsh (znf M v L) (zsz M + i) = some (.inr (t, n)) ∧ zr (znf M v L) v k = some (zsz M + i) ∧ (∀ j, zi (znf M v L) (zsz M + i) j = 0) ∧ (∀ j, zl (znf M v L) (zsz M + i) j = 0) ∧ ∀ j, zr (znf M v L) (zsz M + i) j = none := by
  induction L generalizing M i with
  | nil => simp at hi
  | cons q l ih =>
    obtain ⟨k0, t0, n0⟩ := q
    rw [znf]
    cases i with
    | zero =>
      have h0 : (k0, t0, n0) = (k, t, n) := by simpa using hi
      cases h0
      have hk2 : ∀ q ∈ l, q.1 ≠ k := by
        intro q hq e
        have := List.nodup_cons.mp hk
        exact this.1 (List.mem_map.mpr ⟨q, hq, e⟩)
      obtain ⟨h1, h2, h3, h4⟩ := znf_old (znq M v k t n) v l (a := zsz M) (show zsz M < zsz M + 1 by omega)
      obtain ⟨-, -, -, h5⟩ := znf_old (znq M v k t n) v l (a := v) (show v < zsz M + 1 by omega)
      have hne : ¬ v = zsz M := by omega
      rw [Nat.add_zero]
      refine ⟨h1.trans ?_, (h5 k (Or.inr hk2)).trans ?_, fun j => (congrFun h2 j).trans ?_, fun j => (congrFun h3 j).trans ?_, fun j => (h4 j (Or.inl (fun e => hne e.symm))).trans ?_⟩
      · simp [znq, zsh, zpr, znew]
      · rw [znq, zr_pr, if_pos ⟨rfl, rfl⟩]
      · simp [znq, zi, zpr, znew]
      · simp [znq, zl, zpr, znew]
      · rw [znq, zr_pr, if_neg (fun e => hne e.1.symm), zr_nw, if_pos rfl]
    | succ i =>
      have := ih (znq M v k0 t0 n0) (show v < zsz M + 1 by omega) (List.nodup_cons.mp hk).2 (i := i) (by simpa using hi)
      rw [show zsz (znq M v k0 t0 n0) + i = zsz M + (i + 1) by show zsz M + 1 + i = _; omega] at this
      exact this
theorem nI_lt' {k n : Nat} (hk : k < 2 ^ 31) (hn : n < 2 ^ 31) : nI k < nI n ↔ k < n := nI_ltI hk hn
theorem nI_le' {k n : Nat} (hk : k < 2 ^ 31) (hn : n < 2 ^ 31) : nI k ≤ nI n ↔ k ≤ n := nI_leI hk hn
end
section
/-! STARTS: what forgets the module on both sides, and the constructors -/
theorem z_ci (x : Int32) : (Value.int x).category = 1 := rfl
/-- leave(): no module, no parts, no operation, no ID -/
def mLv (M : zM) (m ot sv : Nat) : zM := zfi (zfi (zpi (zpi M m 1 0) m 44 0) ot 8 (-1)) sv 256 0
theorem M_leave_1 {g : zg} {d : Nat} {post : zR → zM → Prop} {M : zM} {m ot sv : Nat} (s0 : zsh M m = some (.inl 9)) (s1 : zsh M ot = some (.inr (0, 8))) (s2 : zsh M sv = some (.inr (3, 256))) (r1 : zr M m 55 = some ot) (r2 : zr M m 58 = some sv) (hx : zG g d mM_leave post (zfi M ot 8 (-1)) 31 [(1, .int (nI (8))), (0, va_rf (some m))] []) : ∀ (n k : Nat), k ≤ 8 → 8 < k + n → zG g d mM_leave post (zfi M ot k (-1)) 12 [(1, .int (nI k)), (0, va_rf (some m))] [] := by
  intro n
  induction n with
  | zero => intro k h1 h2; omega
  | succ n ih =>
    intro k h1 h2
    refine zi_iload_n 0 (dq dM_leave 8 rfl) rfl ?_
    refine zi_bipush (v := 8) (dq dM_leave 9 rfl) (by decide) ?_
    refine zi_icmp_ge (tgt := 31) (dq dM_leave 10 rfl) (by decide) (fun c15 => ?_) (fun c15 => ?_)
    · have hk : k = 8 := by have := (nI_le' (k := 8) (n := k) (by omega) (by omega)).mp c15; omega
      subst hk
      exact hx
    · have hk : k < 8 := by rcases Nat.lt_or_ge k 8 with h | h; exact h; exact absurd ((nI_le' (k := 8) (n := k) (by omega) (by omega)).mpr h) c15
      refine zi_aload_n 1 (dq dM_leave 11 rfl) rfl ?_
      refine zi_getR (by first | exact s0 | exact s1) fM_117 (by first | exact r1) (dq dM_leave 12 rfl) ?_
      refine zi_iload_n 0 (dq dM_leave 13 rfl) rfl ?_
      refine zi_iconst (v := (-1)) (dq dM_leave 14 rfl) (by decide) ?_
      refine zi_iast (by first | exact s0 | exact s1) rfl (vp_in_nI hk (by omega)) (dq dM_leave 15 rfl) ?_
      rw [nI_clamp (by omega), zfi_s]
      refine zi_iincC (v := _ + (1)) (lv' := [(1, _), (0, _)]) 0 (dq dM_leave 16 rfl) rfl rfl (by decide) (by simp [z_cr, z_ci]) rfl ?_
      refine zi_goto (tgt := 12) (dq dM_leave 17 rfl) (by decide) ?_
      rw [nI_1]; exact ih (k + 1) (by omega) (by omega)
theorem M_leave_2 {g : zg} {d : Nat} {post : zR → zM → Prop} {M : zM} {m ot sv : Nat} (s0 : zsh M m = some (.inl 9)) (s1 : zsh M ot = some (.inr (0, 8))) (s2 : zsh M sv = some (.inr (3, 256))) (r1 : zr M m 55 = some ot) (r2 : zr M m 58 = some sv) (hx : zG g d mM_leave post (zfi M sv 256 0) 53 [(1, .int (nI (256))), (0, va_rf (some m))] []) : ∀ (n k : Nat), k ≤ 256 → 256 < k + n → zG g d mM_leave post (zfi M sv k 0) 33 [(1, .int (nI k)), (0, va_rf (some m))] [] := by
  intro n
  induction n with
  | zero => intro k h1 h2; omega
  | succ n ih =>
    intro k h1 h2
    refine zi_iload_n 0 (dq dM_leave 20 rfl) rfl ?_
    refine zi_sipush (v := 256) (dq dM_leave 21 rfl) (by decide) ?_
    refine zi_icmp_ge (tgt := 53) (dq dM_leave 22 rfl) (by decide) (fun c37 => ?_) (fun c37 => ?_)
    · have hk : k = 256 := by have := (nI_le' (k := 256) (n := k) (by omega) (by omega)).mp c37; omega
      subst hk
      exact hx
    · have hk : k < 256 := by rcases Nat.lt_or_ge k 256 with h | h; exact h; exact absurd ((nI_le' (k := 256) (n := k) (by omega) (by omega)).mpr h) c37
      refine zi_aload_n 1 (dq dM_leave 23 rfl) rfl ?_
      refine zi_getR (by first | exact s0 | exact s2) fM_126 (by first | exact r2) (dq dM_leave 24 rfl) ?_
      refine zi_iload_n 0 (dq dM_leave 25 rfl) rfl ?_
      refine zi_iconst (v := 0) (dq dM_leave 26 rfl) (by decide) ?_
      refine zi_zast (by first | exact s0 | exact s2) rfl (vp_in_nI hk (by omega)) (by first | rfl | decide | assumption) (dq dM_leave 27 rfl) ?_
      rw [nI_clamp (by omega), zfi_s]
      refine zi_iincC (v := _ + (1)) (lv' := [(1, _), (0, _)]) 0 (dq dM_leave 28 rfl) rfl rfl (by decide) (by simp [z_cr, z_ci]) rfl ?_
      refine zi_goto (tgt := 33) (dq dM_leave 29 rfl) (by decide) ?_
      rw [nI_1]; exact ih (k + 1) (by omega) (by omega)
theorem M_leave {g : zg} {d : Nat} {M : zM} {m ot sv : Nat} (s0 : zsh M m = some (.inl 9)) (s1 : zsh M ot = some (.inr (0, 8))) (s2 : zsh M sv = some (.inr (3, 256))) (r1 : zr M m 55 = some ot) (r2 : zr M m 58 = some sv) : zEv g (d) mM_leave [va_rf (some m)] M (fun M1 => M1 = mLv M m ot sv) := by
  refine zEv_of (lv := [(0, va_rf (some m))]) ⟨by decide +kernel, by decide, by decide +kernel⟩ (by simp [z_cr, z_ci]) (Nat.le_of_ble_eq_true rfl) rfl ?_
  refine zi_aload_n 0 (dq dM_leave 0 rfl) rfl ?_
  refine zi_iconst (v := 0) (dq dM_leave 1 rfl) (by decide) ?_
  refine zi_puti (by first | exact s0) fM_136 (fun h => by cases h) (by first | rfl | decide | assumption) (by first | rfl | decide | assumption) (dq dM_leave 2 rfl) ?_
  refine zi_aload_n 0 (dq dM_leave 3 rfl) rfl ?_
  refine zi_iconst (v := 0) (dq dM_leave 4 rfl) (by decide) ?_
  refine zi_puti (by first | exact s0) fM_140 (fun h => by cases h) rfl rfl (dq dM_leave 5 rfl) ?_
  refine zi_iconst (v := 0) (dq dM_leave 6 rfl) (by decide) ?_
  refine zi_istC_n (lv' := [(1, _), (0, _)]) (dq dM_leave 7 rfl) (by decide) (by simp [z_cr, z_ci]) rfl ?_
  have h1 := M_leave_1 (g := g) (d := d) (post := zPv (fun M1 => M1 = mLv M m ot sv)) (M := zpi (zpi M m 1 0) m 44 0) s0 s1 s2 r1 r2 ?_ 9 0 (by omega) (by omega)
  · rw [zfi_0] at h1; exact h1
  refine zi_iconst (v := 0) (dq dM_leave 18 rfl) (by decide) ?_
  refine zi_istC_n (lv' := [(1, _), (0, _)]) (dq dM_leave 19 rfl) (by decide) (by simp [z_cr, z_ci]) rfl ?_
  have h2 := M_leave_2 (g := g) (d := d) (post := zPv (fun M1 => M1 = mLv M m ot sv)) (M := zfi (zpi (zpi M m 1 0) m 44 0) ot 8 (-1)) s0 s1 s2 r1 r2 ?_ 257 0 (by omega) (by omega)
  · rw [zfi_0] at h2; exact h2
  · exact zi_return rfl (dq dM_leave 30 rfl) ⟨rfl, rfl⟩
theorem V_empty {g : zg} {d : Nat} {M : zM} {v : Nat} (s0 : zsh M v = some (.inl 7)) : zEv g (d) mV_empty [va_rf (some v)] M (fun M1 => M1 = zpi (zpi M v 0 0) v 8 0) := by
  refine zEv_of (lv := [(0, va_rf (some v))]) ⟨by decide +kernel, by decide, by decide +kernel⟩ (by simp [z_cr, z_ci]) (Nat.le_of_ble_eq_true rfl) rfl ?_
  refine zi_aload_n 0 (dq dV_empty 0 rfl) rfl ?_
  refine zi_iconst (v := 0) (dq dV_empty 1 rfl) (by decide) ?_
  refine zi_puti (by first | exact s0) fV_33 (fun h => by cases h) rfl rfl (dq dV_empty 2 rfl) ?_
  refine zi_aload_n 0 (dq dV_empty 3 rfl) rfl ?_
  refine zi_iconst (v := 0) (dq dV_empty 4 rfl) (by decide) ?_
  refine zi_puti (by first | exact s0) fV_37 (fun h => by cases h) rfl rfl (dq dV_empty 5 rfl) ?_
  exact zi_return rfl (dq dV_empty 6 rfl) ⟨rfl, rfl⟩
def dFg (M : zM) (D v ot sv : Nat) : zM := zfl (zfr (zpi (zpi (zpi M D 3 0) v 0 0) v 8 0) ot 8 none) sv 4 0
theorem D_forget_1 {g : zg} {d : Nat} {post : zR → zM → Prop} {M : zM} {D v ot sv : Nat} (s0 : zsh M D = some (.inl 8)) (s1 : zsh M v = some (.inl 7)) (s2 : zsh M ot = some (.inr (4, 8))) (s3 : zsh M sv = some (.inr (2, 4))) (r1 : zr M D 7 = some v) (r2 : zr M D 13 = some ot) (r3 : zr M D 16 = some sv) (hot : ot ≠ D) (hx : zG g d mD_forgetModule post (zfr M ot 8 none) 33 [(1, .int (nI (8))), (0, va_rf (some D))] []) : ∀ (n k : Nat), k ≤ 8 → 8 < k + n → zG g d mD_forgetModule post (zfr M ot k none) 14 [(1, .int (nI k)), (0, va_rf (some D))] [] := by
  intro n
  induction n with
  | zero => intro k h1 h2; omega
  | succ n ih =>
    intro k h1 h2
    refine zi_iload_n 0 (dq dD_forgetModule 8 rfl) rfl ?_
    refine zi_bipush (v := 8) (dq dD_forgetModule 9 rfl) (by decide) ?_
    refine zi_icmp_ge (tgt := 33) (dq dD_forgetModule 10 rfl) (by decide) (fun c17 => ?_) (fun c17 => ?_)
    · have hk : k = 8 := by have := (nI_le' (k := 8) (n := k) (by omega) (by omega)).mp c17; omega
      subst hk
      exact hx
    · have hk : k < 8 := by rcases Nat.lt_or_ge k 8 with h | h; exact h; exact absurd ((nI_le' (k := 8) (n := k) (by omega) (by omega)).mpr h) c17
      refine zi_aload_n 1 (dq dD_forgetModule 11 rfl) rfl ?_
      refine zi_getR (by first | exact s0 | exact s2) fD_71 (by first | exact (by rw [zr_fr, if_neg (fun h => hot h.1.symm)]; exact r2)) (dq dD_forgetModule 12 rfl) ?_
      refine zi_iload_n 0 (dq dD_forgetModule 13 rfl) rfl ?_
      refine zi_null (dq dD_forgetModule 14 rfl) ?_
      refine zi_aastN (by first | exact s0 | exact s2) rfl (vp_in_nI hk (by omega)) (dq dD_forgetModule 15 rfl) ?_
      rw [nI_clamp (by omega), zfr_s]
      refine zi_iincC (v := _ + (1)) (lv' := [(1, _), (0, _)]) 0 (dq dD_forgetModule 16 rfl) rfl rfl (by decide) (by simp [z_cr, z_ci]) rfl ?_
      refine zi_goto (tgt := 14) (dq dD_forgetModule 17 rfl) (by decide) ?_
      rw [nI_1]; exact ih (k + 1) (by omega) (by omega)
theorem D_forget_2 {g : zg} {d : Nat} {post : zR → zM → Prop} {M : zM} {D v ot sv : Nat} (s0 : zsh M D = some (.inl 8)) (s1 : zsh M v = some (.inl 7)) (s2 : zsh M ot = some (.inr (4, 8))) (s3 : zsh M sv = some (.inr (2, 4))) (r1 : zr M D 7 = some v) (r2 : zr M D 13 = some ot) (r3 : zr M D 16 = some sv) (hot : ot ≠ D) (hx : zG g d mD_forgetModule post (zfl M sv 4 0) 57 [(1, .int (nI (4))), (0, va_rf (some D))] []) : ∀ (n k : Nat), k ≤ 4 → 4 < k + n → zG g d mD_forgetModule post (zfl M sv k 0) 35 [(1, .int (nI k)), (0, va_rf (some D))] [] := by
  intro n
  induction n with
  | zero => intro k h1 h2; omega
  | succ n ih =>
    intro k h1 h2
    refine zi_iload_n 0 (dq dD_forgetModule 20 rfl) rfl ?_
    refine zi_aload_n 1 (dq dD_forgetModule 21 rfl) rfl ?_
    refine zi_getR (by first | exact s0 | exact s3) fD_81 (by first | exact r3) (dq dD_forgetModule 22 rfl) ?_
    refine zi_alen (by first | exact s0 | exact s3) rfl (dq dD_forgetModule 23 rfl) ?_
    refine zi_icmp_ge (tgt := 57) (dq dD_forgetModule 24 rfl) (by decide) (fun c41 => ?_) (fun c41 => ?_)
    · have hk : k = 4 := by have := (nI_le' (k := 4) (n := k) (by omega) (by omega)).mp c41; omega
      subst hk
      exact hx
    · have hk : k < 4 := by rcases Nat.lt_or_ge k 4 with h | h; exact h; exact absurd ((nI_le' (k := 4) (n := k) (by omega) (by omega)).mpr h) c41
      refine zi_aload_n 1 (dq dD_forgetModule 25 rfl) rfl ?_
      refine zi_getR (by first | exact s0 | exact s3) fD_81 (by first | exact r3) (dq dD_forgetModule 26 rfl) ?_
      refine zi_iload_n 0 (dq dD_forgetModule 27 rfl) rfl ?_
      refine zi_lconst (v := 0) (dq dD_forgetModule 28 rfl) (by decide) ?_
      refine zi_last (by first | exact s0 | exact s3) rfl (vp_in_nI hk (by omega)) (dq dD_forgetModule 29 rfl) ?_
      rw [nI_clamp (by omega), zfl_s]
      refine zi_iincC (v := _ + (1)) (lv' := [(1, _), (0, _)]) 0 (dq dD_forgetModule 30 rfl) rfl rfl (by decide) (by simp [z_cr, z_ci]) rfl ?_
      refine zi_goto (tgt := 35) (dq dD_forgetModule 31 rfl) (by decide) ?_
      rw [nI_1]; exact ih (k + 1) (by omega) (by omega)
theorem D_forget {g : zg} {d : Nat} {M : zM} {D v ot sv : Nat} (s0 : zsh M D = some (.inl 8)) (s1 : zsh M v = some (.inl 7)) (s2 : zsh M ot = some (.inr (4, 8))) (s3 : zsh M sv = some (.inr (2, 4))) (r1 : zr M D 7 = some v) (r2 : zr M D 13 = some ot) (r3 : zr M D 16 = some sv) (hot : ot ≠ D) : zEv g (d + 1) mD_forgetModule [va_rf (some D)] M (fun M1 => M1 = dFg M D v ot sv) := by
  refine zEv_of (lv := [(0, va_rf (some D))]) ⟨by decide +kernel, by decide, by decide +kernel⟩ (by simp [z_cr, z_ci]) (Nat.le_of_ble_eq_true rfl) rfl ?_
  refine zi_aload_n 0 (dq dD_forgetModule 0 rfl) rfl ?_
  refine zi_iconst (v := 0) (dq dD_forgetModule 1 rfl) (by decide) ?_
  refine zi_puti (by first | exact s0) fD_96 (fun h => by cases h) (by first | rfl | decide | assumption) (by first | rfl | decide | assumption) (dq dD_forgetModule 2 rfl) ?_
  refine zi_aload_n 0 (dq dD_forgetModule 3 rfl) rfl ?_
  refine zi_getR (by first | exact s0) fD_32 (by first | exact r1) (dq dD_forgetModule 4 rfl) ?_
  refine zi_cVv0 (V_empty (d := d) (v := v) s1) wV_empty aD_192 iV_empty sV_empty (by omega) s1 rfl (Nat.le_of_ble_eq_true rfl) (dq dD_forgetModule 5 rfl) (fun M9 h9 => ?_)
  subst h9
  refine zi_iconst (v := 0) (dq dD_forgetModule 6 rfl) (by decide) ?_
  refine zi_istC_n (lv' := [(1, _), (0, _)]) (dq dD_forgetModule 7 rfl) (by decide) (by simp [z_cr, z_ci]) rfl ?_
  have h1 := D_forget_1 (g := g) (d := d + 1) (post := zPv (fun M1 => M1 = dFg M D v ot sv)) (M := zpi (zpi (zpi M D 3 0) v 0 0) v 8 0) s0 s1 s2 s3 r1 r2 r3 hot ?_ 9 0 (by omega) (by omega)
  · rw [zfr_0] at h1; exact h1
  refine zi_iconst (v := 0) (dq dD_forgetModule 18 rfl) (by decide) ?_
  refine zi_istC_n (lv' := [(1, _), (0, _)]) (dq dD_forgetModule 19 rfl) (by decide) (by simp [z_cr, z_ci]) rfl ?_
  have h2 := D_forget_2 (g := g) (d := d + 1) (post := zPv (fun M1 => M1 = dFg M D v ot sv)) (M := zfr (zpi (zpi (zpi M D 3 0) v 0 0) v 8 0) ot 8 none) s0 s1 s2 s3 (by rw [zr_fr, if_neg (fun h => hot h.1.symm)]; exact r1) (by rw [zr_fr, if_neg (fun h => hot h.1.symm)]; exact r2) (by rw [zr_fr, if_neg (fun h => hot h.1.symm)]; exact r3) hot ?_ 5 0 (by omega) (by omega)
  · rw [zfl_0] at h2; exact h2
  · exact zi_return rfl (dq dD_forgetModule 32 rfl) ⟨rfl, rfl⟩
end
section
/-! CONSTRUCTORS -/
theorem znf_snoc (M : zM) (v k t n : Nat) (L : List (Nat × Nat × Nat)) : zpr (znew (znf M v L) (.inr (t, n)) n) v k (some (zsz (znf M v L))) = znf M v (L ++ [(k, t, n)]) := by
  rw [znf_app]
  rfl
theorem znf_sh {M : zM} {v : Nat} {x : Nat ⊕ Nat × Nat} (s0 : zsh M v = some x) (hne : v < zsz M) {sh : Nat ⊕ Nat × Nat} {n : Nat} {L : List (Nat × Nat × Nat)} : zsh (znew (znf M v L) sh n) v = some x := by
  have := znf_sz M v L
  rw [zsh_nw, if_neg (by omega), (znf_old M v L hne).1]
  exact s0
theorem znf_room {g : zg} {M : zM} {v n m t : Nat} {L : List (Nat × Nat × Nat)} (hr : zsz M + n ≤ g.KC ∧ zsl M + m ≤ g.KS) (h : L.length + 1 ≤ n ∧ (L.map (fun q => q.2.2)).sum + t ≤ m) : zsz (znf M v L) + 1 ≤ g.KC ∧ zsl (znf M v L) + t ≤ g.KS := by
  have h1 := znf_sz M v L
  have h2 := znf_sl M v L
  obtain ⟨a, b⟩ := hr
  obtain ⟨c, e⟩ := h
  exact ⟨by omega, by omega⟩
theorem K_init {g : zg} {d : Nat} {M : zM} {v : Nat} : zEv g (d + 1) mK_init [va_rf (some v)] M (fun M1 => M1 = M) := by
  refine zEv_of (lv := [(0, va_rf (some v))]) ⟨by decide +kernel, by decide, by decide +kernel⟩ (by simp [z_cr, z_ci]) (Nat.le_of_ble_eq_true rfl) rfl ?_
  refine zi_aload_n 0 (dq dK_init 0 rfl) rfl ?_
  refine zi_objInit aK_3 i_obj w_obj (by omega) (Nat.le_of_ble_eq_true rfl) (dq dK_init 1 rfl) ?_
  exact zi_return rfl (dq dK_init 2 rfl) ⟨rfl, rfl⟩
theorem T_init {g : zg} {d : Nat} {M : zM} {v : Nat} : zEv g (d + 1) mT_init [va_rf (some v)] M (fun M1 => M1 = M) := by
  refine zEv_of (lv := [(0, va_rf (some v))]) ⟨by decide +kernel, by decide, by decide +kernel⟩ (by simp [z_cr, z_ci]) (Nat.le_of_ble_eq_true rfl) rfl ?_
  refine zi_aload_n 0 (dq dT_init 0 rfl) rfl ?_
  refine zi_objInit aT_3 i_obj w_obj (by omega) (Nat.le_of_ble_eq_true rfl) (dq dT_init 1 rfl) ?_
  exact zi_return rfl (dq dT_init 2 rfl) ⟨rfl, rfl⟩
def lV : List (Nat × Nat × Nat) := [(1, 0, 100), (2, 0, 100), (3, 0, 100), (4, 0, 100), (5, 0, 100), (6, 0, 100), (7, 0, 120)]
theorem V_init {g : zg} {d : Nat} {M : zM} {v : Nat} (s0 : zsh M v = some (.inl 7)) (hne : v < zsz M) (hr : zsz M + 7 ≤ g.KC ∧ zsl M + 720 ≤ g.KS) : zEv g (d + 1) mV_init [va_rf (some v)] M (fun M1 => M1 = znf M v lV) := by
  refine zEv_of (lv := [(0, va_rf (some v))]) ⟨by decide +kernel, by decide, by decide +kernel⟩ (by simp [z_cr, z_ci]) (Nat.le_of_ble_eq_true rfl) rfl ?_
  refine zi_aload_n 0 (dq dV_init 0 rfl) rfl ?_
  refine zi_objInit aV_3 i_obj w_obj (by omega) (Nat.le_of_ble_eq_true rfl) (dq dV_init 1 rfl) ?_
  show zG g (d + 1) mV_init _ (znf M v []) _ _ _
  refine zi_aload_n 0 (dq dV_init 2 rfl) rfl ?_
  refine zi_bipush (v := 100) (dq dV_init 3 rfl) (by decide) ?_
  refine zi_newa (t := 0) (N := 100) r_int rfl rfl (by simp) (by first | rfl | decide) (by decide) (znf_room hr (by decide)) (dq dV_init 4 rfl) ?_
  refine zi_putr (znf_sh s0 hne) fV_9 (fun _ => ⟨rfl, _, _, rfl⟩) (z_nar_a _ _) (dq dV_init 5 rfl) ?_
  rw [znf_snoc]
  refine zi_aload_n 0 (dq dV_init 6 rfl) rfl ?_
  refine zi_bipush (v := 100) (dq dV_init 7 rfl) (by decide) ?_
  refine zi_newa (t := 0) (N := 100) r_int rfl rfl (by simp) (by first | rfl | decide) (by decide) (znf_room hr (by decide)) (dq dV_init 8 rfl) ?_
  refine zi_putr (znf_sh s0 hne) fV_15 (fun _ => ⟨rfl, _, _, rfl⟩) (z_nar_a _ _) (dq dV_init 9 rfl) ?_
  rw [znf_snoc]
  refine zi_aload_n 0 (dq dV_init 10 rfl) rfl ?_
  refine zi_bipush (v := 100) (dq dV_init 11 rfl) (by decide) ?_
  refine zi_newa (t := 0) (N := 100) r_int rfl rfl (by simp) (by first | rfl | decide) (by decide) (znf_room hr (by decide)) (dq dV_init 12 rfl) ?_
  refine zi_putr (znf_sh s0 hne) fV_18 (fun _ => ⟨rfl, _, _, rfl⟩) (z_nar_a _ _) (dq dV_init 13 rfl) ?_
  rw [znf_snoc]
  refine zi_aload_n 0 (dq dV_init 14 rfl) rfl ?_
  refine zi_bipush (v := 100) (dq dV_init 15 rfl) (by decide) ?_
  refine zi_newa (t := 0) (N := 100) r_int rfl rfl (by simp) (by first | rfl | decide) (by decide) (znf_room hr (by decide)) (dq dV_init 16 rfl) ?_
  refine zi_putr (znf_sh s0 hne) fV_21 (fun _ => ⟨rfl, _, _, rfl⟩) (z_nar_a _ _) (dq dV_init 17 rfl) ?_
  rw [znf_snoc]
  refine zi_aload_n 0 (dq dV_init 18 rfl) rfl ?_
  refine zi_bipush (v := 100) (dq dV_init 19 rfl) (by decide) ?_
  refine zi_newa (t := 0) (N := 100) r_int rfl rfl (by simp) (by first | rfl | decide) (by decide) (znf_room hr (by decide)) (dq dV_init 20 rfl) ?_
  refine zi_putr (znf_sh s0 hne) fV_24 (fun _ => ⟨rfl, _, _, rfl⟩) (z_nar_a _ _) (dq dV_init 21 rfl) ?_
  rw [znf_snoc]
  refine zi_aload_n 0 (dq dV_init 22 rfl) rfl ?_
  refine zi_bipush (v := 100) (dq dV_init 23 rfl) (by decide) ?_
  refine zi_newa (t := 0) (N := 100) r_int rfl rfl (by simp) (by first | rfl | decide) (by decide) (znf_room hr (by decide)) (dq dV_init 24 rfl) ?_
  refine zi_putr (znf_sh s0 hne) fV_27 (fun _ => ⟨rfl, _, _, rfl⟩) (z_nar_a _ _) (dq dV_init 25 rfl) ?_
  rw [znf_snoc]
  refine zi_aload_n 0 (dq dV_init 26 rfl) rfl ?_
  refine zi_bipush (v := 120) (dq dV_init 27 rfl) (by decide) ?_
  refine zi_newa (t := 0) (N := 120) r_int rfl rfl (by simp) (by first | rfl | decide) (by decide) (znf_room hr (by decide)) (dq dV_init 28 rfl) ?_
  refine zi_putr (znf_sh s0 hne) fV_30 (fun _ => ⟨rfl, _, _, rfl⟩) (z_nar_a _ _) (dq dV_init 29 rfl) ?_
  rw [znf_snoc]
  exact zi_return rfl (dq dV_init 30 rfl) ⟨rfl, rfl⟩
theorem O_init {g : zg} {d : Nat} {M : zM} {v : Nat} {x z : Option Nat} (s0 : zsh M v = some (.inl 2)) : zEv g (d + 1) mO_init [va_rf (some v), va_rf x, va_rf z] M (fun M1 => M1 = zpr (zpr M v 0 x) v 1 z) := by
  refine zEv_of (lv := [(0, va_rf (some v)), (1, va_rf x), (2, va_rf z)]) ⟨by decide +kernel, by decide, by decide +kernel⟩ (by simp [z_cr, z_ci]) (Nat.le_of_ble_eq_true rfl) rfl ?_
  refine zi_aload_n 0 (dq dO_init 0 rfl) rfl ?_
  refine zi_objInit aO_3 i_obj w_obj (by omega) (Nat.le_of_ble_eq_true rfl) (dq dO_init 1 rfl) ?_
  refine zi_aload_n 0 (dq dO_init 2 rfl) rfl ?_
  refine zi_aload_n 1 (dq dO_init 3 rfl) rfl ?_
  refine zi_putr (by first | exact s0) fO_9 (fun _ => ⟨rfl, _, _, rfl⟩) (z_nar_a _ _) (dq dO_init 4 rfl) ?_
  refine zi_aload_n 0 (dq dO_init 5 rfl) rfl ?_
  refine zi_aload_n 2 (dq dO_init 6 rfl) rfl ?_
  refine zi_putr (by first | exact s0) fO_15 (fun _ => ⟨rfl, _, _, rfl⟩) (z_nar_r _ _) (dq dO_init 7 rfl) ?_
  exact zi_return rfl (dq dO_init 8 rfl) ⟨rfl, rfl⟩
theorem P_init {g : zg} {d : Nat} {M : zM} {v : Nat} {x z : Option Nat} (s0 : zsh M v = some (.inl 3)) : zEv g (d + 1) mP_init [va_rf (some v), va_rf x, va_rf z] M (fun M1 => M1 = zpr (zpr M v 0 x) v 1 z) := by
  refine zEv_of (lv := [(0, va_rf (some v)), (1, va_rf x), (2, va_rf z)]) ⟨by decide +kernel, by decide, by decide +kernel⟩ (by simp [z_cr, z_ci]) (Nat.le_of_ble_eq_true rfl) rfl ?_
  refine zi_aload_n 0 (dq dP_init 0 rfl) rfl ?_
  refine zi_objInit aP_3 i_obj w_obj (by omega) (Nat.le_of_ble_eq_true rfl) (dq dP_init 1 rfl) ?_
  refine zi_aload_n 0 (dq dP_init 2 rfl) rfl ?_
  refine zi_aload_n 1 (dq dP_init 3 rfl) rfl ?_
  refine zi_putr (by first | exact s0) fP_9 (fun _ => ⟨rfl, _, _, rfl⟩) (z_nar_a _ _) (dq dP_init 4 rfl) ?_
  refine zi_aload_n 0 (dq dP_init 5 rfl) rfl ?_
  refine zi_aload_n 2 (dq dP_init 6 rfl) rfl ?_
  refine zi_putr (by first | exact s0) fP_15 (fun _ => ⟨rfl, _, _, rfl⟩) (z_nar_r _ _) (dq dP_init 7 rfl) ?_
  exact zi_return rfl (dq dP_init 8 rfl) ⟨rfl, rfl⟩
theorem Q_init {g : zg} {d : Nat} {M : zM} {v : Nat} {x z : Option Nat} (s0 : zsh M v = some (.inl 4)) : zEv g (d + 1) mQ_init [va_rf (some v), va_rf x, va_rf z] M (fun M1 => M1 = zpr (zpr M v 0 x) v 1 z) := by
  refine zEv_of (lv := [(0, va_rf (some v)), (1, va_rf x), (2, va_rf z)]) ⟨by decide +kernel, by decide, by decide +kernel⟩ (by simp [z_cr, z_ci]) (Nat.le_of_ble_eq_true rfl) rfl ?_
  refine zi_aload_n 0 (dq dQ_init 0 rfl) rfl ?_
  refine zi_objInit aQ_3 i_obj w_obj (by omega) (Nat.le_of_ble_eq_true rfl) (dq dQ_init 1 rfl) ?_
  refine zi_aload_n 0 (dq dQ_init 2 rfl) rfl ?_
  refine zi_aload_n 1 (dq dQ_init 3 rfl) rfl ?_
  refine zi_putr (by first | exact s0) fQ_9 (fun _ => ⟨rfl, _, _, rfl⟩) (z_nar_a _ _) (dq dQ_init 4 rfl) ?_
  refine zi_aload_n 0 (dq dQ_init 5 rfl) rfl ?_
  refine zi_aload_n 2 (dq dQ_init 6 rfl) rfl ?_
  refine zi_putr (by first | exact s0) fQ_15 (fun _ => ⟨rfl, _, _, rfl⟩) (z_nar_r _ _) (dq dQ_init 7 rfl) ?_
  exact zi_return rfl (dq dQ_init 8 rfl) ⟨rfl, rfl⟩
theorem S_init {g : zg} {d : Nat} {M : zM} {v : Nat} {x z : Option Nat} (s0 : zsh M v = some (.inl 5)) : zEv g (d + 1) mS_init [va_rf (some v), va_rf x, va_rf z] M (fun M1 => M1 = zpr (zpr M v 0 x) v 1 z) := by
  refine zEv_of (lv := [(0, va_rf (some v)), (1, va_rf x), (2, va_rf z)]) ⟨by decide +kernel, by decide, by decide +kernel⟩ (by simp [z_cr, z_ci]) (Nat.le_of_ble_eq_true rfl) rfl ?_
  refine zi_aload_n 0 (dq dS_init 0 rfl) rfl ?_
  refine zi_objInit aS_3 i_obj w_obj (by omega) (Nat.le_of_ble_eq_true rfl) (dq dS_init 1 rfl) ?_
  refine zi_aload_n 0 (dq dS_init 2 rfl) rfl ?_
  refine zi_aload_n 1 (dq dS_init 3 rfl) rfl ?_
  refine zi_putr (by first | exact s0) fS_9 (fun _ => ⟨rfl, _, _, rfl⟩) (z_nar_a _ _) (dq dS_init 4 rfl) ?_
  refine zi_aload_n 0 (dq dS_init 5 rfl) rfl ?_
  refine zi_aload_n 2 (dq dS_init 6 rfl) rfl ?_
  refine zi_putr (by first | exact s0) fS_15 (fun _ => ⟨rfl, _, _, rfl⟩) (z_nar_r _ _) (dq dS_init 7 rfl) ?_
  exact zi_return rfl (dq dS_init 8 rfl) ⟨rfl, rfl⟩
def lC : List (Nat × Nat × Nat) := [(1, 4, 26), (2, 4, 150), (3, 5, 150)]
theorem C_init {g : zg} {d : Nat} {M : zM} {v : Nat} {x : Option Nat} (s0 : zsh M v = some (.inl 0)) (hne : v < zsz M) (hr : zsz M + 3 ≤ g.KC ∧ zsl M + 326 ≤ g.KS) : zEv g (d + 1) mC_init [va_rf (some v), va_rf x] M (fun M1 => M1 = znf (zpr M v 0 x) v lC) := by
  refine zEv_of (lv := [(0, va_rf (some v)), (1, va_rf x)]) ⟨by decide +kernel, by decide, by decide +kernel⟩ (by simp [z_cr, z_ci]) (Nat.le_of_ble_eq_true rfl) rfl ?_
  refine zi_aload_n 0 (dq dC_init 0 rfl) rfl ?_
  refine zi_objInit aC_3 i_obj w_obj (by omega) (Nat.le_of_ble_eq_true rfl) (dq dC_init 1 rfl) ?_
  refine zi_aload_n 0 (dq dC_init 2 rfl) rfl ?_
  refine zi_aload_n 1 (dq dC_init 3 rfl) rfl ?_
  refine zi_putr (by first | exact s0) fC_9 (fun _ => ⟨rfl, _, _, rfl⟩) (z_nar_a _ _) (dq dC_init 4 rfl) ?_
  show zG g (d + 1) mC_init _ (znf (zpr M v 0 x) v []) _ _ _
  refine zi_aload_n 0 (dq dC_init 5 rfl) rfl ?_
  refine zi_bipush (v := 26) (dq dC_init 6 rfl) (by decide) ?_
  refine zi_newq (t := 4) (N := 26) bC_15 (by decide) rfl (by first | rfl | decide) (by decide) (znf_room (M := zpr M v 0 x) hr (by decide)) (dq dC_init 7 rfl) ?_
  refine zi_putr (znf_sh (M := zpr M v 0 x) s0 hne) fC_17 (fun _ => ⟨rfl, _, _, rfl⟩) (z_nar_a _ _) (dq dC_init 8 rfl) ?_
  rw [znf_snoc]
  refine zi_aload_n 0 (dq dC_init 9 rfl) rfl ?_
  refine zi_sipush (v := 150) (dq dC_init 10 rfl) (by decide) ?_
  refine zi_newq (t := 4) (N := 150) bC_15 (by decide) rfl (by first | rfl | decide) (by decide) (znf_room (M := zpr M v 0 x) hr (by decide)) (dq dC_init 11 rfl) ?_
  refine zi_putr (znf_sh (M := zpr M v 0 x) s0 hne) fC_21 (fun _ => ⟨rfl, _, _, rfl⟩) (z_nar_a _ _) (dq dC_init 12 rfl) ?_
  rw [znf_snoc]
  refine zi_aload_n 0 (dq dC_init 13 rfl) rfl ?_
  refine zi_sipush (v := 150) (dq dC_init 14 rfl) (by decide) ?_
  refine zi_newq (t := 5) (N := 150) bC_24 (by decide) rfl (by first | rfl | decide) (by decide) (znf_room (M := zpr M v 0 x) hr (by decide)) (dq dC_init 15 rfl) ?_
  refine zi_putr (znf_sh (M := zpr M v 0 x) s0 hne) fC_26 (fun _ => ⟨rfl, _, _, rfl⟩) (z_nar_a _ _) (dq dC_init 16 rfl) ?_
  rw [znf_snoc]
  exact zi_return rfl (dq dC_init 17 rfl) ⟨rfl, rfl⟩
def lM : List (Nat × Nat × Nat) := [(7, 1, 150), (8, 0, 150), (9, 0, 26), (11, 0, 160), (12, 0, 160), (13, 0, 160), (14, 0, 160), (15, 0, 160), (16, 0, 160), (17, 0, 160), (18, 3, 160), (19, 3, 160), (20, 0, 960), (21, 0, 960), (22, 0, 960), (25, 0, 16), (26, 0, 150), (31, 0, 120), (32, 0, 120), (33, 0, 4000), (36, 0, 100), (37, 0, 100), (38, 0, 100), (39, 0, 100), (40, 0, 100), (41, 0, 100), (42, 0, 101), (43, 0, 240), (45, 0, 500), (46, 0, 240), (50, 0, 160), (51, 0, 160), (52, 0, 160), (53, 0, 160), (54, 3, 160), (55, 0, 8), (56, 0, 8), (57, 0, 8), (58, 3, 256)]
theorem lM_nd : (lM.map (fun q => q.1)).Nodup := by decide
theorem M_init {g : zg} {d : Nat} {M : zM} {v : Nat} (s0 : zsh M v = some (.inl 9)) (hne : v < zsz M) (hr : zsz M + 39 ≤ g.KC ∧ zsl M + 11813 ≤ g.KS) : zEv g (d + 2) mM_init [va_rf (some v)] M (fun M1 => M1 = mLv (znf M v lM) v (zsz M + 35) (zsz M + 38)) := by
  refine zEv_of (lv := [(0, va_rf (some v))]) ⟨by decide +kernel, by decide, by decide +kernel⟩ (by simp [z_cr, z_ci]) (Nat.le_of_ble_eq_true rfl) rfl ?_
  refine zi_aload_n 0 (dq dM_init 0 rfl) rfl ?_
  refine zi_objInit aM_1 i_obj w_obj (by omega) (Nat.le_of_ble_eq_true rfl) (dq dM_init 1 rfl) ?_
  show zG g (d + 2) mM_init _ (znf M v []) _ _ _
  refine zi_aload_n 0 (dq dM_init 2 rfl) rfl ?_
  refine zi_sipush (v := 150) (dq dM_init 3 rfl) (by decide) ?_
  refine zi_newa (t := 1) (N := 150) r_char rfl rfl (by simp) (by first | rfl | decide) (by decide) (znf_room hr (by decide)) (dq dM_init 4 rfl) ?_
  refine zi_putr (znf_sh s0 hne) fM_7 (fun _ => ⟨rfl, _, _, rfl⟩) (z_nar_a _ _) (dq dM_init 5 rfl) ?_
  rw [znf_snoc]
  refine zi_aload_n 0 (dq dM_init 6 rfl) rfl ?_
  refine zi_sipush (v := 150) (dq dM_init 7 rfl) (by decide) ?_
  refine zi_newa (t := 0) (N := 150) r_int rfl rfl (by simp) (by first | rfl | decide) (by decide) (znf_room hr (by decide)) (dq dM_init 8 rfl) ?_
  refine zi_putr (znf_sh s0 hne) fM_13 (fun _ => ⟨rfl, _, _, rfl⟩) (z_nar_a _ _) (dq dM_init 9 rfl) ?_
  rw [znf_snoc]
  refine zi_aload_n 0 (dq dM_init 10 rfl) rfl ?_
  refine zi_bipush (v := 26) (dq dM_init 11 rfl) (by decide) ?_
  refine zi_newa (t := 0) (N := 26) r_int rfl rfl (by simp) (by first | rfl | decide) (by decide) (znf_room hr (by decide)) (dq dM_init 12 rfl) ?_
  refine zi_putr (znf_sh s0 hne) fM_17 (fun _ => ⟨rfl, _, _, rfl⟩) (z_nar_a _ _) (dq dM_init 13 rfl) ?_
  rw [znf_snoc]
  refine zi_aload_n 0 (dq dM_init 14 rfl) rfl ?_
  refine zi_sipush (v := 160) (dq dM_init 15 rfl) (by decide) ?_
  refine zi_newa (t := 0) (N := 160) r_int rfl rfl (by simp) (by first | rfl | decide) (by decide) (znf_room hr (by decide)) (dq dM_init 16 rfl) ?_
  refine zi_putr (znf_sh s0 hne) fM_20 (fun _ => ⟨rfl, _, _, rfl⟩) (z_nar_a _ _) (dq dM_init 17 rfl) ?_
  rw [znf_snoc]
  refine zi_aload_n 0 (dq dM_init 18 rfl) rfl ?_
  refine zi_sipush (v := 160) (dq dM_init 19 rfl) (by decide) ?_
  refine zi_newa (t := 0) (N := 160) r_int rfl rfl (by simp) (by first | rfl | decide) (by decide) (znf_room hr (by decide)) (dq dM_init 20 rfl) ?_
  refine zi_putr (znf_sh s0 hne) fM_23 (fun _ => ⟨rfl, _, _, rfl⟩) (z_nar_a _ _) (dq dM_init 21 rfl) ?_
  rw [znf_snoc]
  refine zi_aload_n 0 (dq dM_init 22 rfl) rfl ?_
  refine zi_sipush (v := 160) (dq dM_init 23 rfl) (by decide) ?_
  refine zi_newa (t := 0) (N := 160) r_int rfl rfl (by simp) (by first | rfl | decide) (by decide) (znf_room hr (by decide)) (dq dM_init 24 rfl) ?_
  refine zi_putr (znf_sh s0 hne) fM_26 (fun _ => ⟨rfl, _, _, rfl⟩) (z_nar_a _ _) (dq dM_init 25 rfl) ?_
  rw [znf_snoc]
  refine zi_aload_n 0 (dq dM_init 26 rfl) rfl ?_
  refine zi_sipush (v := 160) (dq dM_init 27 rfl) (by decide) ?_
  refine zi_newa (t := 0) (N := 160) r_int rfl rfl (by simp) (by first | rfl | decide) (by decide) (znf_room hr (by decide)) (dq dM_init 28 rfl) ?_
  refine zi_putr (znf_sh s0 hne) fM_29 (fun _ => ⟨rfl, _, _, rfl⟩) (z_nar_a _ _) (dq dM_init 29 rfl) ?_
  rw [znf_snoc]
  refine zi_aload_n 0 (dq dM_init 30 rfl) rfl ?_
  refine zi_sipush (v := 160) (dq dM_init 31 rfl) (by decide) ?_
  refine zi_newa (t := 0) (N := 160) r_int rfl rfl (by simp) (by first | rfl | decide) (by decide) (znf_room hr (by decide)) (dq dM_init 32 rfl) ?_
  refine zi_putr (znf_sh s0 hne) fM_32 (fun _ => ⟨rfl, _, _, rfl⟩) (z_nar_a _ _) (dq dM_init 33 rfl) ?_
  rw [znf_snoc]
  refine zi_aload_n 0 (dq dM_init 34 rfl) rfl ?_
  refine zi_sipush (v := 160) (dq dM_init 35 rfl) (by decide) ?_
  refine zi_newa (t := 0) (N := 160) r_int rfl rfl (by simp) (by first | rfl | decide) (by decide) (znf_room hr (by decide)) (dq dM_init 36 rfl) ?_
  refine zi_putr (znf_sh s0 hne) fM_35 (fun _ => ⟨rfl, _, _, rfl⟩) (z_nar_a _ _) (dq dM_init 37 rfl) ?_
  rw [znf_snoc]
  refine zi_aload_n 0 (dq dM_init 38 rfl) rfl ?_
  refine zi_sipush (v := 160) (dq dM_init 39 rfl) (by decide) ?_
  refine zi_newa (t := 0) (N := 160) r_int rfl rfl (by simp) (by first | rfl | decide) (by decide) (znf_room hr (by decide)) (dq dM_init 40 rfl) ?_
  refine zi_putr (znf_sh s0 hne) fM_38 (fun _ => ⟨rfl, _, _, rfl⟩) (z_nar_a _ _) (dq dM_init 41 rfl) ?_
  rw [znf_snoc]
  refine zi_aload_n 0 (dq dM_init 42 rfl) rfl ?_
  refine zi_sipush (v := 160) (dq dM_init 43 rfl) (by decide) ?_
  refine zi_newa (t := 3) (N := 160) r_boolean rfl rfl (by simp) (by first | rfl | decide) (by decide) (znf_room hr (by decide)) (dq dM_init 44 rfl) ?_
  refine zi_putr (znf_sh s0 hne) fM_41 (fun _ => ⟨rfl, _, _, rfl⟩) (z_nar_a _ _) (dq dM_init 45 rfl) ?_
  rw [znf_snoc]
  refine zi_aload_n 0 (dq dM_init 46 rfl) rfl ?_
  refine zi_sipush (v := 160) (dq dM_init 47 rfl) (by decide) ?_
  refine zi_newa (t := 3) (N := 160) r_boolean rfl rfl (by simp) (by first | rfl | decide) (by decide) (znf_room hr (by decide)) (dq dM_init 48 rfl) ?_
  refine zi_putr (znf_sh s0 hne) fM_45 (fun _ => ⟨rfl, _, _, rfl⟩) (z_nar_a _ _) (dq dM_init 49 rfl) ?_
  rw [znf_snoc]
  refine zi_aload_n 0 (dq dM_init 50 rfl) rfl ?_
  refine zi_sipush (v := 960) (dq dM_init 51 rfl) (by decide) ?_
  refine zi_newa (t := 0) (N := 960) r_int rfl rfl (by simp) (by first | rfl | decide) (by decide) (znf_room hr (by decide)) (dq dM_init 52 rfl) ?_
  refine zi_putr (znf_sh s0 hne) fM_48 (fun _ => ⟨rfl, _, _, rfl⟩) (z_nar_a _ _) (dq dM_init 53 rfl) ?_
  rw [znf_snoc]
  refine zi_aload_n 0 (dq dM_init 54 rfl) rfl ?_
  refine zi_sipush (v := 960) (dq dM_init 55 rfl) (by decide) ?_
  refine zi_newa (t := 0) (N := 960) r_int rfl rfl (by simp) (by first | rfl | decide) (by decide) (znf_room hr (by decide)) (dq dM_init 56 rfl) ?_
  refine zi_putr (znf_sh s0 hne) fM_51 (fun _ => ⟨rfl, _, _, rfl⟩) (z_nar_a _ _) (dq dM_init 57 rfl) ?_
  rw [znf_snoc]
  refine zi_aload_n 0 (dq dM_init 58 rfl) rfl ?_
  refine zi_sipush (v := 960) (dq dM_init 59 rfl) (by decide) ?_
  refine zi_newa (t := 0) (N := 960) r_int rfl rfl (by simp) (by first | rfl | decide) (by decide) (znf_room hr (by decide)) (dq dM_init 60 rfl) ?_
  refine zi_putr (znf_sh s0 hne) fM_54 (fun _ => ⟨rfl, _, _, rfl⟩) (z_nar_a _ _) (dq dM_init 61 rfl) ?_
  rw [znf_snoc]
  refine zi_aload_n 0 (dq dM_init 62 rfl) rfl ?_
  refine zi_bipush (v := 16) (dq dM_init 63 rfl) (by decide) ?_
  refine zi_newa (t := 0) (N := 16) r_int rfl rfl (by simp) (by first | rfl | decide) (by decide) (znf_room hr (by decide)) (dq dM_init 64 rfl) ?_
  refine zi_putr (znf_sh s0 hne) fM_57 (fun _ => ⟨rfl, _, _, rfl⟩) (z_nar_a _ _) (dq dM_init 65 rfl) ?_
  rw [znf_snoc]
  refine zi_aload_n 0 (dq dM_init 66 rfl) rfl ?_
  refine zi_sipush (v := 150) (dq dM_init 67 rfl) (by decide) ?_
  refine zi_newa (t := 0) (N := 150) r_int rfl rfl (by simp) (by first | rfl | decide) (by decide) (znf_room hr (by decide)) (dq dM_init 68 rfl) ?_
  refine zi_putr (znf_sh s0 hne) fM_60 (fun _ => ⟨rfl, _, _, rfl⟩) (z_nar_a _ _) (dq dM_init 69 rfl) ?_
  rw [znf_snoc]
  refine zi_aload_n 0 (dq dM_init 70 rfl) rfl ?_
  refine zi_bipush (v := 120) (dq dM_init 71 rfl) (by decide) ?_
  refine zi_newa (t := 0) (N := 120) r_int rfl rfl (by simp) (by first | rfl | decide) (by decide) (znf_room hr (by decide)) (dq dM_init 72 rfl) ?_
  refine zi_putr (znf_sh s0 hne) fM_63 (fun _ => ⟨rfl, _, _, rfl⟩) (z_nar_a _ _) (dq dM_init 73 rfl) ?_
  rw [znf_snoc]
  refine zi_aload_n 0 (dq dM_init 74 rfl) rfl ?_
  refine zi_bipush (v := 120) (dq dM_init 75 rfl) (by decide) ?_
  refine zi_newa (t := 0) (N := 120) r_int rfl rfl (by simp) (by first | rfl | decide) (by decide) (znf_room hr (by decide)) (dq dM_init 76 rfl) ?_
  refine zi_putr (znf_sh s0 hne) fM_66 (fun _ => ⟨rfl, _, _, rfl⟩) (z_nar_a _ _) (dq dM_init 77 rfl) ?_
  rw [znf_snoc]
  refine zi_aload_n 0 (dq dM_init 78 rfl) rfl ?_
  refine zi_sipush (v := 4000) (dq dM_init 79 rfl) (by decide) ?_
  refine zi_newa (t := 0) (N := 4000) r_int rfl rfl (by simp) (by first | rfl | decide) (by decide) (znf_room hr (by decide)) (dq dM_init 80 rfl) ?_
  refine zi_putr (znf_sh s0 hne) fM_69 (fun _ => ⟨rfl, _, _, rfl⟩) (z_nar_a _ _) (dq dM_init 81 rfl) ?_
  rw [znf_snoc]
  refine zi_aload_n 0 (dq dM_init 82 rfl) rfl ?_
  refine zi_bipush (v := 100) (dq dM_init 83 rfl) (by decide) ?_
  refine zi_newa (t := 0) (N := 100) r_int rfl rfl (by simp) (by first | rfl | decide) (by decide) (znf_room hr (by decide)) (dq dM_init 84 rfl) ?_
  refine zi_putr (znf_sh s0 hne) fM_72 (fun _ => ⟨rfl, _, _, rfl⟩) (z_nar_a _ _) (dq dM_init 85 rfl) ?_
  rw [znf_snoc]
  refine zi_aload_n 0 (dq dM_init 86 rfl) rfl ?_
  refine zi_bipush (v := 100) (dq dM_init 87 rfl) (by decide) ?_
  refine zi_newa (t := 0) (N := 100) r_int rfl rfl (by simp) (by first | rfl | decide) (by decide) (znf_room hr (by decide)) (dq dM_init 88 rfl) ?_
  refine zi_putr (znf_sh s0 hne) fM_75 (fun _ => ⟨rfl, _, _, rfl⟩) (z_nar_a _ _) (dq dM_init 89 rfl) ?_
  rw [znf_snoc]
  refine zi_aload_n 0 (dq dM_init 90 rfl) rfl ?_
  refine zi_bipush (v := 100) (dq dM_init 91 rfl) (by decide) ?_
  refine zi_newa (t := 0) (N := 100) r_int rfl rfl (by simp) (by first | rfl | decide) (by decide) (znf_room hr (by decide)) (dq dM_init 92 rfl) ?_
  refine zi_putr (znf_sh s0 hne) fM_78 (fun _ => ⟨rfl, _, _, rfl⟩) (z_nar_a _ _) (dq dM_init 93 rfl) ?_
  rw [znf_snoc]
  refine zi_aload_n 0 (dq dM_init 94 rfl) rfl ?_
  refine zi_bipush (v := 100) (dq dM_init 95 rfl) (by decide) ?_
  refine zi_newa (t := 0) (N := 100) r_int rfl rfl (by simp) (by first | rfl | decide) (by decide) (znf_room hr (by decide)) (dq dM_init 96 rfl) ?_
  refine zi_putr (znf_sh s0 hne) fM_81 (fun _ => ⟨rfl, _, _, rfl⟩) (z_nar_a _ _) (dq dM_init 97 rfl) ?_
  rw [znf_snoc]
  refine zi_aload_n 0 (dq dM_init 98 rfl) rfl ?_
  refine zi_bipush (v := 100) (dq dM_init 99 rfl) (by decide) ?_
  refine zi_newa (t := 0) (N := 100) r_int rfl rfl (by simp) (by first | rfl | decide) (by decide) (znf_room hr (by decide)) (dq dM_init 100 rfl) ?_
  refine zi_putr (znf_sh s0 hne) fM_84 (fun _ => ⟨rfl, _, _, rfl⟩) (z_nar_a _ _) (dq dM_init 101 rfl) ?_
  rw [znf_snoc]
  refine zi_aload_n 0 (dq dM_init 102 rfl) rfl ?_
  refine zi_bipush (v := 100) (dq dM_init 103 rfl) (by decide) ?_
  refine zi_newa (t := 0) (N := 100) r_int rfl rfl (by simp) (by first | rfl | decide) (by decide) (znf_room hr (by decide)) (dq dM_init 104 rfl) ?_
  refine zi_putr (znf_sh s0 hne) fM_87 (fun _ => ⟨rfl, _, _, rfl⟩) (z_nar_a _ _) (dq dM_init 105 rfl) ?_
  rw [znf_snoc]
  refine zi_aload_n 0 (dq dM_init 106 rfl) rfl ?_
  refine zi_bipush (v := 101) (dq dM_init 107 rfl) (by decide) ?_
  refine zi_newa (t := 0) (N := 101) r_int rfl rfl (by simp) (by first | rfl | decide) (by decide) (znf_room hr (by decide)) (dq dM_init 108 rfl) ?_
  refine zi_putr (znf_sh s0 hne) fM_90 (fun _ => ⟨rfl, _, _, rfl⟩) (z_nar_a _ _) (dq dM_init 109 rfl) ?_
  rw [znf_snoc]
  refine zi_aload_n 0 (dq dM_init 110 rfl) rfl ?_
  refine zi_sipush (v := 240) (dq dM_init 111 rfl) (by decide) ?_
  refine zi_newa (t := 0) (N := 240) r_int rfl rfl (by simp) (by first | rfl | decide) (by decide) (znf_room hr (by decide)) (dq dM_init 112 rfl) ?_
  refine zi_putr (znf_sh s0 hne) fM_93 (fun _ => ⟨rfl, _, _, rfl⟩) (z_nar_a _ _) (dq dM_init 113 rfl) ?_
  rw [znf_snoc]
  refine zi_aload_n 0 (dq dM_init 114 rfl) rfl ?_
  refine zi_sipush (v := 500) (dq dM_init 115 rfl) (by decide) ?_
  refine zi_newa (t := 0) (N := 500) r_int rfl rfl (by simp) (by first | rfl | decide) (by decide) (znf_room hr (by decide)) (dq dM_init 116 rfl) ?_
  refine zi_putr (znf_sh s0 hne) fM_96 (fun _ => ⟨rfl, _, _, rfl⟩) (z_nar_a _ _) (dq dM_init 117 rfl) ?_
  rw [znf_snoc]
  refine zi_aload_n 0 (dq dM_init 118 rfl) rfl ?_
  refine zi_sipush (v := 240) (dq dM_init 119 rfl) (by decide) ?_
  refine zi_newa (t := 0) (N := 240) r_int rfl rfl (by simp) (by first | rfl | decide) (by decide) (znf_room hr (by decide)) (dq dM_init 120 rfl) ?_
  refine zi_putr (znf_sh s0 hne) fM_99 (fun _ => ⟨rfl, _, _, rfl⟩) (z_nar_a _ _) (dq dM_init 121 rfl) ?_
  rw [znf_snoc]
  refine zi_aload_n 0 (dq dM_init 122 rfl) rfl ?_
  refine zi_sipush (v := 160) (dq dM_init 123 rfl) (by decide) ?_
  refine zi_newa (t := 0) (N := 160) r_int rfl rfl (by simp) (by first | rfl | decide) (by decide) (znf_room hr (by decide)) (dq dM_init 124 rfl) ?_
  refine zi_putr (znf_sh s0 hne) fM_102 (fun _ => ⟨rfl, _, _, rfl⟩) (z_nar_a _ _) (dq dM_init 125 rfl) ?_
  rw [znf_snoc]
  refine zi_aload_n 0 (dq dM_init 126 rfl) rfl ?_
  refine zi_sipush (v := 160) (dq dM_init 127 rfl) (by decide) ?_
  refine zi_newa (t := 0) (N := 160) r_int rfl rfl (by simp) (by first | rfl | decide) (by decide) (znf_room hr (by decide)) (dq dM_init 128 rfl) ?_
  refine zi_putr (znf_sh s0 hne) fM_105 (fun _ => ⟨rfl, _, _, rfl⟩) (z_nar_a _ _) (dq dM_init 129 rfl) ?_
  rw [znf_snoc]
  refine zi_aload_n 0 (dq dM_init 130 rfl) rfl ?_
  refine zi_sipush (v := 160) (dq dM_init 131 rfl) (by decide) ?_
  refine zi_newa (t := 0) (N := 160) r_int rfl rfl (by simp) (by first | rfl | decide) (by decide) (znf_room hr (by decide)) (dq dM_init 132 rfl) ?_
  refine zi_putr (znf_sh s0 hne) fM_108 (fun _ => ⟨rfl, _, _, rfl⟩) (z_nar_a _ _) (dq dM_init 133 rfl) ?_
  rw [znf_snoc]
  refine zi_aload_n 0 (dq dM_init 134 rfl) rfl ?_
  refine zi_sipush (v := 160) (dq dM_init 135 rfl) (by decide) ?_
  refine zi_newa (t := 0) (N := 160) r_int rfl rfl (by simp) (by first | rfl | decide) (by decide) (znf_room hr (by decide)) (dq dM_init 136 rfl) ?_
  refine zi_putr (znf_sh s0 hne) fM_111 (fun _ => ⟨rfl, _, _, rfl⟩) (z_nar_a _ _) (dq dM_init 137 rfl) ?_
  rw [znf_snoc]
  refine zi_aload_n 0 (dq dM_init 138 rfl) rfl ?_
  refine zi_sipush (v := 160) (dq dM_init 139 rfl) (by decide) ?_
  refine zi_newa (t := 3) (N := 160) r_boolean rfl rfl (by simp) (by first | rfl | decide) (by decide) (znf_room hr (by decide)) (dq dM_init 140 rfl) ?_
  refine zi_putr (znf_sh s0 hne) fM_114 (fun _ => ⟨rfl, _, _, rfl⟩) (z_nar_a _ _) (dq dM_init 141 rfl) ?_
  rw [znf_snoc]
  refine zi_aload_n 0 (dq dM_init 142 rfl) rfl ?_
  refine zi_bipush (v := 8) (dq dM_init 143 rfl) (by decide) ?_
  refine zi_newa (t := 0) (N := 8) r_int rfl rfl (by simp) (by first | rfl | decide) (by decide) (znf_room hr (by decide)) (dq dM_init 144 rfl) ?_
  refine zi_putr (znf_sh s0 hne) fM_117 (fun _ => ⟨rfl, _, _, rfl⟩) (z_nar_a _ _) (dq dM_init 145 rfl) ?_
  rw [znf_snoc]
  refine zi_aload_n 0 (dq dM_init 146 rfl) rfl ?_
  refine zi_bipush (v := 8) (dq dM_init 147 rfl) (by decide) ?_
  refine zi_newa (t := 0) (N := 8) r_int rfl rfl (by simp) (by first | rfl | decide) (by decide) (znf_room hr (by decide)) (dq dM_init 148 rfl) ?_
  refine zi_putr (znf_sh s0 hne) fM_120 (fun _ => ⟨rfl, _, _, rfl⟩) (z_nar_a _ _) (dq dM_init 149 rfl) ?_
  rw [znf_snoc]
  refine zi_aload_n 0 (dq dM_init 150 rfl) rfl ?_
  refine zi_bipush (v := 8) (dq dM_init 151 rfl) (by decide) ?_
  refine zi_newa (t := 0) (N := 8) r_int rfl rfl (by simp) (by first | rfl | decide) (by decide) (znf_room hr (by decide)) (dq dM_init 152 rfl) ?_
  refine zi_putr (znf_sh s0 hne) fM_123 (fun _ => ⟨rfl, _, _, rfl⟩) (z_nar_a _ _) (dq dM_init 153 rfl) ?_
  rw [znf_snoc]
  refine zi_aload_n 0 (dq dM_init 154 rfl) rfl ?_
  refine zi_sipush (v := 256) (dq dM_init 155 rfl) (by decide) ?_
  refine zi_newa (t := 3) (N := 256) r_boolean rfl rfl (by simp) (by first | rfl | decide) (by decide) (znf_room hr (by decide)) (dq dM_init 156 rfl) ?_
  refine zi_putr (znf_sh s0 hne) fM_126 (fun _ => ⟨rfl, _, _, rfl⟩) (z_nar_a _ _) (dq dM_init 157 rfl) ?_
  rw [znf_snoc]
  show zG g (d + 2) mM_init _ (znf M v lM) _ _ _
  refine zi_aload_n 0 (dq dM_init 158 rfl) rfl ?_
  refine zi_cVv0 (M_leave (d := d) (M := znf M v lM) (m := v) (ot := zsz M + 35) (sv := zsz M + 38) ((znf_old M v lM hne).1.trans s0) (znf_new M v lM hne lM_nd (i := 35) rfl).1 (znf_new M v lM hne lM_nd (i := 38) rfl).1 (znf_new M v lM hne lM_nd (i := 35) rfl).2.1 (znf_new M v lM hne lM_nd (i := 38) rfl).2.1) wM_leave aM_129 iM_leave sM_leave (by omega) ((znf_old M v lM hne).1.trans s0) rfl (Nat.le_of_ble_eq_true rfl) (dq dM_init 159 rfl) (fun M342 h342 => ?_)
  subst h342
  exact zi_return rfl (dq dM_init 160 rfl) ⟨rfl, rfl⟩
end
section
/-! LAYOUT: cells made from A on: what they are (sh), which references they hold (rf: cell, place, cell, all counted from A), all else 0 and null; what lies below A is as in M0 -/
def zlk (rf : List (Nat × Nat × Nat)) (k j : Nat) : Option Nat := match rf with
  | [] => none
  | q :: l => if q.1 = k ∧ q.2.1 = j then some q.2.2 else zlk l k j
def zss (x : Nat ⊕ Nat × Nat) : Nat := match x with
  | .inl ci => (zkd ci).length
  | .inr q => q.2
def Lay (M M0 : zM) (A : Nat) (sh : List (Nat ⊕ Nat × Nat)) (rf : List (Nat × Nat × Nat)) : Prop :=
  (zsz M = A + sh.length ∧ zsl M = zsl M0 + (sh.map zss).sum ∧ (∀ q ∈ rf, q.1 < sh.length)) ∧
  (∀ a, a < A → zsh M a = zsh M0 a ∧ zi M a = zi M0 a ∧ zl M a = zl M0 a ∧ zr M a = zr M0 a) ∧
  ∀ (k : Nat) (x : Nat ⊕ Nat × Nat), sh[k]? = some x → zsh M (A + k) = some x ∧ (∀ j, zi M (A + k) j = 0) ∧ (∀ j, zl M (A + k) j = 0) ∧ ∀ j, zr M (A + k) j = (zlk rf k j).map (fun x => A + x)
theorem lay_0 (M : zM) : Lay M M (zsz M) [] [] := ⟨⟨rfl, rfl, fun _ h => by cases h⟩, fun _ _ => ⟨rfl, rfl, rfl, rfl⟩, fun k x h => by simp at h⟩
theorem zlk_none {rf : List (Nat × Nat × Nat)} {k : Nat} (h : ∀ q ∈ rf, q.1 ≠ k) (j : Nat) : zlk rf k j = none := by
  induction rf with
  | nil => rfl
  | cons q l ih =>
    rw [zlk, if_neg (fun e => h q List.mem_cons_self e.1)]
    exact ih (fun q hq => h q (List.mem_cons_of_mem _ hq))
theorem lay_new {M M0 : zM} {A : Nat} {sh : List (Nat ⊕ Nat × Nat)} {rf : List (Nat × Nat × Nat)} (h : Lay M M0 A sh rf) (x : Nat ⊕ Nat × Nat) {n : Nat} (hn : zss x = n) : Lay (znew M x n) M0 A (sh ++ [x]) rf := by
  obtain ⟨⟨h1, h2, h3⟩, h4, h5⟩ := h
  refine ⟨⟨?_, ?_, fun q hq => ?_⟩, fun a ha => ?_, fun k y hk => ?_⟩
  · show zsz M + 1 = _
    rw [h1, List.length_append]
    rfl
  · show zsl M + n = _
    rw [h2, List.map_append, List.sum_append, ← hn]
    simp
    omega
  · have := h3 q hq
    rw [List.length_append]
    omega
  · have hne : a ≠ zsz M := by omega
    obtain ⟨e1, e2, e3, e4⟩ := h4 a ha
    refine ⟨?_, ?_, ?_, ?_⟩
    · rw [zsh_nw, if_neg hne]; exact e1
    · funext j; rw [zi_nw, if_neg hne, e2]
    · funext j; rw [zl_nw, if_neg hne, e3]
    · funext j; rw [zr_nw, if_neg hne, e4]
  · by_cases hl : k < sh.length
    · rw [List.getElem?_append_left hl] at hk
      have hne : A + k ≠ zsz M := by omega
      obtain ⟨e1, e2, e3, e4⟩ := h5 k y hk
      refine ⟨?_, fun j => ?_, fun j => ?_, fun j => ?_⟩
      · rw [zsh_nw, if_neg hne]; exact e1
      · rw [zi_nw, if_neg hne]; exact e2 j
      · rw [zl_nw, if_neg hne]; exact e3 j
      · rw [zr_nw, if_neg hne]; exact e4 j
    · rw [List.getElem?_append_right (by omega)] at hk
      have hz : k - sh.length < 1 := (List.getElem?_eq_some_iff.mp hk).1
      have hk0 : k = sh.length := by omega
      subst hk0
      rw [Nat.sub_self] at hk
      cases hk
      have he : A + sh.length = zsz M := h1.symm
      refine ⟨?_, fun j => ?_, fun j => ?_, fun j => ?_⟩
      · rw [zsh_nw, if_pos he]
      · rw [zi_nw, if_pos he]
      · rw [zl_nw, if_pos he]
      · rw [zr_nw, if_pos he, zlk_none (fun q hq => by have := h3 q hq; omega)]
        rfl
theorem lay_pr {M M0 : zM} {A : Nat} {sh : List (Nat ⊕ Nat × Nat)} {rf : List (Nat × Nat × Nat)} (h : Lay M M0 A sh rf) {k j x : Nat} (hk : k < sh.length) : Lay (zpr M (A + k) j (some (A + x))) M0 A sh ((k, j, x) :: rf) := by
  obtain ⟨⟨h1, h2, h3⟩, h4, h5⟩ := h
  refine ⟨⟨h1, h2, fun q hq => ?_⟩, fun a ha => ?_, fun k2 y hk2 => ?_⟩
  · rcases List.mem_cons.mp hq with rfl | hq
    · exact hk
    · exact h3 q hq
  · obtain ⟨e1, e2, e3, e4⟩ := h4 a ha
    refine ⟨e1, e2, e3, ?_⟩
    funext i
    rw [zr_pr, if_neg (by omega), e4]
  · obtain ⟨e1, e2, e3, e4⟩ := h5 k2 y hk2
    refine ⟨e1, e2, e3, fun i => ?_⟩
    rw [zr_pr, zlk]
    by_cases hh : k = k2 ∧ j = i
    · rw [if_pos ⟨by omega, hh.2.symm⟩, if_pos hh]
      rfl
    · rw [if_neg (fun e => hh ⟨by omega, e.2.symm⟩), if_neg hh]
      exact e4 i
theorem lay_nf {M M0 : zM} {A : Nat} {sh : List (Nat ⊕ Nat × Nat)} {rf : List (Nat × Nat × Nat)} (h : Lay M M0 A sh rf) {k : Nat} (hk : k < sh.length) (L : List (Nat × Nat × Nat)) : ∃ rf2, Lay (znf M (A + k) L) M0 A (sh ++ L.map (fun q => .inr q.2)) rf2 ∧ rf2 = (L.zipIdx.map (fun q => (k, q.1.1, sh.length + q.2))).reverse ++ rf := by
  induction L generalizing M sh rf with
  | nil => exact ⟨rf, by simpa [znf] using h, rfl⟩
  | cons q l ih =>
    obtain ⟨f, t, n⟩ := q
    have hz : zsz M = A + sh.length := h.1.1
    have h2 : Lay (znq M (A + k) f t n) M0 A (sh ++ [.inr (t, n)]) ((k, f, sh.length) :: rf) := by
      have := lay_pr (lay_new h (.inr (t, n)) (n := n) rfl) (k := k) (j := f) (x := sh.length) (by rw [List.length_append]; omega)
      rw [← hz] at this
      exact this
    obtain ⟨rf2, h3, h4⟩ := ih h2 (by rw [List.length_append]; omega)
    refine ⟨rf2, ?_, ?_⟩
    · rw [znf]
      rw [List.append_assoc] at h3
      exact h3
    · rw [h4, List.zipIdx_cons, List.map_cons, List.reverse_cons, List.append_assoc, List.length_append]
      have e : (l.zipIdx (0 + 1)).map (fun q => (k, q.1.1, sh.length + q.2)) = l.zipIdx.map (fun q => (k, q.1.1, sh.length + [(Sum.inr (t, n) : Nat ⊕ Nat × Nat)].length + q.2)) := by
        rw [List.zipIdx_succ, List.map_map]
        apply List.map_congr_left
        intro q _
        simp only [Function.comp, List.length_singleton]
        congr 2
        omega
      rw [e]
      rfl
end
section
/-! THE DESK'S CONSTRUCTOR -/
def dSh : List (Nat ⊕ Nat × Nat) := [.inl 8, .inr (1, 150), .inl 0, .inr (4, 26), .inr (4, 150), .inr (5, 150), .inr (0, 120), .inr (0, 120), .inl 7, .inr (0, 100), .inr (0, 100), .inr (0, 100), .inr (0, 100), .inr (0, 100), .inr (0, 100), .inr (0, 120), .inl 7, .inr (0, 100), .inr (0, 100), .inr (0, 100), .inr (0, 100), .inr (0, 100), .inr (0, 100), .inr (0, 120), .inl 2, .inl 3, .inl 5, .inl 4, .inr (4, 8), .inr (0, 8), .inr (0, 8), .inr (2, 4)]
def dRf : List (Nat × Nat × Nat) := [(0, 16, 31), (0, 15, 30), (0, 14, 29), (0, 13, 28), (0, 12, 27), (27, 1, 16), (27, 0, 7), (0, 11, 26), (26, 1, 16), (26, 0, 7), (0, 10, 25), (25, 1, 16), (25, 0, 6), (0, 9, 24), (24, 1, 16), (24, 0, 6), (0, 8, 16), (16, 7, 23), (16, 6, 22), (16, 5, 21), (16, 4, 20), (16, 3, 19), (16, 2, 18), (16, 1, 17), (0, 7, 8), (8, 7, 15), (8, 6, 14), (8, 5, 13), (8, 4, 12), (8, 3, 11), (8, 2, 10), (8, 1, 9), (0, 6, 7), (0, 4, 6), (0, 2, 2), (2, 3, 5), (2, 2, 4), (2, 1, 3), (2, 0, 1), (0, 0, 1)]
theorem D_init {g : zg} {d : Nat} {M M0 : zM} {A : Nat} (L : Lay M M0 A [.inl 8] []) (hr : A + 32 ≤ g.KC ∧ zsl M0 + 2247 ≤ g.KS) : zEv g (d + 2) mD_init [va_rf (some A)] M (fun M1 => Lay M1 M0 A dSh dRf) := by
  refine zEv_of (lv := [(0, va_rf (some A))]) ⟨by decide +kernel, by decide, by decide +kernel⟩ (by simp [z_cr, z_ci]) (Nat.le_of_ble_eq_true rfl) rfl ?_
  obtain ⟨hr1, hr2⟩ := hr
  refine zi_aload_n 0 (dq dD_init 0 rfl) rfl ?_
  refine zi_objInit aD_1 i_obj w_obj (by omega) (Nat.le_of_ble_eq_true rfl) (dq dD_init 1 rfl) ?_
  refine zi_aload_n 0 (dq dD_init 2 rfl) rfl ?_
  refine zi_sipush (v := 150) (dq dD_init 3 rfl) (by decide) ?_
  refine zi_newa (t := 1) (N := 150) r_char rfl rfl (by simp) (by first | rfl | decide) (by decide) ⟨by rw [L.1.1]; show A + 1 + 1 ≤ g.KC; omega, by rw [L.1.2.1]; show zsl M0 + 17 + 150 ≤ g.KS; omega⟩ (dq dD_init 4 rfl) ?_
  have LN1 : Lay (znew M (.inr (1, 150)) 150) M0 A _ _ := lay_new L (.inr (1, 150)) (n := 150) rfl
  rw [show zsz M = A + 1 from L.1.1]
  generalize znew M (.inr (1, 150)) 150 = N1 at LN1 ⊢
  refine zi_putr (LN1.2.2 0 _ rfl).1 fD_9 (fun _ => ⟨rfl, _, _, rfl⟩) (z_nar_a _ _) (dq dD_init 5 rfl) ?_
  have LN2 : Lay (zpr N1 A 0 (some (A + 1))) M0 A _ _ := lay_pr LN1 (k := 0) (j := 0) (x := 1) (by decide)
  generalize zpr N1 A 0 (some (A + 1)) = N2 at LN2 ⊢
  refine zi_aload_n 0 (dq dD_init 6 rfl) rfl ?_
  refine zi_new kC vC bD_13 nC gC ⟨by rw [LN2.1.1]; show A + 2 + 1 ≤ g.KC; omega, by rw [LN2.1.2.1]; show zsl M0 + 167 + 10 ≤ g.KS; omega⟩ (dq dD_init 7 rfl) ?_
  have LN3 : Lay (znew N2 (.inl 0) 10) M0 A _ _ := lay_new LN2 (.inl 0) (n := 10) rfl
  rw [show zsz N2 = A + 2 from LN2.1.1]
  generalize znew N2 (.inl 0) 10 = N3 at LN3 ⊢
  refine zi_dup (dq dD_init 8 rfl) (by first | rfl | exact z_cr _) ?_
  refine zi_aload_n 0 (dq dD_init 9 rfl) rfl ?_
  refine zi_getR (LN3.2.2 0 _ rfl).1 fD_9 ((LN3.2.2 0 _ rfl).2.2.2 0) (dq dD_init 10 rfl) ?_
  refine zi_cI1 rfl (C_init (d := d) (M := N3) (v := A + 2) (x := some (A + 1)) (LN3.2.2 2 _ rfl).1 (by rw [LN3.1.1]; show A + 2 < A + 3; omega) ⟨by rw [LN3.1.1]; show A + 3 + 3 ≤ g.KC; omega, by rw [LN3.1.2.1]; show zsl M0 + 177 + 326 ≤ g.KS; omega⟩) wC_init aD_15 iC_init rfl (by omega) (Nat.le_of_ble_eq_true rfl) (dq dD_init 11 rfl) (fun M22 h22 => ?_)
  subst h22
  obtain ⟨RN4, LN4, eN4⟩ := lay_nf (lay_pr LN3 (k := 2) (j := 0) (x := 1) (by decide)) (k := 2) (by decide) lC
  subst eN4
  generalize znf (zpr N3 (A + 2) 0 (some (A + 1))) (A + 2) lC = N4 at LN4 ⊢
  refine zi_putr (LN4.2.2 0 _ rfl).1 fD_18 (fun _ => ⟨rfl, _, _, rfl⟩) (z_nar_r _ _) (dq dD_init 12 rfl) ?_
  have LN5 : Lay (zpr N4 A 2 (some (A + 2))) M0 A _ _ := lay_pr LN4 (k := 0) (j := 2) (x := 2) (by decide)
  generalize zpr N4 A 2 (some (A + 2)) = N5 at LN5 ⊢
  refine zi_aload_n 0 (dq dD_init 13 rfl) rfl ?_
  refine zi_bipush (v := 120) (dq dD_init 14 rfl) (by decide) ?_
  refine zi_newa (t := 0) (N := 120) r_int rfl rfl (by simp) (by first | rfl | decide) (by decide) ⟨by rw [LN5.1.1]; show A + 6 + 1 ≤ g.KC; omega, by rw [LN5.1.2.1]; show zsl M0 + 503 + 120 ≤ g.KS; omega⟩ (dq dD_init 15 rfl) ?_
  have LN6 : Lay (znew N5 (.inr (0, 120)) 120) M0 A _ _ := lay_new LN5 (.inr (0, 120)) (n := 120) rfl
  rw [show zsz N5 = A + 6 from LN5.1.1]
  generalize znew N5 (.inr (0, 120)) 120 = N6 at LN6 ⊢
  refine zi_putr (LN6.2.2 0 _ rfl).1 fD_22 (fun _ => ⟨rfl, _, _, rfl⟩) (z_nar_a _ _) (dq dD_init 16 rfl) ?_
  have LN7 : Lay (zpr N6 A 4 (some (A + 6))) M0 A _ _ := lay_pr LN6 (k := 0) (j := 4) (x := 6) (by decide)
  generalize zpr N6 A 4 (some (A + 6)) = N7 at LN7 ⊢
  refine zi_aload_n 0 (dq dD_init 17 rfl) rfl ?_
  refine zi_bipush (v := 120) (dq dD_init 18 rfl) (by decide) ?_
  refine zi_newa (t := 0) (N := 120) r_int rfl rfl (by simp) (by first | rfl | decide) (by decide) ⟨by rw [LN7.1.1]; show A + 7 + 1 ≤ g.KC; omega, by rw [LN7.1.2.1]; show zsl M0 + 623 + 120 ≤ g.KS; omega⟩ (dq dD_init 19 rfl) ?_
  have LN8 : Lay (znew N7 (.inr (0, 120)) 120) M0 A _ _ := lay_new LN7 (.inr (0, 120)) (n := 120) rfl
  rw [show zsz N7 = A + 7 from LN7.1.1]
  generalize znew N7 (.inr (0, 120)) 120 = N8 at LN8 ⊢
  refine zi_putr (LN8.2.2 0 _ rfl).1 fD_26 (fun _ => ⟨rfl, _, _, rfl⟩) (z_nar_a _ _) (dq dD_init 20 rfl) ?_
  have LN9 : Lay (zpr N8 A 6 (some (A + 7))) M0 A _ _ := lay_pr LN8 (k := 0) (j := 6) (x := 7) (by decide)
  generalize zpr N8 A 6 (some (A + 7)) = N9 at LN9 ⊢
  refine zi_aload_n 0 (dq dD_init 21 rfl) rfl ?_
  refine zi_new kV vV bD_29 nV gV ⟨by rw [LN9.1.1]; show A + 8 + 1 ≤ g.KC; omega, by rw [LN9.1.2.1]; show zsl M0 + 743 + 9 ≤ g.KS; omega⟩ (dq dD_init 22 rfl) ?_
  have LN10 : Lay (znew N9 (.inl 7) 9) M0 A _ _ := lay_new LN9 (.inl 7) (n := 9) rfl
  rw [show zsz N9 = A + 8 from LN9.1.1]
  generalize znew N9 (.inl 7) 9 = N10 at LN10 ⊢
  refine zi_dup (dq dD_init 23 rfl) (by first | rfl | exact z_cr _) ?_
  refine zi_cI0 rfl (V_init (d := d) (M := N10) (v := A + 8) (LN10.2.2 8 _ rfl).1 (by rw [LN10.1.1]; show A + 8 < A + 9; omega) ⟨by rw [LN10.1.1]; show A + 9 + 7 ≤ g.KC; omega, by rw [LN10.1.2.1]; show zsl M0 + 752 + 720 ≤ g.KS; omega⟩) wV_init aD_31 iV_init rfl (by omega) (Nat.le_of_ble_eq_true rfl) (dq dD_init 24 rfl) (fun M49 h49 => ?_)
  subst h49
  obtain ⟨RN11, LN11, eN11⟩ := lay_nf LN10 (k := 8) (by decide) lV
  subst eN11
  generalize znf N10 (A + 8) lV = N11 at LN11 ⊢
  refine zi_putr (LN11.2.2 0 _ rfl).1 fD_32 (fun _ => ⟨rfl, _, _, rfl⟩) (z_nar_r _ _) (dq dD_init 25 rfl) ?_
  have LN12 : Lay (zpr N11 A 7 (some (A + 8))) M0 A _ _ := lay_pr LN11 (k := 0) (j := 7) (x := 8) (by decide)
  generalize zpr N11 A 7 (some (A + 8)) = N12 at LN12 ⊢
  refine zi_aload_n 0 (dq dD_init 26 rfl) rfl ?_
  refine zi_new kV vV bD_29 nV gV ⟨by rw [LN12.1.1]; show A + 16 + 1 ≤ g.KC; omega, by rw [LN12.1.2.1]; show zsl M0 + 1472 + 9 ≤ g.KS; omega⟩ (dq dD_init 27 rfl) ?_
  have LN13 : Lay (znew N12 (.inl 7) 9) M0 A _ _ := lay_new LN12 (.inl 7) (n := 9) rfl
  rw [show zsz N12 = A + 16 from LN12.1.1]
  generalize znew N12 (.inl 7) 9 = N13 at LN13 ⊢
  refine zi_dup (dq dD_init 28 rfl) (by first | rfl | exact z_cr _) ?_
  refine zi_cI0 rfl (V_init (d := d) (M := N13) (v := A + 16) (LN13.2.2 16 _ rfl).1 (by rw [LN13.1.1]; show A + 16 < A + 17; omega) ⟨by rw [LN13.1.1]; show A + 17 + 7 ≤ g.KC; omega, by rw [LN13.1.2.1]; show zsl M0 + 1481 + 720 ≤ g.KS; omega⟩) wV_init aD_31 iV_init rfl (by omega) (Nat.le_of_ble_eq_true rfl) (dq dD_init 29 rfl) (fun M60 h60 => ?_)
  subst h60
  obtain ⟨RN14, LN14, eN14⟩ := lay_nf LN13 (k := 16) (by decide) lV
  subst eN14
  generalize znf N13 (A + 16) lV = N14 at LN14 ⊢
  refine zi_putr (LN14.2.2 0 _ rfl).1 fD_36 (fun _ => ⟨rfl, _, _, rfl⟩) (z_nar_r _ _) (dq dD_init 30 rfl) ?_
  have LN15 : Lay (zpr N14 A 8 (some (A + 16))) M0 A _ _ := lay_pr LN14 (k := 0) (j := 8) (x := 16) (by decide)
  generalize zpr N14 A 8 (some (A + 16)) = N15 at LN15 ⊢
  refine zi_aload_n 0 (dq dD_init 31 rfl) rfl ?_
  refine zi_new kO vO bD_39 nO gO ⟨by rw [LN15.1.1]; show A + 24 + 1 ≤ g.KC; omega, by rw [LN15.1.2.1]; show zsl M0 + 2201 + 4 ≤ g.KS; omega⟩ (dq dD_init 32 rfl) ?_
  have LN16 : Lay (znew N15 (.inl 2) 4) M0 A _ _ := lay_new LN15 (.inl 2) (n := 4) rfl
  rw [show zsz N15 = A + 24 from LN15.1.1]
  generalize znew N15 (.inl 2) 4 = N16 at LN16 ⊢
  refine zi_dup (dq dD_init 33 rfl) (by first | rfl | exact z_cr _) ?_
  refine zi_aload_n 0 (dq dD_init 34 rfl) rfl ?_
  refine zi_getR (LN16.2.2 0 _ rfl).1 fD_22 ((LN16.2.2 0 _ rfl).2.2.2 4) (dq dD_init 35 rfl) ?_
  refine zi_aload_n 0 (dq dD_init 36 rfl) rfl ?_
  refine zi_getR (LN16.2.2 0 _ rfl).1 fD_36 ((LN16.2.2 0 _ rfl).2.2.2 8) (dq dD_init 37 rfl) ?_
  refine zi_cI2 rfl (O_init (d := d) (M := N16) (v := A + 24) (x := some (A + 6)) (z := some (A + 16)) (LN16.2.2 24 _ rfl).1) wO_init aD_41 iO_init rfl (by omega) (Nat.le_of_ble_eq_true rfl) (dq dD_init 38 rfl) (fun M79 h79 => ?_)
  subst h79
  have LN17 : Lay (zpr (zpr N16 (A + 24) 0 (some (A + 6))) (A + 24) 1 (some (A + 16))) M0 A _ _ := lay_pr (lay_pr LN16 (k := 24) (j := 0) (x := 6) (by decide)) (k := 24) (j := 1) (x := 16) (by decide)
  generalize zpr (zpr N16 (A + 24) 0 (some (A + 6))) (A + 24) 1 (some (A + 16)) = N17 at LN17 ⊢
  refine zi_putr (LN17.2.2 0 _ rfl).1 fD_44 (fun _ => ⟨rfl, _, _, rfl⟩) (z_nar_r _ _) (dq dD_init 39 rfl) ?_
  have LN18 : Lay (zpr N17 A 9 (some (A + 24))) M0 A _ _ := lay_pr LN17 (k := 0) (j := 9) (x := 24) (by decide)
  generalize zpr N17 A 9 (some (A + 24)) = N18 at LN18 ⊢
  refine zi_aload_n 0 (dq dD_init 40 rfl) rfl ?_
  refine zi_new kP vP bD_48 nP gP ⟨by rw [LN18.1.1]; show A + 25 + 1 ≤ g.KC; omega, by rw [LN18.1.2.1]; show zsl M0 + 2205 + 4 ≤ g.KS; omega⟩ (dq dD_init 41 rfl) ?_
  have LN19 : Lay (znew N18 (.inl 3) 4) M0 A _ _ := lay_new LN18 (.inl 3) (n := 4) rfl
  rw [show zsz N18 = A + 25 from LN18.1.1]
  generalize znew N18 (.inl 3) 4 = N19 at LN19 ⊢
  refine zi_dup (dq dD_init 42 rfl) (by first | rfl | exact z_cr _) ?_
  refine zi_aload_n 0 (dq dD_init 43 rfl) rfl ?_
  refine zi_getR (LN19.2.2 0 _ rfl).1 fD_22 ((LN19.2.2 0 _ rfl).2.2.2 4) (dq dD_init 44 rfl) ?_
  refine zi_aload_n 0 (dq dD_init 45 rfl) rfl ?_
  refine zi_getR (LN19.2.2 0 _ rfl).1 fD_36 ((LN19.2.2 0 _ rfl).2.2.2 8) (dq dD_init 46 rfl) ?_
  refine zi_cI2 rfl (P_init (d := d) (M := N19) (v := A + 25) (x := some (A + 6)) (z := some (A + 16)) (LN19.2.2 25 _ rfl).1) wP_init aD_50 iP_init rfl (by omega) (Nat.le_of_ble_eq_true rfl) (dq dD_init 47 rfl) (fun M98 h98 => ?_)
  subst h98
  have LN20 : Lay (zpr (zpr N19 (A + 25) 0 (some (A + 6))) (A + 25) 1 (some (A + 16))) M0 A _ _ := lay_pr (lay_pr LN19 (k := 25) (j := 0) (x := 6) (by decide)) (k := 25) (j := 1) (x := 16) (by decide)
  generalize zpr (zpr N19 (A + 25) 0 (some (A + 6))) (A + 25) 1 (some (A + 16)) = N20 at LN20 ⊢
  refine zi_putr (LN20.2.2 0 _ rfl).1 fD_51 (fun _ => ⟨rfl, _, _, rfl⟩) (z_nar_r _ _) (dq dD_init 48 rfl) ?_
  have LN21 : Lay (zpr N20 A 10 (some (A + 25))) M0 A _ _ := lay_pr LN20 (k := 0) (j := 10) (x := 25) (by decide)
  generalize zpr N20 A 10 (some (A + 25)) = N21 at LN21 ⊢
  refine zi_aload_n 0 (dq dD_init 49 rfl) rfl ?_
  refine zi_new kS vS bD_55 nS gS ⟨by rw [LN21.1.1]; show A + 26 + 1 ≤ g.KC; omega, by rw [LN21.1.2.1]; show zsl M0 + 2209 + 5 ≤ g.KS; omega⟩ (dq dD_init 50 rfl) ?_
  have LN22 : Lay (znew N21 (.inl 5) 5) M0 A _ _ := lay_new LN21 (.inl 5) (n := 5) rfl
  rw [show zsz N21 = A + 26 from LN21.1.1]
  generalize znew N21 (.inl 5) 5 = N22 at LN22 ⊢
  refine zi_dup (dq dD_init 51 rfl) (by first | rfl | exact z_cr _) ?_
  refine zi_aload_n 0 (dq dD_init 52 rfl) rfl ?_
  refine zi_getR (LN22.2.2 0 _ rfl).1 fD_26 ((LN22.2.2 0 _ rfl).2.2.2 6) (dq dD_init 53 rfl) ?_
  refine zi_aload_n 0 (dq dD_init 54 rfl) rfl ?_
  refine zi_getR (LN22.2.2 0 _ rfl).1 fD_36 ((LN22.2.2 0 _ rfl).2.2.2 8) (dq dD_init 55 rfl) ?_
  refine zi_cI2 rfl (S_init (d := d) (M := N22) (v := A + 26) (x := some (A + 7)) (z := some (A + 16)) (LN22.2.2 26 _ rfl).1) wS_init aD_57 iS_init rfl (by omega) (Nat.le_of_ble_eq_true rfl) (dq dD_init 56 rfl) (fun M117 h117 => ?_)
  subst h117
  have LN23 : Lay (zpr (zpr N22 (A + 26) 0 (some (A + 7))) (A + 26) 1 (some (A + 16))) M0 A _ _ := lay_pr (lay_pr LN22 (k := 26) (j := 0) (x := 7) (by decide)) (k := 26) (j := 1) (x := 16) (by decide)
  generalize zpr (zpr N22 (A + 26) 0 (some (A + 7))) (A + 26) 1 (some (A + 16)) = N23 at LN23 ⊢
  refine zi_putr (LN23.2.2 0 _ rfl).1 fD_58 (fun _ => ⟨rfl, _, _, rfl⟩) (z_nar_r _ _) (dq dD_init 57 rfl) ?_
  have LN24 : Lay (zpr N23 A 11 (some (A + 26))) M0 A _ _ := lay_pr LN23 (k := 0) (j := 11) (x := 26) (by decide)
  generalize zpr N23 A 11 (some (A + 26)) = N24 at LN24 ⊢
  refine zi_aload_n 0 (dq dD_init 58 rfl) rfl ?_
  refine zi_new kQ vQ bD_62 nQ gQ ⟨by rw [LN24.1.1]; show A + 27 + 1 ≤ g.KC; omega, by rw [LN24.1.2.1]; show zsl M0 + 2214 + 5 ≤ g.KS; omega⟩ (dq dD_init 59 rfl) ?_
  have LN25 : Lay (znew N24 (.inl 4) 5) M0 A _ _ := lay_new LN24 (.inl 4) (n := 5) rfl
  rw [show zsz N24 = A + 27 from LN24.1.1]
  generalize znew N24 (.inl 4) 5 = N25 at LN25 ⊢
  refine zi_dup (dq dD_init 60 rfl) (by first | rfl | exact z_cr _) ?_
  refine zi_aload_n 0 (dq dD_init 61 rfl) rfl ?_
  refine zi_getR (LN25.2.2 0 _ rfl).1 fD_26 ((LN25.2.2 0 _ rfl).2.2.2 6) (dq dD_init 62 rfl) ?_
  refine zi_aload_n 0 (dq dD_init 63 rfl) rfl ?_
  refine zi_getR (LN25.2.2 0 _ rfl).1 fD_36 ((LN25.2.2 0 _ rfl).2.2.2 8) (dq dD_init 64 rfl) ?_
  refine zi_cI2 rfl (Q_init (d := d) (M := N25) (v := A + 27) (x := some (A + 7)) (z := some (A + 16)) (LN25.2.2 27 _ rfl).1) wQ_init aD_64 iQ_init rfl (by omega) (Nat.le_of_ble_eq_true rfl) (dq dD_init 65 rfl) (fun M136 h136 => ?_)
  subst h136
  have LN26 : Lay (zpr (zpr N25 (A + 27) 0 (some (A + 7))) (A + 27) 1 (some (A + 16))) M0 A _ _ := lay_pr (lay_pr LN25 (k := 27) (j := 0) (x := 7) (by decide)) (k := 27) (j := 1) (x := 16) (by decide)
  generalize zpr (zpr N25 (A + 27) 0 (some (A + 7))) (A + 27) 1 (some (A + 16)) = N26 at LN26 ⊢
  refine zi_putr (LN26.2.2 0 _ rfl).1 fD_65 (fun _ => ⟨rfl, _, _, rfl⟩) (z_nar_r _ _) (dq dD_init 66 rfl) ?_
  have LN27 : Lay (zpr N26 A 12 (some (A + 27))) M0 A _ _ := lay_pr LN26 (k := 0) (j := 12) (x := 27) (by decide)
  generalize zpr N26 A 12 (some (A + 27)) = N27 at LN27 ⊢
  refine zi_aload_n 0 (dq dD_init 67 rfl) rfl ?_
  refine zi_bipush (v := 8) (dq dD_init 68 rfl) (by decide) ?_
  refine zi_newq (t := 4) (N := 8) bD_69 (by decide) rfl (by first | rfl | decide) (by decide) ⟨by rw [LN27.1.1]; show A + 28 + 1 ≤ g.KC; omega, by rw [LN27.1.2.1]; show zsl M0 + 2219 + 8 ≤ g.KS; omega⟩ (dq dD_init 69 rfl) ?_
  have LN28 : Lay (znew N27 (.inr (4, 8)) 8) M0 A _ _ := lay_new LN27 (.inr (4, 8)) (n := 8) rfl
  rw [show zsz N27 = A + 28 from LN27.1.1]
  generalize znew N27 (.inr (4, 8)) 8 = N28 at LN28 ⊢
  refine zi_putr (LN28.2.2 0 _ rfl).1 fD_71 (fun _ => ⟨rfl, _, _, rfl⟩) (z_nar_a _ _) (dq dD_init 70 rfl) ?_
  have LN29 : Lay (zpr N28 A 13 (some (A + 28))) M0 A _ _ := lay_pr LN28 (k := 0) (j := 13) (x := 28) (by decide)
  generalize zpr N28 A 13 (some (A + 28)) = N29 at LN29 ⊢
  refine zi_aload_n 0 (dq dD_init 71 rfl) rfl ?_
  refine zi_bipush (v := 8) (dq dD_init 72 rfl) (by decide) ?_
  refine zi_newa (t := 0) (N := 8) r_int rfl rfl (by simp) (by first | rfl | decide) (by decide) ⟨by rw [LN29.1.1]; show A + 29 + 1 ≤ g.KC; omega, by rw [LN29.1.2.1]; show zsl M0 + 2227 + 8 ≤ g.KS; omega⟩ (dq dD_init 73 rfl) ?_
  have LN30 : Lay (znew N29 (.inr (0, 8)) 8) M0 A _ _ := lay_new LN29 (.inr (0, 8)) (n := 8) rfl
  rw [show zsz N29 = A + 29 from LN29.1.1]
  generalize znew N29 (.inr (0, 8)) 8 = N30 at LN30 ⊢
  refine zi_putr (LN30.2.2 0 _ rfl).1 fD_75 (fun _ => ⟨rfl, _, _, rfl⟩) (z_nar_a _ _) (dq dD_init 74 rfl) ?_
  have LN31 : Lay (zpr N30 A 14 (some (A + 29))) M0 A _ _ := lay_pr LN30 (k := 0) (j := 14) (x := 29) (by decide)
  generalize zpr N30 A 14 (some (A + 29)) = N31 at LN31 ⊢
  refine zi_aload_n 0 (dq dD_init 75 rfl) rfl ?_
  refine zi_bipush (v := 8) (dq dD_init 76 rfl) (by decide) ?_
  refine zi_newa (t := 0) (N := 8) r_int rfl rfl (by simp) (by first | rfl | decide) (by decide) ⟨by rw [LN31.1.1]; show A + 30 + 1 ≤ g.KC; omega, by rw [LN31.1.2.1]; show zsl M0 + 2235 + 8 ≤ g.KS; omega⟩ (dq dD_init 77 rfl) ?_
  have LN32 : Lay (znew N31 (.inr (0, 8)) 8) M0 A _ _ := lay_new LN31 (.inr (0, 8)) (n := 8) rfl
  rw [show zsz N31 = A + 30 from LN31.1.1]
  generalize znew N31 (.inr (0, 8)) 8 = N32 at LN32 ⊢
  refine zi_putr (LN32.2.2 0 _ rfl).1 fD_78 (fun _ => ⟨rfl, _, _, rfl⟩) (z_nar_a _ _) (dq dD_init 78 rfl) ?_
  have LN33 : Lay (zpr N32 A 15 (some (A + 30))) M0 A _ _ := lay_pr LN32 (k := 0) (j := 15) (x := 30) (by decide)
  generalize zpr N32 A 15 (some (A + 30)) = N33 at LN33 ⊢
  refine zi_aload_n 0 (dq dD_init 79 rfl) rfl ?_
  refine zi_iconst (v := 4) (dq dD_init 80 rfl) (by decide) ?_
  refine zi_newa (t := 2) (N := 4) r_long rfl rfl (by simp) (by first | rfl | decide) (by decide) ⟨by rw [LN33.1.1]; show A + 31 + 1 ≤ g.KC; omega, by rw [LN33.1.2.1]; show zsl M0 + 2243 + 4 ≤ g.KS; omega⟩ (dq dD_init 81 rfl) ?_
  have LN34 : Lay (znew N33 (.inr (2, 4)) 4) M0 A _ _ := lay_new LN33 (.inr (2, 4)) (n := 4) rfl
  rw [show zsz N33 = A + 31 from LN33.1.1]
  generalize znew N33 (.inr (2, 4)) 4 = N34 at LN34 ⊢
  refine zi_putr (LN34.2.2 0 _ rfl).1 fD_81 (fun _ => ⟨rfl, _, _, rfl⟩) (z_nar_a _ _) (dq dD_init 82 rfl) ?_
  have LN35 : Lay (zpr N34 A 16 (some (A + 31))) M0 A _ _ := lay_pr LN34 (k := 0) (j := 16) (x := 31) (by decide)
  generalize zpr N34 A 16 (some (A + 31)) = N35 at LN35 ⊢
  exact zi_return rfl (dq dD_init 83 rfl) ⟨rfl, LN35⟩
end
section
/-! THROWING: from 'invokespecial X.<init>(String)' to the end 'X was thrown', the heap told exactly; the first constructor of the chain of any pool number -/
set_option maxHeartbeats 2000000 in
theorem z_ctorThrow {p : Program} {l : Launch} {e : Env} {R : Room} {s : State} {m₀ : MethodId} {args : Array Value} {below : List Frame} {meth : Method} {c : Code} {W : State} {locs : List Loc} {cells slots : Nat}
    (X : Stand p l e R s m₀ args below meth c W locs cells slots) (hexec : p.tables.exec = Jvm.exec) (htr : e.platform.stackTraces = false) {own cls nx : String} {names : List String} {ic i1 : Nat} {b1 : ByteArray}
    (hown : s.vm.findClass own = some m₀.cls) (hcls : Bundle.fit cls = true) (hnx : Bundle.fit nx = true) (hnames : ∀ n ∈ names, Bundle.fit n = true)
    (k0 : decode b1 0 = .ok (.aload_n 0, 1)) (k1 : decode b1 1 = .ok (.aload_n 1, 1)) (k2 : decode b1 2 = .ok (.invokespecial i1, 3)) (k5 : decode b1 5 = .ok (.return_, 1))
    (hT : ∀ w ∈ Bundle.throwableAtoms, w.before args s = true) (hTS : ∀ w ∈ Bundle.throwableSAtoms, w.before args s = true) (hP : ∀ w ∈ Bundle.passSAtoms cls nx i1 b1, w.before args s = true) (hCh : ∀ w ∈ Bundle.chainSAtoms nx names, w.before args s = true)
    (o1 : (Cond.methodLink own ic (Bundle.initS cls)).before args s = true) (o2 : (Cond.instantiable cls 6).before args s = true) (o4 : (Cond.selects cls Bundle.tFill0 Bundle.tFill0).before args s = true) (o5 : (Cond.selects cls Bundle.tFill Bundle.tFill).before args s = true)
    (o6 : (Cond.lays cls Bundle.tN "cause" "Ljava/lang/Throwable;").before args s = true) (o7 : (Cond.lays cls Bundle.tN "stackTrace" Bundle.steD).before args s = true) (o8 : (Cond.lays cls Bundle.tN "suppressedExceptions" Bundle.listD).before args s = true) (o9 : (Cond.lays cls Bundle.tN "detailMessage" "Ljava/lang/String;").before args s = true)
    (o10 : (Cond.isRef (.static Bundle.tN "UNASSIGNED_STACK" Bundle.steD)).before args s = true) (o11 : (Cond.isRef (.static Bundle.tN "SUPPRESSED_SENTINEL" Bundle.listD)).before args s = true)
    (o12 : (Cond.fieldLink Bundle.tN 198 Bundle.tN "backtrace" "Ljava/lang/Object;").before args s = true) (o13 : (Cond.lays Bundle.tN Bundle.tN "backtrace" "Ljava/lang/Object;").before args s = true) (o14 : (Cond.lays cls Bundle.tN "backtrace" "Ljava/lang/Object;").before args s = true)
    (hlocs : ∀ (c : ClassId) (k : Class) (i : Nat) (f : Field) (a : Addr), s.fieldFound? Bundle.tN "UNASSIGNED_STACK" Bundle.steD = some (c, k, i, f) → k.statics = some a → ∀ x ∈ locs, x.base ≠ a)
    {a : Addr} {cX : ClassId} {kX : Class} (hfoundX : s.vm.findClass cls = some cX) (hkX : s.vm.classes[cX]? = some kX) (hcell : W.heap[a]? = some (freshCell cX kX)) (hnew : s.heap.size ≤ a)
    {msg : Value} (hmsg : msg.isRef = true)
    {g : JFrame} (hg : g.method = m₀) (hsize : g.locals.size = c.maxLocals) (hlocked : g.locked = none) (hentered : g.entered = []) {rest : List Value} (hstack : g.stack = msg :: .ref a :: .ref a :: rest)
    (hd6 : decode c.code g.pc = .ok (.invokespecial ic, 3)) (hd9 : decode c.code (g.pc + 3) = .ok (.athrow, 1)) (hout : ∀ x ∈ c.exceptionTable.toList, covers x (g.pc + 3) = false)
    (hRframes : names.length + 4 < R.frames) (hRlocals : 2 * g.monitorRoom + ((Value.ref a :: rest).map fun v => v.category).sum + (13 * (names.length + 2) + 42) ≤ R.locals) (hlocks : meth.locks = false) :
    ∃ (U : State) (ce : Cell) (L : List Loc), Steps p.tables e below (W.setTop g) U ∧ U.status = .running ∧ Ended U below (.threw a) ∧ s.WarmedH U.vm ∧ s.sameButNew ({ U with vm := s.vm } : State) (locs ++ L) cells slots ∧ (∀ q ∈ L, q.base = a) ∧
      U.heap = W.heap.setIfInBounds a ce ∧ ce.cls = cX ∧ ce.vm = .none ∧ ce.slots.size = kX.instanceTypes.size := by
  have howns : e.platform.frameOwnsMonitors = true := by rw [X.admits.platform]
  have hfin : e.platform.finalization = false := by rw [X.admits.platform]
  have hpl : e.platform.magicAccessors = ({} : Platform).magicAccessors := by rw [X.admits.platform]
  obtain ⟨T, Z0, L, -, Y⟩ := ThrowableC.of_atoms (args := args) howns hfin hpl hT
  obtain ⟨Z, M, LZ, LM, hnZ⟩ := Init0T.ofS_atoms (args := args) hpl L Y hTS
  obtain ⟨P1, L1, hP1m, hP1s⟩ := PassC.ofS_atoms (args := args) (s := s) hpl (X := cls) (Y := nx) (Bundle.fit_spec hcls).1 (Bundle.fit_spec hnx).2 k0 k1 k2 k5 hP
  obtain ⟨P2, Ps, hlen, L2, hL, hP2m, hlink2, hlink⟩ := Bundle.chainS (args := args) hpl hnZ names nx hnx hnames hCh
  have hlink1 : P1.sup = P2.m := Option.some.inj (hP1s.symm.trans hP2m)
  have hfound : s.vm.findClass cls = some P1.m.cls := findClass_of_methodNamed hP1m
  cases Option.some.inj (hfoundX.symm.trans hfound)
  obtain ⟨c1, kX', hc1, hk, hord, -, -, hn6⟩ := Cond.instantiable_spec (show (Cond.instantiable cls 6).holds args s none s [] = true from o2)
  cases Option.some.inj (hc1.symm.trans hfound)
  cases Option.some.inj (hkX.symm.trans hk)
  have hsel0 : selectMethod e.platform s.vm P1.m.cls T.fill0 = .method T.fill0 := by
    obtain ⟨c2, r2, m2, q1, q2, q3, q4, -⟩ := Cond.selects_spec (show (Cond.selects cls Bundle.tFill0 Bundle.tFill0).holds args s none s [] = true from o4)
    cases Option.some.inj (q1.symm.trans hfound)
    cases Option.some.inj (q2.symm.trans (State.methodFound?_of_named Y.fill0 (by decide)))
    cases Option.some.inj (q3.symm.trans Y.fill0)
    rw [Launch.admits_selectMethod X.admits]; exact q4
  have hselF : selectMethod e.platform s.vm P1.m.cls T.fill = .method T.fill := by
    obtain ⟨c2, r2, m2, q1, q2, q3, q4, -⟩ := Cond.selects_spec (show (Cond.selects cls Bundle.tFill Bundle.tFill).holds args s none s [] = true from o5)
    cases Option.some.inj (q1.symm.trans hfound)
    cases Option.some.inj (q2.symm.trans (State.methodFound?_of_named Y.fill (by decide)))
    cases Option.some.inj (q3.symm.trans Y.fill)
    rw [Launch.admits_selectMethod X.admits]; exact q4
  obtain ⟨cellS0, hcS0, hiss⟩ := Y.statics
  obtain ⟨u0, hu0⟩ := Cond.staticRefV Y.unassigned L.unassignedStatic L.statics hcS0 hiss o10
  obtain ⟨sen, hsen⟩ := Cond.staticRefV Y.sentinel L.sentinelStatic L.statics hcS0 hiss o11
  obtain ⟨ci198, i198, fB, hk198, hg198, ha198, hsB, -, hnB, htB, hffB⟩ := Cond.ownField (t := .object "java/lang/Object") Y.found L.cls (by decide +kernel) o12 o13 e.platform hpl
  obtain ⟨cellS, hcS', heS, -, hkeep⟩ := X.same.2.2.2.2.2 T.aS cellS0 hcS0
  have hcellS : W.heap[T.aS]? = some cellS := hcS'
  have hout' : ∀ i, (⟨T.aS, i⟩ : Loc) ∉ locs := fun i hmem => hlocs _ _ _ _ _ Y.unassigned L.statics _ hmem rfl
  have hknownS : cellS.vm ≠ .unknown := by
    rw [heS]; intro hu
    rw [show cellS0.vm = .unknown from hu] at hiss
    cases hiss
  have hneS : T.aS ≠ a := Nat.ne_of_lt (Nat.lt_of_lt_of_le (Array.getElem?_eq_some_iff.mp hcS0).1 hnew)
  obtain ⟨iM, hffM⟩ := Y.msg
  obtain ⟨tyC, dC, hdC, hdnC⟩ := Cond.laysAt hfound hk Y.cause o6
  obtain ⟨tyS, dS, hdS, hdnS⟩ := Cond.laysAt hfound hk Y.stack o7
  obtain ⟨tyP, dP, hdP, hdnP⟩ := Cond.laysAt hfound hk Y.supp o8
  obtain ⟨tyM, dM, hdM, hdnM⟩ := Cond.laysAt hfound hk hffM o9
  obtain ⟨tyB, dB, hdB, hdnB⟩ := Cond.laysAt hfound hk hffB o14
  have bC := Cond.laysApart hdB hdC hdnB hdnC (by rw [hnB, Y.causeName]; decide)
  have bS := Cond.laysApart hdB hdS hdnB hdnS (by rw [hnB, Y.stackName]; decide)
  have bP := Cond.laysApart hdB hdP hdnB hdnP (by rw [hnB, Y.suppName]; decide)
  have hskip : SkipFacts T e.platform s (fun u => u) u0 ((preparedCellV T.toThrowableT (freshCell P1.m.cls kX) a u0 sen).withEntry W.cur) :=
    ⟨{ ci198 := ci198, i198 := i198, fBack := fB }, ⟨hk198, hg198, ha198, hsB⟩, by
      have := fresh_default (c := P1.m.cls) tyB
      rw [htB] at this
      simpa [preparedCellV, Cell.setSlot, Cell.withEntry, Array.getElem?_setIfInBounds, bC, bS, bP, bC.symm, bS.symm, bP.symm, defaultValue] using this, fun _ _ => rfl⟩
  obtain ⟨tm, methC, cdC, kC, vm₁, hnC, -, -, -, -, -, -, -, hW₁, st1⟩ := Steps.initColdS (tb := p.tables) (e := e) (below := below) (s := s) (U := W) X.here hexec X.warmed hpl hown (t := Bundle.initS cls) rfl rfl (Bundle.fit_spec hcls).2
    o1 (hP _ (by simp [Bundle.passSAtoms])) (bytes := b1) (maxL := 2) (hP (.code (Bundle.initS cls) b1 2 none) (by simp [Bundle.passSAtoms]))
    (f := g) hg (a := a) (msg := msg) (rest := .ref a :: rest) hstack hd6
  cases Option.some.inj (hnC.symm.trans hP1m)
  have X₁ := X.noted hW₁
  obtain ⟨vm₂, X₂, st2⟩ := X₁.ctorMessageOffV hexec (g := { g with stack := .ref a :: rest }) hg hsize T L Z LZ M LM (P1 :: P2 :: Ps)
    (fun P hP' => by
      rcases List.mem_cons.mp hP' with rfl | hP'
      · exact L1
      · rcases List.mem_cons.mp hP' with rfl | hP'
        · exact L2
        · exact hL P hP') ⟨hlink1, hlink2, hlink⟩ (u0 := u0) (sen := sen) (self := a) hmsg (cell := freshCell P1.m.cls kX) (cellS := cellS)
    hcell (fun _ => by simp) (by simp) rfl rfl hsel0 hselF hcellS hneS hknownS (by rw [hkeep _ (hout' _)]; exact hu0) (by rw [hkeep _ (hout' _)]; exact hsen)
    (Takes.of_laid hk hord tyC (by rw [Y.causeType]; rfl)) (Takes.of_laid hk hord tyS (by rw [Y.stackType]; exact fits_refV_array _ u0)) (Takes.of_laid hk hord tyP (by rw [Y.suppType]; exact fits_refV_object _ sen))
    (Takes.of_laid hk hord tyM (by rw [Y.msgType]; exact fits_refV_object _ ⟨msg, hmsg⟩)) Y.objLocals hskip htr [] hd6
    (by simp only [List.length_cons, hlen]; omega) (by simp only [List.length_cons, hlen]; exact hRlocals)
  obtain ⟨hwalk, hrun, hended, hWU, hsame⟩ := X₂.athrowLeaves hexec (g := { g with stack := .ref a :: rest, pc := g.pc + 3 }) hg hlocked hentered hout (a := a) (rest := rest) rfl hd9
  refine ⟨_, plainBareV T.toThrowableT (freshCell P1.m.cls kX) a u0 sen msg, [⟨a, T.fCause.slot⟩, ⟨a, T.fStack.slot⟩, ⟨a, T.fSupp.slot⟩, ⟨a, T.fStack.slot⟩, ⟨a, T.fMsg.slot⟩], st1 _ (fun acts => ?_), hrun, hended, hWU, hsame, ?_, rfl, rfl, rfl, ?_⟩
  · rw [doInvoke_state]
    exact st2 _ hwalk
  · intro q hq
    simp only [List.mem_cons, List.not_mem_nil, or_false] at hq
    rcases hq with rfl | rfl | rfl | rfl | rfl <;> rfl
  · simp [plainBareV, preparedCellV, Cell.setSlot]
/-- the memory with a cell more, of which nothing is told -/
def zgap (M : zM) (n : Nat) : zM := (M.1, M.2.1, M.2.2.1, M.2.2.2.1, zsz M + 1, zsl M + n)
/-- a word that making an exception C needs: one of the common words, or one of those that the tables' predicate holds -/
def zAt (C : String) (w : Cond) : Prop := w ∈ zCW ∨ w = .castable C C ∨ (∃ y ∈ zXD, w = .declares y) ∨ (∃ q ∈ zXL, w = .laysStatic Bundle.tN q.1 q.2) ∨ ∃ q ∈ zXL, w = .isRef (.static Bundle.tN q.1 q.2)
theorem zAt_before {g : zg} {C : String} (hC : C ∈ zXN) {s : State} {args : Array Value} (hts : ∀ w ∈ zCW, w.before args s = true) (hK : z_K g s) {w : Cond} (h : zAt C w) : w.before args s = true := by
  obtain ⟨h1, h2, h3, h4, h5⟩ := hK.2.2.2.1
  rcases h with h | rfl | ⟨y, hy, rfl⟩ | ⟨q, hq, rfl⟩ | ⟨q, hq, rfl⟩
  · exact hts _ h
  · exact va_Nw.use rfl (h1 C hC)
  · exact va_Nw.use rfl (h2 y hy)
  · exact zLS_lays (h4 q hq) args
  · exact zLS_ref (h4 q hq) args
/-- the words that making C needs: ic its constructor's entry in the desk's pool, i1 and b1 that constructor's own call and bytes -/
def zXC (C : String) (ic i1 : Nat) (b1 : ByteArray) : Prop :=
  (∀ w ∈ Bundle.throwableAtoms, zAt C w) ∧ (∀ w ∈ Bundle.throwableSAtoms, zAt C w) ∧ (∀ w ∈ Bundle.passSAtoms C "java/lang/RuntimeException" i1 b1, zAt C w) ∧ (∀ w ∈ Bundle.chainSAtoms "java/lang/RuntimeException" ["java/lang/Exception"], zAt C w) ∧
  (Cond.methodLink "NotationDesk" ic (Bundle.initS C) ∈ zCW ∧ Cond.instantiable C 6 ∈ zCW ∧ Cond.selects C Bundle.tFill0 Bundle.tFill0 ∈ zCW ∧ Cond.selects C Bundle.tFill Bundle.tFill ∈ zCW ∧ Cond.lays C Bundle.tN "cause" "Ljava/lang/Throwable;" ∈ zCW ∧ Cond.lays C Bundle.tN "stackTrace" Bundle.steD ∈ zCW ∧ Cond.lays C Bundle.tN "suppressedExceptions" Bundle.listD ∈ zCW ∧ Cond.lays C Bundle.tN "detailMessage" "Ljava/lang/String;" ∈ zCW ∧
  Cond.fieldLink Bundle.tN 198 Bundle.tN "backtrace" "Ljava/lang/Object;" ∈ zCW ∧ Cond.lays Bundle.tN Bundle.tN "backtrace" "Ljava/lang/Object;" ∈ zCW ∧ Cond.lays C Bundle.tN "backtrace" "Ljava/lang/Object;" ∈ zCW ∧ Cond.initialized C ∈ zCW) ∧
  (decode b1 0 = .ok (.aload_n 0, 1) ∧ decode b1 1 = .ok (.aload_n 1, 1) ∧ decode b1 2 = .ok (.invokespecial i1, 3) ∧ decode b1 5 = .ok (.return_, 1)) ∧ Bundle.fit C = true
set_option maxHeartbeats 1000000 in
theorem zi_throw {g : zg} {d : Nat} {y : zm} {post : zR → zM → Prop} {M : zM} {pc : Nat} {lv : List (Nat × Value)} {st : List Value} {i j ic i1 : Nat} {b1 : ByteArray} {C tx : String} (hfl : g.l.flags = pinnedFlags ++ [noTraceFlag]) (hC : C ∈ zXN) (hX : zXC C ic i1 b1) (hT : (j, tx) ∈ zXS) (hown : y.1.cls = "NotationDesk") (hh : zhd y.1 = [])
    (hw : Cond.classLink "NotationDesk" i C ∈ zCW) (hr : zsz M + 1 ≤ g.KC ∧ zsl M + 6 ≤ g.KS) (hd0 : 6 ≤ d) (hst : st.length ≤ 4)
    (d1 : decode y.2.1 pc = .ok (.new i, 3)) (d2 : decode y.2.1 (pc + 3) = .ok (.dup, 1)) (d3 : decode y.2.1 (pc + 4) = .ok (.ldc j, 2)) (d4 : decode y.2.1 (pc + 6) = .ok (.invokespecial ic, 3)) (d5 : decode y.2.1 (pc + 9) = .ok (.athrow, 1))
    (hp : post (.inr C) (zgap M 6)) : zG g d y post M pc lv st := by
  intro p e R s m args below meth c Q H locs ls hc hM hS hl hz
  have hts := hc.1.2.2.2.2.1
  have hsz : H.size = zsz M := hM.1.1
  have hzt := hM.1.2.1
  have a1 := hc.2.2.1.1
  have a2 := hc.2.2.1.2.1
  have hrc := hc.2.2.1.2.2.1
  have hrs := hc.2.2.1.2.2.2
  have hS1 := hS.1
  have hr2 := hr.2
  have hwt := z_weight st
  obtain ⟨x1, x2, x3, x4, ⟨o1, o2, o4, o5, o6, o7, o8, o9, o12, o13, o14, o15⟩, ⟨k0, k1, k2, k5⟩, hfit⟩ := hX
  have hb := fun {w : Cond} (h : zAt C w) => zAt_before (args := args) hC hts hc.2.1 h
  refine W.newc hc.1.1 hc.1.2.1 hc.1.2.2.2.1 (by rw [hown]; exact hts _ hw) (hts _ o2) (hts _ o15) rfl d1 (by omega) (by omega) fun cC kC h1 h2 h3 h4 => ?_
  refine lv_dup hc.1.1 hc.1.2.1 d2 rfl ?_
  obtain ⟨q, hq⟩ := hc.2.1.2.2.2.1.2.2.1 (j, tx) hT
  refine va_ldcS (own := "NotationDesk") (tx := tx) (q := q) hc.1.1 hc.1.2.1 (by rw [← hown]; exact hc.1.2.2.2.1) hq d3 ?_
  intro T hT0 X
  have hX3 : c.exceptionTable.toList = [] := by
    have := hc.1.2.2.2.2.2.2.2.2
    rw [hh] at this
    exact List.map_eq_nil_iff.mp this
  have hcell : T.heap[H.size]? = some (freshCell cC kC) := by rw [hT0]; simp [freshCell]
  obtain ⟨U, ce, L, st1, hrun, hend, hWU, hsame, hLb, hUh, hce1, hce2, hce3⟩ := z_ctorThrow X hc.1.1 (Launch.traces_off hfl X.admits) (own := "NotationDesk") (cls := C) (nx := "java/lang/RuntimeException") (names := ["java/lang/Exception"]) (ic := ic) (i1 := i1) (b1 := b1)
    (by rw [← hown]; exact hc.1.2.2.2.1) hfit (by decide) (by decide) k0 k1 k2 k5 (fun w h => hb (x1 w h)) (fun w h => hb (x2 w h)) (fun w h => hb (x3 w h)) (fun w h => hb (x4 w h))
    (hts _ o1) (hts _ o2) (hts _ o4) (hts _ o5) (hts _ o6) (hts _ o7) (hts _ o8) (hts _ o9) (hb (Or.inr (Or.inr (Or.inr (Or.inr ⟨_, List.mem_cons_self, rfl⟩))))) (hb (Or.inr (Or.inr (Or.inr (Or.inr ⟨_, List.mem_cons_of_mem _ List.mem_cons_self, rfl⟩))))) (hts _ o12) (hts _ o13) (hts _ o14)
    (fun c0 k i0 f a hf hk x hx => by
      obtain ⟨c', k', i', f', a', cell', r', z1, z2, z3, z4, z5, z6, z7, z8, z9, z10, z11⟩ := hc.2.1.2.2.2.1.2.2.2.1 _ List.mem_cons_self
      have e1 := hf.symm.trans z2
      cases e1
      cases hk.symm.trans z4
      intro he
      exact z11 (by rw [← he]; exact hS.2.2 x hx))
    h1 h2 hcell hS1 (msg := .ref q) rfl (g := F0 m (pc + 6) ls (.ref q :: .ref H.size :: .ref H.size :: st)) rfl (hl.1.trans hc.1.2.2.1.symm) rfl rfl (rest := st) rfl (by rw [hc.1.2.1]; exact d4) (by rw [hc.1.2.1]; exact d5) (by rw [hX3]; intro x hx; cases hx)
    (by show 1 + 4 < R.frames; omega) (by rw [List.map_cons, List.sum_cons]; show 2 * 0 + (1 + (st.map fun v => v.category).sum) + (13 * (1 + 2) + 42) ≤ R.locals; omega) hc.1.2.2.2.2.2.1
  have hUsz : U.heap.size = H.size + 1 := by rw [hUh, hT0]; simp
  have hcell2 : U.heap[H.size]? = some ce := by rw [hUh, hT0]; simp
  have hoth : ∀ b : Nat, b ≠ H.size → U.heap[b]? = T.heap[b]? := by
    intro b hb2
    rw [hUh]
    simp [Array.getElem?_setIfInBounds, Ne.symm hb2]
  have hold : ∀ b : Nat, b < H.size → U.heap[b]? = H[b]? := by
    intro b hb2
    rw [hoth b (by omega), hT0, Array.getElem?_push, if_neg (Nat.ne_of_lt hb2)]
  have hzU : zt U.heap = zt H + 6 := by
    rw [zt_set hcell hcell2 (by rw [hce3]; simp [freshCell]) hoth, hT0, zt_push]
    simp [h4]
  have hokU : z_ok g (zgap M 6) U.heap := by
    refine ⟨⟨by rw [hUsz, hsz]; rfl, by rw [hzU, hzt]; rfl, hr.1, hr.2⟩, fun b sb hb2 => ?_⟩
    have hb3 : zsh M b = some sb := hb2
    refine ⟨(hM.2 b sb hb3).1, ?_⟩
    have := (hM.2 b sb hb3).2.kept (H1 := U.heap) (hold b (by have := (hM.2 b sb hb3).2.lt; exact this))
    rw [zcell_same (M := M) (M1 := zgap M 6) rfl rfl rfl]
    exact this
  obtain ⟨kU, hkU, -⟩ := hWU.alike.2.2 _ _ h2
  refine ⟨U, st1, hc.2.2.2.2 U (.threw H.size) (.inr C) (zgap M 6) (locs ++ L) hrun hend hWU (hsame.mono (by omega) (by omega)) ?_ ⟨H.size, ce, kU, rfl, hcell2, hce2, ?_, by rw [hce1]; exact hkU⟩ hp hokU ?_⟩
  · intro q2 hq2
    rcases List.mem_append.mp hq2 with h | h
    · exact hS.2.2 q2 h
    · rw [hLb q2 h]; exact hc.2.2.2.1 _ hS1
  · rw [hWU.alike.findClass, hce1]; exact h1
  · refine ⟨by rw [hUsz]; omega, fun b h5 h6 => ?_⟩
    rw [hold b (Nat.lt_of_lt_of_le h5 hS1)]
    exact hS.2.1 b h5 h6
end
section
/-! CATCHING: the search through a method's handlers, their classes perhaps not yet resolved; a call that throws, and is caught -/
theorem z_go1 {Q : Handler → Pre} {E : CtlPost} {e : Env} {d : Bool} {acts : List Action} {s : State} {f : JFrame} {a : Addr} {x : ExceptionTableEntry} {t : List ExceptionTableEntry} {c : ClassId} {cell : Cell} (hx : covers x f.pc = true) (h0 : x.catchType ≠ 0)
    (hl : s.vm.ClassLinks e.platform f.method.cls x.catchType c) (hcell : s.heap[a]? = some cell) (hobj : ∀ k, cell.vm ≠ .statics k) (hk : ∃ k, s.vm.classes[cell.cls]? = some k) (hc : ∃ k, s.vm.classes[c]? = some k) :
    wp (findHandler.go f a (x :: t)) Q E e d acts s ↔ if s.vm.assignable cell.cls c = true then Q (.found x.handlerPc) d acts (s.setVm (s.vm.noted f.method.cls x.catchType (.cls c))) else wp (findHandler.go f a t) Q E e d acts (s.setVm (s.vm.noted f.method.cls x.catchType (.cls c))) := by
  simp only [covers] at hx
  obtain ⟨ha, ht⟩ := (resolveClass_links e.toSetting hl).op (op := VmOp.resolveClass f.method.cls x.catchType) rfl
  have hal : s.vm.Alike (s.vm.noted f.method.cls x.catchType (.cls c)) := (Vm.Alike.refl s.vm).noted _ _ _
  obtain ⟨k1, hk1⟩ := hk
  obtain ⟨k2, hk2⟩ := hc
  obtain ⟨k1', hk1', -⟩ := hal.2.2 _ _ hk1
  obtain ⟨k2', hk2', -⟩ := hal.2.2 _ _ hk2
  cases hfit : s.vm.assignable cell.cls c with
  | true =>
    have hfit' : (s.vm.noted f.method.cls x.catchType (.cls c)).assignable cell.cls c = true := by rw [hal.assignable]; exact hfit
    simp [findHandler.go, hx, h0, ha, ht, hcell, hobj, hk1', hk2', hfit', VmOp.dirties, VmOp.acts]
  | false =>
    have hfit' : (s.vm.noted f.method.cls x.catchType (.cls c)).assignable cell.cls c = false := by rw [hal.assignable]; exact hfit
    simp [findHandler.go, hx, h0, ha, ht, hcell, hobj, hk1', hk2', hfit', VmOp.dirties, VmOp.acts]
/-- what is asked of handlers, entry by entry: the entry covers the pc, its class is D, one of the exceptions; and where the search ends -/
def zfd (own : String) (pc : Nat) (C : String) : List (Nat × Nat × Nat × Nat) → List String → Option Nat
  | q :: l, D :: Ds => if q.1 ≤ pc ∧ pc < q.2.1 ∧ q.2.2.2 ≠ 0 ∧ D ∈ zXN then (if D = C then some q.2.2.1 else zfd own pc C l Ds) else none
  | _, _ => none
def zfw (own : String) : List (Nat × Nat × Nat × Nat) → List String → Prop
  | q :: l, D :: Ds => Cond.classLink own q.2.2.2 D ∈ zCW ∧ zfw own l Ds
  | _, _ => True
theorem z_search {g : zg} {own C : String} {e : Env} {s : State} {args : Array Value} {f : JFrame} {a : Addr} {cell : Cell} {kc : Class} {hpc : Nat} (hpl : e.platform.magicAccessors = ({} : Platform).magicAccessors) (hown : s.vm.findClass own = some f.method.cls) (hts : ∀ w ∈ zCW, w.before args s = true) (hK : zXP g.A s) (hC : C ∈ zXN) (hcl : s.vm.findClass C = some cell.cls) (hkc : s.vm.classes[cell.cls]? = some kc) (hobj : ∀ k, cell.vm ≠ .statics k) :
    ∀ (es : List ExceptionTableEntry) (Cs : List String) (T : State), s.WarmedH T.vm → T.heap[a]? = some cell → zfd own f.pc C (es.map (fun h => (h.startPc, h.endPc, h.handlerPc, h.catchType))) Cs = some hpc → zfw own (es.map (fun h => (h.startPc, h.endPc, h.handlerPc, h.catchType))) Cs →
      ∃ vm', s.WarmedH vm' ∧ ∀ (Q : Handler → Pre) (E : CtlPost) (d : Bool) (acts : List Action), wp (findHandler.go f a es) Q E e d acts T ↔ Q (.found hpc) d acts (T.setVm vm') := by
  intro es
  induction es with
  | nil => intro Cs T hW hT h1 h2; cases Cs <;> simp [zfd] at h1
  | cons x t ih =>
    intro Cs T hW hT h1 h2
    cases Cs with
    | nil => simp [zfd] at h1
    | cons D Ds =>
      simp only [List.map_cons, zfd] at h1
      split at h1
      · rename_i hc0
        obtain ⟨c1, c2, c3, c4⟩ := hc0
        simp only [List.map_cons, zfw] at h2
        obtain ⟨w1, w2⟩ := h2
        have hcov : covers x f.pc = true := by simp [covers, c1, c2]
        obtain ⟨cD, hfD, hlD⟩ := Cond.classLink_spec hown (hts _ w1) e.platform hpl
        obtain ⟨kD, hkD, -⟩ := Vm.findClass_spec hfD
        have hlT := hW.classLinks hlD
        obtain ⟨k1', hk1', -⟩ := hW.alike.2.2 _ _ hkc
        obtain ⟨k2', hk2', -⟩ := hW.alike.2.2 _ _ hkD
        obtain ⟨-, hwarm, -⟩ := State.classEntry (e := e) hW hlD
        by_cases hDC : D = C
        · subst hDC
          rw [if_pos rfl] at h1
          cases h1
          cases hfD.symm.trans hcl
          obtain ⟨c3', c4', e3, e4, hasg⟩ := Cond.castable_spec (hK.1 D hC)
          cases e3.symm.trans hcl
          cases e4.symm.trans hcl
          refine ⟨_, hwarm, fun Q E d acts => ?_⟩
          rw [z_go1 hcov c3 hlT hT hobj ⟨_, hk1'⟩ ⟨_, hk2'⟩, if_pos (by rw [hW.alike.assignable]; exact hasg)]
        · rw [if_neg hDC] at h1
          obtain ⟨z1, z2, e1, e2, hno⟩ := hK.2.2.2.2 C hC D c4 (fun h => hDC h.symm)
          cases e1.symm.trans hcl
          cases e2.symm.trans hfD
          obtain ⟨vm', hv1, hv2⟩ := ih Ds (T.setVm (T.vm.noted f.method.cls x.catchType (.cls cD))) hwarm hT h1 w2
          refine ⟨vm', hv1, fun Q E d acts => ?_⟩
          rw [z_go1 hcov c3 hlT hT hobj ⟨_, hk1'⟩ ⟨_, hk2'⟩, if_neg (by rw [hW.alike.assignable, hno]; decide), hv2]
          rfl
      · cases h1
theorem z_caught {p : Program} {l : Launch} {e : Env} {R : Room} {s : State} {m : MethodId} {args : Array Value} {below : List Frame} {meth : Method} {c : Code} {T : State} {locs : List Loc} {cells slots : Nat} (X : Stand p l e R s m args below meth c T locs cells slots) (a : Addr) {g : JFrame} (hg : g.method = m) {hpc : Nat} {vm' : Vm}
    (hfind : ∀ (Q : Handler → Pre) (E : CtlPost) (d : Bool) (acts : List Action), wp (findHandler g a) Q E e d acts ((T.setTop g).pushFrame (.throwing a)) ↔ Q (.found hpc) d acts (((T.setTop g).pushFrame (.throwing a)).setVm vm'))
    {target : State} (hrest : Steps p.tables e below ((T.setVm vm').setTop { g with pc := hpc, stack := [.ref a] }) target) : Steps p.tables e below ((T.setTop g).pushFrame (.throwing a)) target := by
  have h : At T g.method c below := by rw [hg]; exact X.here
  obtain ⟨hgo, hw⟩ := h.throwing a
  refine Steps.head hgo hw ?_
  have key : ∀ (S : State) (r : List Frame), (∀ (Q : Handler → Pre) (E : CtlPost) (d : Bool) (acts : List Action), wp (findHandler g a) Q E e d acts S ↔ Q (.found hpc) d acts (S.setVm vm')) → (stepThrowing e S a (.java g :: r)).1 = (S.setVm vm').setFrames (.java { g with pc := hpc, stack := [.ref a] } :: r) := by
    intro S r hf
    simp only [stepThrowing, searchFrame, vmDo]
    generalize hr : Sem.go _ e false [] S = res
    obtain ⟨as, rfl, ha⟩ := Sem.eq_ok_of hr (a := Handler.found hpc) (s' := S.setVm vm') (acts' := []) (by simp [hf _ _ _ _])
    rfl
  rw [stepThread_throwing (frames_entered h.top _), key _ _ hfind]
  obtain ⟨g₀, hg0⟩ := Option.isSome_iff_exists.mp h.top
  obtain ⟨r, hr⟩ := State.topJava?_eq_some.mp hg0
  have hr' : (T.setVm vm').frames = .java g₀ :: r := hr
  rw [State.setTop_of_frames _ hr'] at hrest
  have e1 : ∀ (u : State) (F G : List Frame), ((u.setFrames F).setVm vm').setFrames G = (u.setVm vm').setFrames G := by
    intro u F G
    have h1 : (u.setFrames F).setVm vm' = (u.setVm vm').setFrames F := rfl
    rw [h1, State.setFrames_setFrames]
  rw [hr, List.tail_cons, State.pushFrame, e1, State.setTop_of_frames _ hr, e1]
  exact hrest
/-- a method's contract where it throws a new C -/
def zX (g : zg) (d : Nat) (y : zm) (av : List Value) (M : zM) (C : String) (post : zM → Prop) : Prop :=
  MetFree g.l y.1 (headSpec (.code y.1 y.2.1 y.2.2.1 y.2.2.2 :: zCW) { frames := d, cells := g.KC - zsz M, slots := g.KS - zsl M, locals := 60 * d + 12 }) (va_Pc av (fun U => z_ok g M U.heap ∧ z_K g U ∧ ∀ q : Nat, U.heap.size ≤ q → g.A q)) (fun _ _ _ _ _ => True)
    (fun _ st o t => ∃ (a : Addr) (ce : Cell) (k : Class) (M1 : zM) (L : List Loc), o = .threw a ∧ t.heap[a]? = some ce ∧ ce.vm = .none ∧ t.vm.findClass C = some ce.cls ∧ t.vm.classes[ce.cls]? = some k ∧ post M1 ∧ z_ok g M1 t.heap ∧ z_K g t ∧ va_F g.A st t ∧ st.WarmedH t.vm ∧ st.sameButNew ({ t with vm := st.vm } : State) L (g.KC - zsz M) (g.KS - zsl M) ∧ ∀ q ∈ L, g.A q.base)
set_option maxHeartbeats 1000000 in
theorem zX_of {g : zg} {d : Nat} {y : zm} {av : List Value} {M : zM} {C : String} {post : zM → Prop} {lv : List (Nat × Value)} (hy : zmok y) (hc1 : ∀ v ∈ av, v.category = 1) (hlen : av.length ≤ y.2.2.1) (hlv : zlv 0 av = lv)
    (h : zG g d y (fun r M1 => r = .inr C ∧ post M1) M 0 lv []) : zX g d y av M C post := by
  unfold zX
  refine MetFree.of_bodyS (code := y.2.1) (maxLocals := y.2.2.1) (ret := y.2.2.2) hy.1 ?_ ?_
  · intro args s m h hn
    obtain ⟨meth, c, h1, h2, h3, h4, h5, h6, -, -⟩ := Cond.code_spec hn (atoms_spec (ws := .code y.1 y.2.1 y.2.2.1 y.2.2.2 :: zCW) h _ List.mem_cons_self)
    exact ⟨meth, c, h1, h2, h3, h4, h5, h6⟩
  · intro p e s m args below meth c s₁ B hml hv _
    obtain ⟨rfl, hM, hK, hA⟩ := hv
    have hts := atoms_spec (ws := .code y.1 y.2.1 y.2.2.1 y.2.2.2 :: zCW) B.pre
    have hl := lv_entry av (n := y.2.2.1) (by rw [zlv_len av hc1]; exact hlen)
    have hh0 : s₁.heap = s.heap := by rw [B.state]; rfl
    have hsz : s.heap.size = zsz M := hM.1.1
    have hzt : zt s.heap = zsl M := hM.1.2.1
    have hkc := hM.1.2.2.1
    have hks := hM.1.2.2.2
    generalize hls : (lg_sl av ++ List.replicate (y.2.2.1 - (lg_sl av).length) Slot.unset).toArray = ls at hl
    rw [zlv_eq av 0 hc1, hlv] at hl
    have hne := B.noHandlers (hts _ List.mem_cons_self)
    have he : c.exceptionTable.toList = [] := by
      have h0 : c.exceptionTable = #[] := by simpa using hne
      rw [h0]
    have w := h p e (headSpec (.code y.1 y.2.1 y.2.2.1 y.2.2.2 :: zCW) { frames := d, cells := g.KC - zsz M, slots := g.KS - zsl M, locals := 60 * d + 12 }).room s m av.toArray below meth c
      (fun t => ∃ o, t.status = .running ∧ Ended t below o ∧ ∃ (a : Addr) (ce : Cell) (k : Class) (M1 : zM) (L : List Loc), o = .threw a ∧ t.heap[a]? = some ce ∧ ce.vm = .none ∧ t.vm.findClass C = some ce.cls ∧ t.vm.classes[ce.cls]? = some k ∧ post M1 ∧ z_ok g M1 t.heap ∧ z_K g t ∧ va_F g.A s t ∧ s.WarmedH t.vm ∧ s.sameButNew ({ t with vm := s.vm } : State) L (g.KC - zsz M) (g.KS - zsl M) ∧ ∀ q ∈ L, g.A q.base) s.heap [] ls
      ⟨⟨B.exec, B.bytes, hml, findClass_of_methodNamed B.named, fun w hw => hts w (List.mem_cons_of_mem _ hw), B.notSynchronized, (name_of_methodNamed B.named B.method).1, B.returns, by rw [hy.2.2, he]; rfl⟩, hK, ⟨Nat.le_refl _, Nat.le_refl _, by show g.KC ≤ (g.KC - zsz M) + s.heap.size; omega, by show g.KS ≤ (g.KS - zsl M) + zt s.heap; omega⟩, hA, ?_⟩ hM va_S.rf hl (Nat.le_refl _)
    · obtain ⟨t, a1, o, b1, b2, b3⟩ := (W.cs (cells := 0) (slots := 0) (by omega) (by omega) w) s₁ hh0 (Stand.of_body B)
      refine ⟨t, o, ?_, b1, b2, b3⟩
      rw [lg_entry_eq, hls]
      exact a1
    · intro t o r M1 L hrun hend hW hsame hL ho hp hM1 hF
      obtain ⟨rfl, hp⟩ := hp
      obtain ⟨a, ce, k, q1, q2, q3, q4, q5⟩ := ho
      have h1 := hM1.1.1
      have h2 := hM1.1.2.1
      have h3 := hM1.1.2.2.1
      have h4 := hM1.1.2.2.2
      exact ⟨o, hrun, hend, a, ce, k, M1, L, q1, q2, q3, q4, q5, hp, hM1, zK_moved hW hF.2 hK, hF, hW, hsame.mono (by omega) (by omega), hL⟩
end
section
/-! A CALL THAT THROWS, AND IS CAUGHT -/
set_option maxHeartbeats 2000000 in
theorem zi_catchV {g : zg} {d d1 : Nat} {y y1 : zm} {post : zR → zM → Prop} {M : zM} {pc hpc : Nat} {lv : List (Nat × Value)} {st As : List Value} {post1 : zM → Prop} {i n ci b N : Nat} {T0 : u_T} {C : String} {Cs : List String}
    (hE : zX g d1 y1 (va_rf (some b) :: As) M C post1) (hw : z_mw y1 n) (hlk : Cond.methodLink y.1.cls i y1.1 ∈ zCW) (him : Cond.instanceMethod y1.1 ∈ zCW) (hsel : Cond.selects y1.1.cls y1.1 y1.1 ∈ zCW) (hd1 : d1 + 1 ≤ d) (hs : zsh M b = some (.inl ci)) (hcl : zcl[ci]? = some (y1.1.cls, T0, N)) (hn : As.length = n) (hst : st.length ≤ 4)
    (hC : C ∈ zXN) (hfd : zfd y.1.cls pc C (zhd y.1) Cs = some hpc) (hfw : zfw y.1.cls (zhd y.1) Cs) (hd : decode y.2.1 pc = .ok (.invokevirtual i, 3)) (kk : ∀ (a : Nat) (M1 : zM), post1 M1 → zG g d y post M1 hpc lv [va_rf (some a)]) : zG g d y post M pc lv (As.reverse ++ va_rf (some b) :: st) := by
  intro p e R s m args below meth c Q H locs ls hc hM hS hl hz
  have hts := hc.1.2.2.2.2.1
  have hwt := z_weight st
  have hsz : H.size = zsz M := hM.1.1
  have hzt := hM.1.2.1
  have hkc := hM.1.2.2.1
  have hks := hM.1.2.2.2
  have a1 := hc.2.2.1.1
  have a2 := hc.2.2.1.2.1
  have hrc := hc.2.2.1.2.2.1
  have hrs := hc.2.2.1.2.2.2
  have hS1 := hS.1
  have hmax := hw.2.2.2
  obtain ⟨cellB, hcB, hoB, hclB⟩ := va_recv hc.2.1.1 (z_one hM hs) hcl (q0 := 0) rfl
  intro T hT X
  have hpl : e.platform.magicAccessors = ({} : Platform).magicAccessors := by rw [X.admits.platform]
  have hcode := hts _ hw.1
  have hy := hw.2.2.1
  obtain ⟨mk, methM, hnamed, hmethM, hstM, habM⟩ := Cond.instanceMethod_spec (hts _ him)
  obtain ⟨methM', cM, hmethM', hcodeM, -, hlocM, -, -, -, hsigM⟩ := Cond.code_spec hnamed hcode
  cases hmethM.symm.trans hmethM'
  obtain ⟨c2, r2, m2, q1, q2, q3, q4, kP, hkP, hkPi⟩ := Cond.selects_spec (hts _ hsel)
  cases hclB.symm.trans q1
  cases (State.methodFound?_of_named hnamed ⟨hy.1, hy.2.1⟩).symm.trans q2
  cases hnamed.symm.trans q3
  have hselP : selectMethod e.platform s.vm cellB.cls mk = .method mk := by rw [Launch.admits_selectMethod X.admits]; exact q4
  have hlenA : As.length = methM.sig.parameters.length := by
    have h2 := hy.2.2
    rw [hsigM] at h2
    rw [hn]
    exact (Option.some.inj h2).symm
  obtain ⟨vm₁, X₁, hstep₁⟩ := X.invokevirtual hc.1.1 hc.1.2.2.2.1 (hts _ hlk) hnamed hmethM hstM hkP hkPi ⟨hy.1, hy.2.1⟩ (a := b) (cell := cellB) (by rw [hT]; exact hcB) (fun z h => by rw [h] at hoB; cases hoB) hselP hmethM habM hkP hkPi (g := F0 m pc ls (As.reverse ++ va_rf (some b) :: st)) rfl (argsL := As) (rest := st) hlenA rfl (by rw [hc.1.2.1]; exact hd)
  generalize hU : T.setVm vm₁ = U at X₁ hstep₁
  have hUh : U.heap = H := by rw [← hU]; exact hT
  have hgg : ({ F0 m pc ls (As.reverse ++ va_rf (some b) :: st) with stack := st } : JFrame) = F0 m pc ls st := rfl
  rw [hgg] at hstep₁
  have hnamedU : U.methodNamed? y1.1 = some mk := X₁.named hnamed
  have hcodeU : (Cond.code y1.1 y1.2.1 y1.2.2.1 y1.2.2.2).before (Value.ref b :: As).toArray U = true := word_at X₁.warmed (Or.inl rfl) hcode
  have hiniU : (Cond.initialized y1.1.cls).before (Value.ref b :: As).toArray U = true := word_at X₁.warmed (Or.inl (by first | rfl | simp [Cond.onTables, Cond.keeps, Cond.steady])) (hts _ hw.2.1)
  obtain ⟨methY, cY, hmY, hcY, -, hlY, -, -, -, -⟩ := Cond.code_spec hnamedU hcodeU
  obtain ⟨kY, hkY, -⟩ := className_of_methodNamed hnamedU
  have hinitY : kY.init = .initialized := Cond.initialized_spec (findClass_of_methodNamed hnamedU) hkY hiniU
  have h : At U (F0 m pc ls st).method c below := X₁.here
  have hdU : decode c.code (F0 m pc ls st).pc = .ok (.invokevirtual i, 3) := by rw [hc.1.2.1]; exact hd
  have hpreU : (headSpec (.code y1.1 y1.2.1 y1.2.2.1 y1.2.2.2 :: zCW) { frames := d1, cells := g.KC - zsz M, slots := g.KS - zsl M, locals := 60 * d1 + 12 }).pre.before (Value.ref b :: As).toArray U = true := by
    refine atoms_intro fun w hwm => ?_
    rcases List.mem_cons.mp hwm with rfl | hwm
    · exact hcodeU
    · exact word_at X₁.warmed (zCW_good w hwm) (hts w hwm)
  have happ := Spec.appliesLoose_calling (S := headSpec (.code y1.1 y1.2.1 y1.2.2.1 y1.2.2.2 :: zCW) { frames := d1, cells := g.KC - zsz M, slots := g.KS - zsl M, locals := 60 * d1 + 12 }) (g := F0 m pc ls st) h hdU hnamedU hkY hinitY
    (X₁.room_calling (g := F0 m pc ls st) (R' := { frames := d1, cells := g.KC - zsz M, slots := g.KS - zsl M, locals := 60 * d1 + 12 }) (hl.1.trans hc.1.2.2.1.symm) hmY hcY (by show d1 + 1 ≤ R.frames; omega) (by rw [hlY]; show 2 * 0 + (st.map fun v => v.category).sum + (y1.2.2.1 + 11) + (60 * d1 + 12) ≤ R.locals; omega) (by show _ + (g.KC - zsz M) ≤ R.cells; omega) (by show _ + (g.KS - zsl M) ≤ R.slots; omega)) hpreU
  obtain ⟨mid, hmid⟩ := h.above
  have hfr : (U.setTop (F0 m pc ls st)).frames = (.java (F0 m pc ls st) :: mid) ++ below := by rw [State.frames_setTop' (F0 m pc ls st) h.top, hmid]; rfl
  obtain ⟨o, s₂, hsteps, -, hend, hq⟩ := Steps.callFree hE p X.admits X.cas X.clock (acts := []) hfr happ
    ⟨rfl, by show z_ok g M U.heap; rw [hUh]; exact hM, zK_moved (u := s) (U := U.calling (F0 m pc ls st) mk (Value.ref b :: As).toArray) X₁.warmed (fun q h1 h2 => by show U.heap[q]? = _; rw [hUh]; exact hS.2.1 q h1 h2) hc.2.1, fun q hq => hc.2.2.2.1 q (by have hq' : U.heap.size ≤ q := hq; rw [hUh] at hq'; omega)⟩ trivial
  rw [State.frames_setTop' (F0 m pc ls st) h.top] at hend
  obtain ⟨ax, ce, k, M1, L, ho, hce, hcev, hcec, hcek, hp1, hM1, hK1, hF1, hW₂, hsame2, hL2⟩ := hq
  subst ho
  have hf₂ : s₂.frames = .throwing ax :: .java (F0 m pc ls st) :: U.frames.tail := hend
  obtain ⟨e2, p2, p3, p4, p5, p6⟩ := hsame2
  have e3 : s₂ = ({ (U.calling (F0 m pc ls st) mk (Value.ref b :: As).toArray).setFrames s₂.frames with heap := s₂.heap, slotsUsed := s₂.slotsUsed } : State).setVm s₂.vm := by
    have : s₂ = ({ s₂ with vm := (U.calling (F0 m pc ls st) mk (Value.ref b :: As).toArray).vm } : State).setVm s₂.vm := rfl
    have e2' : ({ s₂ with vm := (U.calling (F0 m pc ls st) mk (Value.ref b :: As).toArray).vm } : State) = { (U.calling (F0 m pc ls st) mk (Value.ref b :: As).toArray).setFrames s₂.frames with heap := s₂.heap, slotsUsed := s₂.slotsUsed } := e2
    rw [e2'] at this
    exact this
  have hW' : U.WarmedH s₂.vm := hW₂
  obtain ⟨g₀, hg0⟩ := Option.isSome_iff_exists.mp h.top
  obtain ⟨r, hr⟩ := State.topJava?_eq_some.mp hg0
  have hr' : (({ U with heap := s₂.heap, slotsUsed := s₂.slotsUsed } : State).setVm s₂.vm).frames = .java g₀ :: r := hr
  have hs₂ : s₂ = ((({ U with heap := s₂.heap, slotsUsed := s₂.slotsUsed } : State).setVm s₂.vm).setTop (F0 m pc ls st)).pushFrame (.throwing ax) := by
    refine e3.trans ?_
    rw [hf₂, State.calling_eq h.top, State.setFrames_setFrames, State.pushFrame, State.frames_setTop _ hr', State.setTop_of_frames _ hr', State.setFrames_setFrames, hr]
    rfl
  have hsameU : U.sameButNew ({ U with heap := s₂.heap, slotsUsed := s₂.slotsUsed } : State) L (g.KC - zsz M) (g.KS - zsl M) := by
    refine ⟨?_, p2, p3, p4, p5, p6⟩
    obtain ⟨t, ht, -⟩ := State.frames_cons hr
    show ({ U with heap := s₂.heap, slotsUsed := s₂.slotsUsed } : State) = { U.setFrames U.frames with heap := s₂.heap, slotsUsed := s₂.slotsUsed }
    rw [State.setFrames_self ht]
  have X' : Stand p g.l e R s m args below meth c (({ U with heap := s₂.heap, slotsUsed := s₂.slotsUsed } : State).setVm s₂.vm) (locs ++ L) _ _ :=
    ⟨X₁.admits, X₁.cas, X₁.clock, X₁.frames, X₁.room, X₁.hears, X₁.method, X₁.code, (X₁.here.setHeapUsed s₂.heap s₂.slotsUsed).setVm hW'.alike, X₁.tail, State.WarmedH.trans X₁.warmed hW', X₁.limits, X₁.bytes, X₁.same.trans (hsameU.setVm s.vm)⟩
  generalize hT' : (({ U with heap := s₂.heap, slotsUsed := s₂.slotsUsed } : State).setVm s₂.vm) = T' at hs₂ X'
  have hT'h : T'.heap = s₂.heap := by rw [← hT']; rfl
  have hT'v : T'.vm = s₂.vm := by rw [← hT']; rfl
  have hmT : T'.vm.method? m = some meth := X'.method'
  have hxt : c.exceptionTable.toList.map (fun h => (h.startPc, h.endPc, h.handlerPc, h.catchType)) = zhd y.1 := hc.1.2.2.2.2.2.2.2.2
  have halT : s.vm.Alike T'.vm := X'.warmed.alike
  have hcls0 : s.vm.findClass C = some ce.cls := by rw [← halT.findClass, hT'v]; exact hcec
  obtain ⟨kc, hkc', -⟩ := halT.symm.2.2 ce.cls k (by rw [hT'v]; exact hcek)
  obtain ⟨vm', hv1, hv2⟩ := z_search (g := g) (own := y.1.cls) (C := C) (e := e) (s := s) (args := args) (f := F0 m pc ls st) (a := ax) (cell := ce) (kc := kc) (hpc := hpc) hpl hc.1.2.2.2.1 hts hc.2.1.2.2.2.1 hC hcls0 hkc' (fun z hz2 => by rw [hcev] at hz2; cases hz2)
    c.exceptionTable.toList Cs ((T'.setTop (F0 m pc ls st)).pushFrame (.throwing ax)) (by rw [Stand.throwing_vm]; exact X'.warmed) (by rw [Stand.throwing_heap, hT'h]; exact hce) (by rw [hxt]; exact hfd) (by rw [hxt]; exact hfw)
  have X2 : Stand p g.l e R s m args below meth c (T'.setVm vm') (locs ++ L) _ _ := X'.noted hv1
  have hS' : va_S g.A s.heap (T'.setVm vm').heap (locs ++ L) := by
    refine ⟨?_, fun q h1 h2 => ?_, fun q hq => ?_⟩
    · show s.heap.size ≤ T'.heap.size
      rw [hT'h]
      exact Nat.le_trans hS1 (by rw [← hUh]; exact hF1.1)
    · show T'.heap[q]? = _
      rw [hT'h, hF1.2 q (by show q < U.heap.size; rw [hUh]; omega) h2]
      show U.heap[q]? = _
      rw [hUh]
      exact hS.2.1 q h1 h2
    · rcases List.mem_append.mp hq with h | h
      · exact hS.2.2 q h
      · exact hL2 q h
  obtain ⟨t2, b1, b2⟩ := z_tight (kk ax M1 hp1 p e R s m args below meth c Q (T'.setVm vm').heap (locs ++ L) ls hc (by show z_ok g M1 T'.heap; rw [hT'h]; exact hM1) hS' hl) (T'.setVm vm') rfl X2
  refine ⟨t2, hstep₁ _ (fun acts => ?_), b2⟩
  rw [doInvoke_state]
  refine Steps.trans hsteps ?_
  rw [hs₂]
  refine z_caught X' ax (g := F0 m pc ls st) rfl (hpc := hpc) (vm' := vm') (fun Q2 E2 d2 acts2 => ?_) b1
  rw [W.findHandler_eq (by rw [Stand.throwing_vm]; exact hmT) X'.code]
  exact hv2 Q2 E2 d2 acts2
end
section
/-! METHODS WITH HANDLERS: their contracts, and calls of them (the law's own static methods) -/
def zEW (g : zg) (d : Nat) (y : zm) (av : List Value) (M : zM) (post : Int32 → zM → Prop) : Prop :=
  Met g.l y.1 (.codeWith y.1 y.2.1 y.2.2.1 y.2.2.2 (zhd y.1) :: zCW) { frames := d, cells := g.KC - zsz M, slots := g.KS - zsl M, locals := 60 * d + 12 } (va_Pc av (fun U => z_ok g M U.heap ∧ z_K g U ∧ ∀ q : Nat, U.heap.size ≤ q → g.A q))
    (fun _ st o t => (∃ (v : Option Value) (M1 : zM), o = .returned v ∧ (∃ r : Int32, v = some (.int r) ∧ post r M1) ∧ z_ok g M1 t.heap ∧ z_K g t) ∧ va_F g.A st t) (g.KC - zsz M) (g.KS - zsl M) g.A
set_option maxHeartbeats 1000000 in
theorem zEW_of {g : zg} {d : Nat} {y : zm} {av : List Value} {M : zM} {post : Int32 → zM → Prop} {lv : List (Nat × Value)} (hy : plainName y.1.cls = true) (hc1 : ∀ v ∈ av, v.category = 1) (hlen : av.length ≤ y.2.2.1) (hlv : zlv 0 av = lv)
    (h : zG g d y (zPi post) M 0 lv []) : zEW g d y av M post := by
  unfold zEW
  refine va_MetW (cc := y.2.1) (maxL := y.2.2.1) (ret := y.2.2.2) (hh := zhd y.1) hy rfl ?_
  intro p e s m args below meth c s₁ B hml hv
  obtain ⟨rfl, hM, hK, hA⟩ := hv
  have hts := atoms_spec (ws := .codeWith y.1 y.2.1 y.2.2.1 y.2.2.2 (zhd y.1) :: zCW) B.pre
  have hl := lv_entry av (n := y.2.2.1) (by rw [zlv_len av hc1]; exact hlen)
  rw [lg_entry_eq]
  generalize (lg_sl av ++ List.replicate (y.2.2.1 - (lg_sl av).length) Slot.unset).toArray = ls at hl ⊢
  rw [zlv_eq av 0 hc1, hlv] at hl
  have hsz : s.heap.size = zsz M := hM.1.1
  have hzt : zt s.heap = zsl M := hM.1.2.1
  have hkc := hM.1.2.2.1
  have hks := hM.1.2.2.2
  have htab : c.exceptionTable.toList.map (fun h => (h.startPc, h.endPc, h.handlerPc, h.catchType)) = zhd y.1 := by
    obtain ⟨m9, meth9, c9, hn9, h1, h2, h3, h4, h5, h6, h7, -⟩ := Cond.codeWith_spec (hts _ List.mem_cons_self)
    cases B.named.symm.trans hn9
    cases B.method.symm.trans h1
    cases (Stand.of_body B).code.symm.trans h2
    exact h5
  have w := h p e (headSpec (.codeWith y.1 y.2.1 y.2.2.1 y.2.2.2 (zhd y.1) :: zCW) { frames := d, cells := g.KC - zsz M, slots := g.KS - zsl M, locals := 60 * d + 12 }).room s m av.toArray below meth c
    (MQ below (fun _ st o t => (∃ (v : Option Value) (M1 : zM), o = .returned v ∧ (∃ r : Int32, v = some (.int r) ∧ post r M1) ∧ z_ok g M1 t.heap ∧ z_K g t) ∧ va_F g.A st t) av.toArray s (g.KC - zsz M) (g.KS - zsl M) g.A) s.heap [] ls
    ⟨⟨B.exec, B.bytes, hml, findClass_of_methodNamed B.named, fun w hw => hts w (List.mem_cons_of_mem _ hw), B.notSynchronized, (name_of_methodNamed B.named B.method).1, B.returns, htab⟩, hK, ⟨Nat.le_refl _, Nat.le_refl _, by show g.KC ≤ (g.KC - zsz M) + s.heap.size; omega, by show g.KS ≤ (g.KS - zsl M) + zt s.heap; omega⟩, hA, ?_⟩ hM va_S.rf hl (Nat.le_refl _)
  · exact W.cs (by omega) (by omega) w
  · intro t o r M1 L hrun hend hW hsame hL ho hp hM1 hF
    obtain ⟨x, rfl, hp⟩ := hp
    refine ⟨o, hrun, hend, ⟨⟨_, M1, ho, ⟨x, rfl, hp⟩, hM1, zK_moved hW hF.2 hK⟩, hF⟩, L, ⟨⟨_, ho⟩, hW, ?_⟩, hL⟩
    have h1 := hM1.1.1
    have h2 := hM1.1.2.1
    have h3 := hM1.1.2.2.1
    have h4 := hM1.1.2.2.2
    exact hsame.mono (by omega) (by omega)
set_option maxHeartbeats 1000000 in
theorem zi_callSW {g : zg} {d d1 : Nat} {y y1 : zm} {post : zR → zM → Prop} {M : zM} {pc : Nat} {lv : List (Nat × Value)} {st As : List Value} {post1 : Int32 → zM → Prop} {i n : Nat} (hE : zEW g d1 y1 As M post1) (hcw : Cond.codeWith y1.1 y1.2.1 y1.2.2.1 y1.2.2.2 (zhd y1.1) ∈ zCW) (hini : Cond.initialized y1.1.cls ∈ zCW) (hy : y1.1.cls ≠ "java/lang/invoke/MethodHandle" ∧ y1.1.cls ≠ "java/lang/invoke/VarHandle" ∧ (parseMethodDescriptor y1.1.desc).map (fun d => d.parameters.length) = some n) (hmax : y1.2.2.1 ≤ 40)
    (hlk : Cond.methodLink y.1.cls i y1.1 ∈ zCW) (hstt : Cond.static y1.1 ∈ zCW) (hd1 : d1 + 1 ≤ d) (hn : As.length = n) (hst : st.length ≤ 4) (hd : decode y.2.1 pc = .ok (.invokestatic i, 3)) (kk : ∀ (r : Int32) (M1 : zM), post1 r M1 → zG g d y post M1 (pc + 3) lv (.int r :: st)) : zG g d y post M pc lv (As.reverse ++ st) := by
  intro p e R s m args below meth c Q H locs ls hc hM hS hl hz
  have hts := hc.1.2.2.2.2.1
  have hwt := z_weight st
  have hsz : H.size = zsz M := hM.1.1
  have hzt := hM.1.2.1
  have hkc := hM.1.2.2.1
  have hks := hM.1.2.2.2
  have a1 := hc.2.2.1.1
  have a2 := hc.2.2.1.2.1
  have hrc := hc.2.2.1.2.2.1
  have hrs := hc.2.2.1.2.2.2
  have hS1 := hS.1
  refine z_after hc hS hl (mc := g.KC - zsz M) (ms := g.KS - zsl M) (rest := st) (post1 := fun v M1 => ∃ r : Int32, v = some (.int r) ∧ post1 r M1) ?_ (fun v M1 hv => by obtain ⟨r, rfl, hv⟩ := hv; exact kk r M1 hv)
  have hB : Back g.l R p e below s args y1.1 3 8 (PreOf R (g.KC - zsz M) (g.KS - zsl M) _) (PostOf _ (g.KC - zsz M) (g.KS - zsl M) g.A) :=
    va_backW (hh := zhd y1.1) (bytes := y1.2.1) (maxL := y1.2.2.1) (ret := y1.2.2.2) hE (z_blind _) rfl rfl (by show d1 + 1 ≤ R.frames; omega) (by show 8 + (y1.2.2.1 + 11) + (60 * d1 + 12) ≤ R.locals; omega)
      (fun w hwm a' U hW => by
        rcases List.mem_cons.mp hwm with rfl | hwm
        · exact word_at hW (zCW_good _ hcw) (hts _ hcw)
        · exact word_at hW (zCW_good w hwm) (hts w hwm)) List.mem_cons_self (fun a' U hW => word_at hW (zCW_good _ hini) (hts _ hini))
  intro T hT X
  obtain ⟨mk, methM, cM, hnamed, hmethM, -, -, -, -, -, -, hsigM⟩ := Cond.codeWith_spec (hts _ hcw)
  have hstatic : methM.isStatic = true := Cond.static_spec hnamed hmethM (hts _ hstt)
  obtain ⟨kP, hkP, -⟩ := className_of_methodNamed hnamed
  have hinitP : kP.init = .initialized := Cond.initialized_spec (findClass_of_methodNamed hnamed) hkP (hts _ hini)
  have hlenA : As.length = methM.sig.parameters.length := by
    have h2 := hy.2.2
    rw [hsigM] at h2
    rw [hn]
    exact (Option.some.inj h2).symm
  obtain ⟨vm₁, X₁, hstep₁⟩ := X.invokestatic hc.1.1 hc.1.2.2.2.1 (hts _ hlk) hnamed hmethM hstatic hkP hinitP ⟨hy.1, hy.2.1⟩ (g := F0 m pc ls (As.reverse ++ st)) rfl (argsL := As) (rest := st) hlenA rfl (by rw [hc.1.2.1]; exact hd)
  obtain ⟨v, ⟨U', l2, c2, s2⟩, X', ⟨g', mk', t, L, e1, e2, hq, h1, hL, h2, h3⟩, hsteps⟩ := hB m meth c ⟨T.setVm vm₁, locs, H.size - s.heap.size, zt H - zt s.heap⟩ { F0 m pc ls (As.reverse ++ st) with stack := st } (.invokestatic i) mk As.toArray X₁ rfl (hl.1.trans hc.1.2.2.1.symm) (by rw [hc.1.2.1]; exact hd) (by show 2 * 0 + (st.map fun v => v.category).sum ≤ 8; omega) (X₁.named hnamed)
    ⟨by show (H.size - s.heap.size) + (g.KC - zsz M) ≤ R.cells; omega, by show (zt H - zt s.heap) + (g.KS - zsl M) ≤ R.slots; omega, rfl, by show z_ok g M T.heap; rw [hT]; exact hM, zK_moved X₁.warmed (fun q h1 h2 => by show T.heap[q]? = _; rw [hT]; exact hS.2.1 q h1 h2) hc.2.1, fun q hq => hc.2.2.2.1 q (by have hq' : T.heap.size ≤ q := hq; rw [hT] at hq'; omega)⟩
  dsimp only [Pt.U, Pt.locs, Pt.cells, Pt.slots] at X' e1 e2 h1 h2 h3 hsteps
  subst h1; subst h2; subst h3
  exact ⟨v, (T.setVm vm₁).calling g' mk' As.toArray, t, U', L, hT, X', hL, e1, e2, hq, fun target h => hstep₁ _ fun acts => by rw [doInvoke_state]; exact hsteps.trans h⟩
end
section
/-! EXCEPTIONS: by program (tools/gen_exc.py): the words that making each one needs -/
theorem x_common (C : String) : ∀ w ∈ Bundle.throwableAtoms, zAt C w := by
  unfold Bundle.throwableAtoms
  exact List.forall_mem_cons.mpr ⟨Or.inl (zin1 12 rfl rfl), List.forall_mem_cons.mpr ⟨Or.inl (zin3 108 rfl rfl), List.forall_mem_cons.mpr ⟨Or.inl (zin3 117 rfl rfl), List.forall_mem_cons.mpr ⟨Or.inl (zin3 123 rfl rfl), List.forall_mem_cons.mpr ⟨Or.inl (zin3 126 rfl rfl), List.forall_mem_cons.mpr ⟨Or.inl (zin3 128 rfl rfl), List.forall_mem_cons.mpr ⟨Or.inl (zin3 109 rfl rfl), List.forall_mem_cons.mpr ⟨Or.inl (zin3 110 rfl rfl), List.forall_mem_cons.mpr ⟨Or.inl (zin1 28 rfl rfl), List.forall_mem_cons.mpr ⟨Or.inl (zin1 29 rfl rfl), List.forall_mem_cons.mpr ⟨Or.inl (zin3 111 rfl rfl), List.forall_mem_cons.mpr ⟨Or.inl (zin3 116 rfl rfl), List.forall_mem_cons.mpr ⟨Or.inl (zin3 124 rfl rfl), List.forall_mem_cons.mpr ⟨Or.inl (zin3 144 rfl rfl), List.forall_mem_cons.mpr ⟨Or.inl (zin3 98 rfl rfl), List.forall_mem_cons.mpr ⟨Or.inl (zin3 145 rfl rfl), List.forall_mem_cons.mpr ⟨Or.inl (zin3 100 rfl rfl), List.forall_mem_cons.mpr ⟨Or.inl (zin3 146 rfl rfl), List.forall_mem_cons.mpr ⟨Or.inl (zin3 102 rfl rfl), List.forall_mem_cons.mpr ⟨Or.inl (zin3 112 rfl rfl), List.forall_mem_cons.mpr ⟨Or.inr (Or.inr (Or.inr (Or.inl ⟨_, List.mem_cons_self, rfl⟩))), List.forall_mem_cons.mpr ⟨Or.inl (zin3 114 rfl rfl), List.forall_mem_cons.mpr ⟨Or.inr (Or.inr (Or.inr (Or.inl ⟨_, List.mem_cons_of_mem _ List.mem_cons_self, rfl⟩))), List.forall_mem_cons.mpr ⟨Or.inl (zin3 104 rfl rfl), fun _ h => absurd h List.not_mem_nil⟩⟩⟩⟩⟩⟩⟩⟩⟩⟩⟩⟩⟩⟩⟩⟩⟩⟩⟩⟩⟩⟩⟩⟩
theorem x_commonS (C : String) : ∀ w ∈ Bundle.throwableSAtoms, zAt C w := by
  unfold Bundle.throwableSAtoms
  exact List.forall_mem_cons.mpr ⟨Or.inl (zin3 140 rfl rfl), List.forall_mem_cons.mpr ⟨Or.inl (zin3 141 rfl rfl), List.forall_mem_cons.mpr ⟨Or.inl (zin3 143 rfl rfl), List.forall_mem_cons.mpr ⟨Or.inl (zin3 104 rfl rfl), fun _ h => absurd h List.not_mem_nil⟩⟩⟩⟩
theorem x_chain (C : String) : ∀ w ∈ Bundle.chainSAtoms "java/lang/RuntimeException" ["java/lang/Exception"], zAt C w := by
  show ∀ w ∈ Bundle.passSAtoms "java/lang/RuntimeException" "java/lang/Exception" 7 Bundle.six ++ Bundle.passSAtoms "java/lang/Exception" Bundle.tN 7 Bundle.six, zAt C w
  exact List.forall_mem_append.mpr ⟨List.forall_mem_cons.mpr ⟨Or.inl (zin3 134 rfl rfl), List.forall_mem_cons.mpr ⟨Or.inl (zin3 135 rfl rfl), List.forall_mem_cons.mpr ⟨Or.inl (zin3 136 rfl rfl), List.forall_mem_cons.mpr ⟨Or.inl (zin3 137 rfl rfl), List.forall_mem_cons.mpr ⟨Or.inr (Or.inr (Or.inl ⟨_, List.mem_cons_of_mem _ List.mem_cons_self, rfl⟩)), fun _ h => absurd h List.not_mem_nil⟩⟩⟩⟩⟩, List.forall_mem_cons.mpr ⟨Or.inl (zin3 137 rfl rfl), List.forall_mem_cons.mpr ⟨Or.inl (zin3 138 rfl rfl), List.forall_mem_cons.mpr ⟨Or.inl (zin3 139 rfl rfl), List.forall_mem_cons.mpr ⟨Or.inl (zin3 140 rfl rfl), List.forall_mem_cons.mpr ⟨Or.inr (Or.inr (Or.inl ⟨_, List.mem_cons_of_mem _ (List.mem_cons_of_mem _ List.mem_cons_self), rfl⟩)), fun _ h => absurd h List.not_mem_nil⟩⟩⟩⟩⟩⟩
theorem x_ioobe : zXC "java/lang/IndexOutOfBoundsException" 107 7 prog_16_method_2_code := ⟨x_common _, x_commonS _, (List.forall_mem_cons.mpr ⟨Or.inl (zin3 131 rfl rfl), List.forall_mem_cons.mpr ⟨Or.inl (zin3 132 rfl rfl), List.forall_mem_cons.mpr ⟨Or.inl (zin3 133 rfl rfl), List.forall_mem_cons.mpr ⟨Or.inl (zin3 134 rfl rfl), List.forall_mem_cons.mpr ⟨Or.inr (Or.inr (Or.inl ⟨_, List.mem_cons_self, rfl⟩)), fun _ h => absurd h List.not_mem_nil⟩⟩⟩⟩⟩), x_chain _, ⟨zin3 130 rfl rfl, zin3 87 rfl rfl, zin3 95 rfl rfl, zin3 96 rfl rfl, zin3 97 rfl rfl, zin3 99 rfl rfl, zin3 101 rfl rfl, zin3 103 rfl rfl, zin3 107 rfl rfl, zin3 106 rfl rfl, zin3 105 rfl rfl, zin1 15 rfl rfl⟩, ⟨by decide +kernel, by decide +kernel, by decide +kernel, by decide +kernel⟩, by decide⟩
theorem x_iae : zXC "java/lang/IllegalArgumentException" 118 7 prog_14_method_2_code := ⟨x_common _, x_commonS _, (List.forall_mem_cons.mpr ⟨Or.inl (zin3 181 rfl rfl), List.forall_mem_cons.mpr ⟨Or.inl (zin3 182 rfl rfl), List.forall_mem_cons.mpr ⟨Or.inl (zin3 183 rfl rfl), List.forall_mem_cons.mpr ⟨Or.inl (zin3 134 rfl rfl), List.forall_mem_cons.mpr ⟨Or.inr (Or.inr (Or.inl ⟨_, List.mem_cons_self, rfl⟩)), fun _ h => absurd h List.not_mem_nil⟩⟩⟩⟩⟩), x_chain _, ⟨zin3 180 rfl rfl, zin3 171 rfl rfl, zin3 173 rfl rfl, zin3 119 rfl rfl, zin3 174 rfl rfl, zin3 175 rfl rfl, zin3 176 rfl rfl, zin3 177 rfl rfl, zin3 107 rfl rfl, zin3 106 rfl rfl, zin3 178 rfl rfl, zin1 16 rfl rfl⟩, ⟨by decide +kernel, by decide +kernel, by decide +kernel, by decide +kernel⟩, by decide⟩
theorem x_ise : zXC "java/lang/IllegalStateException" 123 7 prog_15_method_2_code := ⟨x_common _, x_commonS _, (List.forall_mem_cons.mpr ⟨Or.inl (zin3 197 rfl rfl), List.forall_mem_cons.mpr ⟨Or.inl (zin3 198 rfl rfl), List.forall_mem_cons.mpr ⟨Or.inl (zin3 199 rfl rfl), List.forall_mem_cons.mpr ⟨Or.inl (zin3 134 rfl rfl), List.forall_mem_cons.mpr ⟨Or.inr (Or.inr (Or.inl ⟨_, List.mem_cons_self, rfl⟩)), fun _ h => absurd h List.not_mem_nil⟩⟩⟩⟩⟩), x_chain _, ⟨zin3 196 rfl rfl, zin3 187 rfl rfl, zin3 189 rfl rfl, zin3 120 rfl rfl, zin3 190 rfl rfl, zin3 191 rfl rfl, zin3 192 rfl rfl, zin3 193 rfl rfl, zin3 107 rfl rfl, zin3 106 rfl rfl, zin3 194 rfl rfl, zin1 17 rfl rfl⟩, ⟨by decide +kernel, by decide +kernel, by decide +kernel, by decide +kernel⟩, by decide⟩
theorem x_nse : zXC "java/util/NoSuchElementException" 132 13 prog_23_method_4_code := ⟨x_common _, x_commonS _, (List.forall_mem_cons.mpr ⟨Or.inl (zin3 217 rfl rfl), List.forall_mem_cons.mpr ⟨Or.inl (zin3 218 rfl rfl), List.forall_mem_cons.mpr ⟨Or.inl (zin3 219 rfl rfl), List.forall_mem_cons.mpr ⟨Or.inl (zin3 134 rfl rfl), List.forall_mem_cons.mpr ⟨Or.inr (Or.inr (Or.inl ⟨_, List.mem_cons_self, rfl⟩)), fun _ h => absurd h List.not_mem_nil⟩⟩⟩⟩⟩), x_chain _, ⟨zin3 216 rfl rfl, zin3 207 rfl rfl, zin3 209 rfl rfl, zin3 122 rfl rfl, zin3 210 rfl rfl, zin3 211 rfl rfl, zin3 212 rfl rfl, zin3 213 rfl rfl, zin3 107 rfl rfl, zin3 106 rfl rfl, zin3 214 rfl rfl, zin1 18 rfl rfl⟩, ⟨by decide +kernel, by decide +kernel, by decide +kernel, by decide +kernel⟩, by decide⟩
theorem x_uoe : zXC "java/lang/UnsupportedOperationException" 145 7 prog_22_method_2_code := ⟨x_common _, x_commonS _, (List.forall_mem_cons.mpr ⟨Or.inl (zin5 32 rfl rfl), List.forall_mem_cons.mpr ⟨Or.inl (zin5 33 rfl rfl), List.forall_mem_cons.mpr ⟨Or.inl (zin5 34 rfl rfl), List.forall_mem_cons.mpr ⟨Or.inl (zin3 134 rfl rfl), List.forall_mem_cons.mpr ⟨Or.inr (Or.inr (Or.inl ⟨_, List.mem_cons_self, rfl⟩)), fun _ h => absurd h List.not_mem_nil⟩⟩⟩⟩⟩), x_chain _, ⟨zin5 31 rfl rfl, zin5 22 rfl rfl, zin5 24 rfl rfl, zin3 121 rfl rfl, zin5 25 rfl rfl, zin5 26 rfl rfl, zin5 27 rfl rfl, zin5 28 rfl rfl, zin3 107 rfl rfl, zin3 106 rfl rfl, zin5 29 rfl rfl, zin1 20 rfl rfl⟩, ⟨by decide +kernel, by decide +kernel, by decide +kernel, by decide +kernel⟩, by decide⟩
end
