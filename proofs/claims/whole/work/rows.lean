section
-- ===== PART A: goes FIRST, ahead of the names: the tables' words, and 'selects' of the private methods out of them =====
/-- a private method of a class that the tables say can be made, by its rows of tables_1 -/
def lw_okq (q : MethodName × Nat) : Prop := (q.1.cls ≠ "java/lang/invoke/MethodHandle" ∧ q.1.cls ≠ "java/lang/invoke/VarHandle") ∧ Cond.instantiable q.1.cls q.2 ∈ tables_1 ∧ Cond.privateMethod q.1 ∈ tables_1 ∧ Cond.instanceMethod q.1 ∈ tables_1
theorem lw_p0 : lw_okq (⟨"BitDrive$Blocks", "formatTrack", "(LBitDrive$Ring;I)V"⟩, 7) := ⟨⟨by decide +kernel, by decide +kernel⟩, List.mem_of_getElem? (i := 40) (by decide +kernel), List.mem_of_getElem? (i := 297) (by decide +kernel), List.mem_of_getElem? (i := 298) (by decide +kernel)⟩
theorem lw_p1 : lw_okq (⟨"BitDrive", "lookFor", "(II)I"⟩, 10) := ⟨⟨by decide +kernel, by decide +kernel⟩, List.mem_of_getElem? (i := 13) (by decide +kernel), List.mem_of_getElem? (i := 352) (by decide +kernel), List.mem_of_getElem? (i := 353) (by decide +kernel)⟩
theorem lw_p2 : lw_okq (⟨"BitDrive", "openDisk", "()I"⟩, 10) := ⟨⟨by decide +kernel, by decide +kernel⟩, List.mem_of_getElem? (i := 13) (by decide +kernel), List.mem_of_getElem? (i := 356) (by decide +kernel), List.mem_of_getElem? (i := 357) (by decide +kernel)⟩
theorem lw_p3 : lw_okq (⟨"BitDrive$Blocks", "seek", "(LBitDrive$Ring;II)I"⟩, 7) := ⟨⟨by decide +kernel, by decide +kernel⟩, List.mem_of_getElem? (i := 40) (by decide +kernel), List.mem_of_getElem? (i := 369) (by decide +kernel), List.mem_of_getElem? (i := 370) (by decide +kernel)⟩
theorem lw_p4 : lw_okq (⟨"BitDrive$Blocks", "headerError", "(LBitDrive$Ring;III)I"⟩, 7) := ⟨⟨by decide +kernel, by decide +kernel⟩, List.mem_of_getElem? (i := 40) (by decide +kernel), List.mem_of_getElem? (i := 381) (by decide +kernel), List.mem_of_getElem? (i := 382) (by decide +kernel)⟩
theorem lw_p5 : lw_okq (⟨"BitDrive$Directory", "keepRoom", "(I)V"⟩, 12) := ⟨⟨by decide +kernel, by decide +kernel⟩, List.mem_of_getElem? (i := 137) (by decide +kernel), List.mem_of_getElem? (i := 406) (by decide +kernel), List.mem_of_getElem? (i := 407) (by decide +kernel)⟩
theorem lw_p6 : lw_okq (⟨"BitDrive", "takeRoom", "()Z"⟩, 10) := ⟨⟨by decide +kernel, by decide +kernel⟩, List.mem_of_getElem? (i := 13) (by decide +kernel), List.mem_of_getElem? (i := 424) (by decide +kernel), List.mem_of_getElem? (i := 425) (by decide +kernel)⟩
theorem lw_p7 : lw_okq (⟨"BitDrive$Chain", "addBlock", "(II)V"⟩, 6) := ⟨⟨by decide +kernel, by decide +kernel⟩, List.mem_of_getElem? (i := 192) (by decide +kernel), List.mem_of_getElem? (i := 455) (by decide +kernel), List.mem_of_getElem? (i := 456) (by decide +kernel)⟩
theorem lw_p8 : lw_okq (⟨"BitDrive$Chain", "fillBlock", "(LBitDrive$Bytes;I)V"⟩, 6) := ⟨⟨by decide +kernel, by decide +kernel⟩, List.mem_of_getElem? (i := 192) (by decide +kernel), List.mem_of_getElem? (i := 463) (by decide +kernel), List.mem_of_getElem? (i := 464) (by decide +kernel)⟩
theorem lw_p9 : lw_okq (⟨"BitDrive", "storeEntry", "(III)I"⟩, 10) := ⟨⟨by decide +kernel, by decide +kernel⟩, List.mem_of_getElem? (i := 13) (by decide +kernel), List.mem_of_getElem? (i := 480) (by decide +kernel), List.mem_of_getElem? (i := 481) (by decide +kernel)⟩
theorem lw_p10 : lw_okq (⟨"BitDrive", "fillEntry", "([IIIII)V"⟩, 10) := ⟨⟨by decide +kernel, by decide +kernel⟩, List.mem_of_getElem? (i := 13) (by decide +kernel), List.mem_of_getElem? (i := 484) (by decide +kernel), List.mem_of_getElem? (i := 485) (by decide +kernel)⟩
theorem lw_p11 : lw_okq (⟨"BitDrive", "outputOr", "(I)I"⟩, 10) := ⟨⟨by decide +kernel, by decide +kernel⟩, List.mem_of_getElem? (i := 13) (by decide +kernel), List.mem_of_getElem? (i := 510) (by decide +kernel), List.mem_of_getElem? (i := 511) (by decide +kernel)⟩
theorem lw_p12 : lw_okq (⟨"BitDriveModel", "setCodes", "(IIIII)V"⟩, 31) := ⟨⟨by decide +kernel, by decide +kernel⟩, List.mem_of_getElem? (i := 609) (by decide +kernel), List.mem_of_getElem? (i := 616) (by decide +kernel), List.mem_of_getElem? (i := 617) (by decide +kernel)⟩
theorem lw_p13 : lw_okq (⟨"BitDriveModel", "setFree", "(IIZ)V"⟩, 31) := ⟨⟨by decide +kernel, by decide +kernel⟩, List.mem_of_getElem? (i := 609) (by decide +kernel), List.mem_of_getElem? (i := 734) (by decide +kernel), List.mem_of_getElem? (i := 735) (by decide +kernel)⟩
theorem lw_p14 : lw_okq (⟨"BitDriveModel", "putSync", "()V"⟩, 31) := ⟨⟨by decide +kernel, by decide +kernel⟩, List.mem_of_getElem? (i := 609) (by decide +kernel), List.mem_of_getElem? (i := 741) (by decide +kernel), List.mem_of_getElem? (i := 742) (by decide +kernel)⟩
theorem lw_p15 : lw_okq (⟨"BitDriveModel", "putBits", "(II)V"⟩, 31) := ⟨⟨by decide +kernel, by decide +kernel⟩, List.mem_of_getElem? (i := 609) (by decide +kernel), List.mem_of_getElem? (i := 745) (by decide +kernel), List.mem_of_getElem? (i := 746) (by decide +kernel)⟩
def lw_privs_1 : List (MethodName × Nat) := [(⟨"BitDrive$Blocks", "formatTrack", "(LBitDrive$Ring;I)V"⟩, 7), (⟨"BitDrive", "lookFor", "(II)I"⟩, 10), (⟨"BitDrive", "openDisk", "()I"⟩, 10), (⟨"BitDrive$Blocks", "seek", "(LBitDrive$Ring;II)I"⟩, 7), (⟨"BitDrive$Blocks", "headerError", "(LBitDrive$Ring;III)I"⟩, 7), (⟨"BitDrive$Directory", "keepRoom", "(I)V"⟩, 12), (⟨"BitDrive", "takeRoom", "()Z"⟩, 10), (⟨"BitDrive$Chain", "addBlock", "(II)V"⟩, 6), (⟨"BitDrive$Chain", "fillBlock", "(LBitDrive$Bytes;I)V"⟩, 6), (⟨"BitDrive", "storeEntry", "(III)I"⟩, 10), (⟨"BitDrive", "fillEntry", "([IIIII)V"⟩, 10), (⟨"BitDrive", "outputOr", "(I)I"⟩, 10), (⟨"BitDriveModel", "setCodes", "(IIIII)V"⟩, 31), (⟨"BitDriveModel", "setFree", "(IIZ)V"⟩, 31), (⟨"BitDriveModel", "putSync", "()V"⟩, 31), (⟨"BitDriveModel", "putBits", "(II)V"⟩, 31)]
theorem lw_r1 : ∀ q ∈ lw_privs_1, lw_okq q := List.forall_mem_cons.mpr ⟨lw_p0, List.forall_mem_cons.mpr ⟨lw_p1, List.forall_mem_cons.mpr ⟨lw_p2, List.forall_mem_cons.mpr ⟨lw_p3, List.forall_mem_cons.mpr ⟨lw_p4, List.forall_mem_cons.mpr ⟨lw_p5, List.forall_mem_cons.mpr ⟨lw_p6, List.forall_mem_cons.mpr ⟨lw_p7, List.forall_mem_cons.mpr ⟨lw_p8, List.forall_mem_cons.mpr ⟨lw_p9, List.forall_mem_cons.mpr ⟨lw_p10, List.forall_mem_cons.mpr ⟨lw_p11, List.forall_mem_cons.mpr ⟨lw_p12, List.forall_mem_cons.mpr ⟨lw_p13, List.forall_mem_cons.mpr ⟨lw_p14, List.forall_mem_cons.mpr ⟨lw_p15, fun _ h => absurd h List.not_mem_nil⟩⟩⟩⟩⟩⟩⟩⟩⟩⟩⟩⟩⟩⟩⟩⟩
theorem lw_p16 : lw_okq (⟨"BitDriveModel", "putCoded", "(I)V"⟩, 31) := ⟨⟨by decide +kernel, by decide +kernel⟩, List.mem_of_getElem? (i := 609) (by decide +kernel), List.mem_of_getElem? (i := 758) (by decide +kernel), List.mem_of_getElem? (i := 759) (by decide +kernel)⟩
theorem lw_p17 : lw_okq (⟨"BitDriveModel", "putData", "()V"⟩, 31) := ⟨⟨by decide +kernel, by decide +kernel⟩, List.mem_of_getElem? (i := 609) (by decide +kernel), List.mem_of_getElem? (i := 762) (by decide +kernel), List.mem_of_getElem? (i := 763) (by decide +kernel)⟩
theorem lw_p18 : lw_okq (⟨"BitDriveModel", "ends", "(III)I"⟩, 31) := ⟨⟨by decide +kernel, by decide +kernel⟩, List.mem_of_getElem? (i := 609) (by decide +kernel), List.mem_of_getElem? (i := 766) (by decide +kernel), List.mem_of_getElem? (i := 767) (by decide +kernel)⟩
theorem lw_p19 : lw_okq (⟨"BitDriveModel", "saves", "(IIII)Z"⟩, 31) := ⟨⟨by decide +kernel, by decide +kernel⟩, List.mem_of_getElem? (i := 609) (by decide +kernel), List.mem_of_getElem? (i := 778) (by decide +kernel), List.mem_of_getElem? (i := 779) (by decide +kernel)⟩
theorem lw_p20 : lw_okq (⟨"BitDriveModel", "begins", "()Z"⟩, 31) := ⟨⟨by decide +kernel, by decide +kernel⟩, List.mem_of_getElem? (i := 609) (by decide +kernel), List.mem_of_getElem? (i := 782) (by decide +kernel), List.mem_of_getElem? (i := 783) (by decide +kernel)⟩
theorem lw_p21 : lw_okq (⟨"BitDriveModel", "readBlock", "(II)I"⟩, 31) := ⟨⟨by decide +kernel, by decide +kernel⟩, List.mem_of_getElem? (i := 609) (by decide +kernel), List.mem_of_getElem? (i := 786) (by decide +kernel), List.mem_of_getElem? (i := 787) (by decide +kernel)⟩
theorem lw_p22 : lw_okq (⟨"BitDriveModel", "seek", "(II)I"⟩, 31) := ⟨⟨by decide +kernel, by decide +kernel⟩, List.mem_of_getElem? (i := 609) (by decide +kernel), List.mem_of_getElem? (i := 790) (by decide +kernel), List.mem_of_getElem? (i := 791) (by decide +kernel)⟩
theorem lw_p23 : lw_okq (⟨"BitDriveModel", "findSyncs", "(I)V"⟩, 31) := ⟨⟨by decide +kernel, by decide +kernel⟩, List.mem_of_getElem? (i := 609) (by decide +kernel), List.mem_of_getElem? (i := 794) (by decide +kernel), List.mem_of_getElem? (i := 795) (by decide +kernel)⟩
theorem lw_p24 : lw_okq (⟨"BitDriveModel", "isHeaderOf", "(III)Z"⟩, 31) := ⟨⟨by decide +kernel, by decide +kernel⟩, List.mem_of_getElem? (i := 609) (by decide +kernel), List.mem_of_getElem? (i := 798) (by decide +kernel), List.mem_of_getElem? (i := 799) (by decide +kernel)⟩
theorem lw_p25 : lw_okq (⟨"BitDriveModel", "decoded", "(II)I"⟩, 31) := ⟨⟨by decide +kernel, by decide +kernel⟩, List.mem_of_getElem? (i := 609) (by decide +kernel), List.mem_of_getElem? (i := 802) (by decide +kernel), List.mem_of_getElem? (i := 803) (by decide +kernel)⟩
theorem lw_p26 : lw_okq (⟨"BitDriveModel", "dataOf", "(I)I"⟩, 31) := ⟨⟨by decide +kernel, by decide +kernel⟩, List.mem_of_getElem? (i := 609) (by decide +kernel), List.mem_of_getElem? (i := 806) (by decide +kernel), List.mem_of_getElem? (i := 807) (by decide +kernel)⟩
theorem lw_p27 : lw_okq (⟨"BitDriveModel", "readDirectory", "(ZII)Z"⟩, 31) := ⟨⟨by decide +kernel, by decide +kernel⟩, List.mem_of_getElem? (i := 609) (by decide +kernel), List.mem_of_getElem? (i := 810) (by decide +kernel), List.mem_of_getElem? (i := 811) (by decide +kernel)⟩
theorem lw_p28 : lw_okq (⟨"BitDriveModel", "hasName", "(III)Z"⟩, 31) := ⟨⟨by decide +kernel, by decide +kernel⟩, List.mem_of_getElem? (i := 609) (by decide +kernel), List.mem_of_getElem? (i := 814) (by decide +kernel), List.mem_of_getElem? (i := 815) (by decide +kernel)⟩
theorem lw_p29 : lw_okq (⟨"BitDriveModel", "emptyEntry", "()I"⟩, 31) := ⟨⟨by decide +kernel, by decide +kernel⟩, List.mem_of_getElem? (i := 609) (by decide +kernel), List.mem_of_getElem? (i := 824) (by decide +kernel), List.mem_of_getElem? (i := 825) (by decide +kernel)⟩
theorem lw_p30 : lw_okq (⟨"BitDriveModel", "freeOfDirectory", "()I"⟩, 31) := ⟨⟨by decide +kernel, by decide +kernel⟩, List.mem_of_getElem? (i := 609) (by decide +kernel), List.mem_of_getElem? (i := 828) (by decide +kernel), List.mem_of_getElem? (i := 829) (by decide +kernel)⟩
theorem lw_p31 : lw_okq (⟨"BitDriveModel", "isFree", "(II)Z"⟩, 31) := ⟨⟨by decide +kernel, by decide +kernel⟩, List.mem_of_getElem? (i := 609) (by decide +kernel), List.mem_of_getElem? (i := 832) (by decide +kernel), List.mem_of_getElem? (i := 833) (by decide +kernel)⟩
def lw_privs_2 : List (MethodName × Nat) := [(⟨"BitDriveModel", "putCoded", "(I)V"⟩, 31), (⟨"BitDriveModel", "putData", "()V"⟩, 31), (⟨"BitDriveModel", "ends", "(III)I"⟩, 31), (⟨"BitDriveModel", "saves", "(IIII)Z"⟩, 31), (⟨"BitDriveModel", "begins", "()Z"⟩, 31), (⟨"BitDriveModel", "readBlock", "(II)I"⟩, 31), (⟨"BitDriveModel", "seek", "(II)I"⟩, 31), (⟨"BitDriveModel", "findSyncs", "(I)V"⟩, 31), (⟨"BitDriveModel", "isHeaderOf", "(III)Z"⟩, 31), (⟨"BitDriveModel", "decoded", "(II)I"⟩, 31), (⟨"BitDriveModel", "dataOf", "(I)I"⟩, 31), (⟨"BitDriveModel", "readDirectory", "(ZII)Z"⟩, 31), (⟨"BitDriveModel", "hasName", "(III)Z"⟩, 31), (⟨"BitDriveModel", "emptyEntry", "()I"⟩, 31), (⟨"BitDriveModel", "freeOfDirectory", "()I"⟩, 31), (⟨"BitDriveModel", "isFree", "(II)Z"⟩, 31)]
theorem lw_r2 : ∀ q ∈ lw_privs_2, lw_okq q := List.forall_mem_cons.mpr ⟨lw_p16, List.forall_mem_cons.mpr ⟨lw_p17, List.forall_mem_cons.mpr ⟨lw_p18, List.forall_mem_cons.mpr ⟨lw_p19, List.forall_mem_cons.mpr ⟨lw_p20, List.forall_mem_cons.mpr ⟨lw_p21, List.forall_mem_cons.mpr ⟨lw_p22, List.forall_mem_cons.mpr ⟨lw_p23, List.forall_mem_cons.mpr ⟨lw_p24, List.forall_mem_cons.mpr ⟨lw_p25, List.forall_mem_cons.mpr ⟨lw_p26, List.forall_mem_cons.mpr ⟨lw_p27, List.forall_mem_cons.mpr ⟨lw_p28, List.forall_mem_cons.mpr ⟨lw_p29, List.forall_mem_cons.mpr ⟨lw_p30, List.forall_mem_cons.mpr ⟨lw_p31, fun _ h => absurd h List.not_mem_nil⟩⟩⟩⟩⟩⟩⟩⟩⟩⟩⟩⟩⟩⟩⟩⟩
theorem lw_p32 : lw_okq (⟨"BitDriveModel", "takes", "(I)Z"⟩, 31) := ⟨⟨by decide +kernel, by decide +kernel⟩, List.mem_of_getElem? (i := 609) (by decide +kernel), List.mem_of_getElem? (i := 836) (by decide +kernel), List.mem_of_getElem? (i := 837) (by decide +kernel)⟩
theorem lw_p33 : lw_okq (⟨"BitDriveModel", "writeFile", "(I)Z"⟩, 31) := ⟨⟨by decide +kernel, by decide +kernel⟩, List.mem_of_getElem? (i := 609) (by decide +kernel), List.mem_of_getElem? (i := 840) (by decide +kernel), List.mem_of_getElem? (i := 841) (by decide +kernel)⟩
theorem lw_p34 : lw_okq (⟨"BitDriveModel", "writeBlock", "(II)I"⟩, 31) := ⟨⟨by decide +kernel, by decide +kernel⟩, List.mem_of_getElem? (i := 609) (by decide +kernel), List.mem_of_getElem? (i := 844) (by decide +kernel), List.mem_of_getElem? (i := 845) (by decide +kernel)⟩
theorem lw_p35 : lw_okq (⟨"BitDriveModel", "writeDirectory", "(I)Z"⟩, 31) := ⟨⟨by decide +kernel, by decide +kernel⟩, List.mem_of_getElem? (i := 609) (by decide +kernel), List.mem_of_getElem? (i := 848) (by decide +kernel), List.mem_of_getElem? (i := 849) (by decide +kernel)⟩
theorem lw_p36 : lw_okq (⟨"BitDriveModel", "writeMap", "()Z"⟩, 31) := ⟨⟨by decide +kernel, by decide +kernel⟩, List.mem_of_getElem? (i := 609) (by decide +kernel), List.mem_of_getElem? (i := 852) (by decide +kernel), List.mem_of_getElem? (i := 853) (by decide +kernel)⟩
theorem lw_p37 : lw_okq (⟨"BitDriveModel", "readFile", "(IIZ)Z"⟩, 31) := ⟨⟨by decide +kernel, by decide +kernel⟩, List.mem_of_getElem? (i := 609) (by decide +kernel), List.mem_of_getElem? (i := 860) (by decide +kernel), List.mem_of_getElem? (i := 861) (by decide +kernel)⟩
theorem lw_p38 : lw_okq (⟨"BitDriveModel", "tell", "(I)V"⟩, 31) := ⟨⟨by decide +kernel, by decide +kernel⟩, List.mem_of_getElem? (i := 609) (by decide +kernel), List.mem_of_getElem? (i := 864) (by decide +kernel), List.mem_of_getElem? (i := 865) (by decide +kernel)⟩
theorem lw_p39 : lw_okq (⟨"BitDriveModel", "scratches", "(II)Z"⟩, 31) := ⟨⟨by decide +kernel, by decide +kernel⟩, List.mem_of_getElem? (i := 609) (by decide +kernel), List.mem_of_getElem? (i := 872) (by decide +kernel), List.mem_of_getElem? (i := 873) (by decide +kernel)⟩
theorem lw_p40 : lw_okq (⟨"BitDriveModel", "byteAt", "(II)I"⟩, 31) := ⟨⟨by decide +kernel, by decide +kernel⟩, List.mem_of_getElem? (i := 609) (by decide +kernel), List.mem_of_getElem? (i := 899) (by decide +kernel), List.mem_of_getElem? (i := 900) (by decide +kernel)⟩
theorem lw_p41 : lw_okq (⟨"BitDriveModel", "setByte", "(III)V"⟩, 31) := ⟨⟨by decide +kernel, by decide +kernel⟩, List.mem_of_getElem? (i := 609) (by decide +kernel), List.mem_of_getElem? (i := 907) (by decide +kernel), List.mem_of_getElem? (i := 908) (by decide +kernel)⟩
def lw_privs_3 : List (MethodName × Nat) := [(⟨"BitDriveModel", "takes", "(I)Z"⟩, 31), (⟨"BitDriveModel", "writeFile", "(I)Z"⟩, 31), (⟨"BitDriveModel", "writeBlock", "(II)I"⟩, 31), (⟨"BitDriveModel", "writeDirectory", "(I)Z"⟩, 31), (⟨"BitDriveModel", "writeMap", "()Z"⟩, 31), (⟨"BitDriveModel", "readFile", "(IIZ)Z"⟩, 31), (⟨"BitDriveModel", "tell", "(I)V"⟩, 31), (⟨"BitDriveModel", "scratches", "(II)Z"⟩, 31), (⟨"BitDriveModel", "byteAt", "(II)I"⟩, 31), (⟨"BitDriveModel", "setByte", "(III)V"⟩, 31)]
theorem lw_r3 : ∀ q ∈ lw_privs_3, lw_okq q := List.forall_mem_cons.mpr ⟨lw_p32, List.forall_mem_cons.mpr ⟨lw_p33, List.forall_mem_cons.mpr ⟨lw_p34, List.forall_mem_cons.mpr ⟨lw_p35, List.forall_mem_cons.mpr ⟨lw_p36, List.forall_mem_cons.mpr ⟨lw_p37, List.forall_mem_cons.mpr ⟨lw_p38, List.forall_mem_cons.mpr ⟨lw_p39, List.forall_mem_cons.mpr ⟨lw_p40, List.forall_mem_cons.mpr ⟨lw_p41, fun _ h => absurd h List.not_mem_nil⟩⟩⟩⟩⟩⟩⟩⟩⟩⟩
def lw_privs : List (MethodName × Nat) := lw_privs_1 ++ (lw_privs_2 ++ (lw_privs_3))
def lw_tbl : List Cond := k2_sels lw_privs ++ tables_1
theorem lw_privs_ok : ∀ q ∈ lw_privs, lw_okq q := by
  show ∀ q ∈ lw_privs_1 ++ (lw_privs_2 ++ (lw_privs_3)), lw_okq q
  exact List.forall_mem_append.mpr ⟨lw_r1, List.forall_mem_append.mpr ⟨lw_r2, lw_r3⟩⟩
end
section
def RX0 : String := "BitDrive$Blocks"
def TX0 : u_T := fun k => match k with
  | 0 => ("BitDrive$Blocks", "report", "LBitDrive$Status;", true)
  | 1 => ("BitDrive$Blocks", "rings", "[LBitDrive$Ring;", true)
  | 2 => ("BitDrive$Blocks", "sample", "LBitDrive$Ring;", true)
  | 3 => ("BitDrive$Blocks", "id", "I", false)
  | 4 => ("BitDrive$Blocks", "reads", "I", false)
  | 5 => ("BitDrive$Blocks", "writes", "I", false)
  | _ => ("BitDrive$Blocks", "faults", "I", false)
def tyX0 : Nat → FieldType := fun k => match k with
  | 0 => .object "BitDrive$Status"
  | 1 => .array (.object "BitDrive$Ring")
  | 2 => .object "BitDrive$Ring"
  | 3 => .int
  | 4 => .int
  | 5 => .int
  | _ => .int
abbrev wsX00 : List Cond := u_ws RX0 TX0 7
theorem nmX0 : ∀ a, a < 7 → ∀ b, b < 7 → a ≠ b → (TX0 a).2.1 ≠ (TX0 b).2.1 := by decide +kernel
theorem tyX0_ok : ∀ k, k < 7 → parseFieldDescriptor (TX0 k).2.2.1 = some (tyX0 k) := by decide +kernel
abbrev cX0_init : ByteArray := prog_2_method_1_code
def yX0_init : MethodName := ⟨RX0, "<init>", "(LBitDrive$Status;)V"⟩
abbrev cX0_ringOf : ByteArray := prog_2_method_2_code
def yX0_ringOf : MethodName := ⟨RX0, "ringOf", "(I)LBitDrive$Ring;"⟩
abbrev cX0_sectorsOf : ByteArray := prog_2_method_3_code
def yX0_sectorsOf : MethodName := ⟨RX0, "sectorsOf", "(I)I"⟩
abbrev cX0_isBlock : ByteArray := prog_2_method_4_code
def yX0_isBlock : MethodName := ⟨RX0, "isBlock", "(II)Z"⟩
abbrev cX0_formatTracks : ByteArray := prog_2_method_5_code
def yX0_formatTracks : MethodName := ⟨RX0, "formatTracks", "()V"⟩
abbrev cX0_formatTrack : ByteArray := prog_2_method_6_code
def yX0_formatTrack : MethodName := ⟨RX0, "formatTrack", "(LBitDrive$Ring;I)V"⟩
abbrev cX0_layFormatted : ByteArray := prog_2_method_7_code
def yX0_layFormatted : MethodName := ⟨RX0, "layFormatted", "(II[I)V"⟩
abbrev cX0_fetch : ByteArray := prog_2_method_8_code
def yX0_fetch : MethodName := ⟨RX0, "fetch", "(II[I)I"⟩
abbrev cX0_store : ByteArray := prog_2_method_9_code
def yX0_store : MethodName := ⟨RX0, "store", "(II[I)I"⟩
abbrev cX0_readBlock : ByteArray := prog_2_method_10_code
def yX0_readBlock : MethodName := ⟨RX0, "readBlock", "(II[I)I"⟩
abbrev cX0_writeBlock : ByteArray := prog_2_method_11_code
def yX0_writeBlock : MethodName := ⟨RX0, "writeBlock", "(II[I)I"⟩
abbrev cX0_seek : ByteArray := prog_2_method_12_code
def yX0_seek : MethodName := ⟨RX0, "seek", "(LBitDrive$Ring;II)I"⟩
abbrev cX0_headerError : ByteArray := prog_2_method_13_code
def yX0_headerError : MethodName := ⟨RX0, "headerError", "(LBitDrive$Ring;III)I"⟩
def RX1 : String := "BitDrive$Bytes"
def TX1 : u_T := fun k => match k with
  | 0 => ("BitDrive$Bytes", "row", "[I", true)
  | _ => ("BitDrive$Bytes", "length", "I", false)
def tyX1 : Nat → FieldType := fun k => match k with
  | 0 => .array .int
  | _ => .int
abbrev wsX10 : List Cond := u_ws RX1 TX1 2
theorem nmX1 : ∀ a, a < 2 → ∀ b, b < 2 → a ≠ b → (TX1 a).2.1 ≠ (TX1 b).2.1 := by decide +kernel
theorem tyX1_ok : ∀ k, k < 2 → parseFieldDescriptor (TX1 k).2.2.1 = some (tyX1 k) := by decide +kernel
abbrev cX1_init : ByteArray := prog_3_method_1_code
def yX1_init : MethodName := ⟨RX1, "<init>", "(I)V"⟩
abbrev cX1_add : ByteArray := prog_3_method_2_code
def yX1_add : MethodName := ⟨RX1, "add", "(I)V"⟩
abbrev cX1_addNumber : ByteArray := prog_3_method_3_code
def yX1_addNumber : MethodName := ⟨RX1, "addNumber", "(I)V"⟩
abbrev cX1_addRow : ByteArray := prog_3_method_4_code
def yX1_addRow : MethodName := ⟨RX1, "addRow", "([III)V"⟩
abbrev cX1_byteAt : ByteArray := prog_3_method_5_code
def yX1_byteAt : MethodName := ⟨RX1, "byteAt", "(I)I"⟩
def RX2 : String := "BitDrive$Chain"
def TX2 : u_T := fun k => match k with
  | 0 => ("BitDrive$Chain", "blocks", "LBitDrive$Blocks;", true)
  | 1 => ("BitDrive$Chain", "report", "LBitDrive$Status;", true)
  | 2 => ("BitDrive$Chain", "tracks", "[I", true)
  | 3 => ("BitDrive$Chain", "sectors", "[I", true)
  | 4 => ("BitDrive$Chain", "length", "I", false)
  | _ => ("BitDrive$Chain", "row", "[I", true)
def tyX2 : Nat → FieldType := fun k => match k with
  | 0 => .object "BitDrive$Blocks"
  | 1 => .object "BitDrive$Status"
  | 2 => .array .int
  | 3 => .array .int
  | 4 => .int
  | _ => .array .int
abbrev wsX20 : List Cond := u_ws RX2 TX2 6
theorem nmX2 : ∀ a, a < 6 → ∀ b, b < 6 → a ≠ b → (TX2 a).2.1 ≠ (TX2 b).2.1 := by decide +kernel
theorem tyX2_ok : ∀ k, k < 6 → parseFieldDescriptor (TX2 k).2.2.1 = some (tyX2 k) := by decide +kernel
abbrev cX2_init : ByteArray := prog_4_method_1_code
def yX2_init : MethodName := ⟨RX2, "<init>", "(LBitDrive$Blocks;LBitDrive$Status;)V"⟩
abbrev cX2_addBlock : ByteArray := prog_4_method_2_code
def yX2_addBlock : MethodName := ⟨RX2, "addBlock", "(II)V"⟩
abbrev cX2_take : ByteArray := prog_4_method_3_code
def yX2_take : MethodName := ⟨RX2, "take", "(LBitDrive$FreeMap;I)Z"⟩
abbrev cX2_release : ByteArray := prog_4_method_4_code
def yX2_release : MethodName := ⟨RX2, "release", "(LBitDrive$FreeMap;)V"⟩
abbrev cX2_store : ByteArray := prog_4_method_5_code
def yX2_store : MethodName := ⟨RX2, "store", "(LBitDrive$Bytes;)I"⟩
abbrev cX2_fillBlock : ByteArray := prog_4_method_6_code
def yX2_fillBlock : MethodName := ⟨RX2, "fillBlock", "(LBitDrive$Bytes;I)V"⟩
abbrev cX2_follow : ByteArray := prog_4_method_7_code
def yX2_follow : MethodName := ⟨RX2, "follow", "(LBitDrive$Directory;LBitDrive$Bytes;)I"⟩
def RX3 : String := "BitDrive$Directory"
def TX3 : u_T := fun k => match k with
  | 0 => ("BitDrive$Directory", "blocks", "LBitDrive$Blocks;", true)
  | 1 => ("BitDrive$Directory", "report", "LBitDrive$Status;", true)
  | 2 => ("BitDrive$Directory", "row", "[I", true)
  | 3 => ("BitDrive$Directory", "track", "I", false)
  | 4 => ("BitDrive$Directory", "sector", "I", false)
  | 5 => ("BitDrive$Directory", "walked", "I", false)
  | 6 => ("BitDrive$Directory", "entry", "I", false)
  | 7 => ("BitDrive$Directory", "room", "I", false)
  | 8 => ("BitDrive$Directory", "roomRow", "[I", true)
  | 9 => ("BitDrive$Directory", "roomTrack", "I", false)
  | 10 => ("BitDrive$Directory", "roomSector", "I", false)
  | _ => ("BitDrive$Directory", "grows", "Z", false)
def tyX3 : Nat → FieldType := fun k => match k with
  | 0 => .object "BitDrive$Blocks"
  | 1 => .object "BitDrive$Status"
  | 2 => .array .int
  | 3 => .int
  | 4 => .int
  | 5 => .int
  | 6 => .int
  | 7 => .int
  | 8 => .array .int
  | 9 => .int
  | 10 => .int
  | _ => .boolean
abbrev wsX30 : List Cond := u_ws RX3 TX3 12
theorem nmX3 : ∀ a, a < 12 → ∀ b, b < 12 → a ≠ b → (TX3 a).2.1 ≠ (TX3 b).2.1 := by decide +kernel
theorem tyX3_ok : ∀ k, k < 12 → parseFieldDescriptor (TX3 k).2.2.1 = some (tyX3 k) := by decide +kernel
abbrev cX3_init : ByteArray := prog_5_method_1_code
def yX3_init : MethodName := ⟨RX3, "<init>", "(LBitDrive$Blocks;LBitDrive$Status;)V"⟩
abbrev cX3_begin : ByteArray := prog_5_method_2_code
def yX3_begin : MethodName := ⟨RX3, "begin", "()I"⟩
abbrev cX3_isLast : ByteArray := prog_5_method_3_code
def yX3_isLast : MethodName := ⟨RX3, "isLast", "()Z"⟩
abbrev cX3_step : ByteArray := prog_5_method_4_code
def yX3_step : MethodName := ⟨RX3, "step", "()I"⟩
abbrev cX3_findEntry : ByteArray := prog_5_method_5_code
def yX3_findEntry : MethodName := ⟨RX3, "findEntry", "(II)Z"⟩
abbrev cX3_keepRoom : ByteArray := prog_5_method_6_code
def yX3_keepRoom : MethodName := ⟨RX3, "keepRoom", "(I)V"⟩
abbrev cX3_addEntries : ByteArray := prog_5_method_7_code
def yX3_addEntries : MethodName := ⟨RX3, "addEntries", "(LBitDrive$Bytes;)V"⟩
abbrev cX3_takeEntry : ByteArray := prog_5_method_8_code
def yX3_takeEntry : MethodName := ⟨RX3, "takeEntry", "(LBitDrive$FreeMap;)Z"⟩
abbrev cX3_storeLink : ByteArray := prog_5_method_9_code
def yX3_storeLink : MethodName := ⟨RX3, "storeLink", "()I"⟩
abbrev cX3_storeWithoutEntry : ByteArray := prog_5_method_10_code
def yX3_storeWithoutEntry : MethodName := ⟨RX3, "storeWithoutEntry", "()I"⟩
def RX4 : String := "BitDrive$FreeMap"
def TX4 : u_T := fun k => match k with
  | _ => ("BitDrive$FreeMap", "row", "[I", true)
def tyX4 : Nat → FieldType := fun k => match k with
  | _ => .array .int
abbrev wsX40 : List Cond := u_ws RX4 TX4 1
theorem nmX4 : ∀ a, a < 1 → ∀ b, b < 1 → a ≠ b → (TX4 a).2.1 ≠ (TX4 b).2.1 := by decide +kernel
theorem tyX4_ok : ∀ k, k < 1 → parseFieldDescriptor (TX4 k).2.2.1 = some (tyX4 k) := by decide +kernel
abbrev cX4_init : ByteArray := prog_6_method_1_code
def yX4_init : MethodName := ⟨RX4, "<init>", "()V"⟩
abbrev cX4_fillNew : ByteArray := prog_6_method_2_code
def yX4_fillNew : MethodName := ⟨RX4, "fillNew", "(III)V"⟩
abbrev cX4_isFree : ByteArray := prog_6_method_3_code
def yX4_isFree : MethodName := ⟨RX4, "isFree", "(II)Z"⟩
abbrev cX4_setFree : ByteArray := prog_6_method_4_code
def yX4_setFree : MethodName := ⟨RX4, "setFree", "(IIZ)V"⟩
abbrev cX4_leastFree : ByteArray := prog_6_method_5_code
def yX4_leastFree : MethodName := ⟨RX4, "leastFree", "(I)I"⟩
abbrev cX4_freeBlocks : ByteArray := prog_6_method_6_code
def yX4_freeBlocks : MethodName := ⟨RX4, "freeBlocks", "()I"⟩
def RX5 : String := "BitDrive$Ring"
def TX5 : u_T := fun k => match k with
  | 0 => ("BitDrive$Ring", "row", "[I", true)
  | 1 => ("BitDrive$Ring", "bits", "I", true)
  | 2 => ("BitDrive$Ring", "starts", "[I", true)
  | 3 => ("BitDrive$Ring", "found", "I", false)
  | _ => ("BitDrive$Ring", "known", "Z", false)
def tyX5 : Nat → FieldType := fun k => match k with
  | 0 => .array .int
  | 1 => .int
  | 2 => .array .int
  | 3 => .int
  | _ => .boolean
abbrev wsX50 : List Cond := u_ws RX5 TX5 5
theorem nmX5 : ∀ a, a < 5 → ∀ b, b < 5 → a ≠ b → (TX5 a).2.1 ≠ (TX5 b).2.1 := by decide +kernel
theorem tyX5_ok : ∀ k, k < 5 → parseFieldDescriptor (TX5 k).2.2.1 = some (tyX5 k) := by decide +kernel
abbrev cX5_init : ByteArray := prog_7_method_1_code
def yX5_init : MethodName := ⟨RX5, "<init>", "(I)V"⟩
abbrev cX5_sizeOf : ByteArray := prog_7_method_2_code
def yX5_sizeOf : MethodName := ⟨RX5, "sizeOf", "(I)I"⟩
abbrev cX5_hasByte : ByteArray := prog_7_method_3_code
def yX5_hasByte : MethodName := ⟨RX5, "hasByte", "(I)Z"⟩
abbrev cX5_byteAt : ByteArray := prog_7_method_4_code
def yX5_byteAt : MethodName := ⟨RX5, "byteAt", "(I)I"⟩
abbrev cX5_startOf : ByteArray := prog_7_method_5_code
def yX5_startOf : MethodName := ⟨RX5, "startOf", "(I)I"⟩
abbrev cX5_putBits : ByteArray := prog_7_method_6_code
def yX5_putBits : MethodName := ⟨RX5, "putBits", "(III)V"⟩
abbrev cX5_putCoded : ByteArray := prog_7_method_7_code
def yX5_putCoded : MethodName := ⟨RX5, "putCoded", "(II)V"⟩
abbrev cX5_putSync : ByteArray := prog_7_method_8_code
def yX5_putSync : MethodName := ⟨RX5, "putSync", "(I)V"⟩
abbrev cX5_codedAt : ByteArray := prog_7_method_9_code
def yX5_codedAt : MethodName := ⟨RX5, "codedAt", "(I)I"⟩
abbrev cX5_findSyncs : ByteArray := prog_7_method_10_code
def yX5_findSyncs : MethodName := ⟨RX5, "findSyncs", "()I"⟩
abbrev cX5_rotate : ByteArray := prog_7_method_11_code
def yX5_rotate : MethodName := ⟨RX5, "rotate", "(I[I)V"⟩
abbrev cX5_fillGap : ByteArray := prog_7_method_12_code
def yX5_fillGap : MethodName := ⟨RX5, "fillGap", "()V"⟩
abbrev cX5_layRing : ByteArray := prog_7_method_13_code
def yX5_layRing : MethodName := ⟨RX5, "layRing", "(LBitDrive$Ring;I)V"⟩
abbrev cX5_putHeader : ByteArray := prog_7_method_14_code
def yX5_putHeader : MethodName := ⟨RX5, "putHeader", "(IIII)V"⟩
abbrev cX5_putData : ByteArray := prog_7_method_15_code
def yX5_putData : MethodName := ⟨RX5, "putData", "(I[I)V"⟩
abbrev cX5_takeData : ByteArray := prog_7_method_16_code
def yX5_takeData : MethodName := ⟨RX5, "takeData", "(I[I)I"⟩
def RX6 : String := "BitDrive$Status"
def TX6 : u_T := fun k => match k with
  | 0 => ("BitDrive$Status", "number", "I", false)
  | 1 => ("BitDrive$Status", "track", "I", false)
  | _ => ("BitDrive$Status", "sector", "I", false)
def tyX6 : Nat → FieldType := fun k => match k with
  | 0 => .int
  | 1 => .int
  | _ => .int
abbrev wsX60 : List Cond := u_ws RX6 TX6 3
theorem nmX6 : ∀ a, a < 3 → ∀ b, b < 3 → a ≠ b → (TX6 a).2.1 ≠ (TX6 b).2.1 := by decide +kernel
theorem tyX6_ok : ∀ k, k < 3 → parseFieldDescriptor (TX6 k).2.2.1 = some (tyX6 k) := by decide +kernel
abbrev cX6_init : ByteArray := prog_8_method_1_code
def yX6_init : MethodName := ⟨RX6, "<init>", "()V"⟩
abbrev cX6_tell : ByteArray := prog_8_method_2_code
def yX6_tell : MethodName := ⟨RX6, "tell", "(III)I"⟩
def RX7 : String := "BitDrive"
def TX7 : u_T := fun k => match k with
  | 0 => ("BitDrive", "report", "LBitDrive$Status;", true)
  | 1 => ("BitDrive", "blocks", "LBitDrive$Blocks;", true)
  | 2 => ("BitDrive", "map", "LBitDrive$FreeMap;", true)
  | 3 => ("BitDrive", "directory", "LBitDrive$Directory;", true)
  | 4 => ("BitDrive", "chain", "LBitDrive$Chain;", true)
  | 5 => ("BitDrive", "tape", "LBitDrive$Bytes;", true)
  | 6 => ("BitDrive", "output", "LBitDrive$Bytes;", true)
  | 7 => ("BitDrive", "nowhere", "LBitDrive$Bytes;", true)
  | 8 => ("BitDrive", "block", "[I", true)
  | _ => ("BitDrive", "spare", "[I", true)
def tyX7 : Nat → FieldType := fun k => match k with
  | 0 => .object "BitDrive$Status"
  | 1 => .object "BitDrive$Blocks"
  | 2 => .object "BitDrive$FreeMap"
  | 3 => .object "BitDrive$Directory"
  | 4 => .object "BitDrive$Chain"
  | 5 => .object "BitDrive$Bytes"
  | 6 => .object "BitDrive$Bytes"
  | 7 => .object "BitDrive$Bytes"
  | 8 => .array .int
  | _ => .array .int
abbrev wsX70 : List Cond := u_ws RX7 TX7 10
theorem nmX7 : ∀ a, a < 10 → ∀ b, b < 10 → a ≠ b → (TX7 a).2.1 ≠ (TX7 b).2.1 := by decide +kernel
theorem tyX7_ok : ∀ k, k < 10 → parseFieldDescriptor (TX7 k).2.2.1 = some (tyX7 k) := by decide +kernel
abbrev cX7_init : ByteArray := prog_1_method_1_code
def yX7_init : MethodName := ⟨RX7, "<init>", "()V"⟩
abbrev cX7_feed : ByteArray := prog_1_method_2_code
def yX7_feed : MethodName := ⟨RX7, "feed", "(IIIII)I"⟩
abbrev cX7_end : ByteArray := prog_1_method_3_code
def yX7_end : MethodName := ⟨RX7, "end", "(I)I"⟩
abbrev cX7_format : ByteArray := prog_1_method_4_code
def yX7_format : MethodName := ⟨RX7, "format", "(III)I"⟩
abbrev cX7_mount : ByteArray := prog_1_method_5_code
def yX7_mount : MethodName := ⟨RX7, "mount", "(I)I"⟩
abbrev cX7_save : ByteArray := prog_1_method_6_code
def yX7_save : MethodName := ⟨RX7, "save", "(III)I"⟩
abbrev cX7_load : ByteArray := prog_1_method_7_code
def yX7_load : MethodName := ⟨RX7, "load", "(II)I"⟩
abbrev cX7_scratch : ByteArray := prog_1_method_8_code
def yX7_scratch : MethodName := ⟨RX7, "scratch", "(II)I"⟩
abbrev cX7_list : ByteArray := prog_1_method_9_code
def yX7_list : MethodName := ⟨RX7, "list", "()I"⟩
abbrev cX7_info : ByteArray := prog_1_method_10_code
def yX7_info : MethodName := ⟨RX7, "info", "()I"⟩
abbrev cX7_out : ByteArray := prog_1_method_11_code
def yX7_out : MethodName := ⟨RX7, "out", "(I)I"⟩
abbrev cX7_status : ByteArray := prog_1_method_12_code
def yX7_status : MethodName := ⟨RX7, "status", "(I)I"⟩
abbrev cX7_peek : ByteArray := prog_1_method_13_code
def yX7_peek : MethodName := ⟨RX7, "peek", "(II)I"⟩
abbrev cX7_poke : ByteArray := prog_1_method_14_code
def yX7_poke : MethodName := ⟨RX7, "poke", "(III)I"⟩
abbrev cX7_stamp : ByteArray := prog_1_method_15_code
def yX7_stamp : MethodName := ⟨RX7, "stamp", "(III)I"⟩
abbrev cX7_turn : ByteArray := prog_1_method_16_code
def yX7_turn : MethodName := ⟨RX7, "turn", "(II)I"⟩
abbrev cX7_syncs : ByteArray := prog_1_method_17_code
def yX7_syncs : MethodName := ⟨RX7, "syncs", "(I)I"⟩
abbrev cX7_read : ByteArray := prog_1_method_18_code
def yX7_read : MethodName := ⟨RX7, "read", "(II)I"⟩
abbrev cX7_write : ByteArray := prog_1_method_19_code
def yX7_write : MethodName := ⟨RX7, "write", "(II)I"⟩
abbrev cX7_count : ByteArray := prog_1_method_20_code
def yX7_count : MethodName := ⟨RX7, "count", "(I)I"⟩
abbrev cX7_openDisk : ByteArray := prog_1_method_21_code
def yX7_openDisk : MethodName := ⟨RX7, "openDisk", "()I"⟩
abbrev cX7_lookFor : ByteArray := prog_1_method_22_code
def yX7_lookFor : MethodName := ⟨RX7, "lookFor", "(II)I"⟩
abbrev cX7_outputOr : ByteArray := prog_1_method_23_code
def yX7_outputOr : MethodName := ⟨RX7, "outputOr", "(I)I"⟩
abbrev cX7_takeRoom : ByteArray := prog_1_method_24_code
def yX7_takeRoom : MethodName := ⟨RX7, "takeRoom", "()Z"⟩
abbrev cX7_storeEntry : ByteArray := prog_1_method_25_code
def yX7_storeEntry : MethodName := ⟨RX7, "storeEntry", "(III)I"⟩
abbrev cX7_fillEntry : ByteArray := prog_1_method_26_code
def yX7_fillEntry : MethodName := ⟨RX7, "fillEntry", "([IIIII)V"⟩
abbrev cX7_blocksNeeded : ByteArray := prog_1_method_27_code
def yX7_blocksNeeded : MethodName := ⟨RX7, "blocksNeeded", "(I)I"⟩
abbrev cX7_nameByte : ByteArray := prog_1_method_28_code
def yX7_nameByte : MethodName := ⟨RX7, "nameByte", "(III)I"⟩
abbrev cX7_fillName : ByteArray := prog_1_method_29_code
def yX7_fillName : MethodName := ⟨RX7, "fillName", "([IIII)V"⟩
abbrev cX7_hasName : ByteArray := prog_1_method_30_code
def yX7_hasName : MethodName := ⟨RX7, "hasName", "([IIII)Z"⟩
abbrev cX7_clearRow : ByteArray := prog_1_method_31_code
def yX7_clearRow : MethodName := ⟨RX7, "clearRow", "([III)V"⟩
def RX8 : String := "BitDriveModel"
def TX8 : u_T := fun k => match k with
  | 0 => ("BitDriveModel", "bits", "[Z", true)
  | 1 => ("BitDriveModel", "kept", "[Z", true)
  | 2 => ("BitDriveModel", "codes", "[I", true)
  | 3 => ("BitDriveModel", "halves", "[I", true)
  | 4 => ("BitDriveModel", "id", "I", false)
  | 5 => ("BitDriveModel", "tape", "[I", true)
  | 6 => ("BitDriveModel", "taped", "I", false)
  | 7 => ("BitDriveModel", "out", "[I", true)
  | 8 => ("BitDriveModel", "told", "I", false)
  | 9 => ("BitDriveModel", "status", "I", false)
  | 10 => ("BitDriveModel", "statusTrack", "I", false)
  | 11 => ("BitDriveModel", "statusSector", "I", false)
  | 12 => ("BitDriveModel", "reads", "I", false)
  | 13 => ("BitDriveModel", "writes", "I", false)
  | 14 => ("BitDriveModel", "failures", "I", false)
  | 15 => ("BitDriveModel", "places", "[I", true)
  | 16 => ("BitDriveModel", "many", "I", false)
  | 17 => ("BitDriveModel", "found", "I", false)
  | 18 => ("BitDriveModel", "block", "[I", true)
  | 19 => ("BitDriveModel", "map", "[I", true)
  | 20 => ("BitDriveModel", "directory", "[I", true)
  | 21 => ("BitDriveModel", "directoryTrack", "[I", true)
  | 22 => ("BitDriveModel", "directorySector", "[I", true)
  | 23 => ("BitDriveModel", "directoryMany", "I", false)
  | 24 => ("BitDriveModel", "entryBlock", "I", false)
  | 25 => ("BitDriveModel", "entryAt", "I", false)
  | 26 => ("BitDriveModel", "chainTrack", "[I", true)
  | 27 => ("BitDriveModel", "chainSector", "[I", true)
  | 28 => ("BitDriveModel", "chainMany", "I", false)
  | 29 => ("BitDriveModel", "writeTrack", "I", false)
  | _ => ("BitDriveModel", "writeAt", "I", false)
def tyX8 : Nat → FieldType := fun k => match k with
  | 0 => .array .boolean
  | 1 => .array .boolean
  | 2 => .array .int
  | 3 => .array .int
  | 4 => .int
  | 5 => .array .int
  | 6 => .int
  | 7 => .array .int
  | 8 => .int
  | 9 => .int
  | 10 => .int
  | 11 => .int
  | 12 => .int
  | 13 => .int
  | 14 => .int
  | 15 => .array .int
  | 16 => .int
  | 17 => .int
  | 18 => .array .int
  | 19 => .array .int
  | 20 => .array .int
  | 21 => .array .int
  | 22 => .array .int
  | 23 => .int
  | 24 => .int
  | 25 => .int
  | 26 => .array .int
  | 27 => .array .int
  | 28 => .int
  | 29 => .int
  | _ => .int
abbrev wsX80 : List Cond := u_ws RX8 TX8 31
theorem nmX8 : ∀ a, a < 31 → ∀ b, b < 31 → a ≠ b → (TX8 a).2.1 ≠ (TX8 b).2.1 := by decide +kernel
theorem tyX8_ok : ∀ k, k < 31 → parseFieldDescriptor (TX8 k).2.2.1 = some (tyX8 k) := by decide +kernel
abbrev cX8_init : ByteArray := prog_10_method_1_code
def yX8_init : MethodName := ⟨RX8, "<init>", "()V"⟩
abbrev cX8_setCodes : ByteArray := prog_10_method_2_code
def yX8_setCodes : MethodName := ⟨RX8, "setCodes", "(IIIII)V"⟩
abbrev cX8_isIn : ByteArray := prog_10_method_3_code
def yX8_isIn : MethodName := ⟨RX8, "isIn", "(III)Z"⟩
abbrev cX8_bytesOf : ByteArray := prog_10_method_4_code
def yX8_bytesOf : MethodName := ⟨RX8, "bytesOf", "(I)I"⟩
abbrev cX8_sectorsOf : ByteArray := prog_10_method_5_code
def yX8_sectorsOf : MethodName := ⟨RX8, "sectorsOf", "(I)I"⟩
abbrev cX8_lengthOf : ByteArray := prog_10_method_6_code
def yX8_lengthOf : MethodName := ⟨RX8, "lengthOf", "(I)I"⟩
abbrev cX8_startOf : ByteArray := prog_10_method_7_code
def yX8_startOf : MethodName := ⟨RX8, "startOf", "(I)I"⟩
abbrev cX8_isTrack : ByteArray := prog_10_method_8_code
def yX8_isTrack : MethodName := ⟨RX8, "isTrack", "(I)Z"⟩
abbrev cX8_isBlock : ByteArray := prog_10_method_9_code
def yX8_isBlock : MethodName := ⟨RX8, "isBlock", "(II)Z"⟩
abbrev cX8_isByte : ByteArray := prog_10_method_10_code
def yX8_isByte : MethodName := ⟨RX8, "isByte", "(II)Z"⟩
abbrev cX8_byteAt : ByteArray := prog_10_method_11_code
def yX8_byteAt : MethodName := ⟨RX8, "byteAt", "(II)I"⟩
abbrev cX8_setByte : ByteArray := prog_10_method_12_code
def yX8_setByte : MethodName := ⟨RX8, "setByte", "(III)V"⟩
abbrev cX8_findSyncs : ByteArray := prog_10_method_13_code
def yX8_findSyncs : MethodName := ⟨RX8, "findSyncs", "(I)V"⟩
abbrev cX8_decoded : ByteArray := prog_10_method_14_code
def yX8_decoded : MethodName := ⟨RX8, "decoded", "(II)I"⟩
abbrev cX8_putBits : ByteArray := prog_10_method_15_code
def yX8_putBits : MethodName := ⟨RX8, "putBits", "(II)V"⟩
abbrev cX8_putCoded : ByteArray := prog_10_method_16_code
def yX8_putCoded : MethodName := ⟨RX8, "putCoded", "(I)V"⟩
abbrev cX8_putSync : ByteArray := prog_10_method_17_code
def yX8_putSync : MethodName := ⟨RX8, "putSync", "()V"⟩
abbrev cX8_putData : ByteArray := prog_10_method_18_code
def yX8_putData : MethodName := ⟨RX8, "putData", "()V"⟩
abbrev cX8_isHeaderOf : ByteArray := prog_10_method_19_code
def yX8_isHeaderOf : MethodName := ⟨RX8, "isHeaderOf", "(III)Z"⟩
abbrev cX8_seek : ByteArray := prog_10_method_20_code
def yX8_seek : MethodName := ⟨RX8, "seek", "(II)I"⟩
abbrev cX8_dataOf : ByteArray := prog_10_method_21_code
def yX8_dataOf : MethodName := ⟨RX8, "dataOf", "(I)I"⟩
abbrev cX8_readBlock : ByteArray := prog_10_method_22_code
def yX8_readBlock : MethodName := ⟨RX8, "readBlock", "(II)I"⟩
abbrev cX8_writeBlock : ByteArray := prog_10_method_23_code
def yX8_writeBlock : MethodName := ⟨RX8, "writeBlock", "(II)I"⟩
abbrev cX8_ends : ByteArray := prog_10_method_24_code
def yX8_ends : MethodName := ⟨RX8, "ends", "(III)I"⟩
abbrev cX8_begins : ByteArray := prog_10_method_25_code
def yX8_begins : MethodName := ⟨RX8, "begins", "()Z"⟩
abbrev cX8_isFree : ByteArray := prog_10_method_26_code
def yX8_isFree : MethodName := ⟨RX8, "isFree", "(II)Z"⟩
abbrev cX8_setFree : ByteArray := prog_10_method_27_code
def yX8_setFree : MethodName := ⟨RX8, "setFree", "(IIZ)V"⟩
abbrev cX8_writeMap : ByteArray := prog_10_method_28_code
def yX8_writeMap : MethodName := ⟨RX8, "writeMap", "()Z"⟩
abbrev cX8_nameByte : ByteArray := prog_10_method_29_code
def yX8_nameByte : MethodName := ⟨RX8, "nameByte", "(III)I"⟩
abbrev cX8_hasName : ByteArray := prog_10_method_30_code
def yX8_hasName : MethodName := ⟨RX8, "hasName", "(III)Z"⟩
abbrev cX8_readDirectory : ByteArray := prog_10_method_31_code
def yX8_readDirectory : MethodName := ⟨RX8, "readDirectory", "(ZII)Z"⟩
abbrev cX8_writeDirectory : ByteArray := prog_10_method_32_code
def yX8_writeDirectory : MethodName := ⟨RX8, "writeDirectory", "(I)Z"⟩
abbrev cX8_feed : ByteArray := prog_10_method_33_code
def yX8_feed : MethodName := ⟨RX8, "feed", "(IIIII)I"⟩
abbrev cX8_end : ByteArray := prog_10_method_34_code
def yX8_end : MethodName := ⟨RX8, "end", "(I)I"⟩
abbrev cX8_format : ByteArray := prog_10_method_35_code
def yX8_format : MethodName := ⟨RX8, "format", "(III)I"⟩
abbrev cX8_mount : ByteArray := prog_10_method_36_code
def yX8_mount : MethodName := ⟨RX8, "mount", "(I)I"⟩
abbrev cX8_takes : ByteArray := prog_10_method_37_code
def yX8_takes : MethodName := ⟨RX8, "takes", "(I)Z"⟩
abbrev cX8_writeFile : ByteArray := prog_10_method_38_code
def yX8_writeFile : MethodName := ⟨RX8, "writeFile", "(I)Z"⟩
abbrev cX8_emptyEntry : ByteArray := prog_10_method_39_code
def yX8_emptyEntry : MethodName := ⟨RX8, "emptyEntry", "()I"⟩
abbrev cX8_freeOfDirectory : ByteArray := prog_10_method_40_code
def yX8_freeOfDirectory : MethodName := ⟨RX8, "freeOfDirectory", "()I"⟩
abbrev cX8_saves : ByteArray := prog_10_method_41_code
def yX8_saves : MethodName := ⟨RX8, "saves", "(IIII)Z"⟩
abbrev cX8_save : ByteArray := prog_10_method_42_code
def yX8_save : MethodName := ⟨RX8, "save", "(III)I"⟩
abbrev cX8_readFile : ByteArray := prog_10_method_43_code
def yX8_readFile : MethodName := ⟨RX8, "readFile", "(IIZ)Z"⟩
abbrev cX8_tell : ByteArray := prog_10_method_44_code
def yX8_tell : MethodName := ⟨RX8, "tell", "(I)V"⟩
abbrev cX8_load : ByteArray := prog_10_method_45_code
def yX8_load : MethodName := ⟨RX8, "load", "(II)I"⟩
abbrev cX8_scratches : ByteArray := prog_10_method_46_code
def yX8_scratches : MethodName := ⟨RX8, "scratches", "(II)Z"⟩
abbrev cX8_scratch : ByteArray := prog_10_method_47_code
def yX8_scratch : MethodName := ⟨RX8, "scratch", "(II)I"⟩
abbrev cX8_list : ByteArray := prog_10_method_48_code
def yX8_list : MethodName := ⟨RX8, "list", "()I"⟩
abbrev cX8_info : ByteArray := prog_10_method_49_code
def yX8_info : MethodName := ⟨RX8, "info", "()I"⟩
abbrev cX8_out : ByteArray := prog_10_method_50_code
def yX8_out : MethodName := ⟨RX8, "out", "(I)I"⟩
abbrev cX8_status : ByteArray := prog_10_method_51_code
def yX8_status : MethodName := ⟨RX8, "status", "(I)I"⟩
abbrev cX8_peek : ByteArray := prog_10_method_52_code
def yX8_peek : MethodName := ⟨RX8, "peek", "(II)I"⟩
abbrev cX8_poke : ByteArray := prog_10_method_53_code
def yX8_poke : MethodName := ⟨RX8, "poke", "(III)I"⟩
abbrev cX8_stamp : ByteArray := prog_10_method_54_code
def yX8_stamp : MethodName := ⟨RX8, "stamp", "(III)I"⟩
abbrev cX8_turn : ByteArray := prog_10_method_55_code
def yX8_turn : MethodName := ⟨RX8, "turn", "(II)I"⟩
abbrev cX8_syncs : ByteArray := prog_10_method_56_code
def yX8_syncs : MethodName := ⟨RX8, "syncs", "(I)I"⟩
abbrev cX8_read : ByteArray := prog_10_method_57_code
def yX8_read : MethodName := ⟨RX8, "read", "(II)I"⟩
abbrev cX8_write : ByteArray := prog_10_method_58_code
def yX8_write : MethodName := ⟨RX8, "write", "(II)I"⟩
abbrev cX8_count : ByteArray := prog_10_method_59_code
def yX8_count : MethodName := ⟨RX8, "count", "(I)I"⟩
def RJ9 : String := "java/lang/Math"
def TJ9 : u_T := fun k => match k with
  | _ => ("", "", "", false)
def tyJ9 : Nat → FieldType := fun k => match k with
  | _ => .int
abbrev wsJ90 : List Cond := u_ws RJ9 TJ9 0
theorem nmJ9 : ∀ a, a < 0 → ∀ b, b < 0 → a ≠ b → (TJ9 a).2.1 ≠ (TJ9 b).2.1 := by decide +kernel
theorem tyJ9_ok : ∀ k, k < 0 → parseFieldDescriptor (TJ9 k).2.2.1 = some (tyJ9 k) := by decide +kernel
abbrev cJ9_floorMod_7cf53 : ByteArray := prog_11_method_50_code
def yJ9_floorMod_7cf53 : MethodName := ⟨RJ9, "floorMod", "(II)I"⟩
abbrev cJ9_max_7cf53 : ByteArray := prog_11_method_65_code
def yJ9_max_7cf53 : MethodName := ⟨RJ9, "max", "(II)I"⟩
def RJ10 : String := "java/lang/System"
def TJ10 : u_T := fun k => match k with
  | _ => ("", "", "", false)
def tyJ10 : Nat → FieldType := fun k => match k with
  | _ => .int
abbrev wsJ100 : List Cond := u_ws RJ10 TJ10 0
theorem nmJ10 : ∀ a, a < 0 → ∀ b, b < 0 → a ≠ b → (TJ10 a).2.1 ≠ (TJ10 b).2.1 := by decide +kernel
theorem tyJ10_ok : ∀ k, k < 0 → parseFieldDescriptor (TJ10 k).2.2.1 = some (tyJ10 k) := by decide +kernel
def RL : String := "BitDriveLaw"
abbrev cL_law : ByteArray := code
def yL_law : MethodName := ⟨RL, "law", "([I)Z"⟩

abbrev vwCl : List vw_C := [(RX0, TX0, 7), (RX1, TX1, 2), (RX2, TX2, 6), (RX3, TX3, 12), (RX4, TX4, 1), (RX5, TX5, 5), (RX6, TX6, 3), (RX7, TX7, 10), (RX8, TX8, 31)]
end
section
/-! WORDS: the good words of the tables, one list for all methods; a row for each word that is used -/
def W0 : List Cond := lw_tbl.filter goodWord
theorem W0_good {w : Cond} (h : w ∈ W0) : (w.onTables && w.keeps) = true ∨ ∃ ty, w = .arrayClass ty := good_of_word (List.mem_filter.mp h).2
theorem W0_tbl {w : Cond} (h : w ∈ W0) : w ∈ lw_tbl := (List.mem_filter.mp h).1
theorem wT1 {w : Cond} (i : Nat) (h : tables_1_1[i]? = some w) (g : goodWord w = true) : w ∈ W0 := List.mem_filter.mpr ⟨List.mem_append_right _ (List.mem_append_left _ (List.mem_of_getElem? h)), g⟩
theorem wT2 {w : Cond} (i : Nat) (h : tables_1_2[i]? = some w) (g : goodWord w = true) : w ∈ W0 := List.mem_filter.mpr ⟨List.mem_append_right _ (List.mem_append_right _ (List.mem_append_left _ (List.mem_of_getElem? h))), g⟩
theorem wT3 {w : Cond} (i : Nat) (h : tables_1_3[i]? = some w) (g : goodWord w = true) : w ∈ W0 := List.mem_filter.mpr ⟨List.mem_append_right _ (List.mem_append_right _ (List.mem_append_right _ (List.mem_append_left _ (List.mem_of_getElem? h)))), g⟩
theorem wT4 {w : Cond} (i : Nat) (h : tables_1_4[i]? = some w) (g : goodWord w = true) : w ∈ W0 := List.mem_filter.mpr ⟨List.mem_append_right _ (List.mem_append_right _ (List.mem_append_right _ (List.mem_append_right _ (List.mem_of_getElem? h)))), g⟩
theorem wS1 {y : MethodName} (i n : Nat) (h : lw_privs_1[i]? = some (y, n)) (g : goodWord (Cond.selects y.cls y y) = true) : Cond.selects y.cls y y ∈ W0 := List.mem_filter.mpr ⟨List.mem_append_left _ (List.mem_map.mpr ⟨(y, n), List.mem_append_left _ (List.mem_of_getElem? h), rfl⟩), g⟩
theorem wS2 {y : MethodName} (i n : Nat) (h : lw_privs_2[i]? = some (y, n)) (g : goodWord (Cond.selects y.cls y y) = true) : Cond.selects y.cls y y ∈ W0 := List.mem_filter.mpr ⟨List.mem_append_left _ (List.mem_map.mpr ⟨(y, n), List.mem_append_right _ (List.mem_append_left _ (List.mem_of_getElem? h)), rfl⟩), g⟩
theorem wS3 {y : MethodName} (i n : Nat) (h : lw_privs_3[i]? = some (y, n)) (g : goodWord (Cond.selects y.cls y y) = true) : Cond.selects y.cls y y ∈ W0 := List.mem_filter.mpr ⟨List.mem_append_left _ (List.mem_map.mpr ⟨(y, n), List.mem_append_right _ (List.mem_append_right _ (List.mem_of_getElem? h)), rfl⟩), g⟩
theorem gV {own C : String} {idx n : Nat} {y : MethodName} {b : ByteArray} {r : Option FieldType} (h1 : Cond.methodLink own idx y ∈ W0) (h2 : Cond.instanceMethod y ∈ W0) (h3 : Cond.selects C y y ∈ W0) (h4 : Cond.initialized C ∈ W0) (h5 : Cond.code y b n r ∈ W0) : GoodIn W0 (wsV own idx C y (.code y b n r :: W0)) := by
  intro w hw
  have : w ∈ W0 := by
    simp only [wsV, List.cons_append, List.nil_append, List.mem_cons] at hw
    rcases hw with rfl | rfl | rfl | rfl | rfl | hw
    · exact h1
    · exact h2
    · exact h3
    · exact h4
    · exact h5
    · exact hw
  exact ⟨this, W0_good this⟩
theorem gS {own : String} {idx n : Nat} {y : MethodName} {b : ByteArray} {r : Option FieldType} (h1 : Cond.methodLink own idx y ∈ W0) (h2 : Cond.static y ∈ W0) (h4 : Cond.initialized y.cls ∈ W0) (h5 : Cond.code y b n r ∈ W0) : GoodIn W0 (va_wsS own idx y (.code y b n r :: W0)) := by
  intro w hw
  have : w ∈ W0 := by
    simp only [va_wsS, List.cons_append, List.nil_append, List.mem_cons] at hw
    rcases hw with rfl | rfl | rfl | rfl | hw
    · exact h1
    · exact h2
    · exact h4
    · exact h5
    · exact hw
  exact ⟨this, W0_good this⟩
theorem gC {n : Nat} {y : MethodName} {b : ByteArray} {r : Option FieldType} (h5 : Cond.code y b n r ∈ W0) : GoodIn W0 (.code y b n r :: W0) := by
  intro w hw
  have : w ∈ W0 := by
    rcases List.mem_cons.mp hw with rfl | hw
    · exact h5
    · exact hw
  exact ⟨this, W0_good this⟩
theorem m_IN_X0 : Cond.initialized RX0 ∈ W0 := wT1 3 rfl rfl
theorem m_IN_X1 : Cond.initialized RX1 ∈ W0 := wT1 9 rfl rfl
theorem m_IN_X2 : Cond.initialized RX2 ∈ W0 := wT1 8 rfl rfl
theorem m_IN_X3 : Cond.initialized RX3 ∈ W0 := wT1 7 rfl rfl
theorem m_IN_X4 : Cond.initialized RX4 ∈ W0 := wT1 6 rfl rfl
theorem m_IN_X5 : Cond.initialized RX5 ∈ W0 := wT1 4 rfl rfl
theorem m_IN_X6 : Cond.initialized RX6 ∈ W0 := wT1 2 rfl rfl
theorem m_IN_X7 : Cond.initialized RX7 ∈ W0 := wT1 1 rfl rfl
theorem m_IN_X8 : Cond.initialized RX8 ∈ W0 := wT1 10 rfl rfl
theorem m_IN_J9 : Cond.initialized RJ9 ∈ W0 := wT1 5 rfl rfl
theorem m_IN_J10 : Cond.initialized RJ10 ∈ W0 := wT1 11 rfl rfl
theorem m_IA_X0 : Cond.instantiable RX0 7 ∈ W0 := wT1 40 rfl rfl
theorem m_IA_X1 : Cond.instantiable RX1 2 ∈ W0 := wT1 220 rfl rfl
theorem m_IA_X2 : Cond.instantiable RX2 6 ∈ W0 := wT1 192 rfl rfl
theorem m_IA_X3 : Cond.instantiable RX3 12 ∈ W0 := wT1 137 rfl rfl
theorem m_IA_X4 : Cond.instantiable RX4 1 ∈ W0 := wT1 126 rfl rfl
theorem m_IA_X5 : Cond.instantiable RX5 5 ∈ W0 := wT1 47 rfl rfl
theorem m_IA_X6 : Cond.instantiable RX6 3 ∈ W0 := wT1 21 rfl rfl
theorem m_IA_X7 : Cond.instantiable RX7 10 ∈ W0 := wT1 13 rfl rfl
theorem m_IA_X8 : Cond.instantiable RX8 31 ∈ W0 := wT3 129 rfl rfl
theorem m_FL_X0_9 : Cond.fieldLink RX0 9 "BitDrive$Blocks" "report" "LBitDrive$Status;" ∈ W0 := wT1 99 rfl rfl
theorem m_FL_X0_15 : Cond.fieldLink RX0 15 "BitDrive$Blocks" "id" "I" ∈ W0 := wT1 102 rfl rfl
theorem m_FL_X0_21 : Cond.fieldLink RX0 21 "BitDrive$Blocks" "rings" "[LBitDrive$Ring;" ∈ W0 := wT1 100 rfl rfl
theorem m_FL_X0_32 : Cond.fieldLink RX0 32 "BitDrive$Blocks" "sample" "LBitDrive$Ring;" ∈ W0 := wT1 101 rfl rfl
theorem m_FL_X0_85 : Cond.fieldLink RX0 85 "BitDrive$Ring" "found" "I" ∈ W0 := wT1 62 rfl rfl
theorem m_FL_X0_95 : Cond.fieldLink RX0 95 "BitDrive$Blocks" "reads" "I" ∈ W0 := wT1 104 rfl rfl
theorem m_FL_X0_98 : Cond.fieldLink RX0 98 "BitDrive$Blocks" "faults" "I" ∈ W0 := wT1 108 rfl rfl
theorem m_FL_X0_101 : Cond.fieldLink RX0 101 "BitDrive$Blocks" "writes" "I" ∈ W0 := wT1 106 rfl rfl
theorem m_FL_X1_13 : Cond.fieldLink RX1 13 "BitDrive$Bytes" "row" "[I" ∈ W0 := wT1 226 rfl rfl
theorem m_FL_X1_19 : Cond.fieldLink RX1 19 "BitDrive$Bytes" "length" "I" ∈ W0 := wT1 227 rfl rfl
theorem m_FL_X2_9 : Cond.fieldLink RX2 9 "BitDrive$Chain" "tracks" "[I" ∈ W0 := wT1 199 rfl rfl
theorem m_FL_X2_15 : Cond.fieldLink RX2 15 "BitDrive$Chain" "sectors" "[I" ∈ W0 := wT1 201 rfl rfl
theorem m_FL_X2_18 : Cond.fieldLink RX2 18 "BitDrive$Chain" "row" "[I" ∈ W0 := wT1 205 rfl rfl
theorem m_FL_X2_21 : Cond.fieldLink RX2 21 "BitDrive$Chain" "blocks" "LBitDrive$Blocks;" ∈ W0 := wT1 197 rfl rfl
theorem m_FL_X2_25 : Cond.fieldLink RX2 25 "BitDrive$Chain" "report" "LBitDrive$Status;" ∈ W0 := wT1 198 rfl rfl
theorem m_FL_X2_29 : Cond.fieldLink RX2 29 "BitDrive$Chain" "length" "I" ∈ W0 := wT1 203 rfl rfl
theorem m_FL_X2_64 : Cond.fieldLink RX2 64 "BitDrive$Bytes" "length" "I" ∈ W0 := wT1 229 rfl rfl
theorem m_FL_X2_76 : Cond.fieldLink RX2 76 "BitDrive$Directory" "entry" "I" ∈ W0 := wT1 155 rfl rfl
theorem m_FL_X2_87 : Cond.fieldLink RX2 87 "BitDrive$Directory" "row" "[I" ∈ W0 := wT1 145 rfl rfl
theorem m_FL_X2_91 : Cond.fieldLink RX2 91 "BitDrive$Directory" "track" "I" ∈ W0 := wT1 148 rfl rfl
theorem m_FL_X2_94 : Cond.fieldLink RX2 94 "BitDrive$Directory" "sector" "I" ∈ W0 := wT1 151 rfl rfl
theorem m_FL_X3_9 : Cond.fieldLink RX3 9 "BitDrive$Directory" "row" "[I" ∈ W0 := wT1 144 rfl rfl
theorem m_FL_X3_15 : Cond.fieldLink RX3 15 "BitDrive$Directory" "roomRow" "[I" ∈ W0 := wT1 158 rfl rfl
theorem m_FL_X3_18 : Cond.fieldLink RX3 18 "BitDrive$Directory" "blocks" "LBitDrive$Blocks;" ∈ W0 := wT1 142 rfl rfl
theorem m_FL_X3_22 : Cond.fieldLink RX3 22 "BitDrive$Directory" "report" "LBitDrive$Status;" ∈ W0 := wT1 143 rfl rfl
theorem m_FL_X3_26 : Cond.fieldLink RX3 26 "BitDrive$Directory" "entry" "I" ∈ W0 := wT1 153 rfl rfl
theorem m_FL_X3_30 : Cond.fieldLink RX3 30 "BitDrive$Directory" "room" "I" ∈ W0 := wT1 156 rfl rfl
theorem m_FL_X3_33 : Cond.fieldLink RX3 33 "BitDrive$Directory" "grows" "Z" ∈ W0 := wT1 164 rfl rfl
theorem m_FL_X3_37 : Cond.fieldLink RX3 37 "BitDrive$Directory" "walked" "I" ∈ W0 := wT1 152 rfl rfl
theorem m_FL_X3_40 : Cond.fieldLink RX3 40 "BitDrive$Directory" "track" "I" ∈ W0 := wT1 146 rfl rfl
theorem m_FL_X3_43 : Cond.fieldLink RX3 43 "BitDrive$Directory" "sector" "I" ∈ W0 := wT1 149 rfl rfl
theorem m_FL_X3_70 : Cond.fieldLink RX3 70 "BitDrive$Directory" "roomTrack" "I" ∈ W0 := wT1 160 rfl rfl
theorem m_FL_X3_73 : Cond.fieldLink RX3 73 "BitDrive$Directory" "roomSector" "I" ∈ W0 := wT1 162 rfl rfl
theorem m_FL_X4_9 : Cond.fieldLink RX4 9 "BitDrive$FreeMap" "row" "[I" ∈ W0 := wT1 131 rfl rfl
theorem m_FL_X5_15 : Cond.fieldLink RX5 15 "BitDrive$Ring" "row" "[I" ∈ W0 := wT1 58 rfl rfl
theorem m_FL_X5_21 : Cond.fieldLink RX5 21 "BitDrive$Ring" "bits" "I" ∈ W0 := wT1 59 rfl rfl
theorem m_FL_X5_25 : Cond.fieldLink RX5 25 "BitDrive$Ring" "starts" "[I" ∈ W0 := wT1 60 rfl rfl
theorem m_FL_X5_32 : Cond.fieldLink RX5 32 "BitDrive$Ring" "found" "I" ∈ W0 := wT1 61 rfl rfl
theorem m_FL_X5_35 : Cond.fieldLink RX5 35 "BitDrive$Ring" "known" "Z" ∈ W0 := wT1 63 rfl rfl
theorem m_FL_X6_7 : Cond.fieldLink RX6 7 "BitDrive$Status" "number" "I" ∈ W0 := wT1 26 rfl rfl
theorem m_FL_X6_13 : Cond.fieldLink RX6 13 "BitDrive$Status" "track" "I" ∈ W0 := wT1 28 rfl rfl
theorem m_FL_X6_16 : Cond.fieldLink RX6 16 "BitDrive$Status" "sector" "I" ∈ W0 := wT1 30 rfl rfl
theorem m_FL_X7_12 : Cond.fieldLink RX7 12 "BitDrive" "report" "LBitDrive$Status;" ∈ W0 := wT1 236 rfl rfl
theorem m_FL_X7_21 : Cond.fieldLink RX7 21 "BitDrive" "blocks" "LBitDrive$Blocks;" ∈ W0 := wT1 237 rfl rfl
theorem m_FL_X7_28 : Cond.fieldLink RX7 28 "BitDrive" "map" "LBitDrive$FreeMap;" ∈ W0 := wT1 238 rfl rfl
theorem m_FL_X7_37 : Cond.fieldLink RX7 37 "BitDrive" "directory" "LBitDrive$Directory;" ∈ W0 := wT1 239 rfl rfl
theorem m_FL_X7_44 : Cond.fieldLink RX7 44 "BitDrive" "chain" "LBitDrive$Chain;" ∈ W0 := wT2 0 rfl rfl
theorem m_FL_X7_53 : Cond.fieldLink RX7 53 "BitDrive" "tape" "LBitDrive$Bytes;" ∈ W0 := wT2 1 rfl rfl
theorem m_FL_X7_57 : Cond.fieldLink RX7 57 "BitDrive" "output" "LBitDrive$Bytes;" ∈ W0 := wT2 2 rfl rfl
theorem m_FL_X7_60 : Cond.fieldLink RX7 60 "BitDrive" "nowhere" "LBitDrive$Bytes;" ∈ W0 := wT2 3 rfl rfl
theorem m_FL_X7_63 : Cond.fieldLink RX7 63 "BitDrive" "block" "[I" ∈ W0 := wT2 4 rfl rfl
theorem m_FL_X7_73 : Cond.fieldLink RX7 73 "BitDrive" "spare" "[I" ∈ W0 := wT2 5 rfl rfl
theorem m_FL_X7_76 : Cond.fieldLink RX7 76 "BitDrive$Bytes" "length" "I" ∈ W0 := wT1 228 rfl rfl
theorem m_FL_X7_84 : Cond.fieldLink RX7 84 "BitDrive$Blocks" "id" "I" ∈ W0 := wT1 103 rfl rfl
theorem m_FL_X7_94 : Cond.fieldLink RX7 94 "BitDrive$FreeMap" "row" "[I" ∈ W0 := wT1 132 rfl rfl
theorem m_FL_X7_109 : Cond.fieldLink RX7 109 "BitDrive$Directory" "entry" "I" ∈ W0 := wT1 154 rfl rfl
theorem m_FL_X7_112 : Cond.fieldLink RX7 112 "BitDrive$Directory" "track" "I" ∈ W0 := wT1 147 rfl rfl
theorem m_FL_X7_115 : Cond.fieldLink RX7 115 "BitDrive$Directory" "sector" "I" ∈ W0 := wT1 150 rfl rfl
theorem m_FL_X7_147 : Cond.fieldLink RX7 147 "BitDrive$Chain" "length" "I" ∈ W0 := wT1 204 rfl rfl
theorem m_FL_X7_177 : Cond.fieldLink RX7 177 "BitDrive$Status" "number" "I" ∈ W0 := wT1 27 rfl rfl
theorem m_FL_X7_180 : Cond.fieldLink RX7 180 "BitDrive$Status" "track" "I" ∈ W0 := wT1 29 rfl rfl
theorem m_FL_X7_181 : Cond.fieldLink RX7 181 "BitDrive$Status" "sector" "I" ∈ W0 := wT1 31 rfl rfl
theorem m_FL_X7_212 : Cond.fieldLink RX7 212 "BitDrive$Blocks" "reads" "I" ∈ W0 := wT1 105 rfl rfl
theorem m_FL_X7_215 : Cond.fieldLink RX7 215 "BitDrive$Blocks" "writes" "I" ∈ W0 := wT1 107 rfl rfl
theorem m_FL_X7_218 : Cond.fieldLink RX7 218 "BitDrive$Blocks" "faults" "I" ∈ W0 := wT1 109 rfl rfl
theorem m_FL_X7_239 : Cond.fieldLink RX7 239 "BitDrive$Directory" "roomRow" "[I" ∈ W0 := wT1 159 rfl rfl
theorem m_FL_X7_242 : Cond.fieldLink RX7 242 "BitDrive$Directory" "room" "I" ∈ W0 := wT1 157 rfl rfl
theorem m_FL_X7_249 : Cond.fieldLink RX7 249 "BitDrive$Directory" "roomTrack" "I" ∈ W0 := wT1 161 rfl rfl
theorem m_FL_X7_252 : Cond.fieldLink RX7 252 "BitDrive$Directory" "roomSector" "I" ∈ W0 := wT1 163 rfl rfl
theorem m_FL_X7_255 : Cond.fieldLink RX7 255 "BitDrive$Directory" "grows" "Z" ∈ W0 := wT1 165 rfl rfl
theorem m_FL_X7_262 : Cond.fieldLink RX7 262 "BitDrive$Chain" "tracks" "[I" ∈ W0 := wT1 200 rfl rfl
theorem m_FL_X7_265 : Cond.fieldLink RX7 265 "BitDrive$Chain" "sectors" "[I" ∈ W0 := wT1 202 rfl rfl
theorem m_FL_X8_8 : Cond.fieldLink RX8 8 "BitDriveModel" "bits" "[Z" ∈ W0 := wT3 139 rfl rfl
theorem m_FL_X8_14 : Cond.fieldLink RX8 14 "BitDriveModel" "kept" "[Z" ∈ W0 := wT3 140 rfl rfl
theorem m_FL_X8_17 : Cond.fieldLink RX8 17 "BitDriveModel" "codes" "[I" ∈ W0 := wT3 141 rfl rfl
theorem m_FL_X8_21 : Cond.fieldLink RX8 21 "BitDriveModel" "halves" "[I" ∈ W0 := wT3 142 rfl rfl
theorem m_FL_X8_24 : Cond.fieldLink RX8 24 "BitDriveModel" "id" "I" ∈ W0 := wT3 143 rfl rfl
theorem m_FL_X8_28 : Cond.fieldLink RX8 28 "BitDriveModel" "tape" "[I" ∈ W0 := wT3 144 rfl rfl
theorem m_FL_X8_31 : Cond.fieldLink RX8 31 "BitDriveModel" "out" "[I" ∈ W0 := wT3 146 rfl rfl
theorem m_FL_X8_34 : Cond.fieldLink RX8 34 "BitDriveModel" "places" "[I" ∈ W0 := wT3 154 rfl rfl
theorem m_FL_X8_37 : Cond.fieldLink RX8 37 "BitDriveModel" "block" "[I" ∈ W0 := wT3 157 rfl rfl
theorem m_FL_X8_40 : Cond.fieldLink RX8 40 "BitDriveModel" "map" "[I" ∈ W0 := wT3 158 rfl rfl
theorem m_FL_X8_43 : Cond.fieldLink RX8 43 "BitDriveModel" "directory" "[I" ∈ W0 := wT3 159 rfl rfl
theorem m_FL_X8_46 : Cond.fieldLink RX8 46 "BitDriveModel" "directoryTrack" "[I" ∈ W0 := wT3 160 rfl rfl
theorem m_FL_X8_49 : Cond.fieldLink RX8 49 "BitDriveModel" "directorySector" "[I" ∈ W0 := wT3 161 rfl rfl
theorem m_FL_X8_52 : Cond.fieldLink RX8 52 "BitDriveModel" "chainTrack" "[I" ∈ W0 := wT3 165 rfl rfl
theorem m_FL_X8_55 : Cond.fieldLink RX8 55 "BitDriveModel" "chainSector" "[I" ∈ W0 := wT3 166 rfl rfl
theorem m_FL_X8_83 : Cond.fieldLink RX8 83 "BitDriveModel" "many" "I" ∈ W0 := wT3 155 rfl rfl
theorem m_FL_X8_86 : Cond.fieldLink RX8 86 "BitDriveModel" "writeTrack" "I" ∈ W0 := wT3 168 rfl rfl
theorem m_FL_X8_89 : Cond.fieldLink RX8 89 "BitDriveModel" "writeAt" "I" ∈ W0 := wT3 169 rfl rfl
theorem m_FL_X8_110 : Cond.fieldLink RX8 110 "BitDriveModel" "found" "I" ∈ W0 := wT3 156 rfl rfl
theorem m_FL_X8_122 : Cond.fieldLink RX8 122 "BitDriveModel" "reads" "I" ∈ W0 := wT3 151 rfl rfl
theorem m_FL_X8_125 : Cond.fieldLink RX8 125 "BitDriveModel" "failures" "I" ∈ W0 := wT3 153 rfl rfl
theorem m_FL_X8_131 : Cond.fieldLink RX8 131 "BitDriveModel" "writes" "I" ∈ W0 := wT3 152 rfl rfl
theorem m_FL_X8_134 : Cond.fieldLink RX8 134 "BitDriveModel" "status" "I" ∈ W0 := wT3 148 rfl rfl
theorem m_FL_X8_137 : Cond.fieldLink RX8 137 "BitDriveModel" "statusTrack" "I" ∈ W0 := wT3 149 rfl rfl
theorem m_FL_X8_140 : Cond.fieldLink RX8 140 "BitDriveModel" "statusSector" "I" ∈ W0 := wT3 150 rfl rfl
theorem m_FL_X8_156 : Cond.fieldLink RX8 156 "BitDriveModel" "directoryMany" "I" ∈ W0 := wT3 162 rfl rfl
theorem m_FL_X8_159 : Cond.fieldLink RX8 159 "BitDriveModel" "entryBlock" "I" ∈ W0 := wT3 163 rfl rfl
theorem m_FL_X8_165 : Cond.fieldLink RX8 165 "BitDriveModel" "entryAt" "I" ∈ W0 := wT3 164 rfl rfl
theorem m_FL_X8_172 : Cond.fieldLink RX8 172 "BitDriveModel" "taped" "I" ∈ W0 := wT3 145 rfl rfl
theorem m_FL_X8_180 : Cond.fieldLink RX8 180 "BitDriveModel" "chainMany" "I" ∈ W0 := wT3 167 rfl rfl
theorem m_FL_X8_220 : Cond.fieldLink RX8 220 "BitDriveModel" "told" "I" ∈ W0 := wT3 147 rfl rfl
theorem m_ML_L_9 : Cond.methodLink RL 9 yX7_init ∈ W0 := wT1 14 rfl rfl
theorem m_ML_L_12 : Cond.methodLink RL 12 yX8_init ∈ W0 := wT3 130 rfl rfl
theorem m_ML_L_13 : Cond.methodLink RL 13 yX7_feed ∈ W0 := wT2 27 rfl rfl
theorem m_ML_L_17 : Cond.methodLink RL 17 yX8_feed ∈ W0 := wT3 234 rfl rfl
theorem m_ML_L_18 : Cond.methodLink RL 18 yX7_end ∈ W0 := wT2 39 rfl rfl
theorem m_ML_L_22 : Cond.methodLink RL 22 yX8_end ∈ W0 := wT3 238 rfl rfl
theorem m_ML_L_23 : Cond.methodLink RL 23 yX7_format ∈ W0 := wT2 43 rfl rfl
theorem m_ML_L_27 : Cond.methodLink RL 27 yX8_format ∈ W0 := wT4 5 rfl rfl
theorem m_ML_L_28 : Cond.methodLink RL 28 yX7_mount ∈ W0 := wT2 103 rfl rfl
theorem m_ML_L_31 : Cond.methodLink RL 31 yX8_mount ∈ W0 := wT4 49 rfl rfl
theorem m_ML_L_32 : Cond.methodLink RL 32 yX7_save ∈ W0 := wT2 107 rfl rfl
theorem m_ML_L_35 : Cond.methodLink RL 35 yX8_save ∈ W0 := wT4 53 rfl rfl
theorem m_ML_L_36 : Cond.methodLink RL 36 yX7_load ∈ W0 := wT3 14 rfl rfl
theorem m_ML_L_40 : Cond.methodLink RL 40 yX8_load ∈ W0 := wT4 135 rfl rfl
theorem m_ML_L_41 : Cond.methodLink RL 41 yX7_scratch ∈ W0 := wT3 33 rfl rfl
theorem m_ML_L_44 : Cond.methodLink RL 44 yX8_scratch ∈ W0 := wT4 147 rfl rfl
theorem m_ML_L_45 : Cond.methodLink RL 45 yX7_list ∈ W0 := wT3 45 rfl rfl
theorem m_ML_L_49 : Cond.methodLink RL 49 yX8_list ∈ W0 := wT4 155 rfl rfl
theorem m_ML_L_50 : Cond.methodLink RL 50 yX7_info ∈ W0 := wT3 55 rfl rfl
theorem m_ML_L_53 : Cond.methodLink RL 53 yX8_info ∈ W0 := wT4 159 rfl rfl
theorem m_ML_L_54 : Cond.methodLink RL 54 yX7_out ∈ W0 := wT3 66 rfl rfl
theorem m_ML_L_57 : Cond.methodLink RL 57 yX8_out ∈ W0 := wT4 163 rfl rfl
theorem m_ML_L_58 : Cond.methodLink RL 58 yX7_status ∈ W0 := wT3 71 rfl rfl
theorem m_ML_L_61 : Cond.methodLink RL 61 yX8_status ∈ W0 := wT4 167 rfl rfl
theorem m_ML_L_62 : Cond.methodLink RL 62 yX7_peek ∈ W0 := wT3 75 rfl rfl
theorem m_ML_L_65 : Cond.methodLink RL 65 yX8_peek ∈ W0 := wT4 171 rfl rfl
theorem m_ML_L_66 : Cond.methodLink RL 66 yX7_poke ∈ W0 := wT3 89 rfl rfl
theorem m_ML_L_69 : Cond.methodLink RL 69 yX8_poke ∈ W0 := wT4 182 rfl rfl
theorem m_ML_L_70 : Cond.methodLink RL 70 yX7_stamp ∈ W0 := wT3 94 rfl rfl
theorem m_ML_L_73 : Cond.methodLink RL 73 yX8_stamp ∈ W0 := wT4 190 rfl rfl
theorem m_ML_L_74 : Cond.methodLink RL 74 yX7_turn ∈ W0 := wT3 98 rfl rfl
theorem m_ML_L_77 : Cond.methodLink RL 77 yX8_turn ∈ W0 := wT4 194 rfl rfl
theorem m_ML_L_78 : Cond.methodLink RL 78 yX7_syncs ∈ W0 := wT3 109 rfl rfl
theorem m_ML_L_81 : Cond.methodLink RL 81 yX8_syncs ∈ W0 := wT4 198 rfl rfl
theorem m_ML_L_82 : Cond.methodLink RL 82 yX7_read ∈ W0 := wT3 114 rfl rfl
theorem m_ML_L_85 : Cond.methodLink RL 85 yX8_read ∈ W0 := wT4 202 rfl rfl
theorem m_ML_L_86 : Cond.methodLink RL 86 yX7_write ∈ W0 := wT3 119 rfl rfl
theorem m_ML_L_89 : Cond.methodLink RL 89 yX8_write ∈ W0 := wT4 206 rfl rfl
theorem m_ML_L_90 : Cond.methodLink RL 90 yX7_count ∈ W0 := wT3 124 rfl rfl
theorem m_ML_L_93 : Cond.methodLink RL 93 yX8_count ∈ W0 := wT4 210 rfl rfl
theorem m_ML_X0_3 : Cond.methodLink RX0 3 objectInit ∈ W0 := wT1 44 rfl rfl
theorem m_ML_X0_25 : Cond.methodLink RX0 25 yX5_sizeOf ∈ W0 := wT1 48 rfl rfl
theorem m_ML_X0_29 : Cond.methodLink RX0 29 yX5_init ∈ W0 := wT1 51 rfl rfl
theorem m_ML_X0_36 : Cond.methodLink RX0 36 yX5_fillGap ∈ W0 := wT1 76 rfl rfl
theorem m_ML_X0_39 : Cond.methodLink RX0 39 yX5_putSync ∈ W0 := wT1 80 rfl rfl
theorem m_ML_X0_42 : Cond.methodLink RX0 42 yX5_putData ∈ W0 := wT1 88 rfl rfl
theorem m_ML_X0_46 : Cond.methodLink RX0 46 yX0_sectorsOf ∈ W0 := wT2 60 rfl rfl
theorem m_ML_X0_49 : Cond.methodLink RX0 49 yX0_ringOf ∈ W0 := wT2 52 rfl rfl
theorem m_ML_X0_53 : Cond.methodLink RX0 53 yX0_formatTrack ∈ W0 := wT2 56 rfl rfl
theorem m_ML_X0_57 : Cond.methodLink RX0 57 yX5_putHeader ∈ W0 := wT2 63 rfl rfl
theorem m_ML_X0_61 : Cond.methodLink RX0 61 yX5_layRing ∈ W0 := wT2 67 rfl rfl
theorem m_ML_X0_64 : Cond.methodLink RX0 64 yX0_readBlock ∈ W0 := wT2 123 rfl rfl
theorem m_ML_X0_68 : Cond.methodLink RX0 68 yX6_tell ∈ W0 := wT2 155 rfl rfl
theorem m_ML_X0_74 : Cond.methodLink RX0 74 yX0_writeBlock ∈ W0 := wT2 235 rfl rfl
theorem m_ML_X0_77 : Cond.methodLink RX0 77 yX0_isBlock ∈ W0 := wT2 127 rfl rfl
theorem m_ML_X0_81 : Cond.methodLink RX0 81 yX0_seek ∈ W0 := wT2 128 rfl rfl
theorem m_ML_X0_88 : Cond.methodLink RX0 88 yX5_startOf ∈ W0 := wT2 136 rfl rfl
theorem m_ML_X0_91 : Cond.methodLink RX0 91 yX5_takeData ∈ W0 := wT2 150 rfl rfl
theorem m_ML_X0_104 : Cond.methodLink RX0 104 yX5_findSyncs ∈ W0 := wT2 132 rfl rfl
theorem m_ML_X0_108 : Cond.methodLink RX0 108 yX0_headerError ∈ W0 := wT2 140 rfl rfl
theorem m_ML_X0_112 : Cond.methodLink RX0 112 yX5_codedAt ∈ W0 := wT2 144 rfl rfl
theorem m_ML_X1_1 : Cond.methodLink RX1 1 objectInit ∈ W0 := wT1 224 rfl rfl
theorem m_ML_X1_7 : Cond.methodLink RX1 7 Lib.Math.max.name ∈ W0 := wT1 225 rfl rfl
theorem m_ML_X1_23 : Cond.methodLink RX1 23 yX1_add ∈ W0 := wT2 35 rfl rfl
theorem m_ML_X2_3 : Cond.methodLink RX2 3 objectInit ∈ W0 := wT1 196 rfl rfl
theorem m_ML_X2_36 : Cond.methodLink RX2 36 yX0_sectorsOf ∈ W0 := wT2 211 rfl rfl
theorem m_ML_X2_42 : Cond.methodLink RX2 42 yX4_isFree ∈ W0 := wT2 212 rfl rfl
theorem m_ML_X2_48 : Cond.methodLink RX2 48 yX4_setFree ∈ W0 := wT2 213 rfl rfl
theorem m_ML_X2_52 : Cond.methodLink RX2 52 yX2_addBlock ∈ W0 := wT2 214 rfl rfl
theorem m_ML_X2_56 : Cond.methodLink RX2 56 yX2_fillBlock ∈ W0 := wT2 222 rfl rfl
theorem m_ML_X2_60 : Cond.methodLink RX2 60 yX0_store ∈ W0 := wT2 231 rfl rfl
theorem m_ML_X2_67 : Cond.methodLink RX2 67 yX1_byteAt ∈ W0 := wT2 226 rfl rfl
theorem m_ML_X2_70 : Cond.methodLink RX2 70 Lib.Math.max.name ∈ W0 := wT2 230 rfl rfl
theorem m_ML_X2_81 : Cond.methodLink RX2 81 yX6_tell ∈ W0 := wT3 22 rfl rfl
theorem m_ML_X2_88 : Cond.methodLink RX2 88 yX0_isBlock ∈ W0 := wT3 23 rfl rfl
theorem m_ML_X2_97 : Cond.methodLink RX2 97 yX0_fetch ∈ W0 := wT3 24 rfl rfl
theorem m_ML_X2_100 : Cond.methodLink RX2 100 yX1_addRow ∈ W0 := wT3 25 rfl rfl
theorem m_ML_X3_3 : Cond.methodLink RX3 3 objectInit ∈ W0 := wT1 141 rfl rfl
theorem m_ML_X3_46 : Cond.methodLink RX3 46 yX0_fetch ∈ W0 := wT2 160 rfl rfl
theorem m_ML_X3_52 : Cond.methodLink RX3 52 yX0_isBlock ∈ W0 := wT2 181 rfl rfl
theorem m_ML_X3_56 : Cond.methodLink RX3 56 yX6_tell ∈ W0 := wT2 182 rfl rfl
theorem m_ML_X3_62 : Cond.methodLink RX3 62 yX3_keepRoom ∈ W0 := wT2 165 rfl rfl
theorem m_ML_X3_76 : Cond.methodLink RX3 76 arraycopyName ∈ W0 := wT2 169 rfl rfl
theorem m_ML_X3_82 : Cond.methodLink RX3 82 yX1_add ∈ W0 := wT3 53 rfl rfl
theorem m_ML_X3_87 : Cond.methodLink RX3 87 yX1_addRow ∈ W0 := wT3 54 rfl rfl
theorem m_ML_X3_91 : Cond.methodLink RX3 91 yX4_leastFree ∈ W0 := wT2 191 rfl rfl
theorem m_ML_X3_97 : Cond.methodLink RX3 97 yX4_setFree ∈ W0 := wT2 199 rfl rfl
theorem m_ML_X3_104 : Cond.methodLink RX3 104 yX0_store ∈ W0 := wT3 13 rfl rfl
theorem m_ML_X4_3 : Cond.methodLink RX4 3 objectInit ∈ W0 := wT1 130 rfl rfl
theorem m_ML_X4_19 : Cond.methodLink RX4 19 yX0_sectorsOf ∈ W0 := wT2 81 rfl rfl
theorem m_ML_X4_25 : Cond.methodLink RX4 25 yX4_setFree ∈ W0 := wT2 82 rfl rfl
theorem m_ML_X4_33 : Cond.methodLink RX4 33 yX0_isBlock ∈ W0 := wT2 86 rfl rfl
theorem m_ML_X4_37 : Cond.methodLink RX4 37 yX4_isFree ∈ W0 := wT2 195 rfl rfl
theorem m_ML_X5_3 : Cond.methodLink RX5 3 objectInit ∈ W0 := wT1 54 rfl rfl
theorem m_ML_X5_9 : Cond.methodLink RX5 9 Lib.Math.max.name ∈ W0 := wT1 55 rfl rfl
theorem m_ML_X5_28 : Cond.methodLink RX5 28 yX5_hasByte ∈ W0 := wT3 88 rfl rfl
theorem m_ML_X5_42 : Cond.methodLink RX5 42 yX5_putBits ∈ W0 := wT1 84 rfl rfl
theorem m_ML_X5_49 : Cond.methodLink RX5 49 yJ9_floorMod_7cf53 ∈ W0 := wT3 106 rfl rfl
theorem m_ML_X5_52 : Cond.methodLink RX5 52 arraycopyName ∈ W0 := wT2 71 rfl rfl
theorem m_ML_X5_58 : Cond.methodLink RX5 58 yX5_putCoded ∈ W0 := wT1 93 rfl rfl
theorem m_ML_X5_62 : Cond.methodLink RX5 62 yX5_putSync ∈ W0 := wT1 92 rfl rfl
theorem m_ML_X5_66 : Cond.methodLink RX5 66 yX5_codedAt ∈ W0 := wT2 154 rfl rfl
theorem m_ML_X6_1 : Cond.methodLink RX6 1 objectInit ∈ W0 := wT1 25 rfl rfl
theorem m_ML_X7_3 : Cond.methodLink RX7 3 objectInit ∈ W0 := wT1 17 rfl rfl
theorem m_ML_X7_18 : Cond.methodLink RX7 18 yX0_init ∈ W0 := wT1 41 rfl rfl
theorem m_ML_X7_34 : Cond.methodLink RX7 34 yX3_init ∈ W0 := wT1 138 rfl rfl
theorem m_ML_X7_43 : Cond.methodLink RX7 43 yX2_init ∈ W0 := wT1 193 rfl rfl
theorem m_ML_X7_50 : Cond.methodLink RX7 50 yX1_init ∈ W0 := wT1 221 rfl rfl
theorem m_ML_X7_67 : Cond.methodLink RX7 67 yX5_sizeOf ∈ W0 := wT1 235 rfl rfl
theorem m_ML_X7_80 : Cond.methodLink RX7 80 yX1_addNumber ∈ W0 := wT2 31 rfl rfl
theorem m_ML_X7_87 : Cond.methodLink RX7 87 yX0_formatTracks ∈ W0 := wT2 48 rfl rfl
theorem m_ML_X7_90 : Cond.methodLink RX7 90 yX4_fillNew ∈ W0 := wT2 74 rfl rfl
theorem m_ML_X7_97 : Cond.methodLink RX7 97 yX0_layFormatted ∈ W0 := wT2 95 rfl rfl
theorem m_ML_X7_101 : Cond.methodLink RX7 101 yX6_tell ∈ W0 := wT2 99 rfl rfl
theorem m_ML_X7_105 : Cond.methodLink RX7 105 yX7_lookFor ∈ W0 := wT2 111 rfl rfl
theorem m_ML_X7_118 : Cond.methodLink RX7 118 yX7_takeRoom ∈ W0 := wT2 183 rfl rfl
theorem m_ML_X7_122 : Cond.methodLink RX7 122 yX2_store ∈ W0 := wT2 218 rfl rfl
theorem m_ML_X7_126 : Cond.methodLink RX7 126 yX7_storeEntry ∈ W0 := wT2 239 rfl rfl
theorem m_ML_X7_129 : Cond.methodLink RX7 129 yX0_store ∈ W0 := wT3 8 rfl rfl
theorem m_ML_X7_132 : Cond.methodLink RX7 132 yX2_follow ∈ W0 := wT3 18 rfl rfl
theorem m_ML_X7_136 : Cond.methodLink RX7 136 yX7_outputOr ∈ W0 := wT3 29 rfl rfl
theorem m_ML_X7_139 : Cond.methodLink RX7 139 yX3_storeWithoutEntry ∈ W0 := wT3 37 rfl rfl
theorem m_ML_X7_143 : Cond.methodLink RX7 143 yX2_release ∈ W0 := wT3 41 rfl rfl
theorem m_ML_X7_148 : Cond.methodLink RX7 148 yX7_openDisk ∈ W0 := wT2 115 rfl rfl
theorem m_ML_X7_151 : Cond.methodLink RX7 151 yX3_begin ∈ W0 := wT2 156 rfl rfl
theorem m_ML_X7_154 : Cond.methodLink RX7 154 yX3_addEntries ∈ W0 := wT3 49 rfl rfl
theorem m_ML_X7_158 : Cond.methodLink RX7 158 yX3_isLast ∈ W0 := wT2 173 rfl rfl
theorem m_ML_X7_161 : Cond.methodLink RX7 161 yX3_step ∈ W0 := wT2 177 rfl rfl
theorem m_ML_X7_164 : Cond.methodLink RX7 164 yX1_addRow ∈ W0 := wT3 59 rfl rfl
theorem m_ML_X7_168 : Cond.methodLink RX7 168 yX4_freeBlocks ∈ W0 := wT3 60 rfl rfl
theorem m_ML_X7_171 : Cond.methodLink RX7 171 yX1_add ∈ W0 := wT3 65 rfl rfl
theorem m_ML_X7_174 : Cond.methodLink RX7 174 yX1_byteAt ∈ W0 := wT3 70 rfl rfl
theorem m_ML_X7_182 : Cond.methodLink RX7 182 yX0_ringOf ∈ W0 := wT3 79 rfl rfl
theorem m_ML_X7_186 : Cond.methodLink RX7 186 yX5_hasByte ∈ W0 := wT3 80 rfl rfl
theorem m_ML_X7_190 : Cond.methodLink RX7 190 yX5_byteAt ∈ W0 := wT3 84 rfl rfl
theorem m_ML_X7_191 : Cond.methodLink RX7 191 yX5_putBits ∈ W0 := wT3 93 rfl rfl
theorem m_ML_X7_194 : Cond.methodLink RX7 194 yX5_rotate ∈ W0 := wT3 102 rfl rfl
theorem m_ML_X7_198 : Cond.methodLink RX7 198 yX5_findSyncs ∈ W0 := wT3 113 rfl rfl
theorem m_ML_X7_201 : Cond.methodLink RX7 201 yX0_readBlock ∈ W0 := wT3 118 rfl rfl
theorem m_ML_X7_204 : Cond.methodLink RX7 204 Lib.Math.max.name ∈ W0 := wT2 204 rfl rfl
theorem m_ML_X7_209 : Cond.methodLink RX7 209 yX0_writeBlock ∈ W0 := wT3 123 rfl rfl
theorem m_ML_X7_221 : Cond.methodLink RX7 221 yX0_fetch ∈ W0 := wT2 119 rfl rfl
theorem m_ML_X7_224 : Cond.methodLink RX7 224 yX3_findEntry ∈ W0 := wT2 161 rfl rfl
theorem m_ML_X7_228 : Cond.methodLink RX7 228 yX3_takeEntry ∈ W0 := wT2 187 rfl rfl
theorem m_ML_X7_232 : Cond.methodLink RX7 232 yX7_blocksNeeded ∈ W0 := wT2 201 rfl rfl
theorem m_ML_X7_235 : Cond.methodLink RX7 235 yX2_take ∈ W0 := wT2 205 rfl rfl
theorem m_ML_X7_245 : Cond.methodLink RX7 245 yX7_fillEntry ∈ W0 := wT3 3 rfl rfl
theorem m_ML_X7_259 : Cond.methodLink RX7 259 yX3_storeLink ∈ W0 := wT3 9 rfl rfl
theorem m_ML_X7_268 : Cond.methodLink RX7 268 yX7_fillName ∈ W0 := wT3 7 rfl rfl
theorem m_ML_X7_272 : Cond.methodLink RX7 272 yX7_nameByte ∈ W0 := wT2 92 rfl rfl
theorem m_ML_X8_1 : Cond.methodLink RX8 1 objectInit ∈ W0 := wT3 133 rfl rfl
theorem m_ML_X8_58 : Cond.methodLink RX8 58 yX8_setCodes ∈ W0 := wT3 135 rfl rfl
theorem m_ML_X8_62 : Cond.methodLink RX8 62 yX8_bytesOf ∈ W0 := wT4 34 rfl rfl
theorem m_ML_X8_66 : Cond.methodLink RX8 66 yX8_lengthOf ∈ W0 := wT4 31 rfl rfl
theorem m_ML_X8_69 : Cond.methodLink RX8 69 yX8_isIn ∈ W0 := wT4 2 rfl rfl
theorem m_ML_X8_73 : Cond.methodLink RX8 73 yX8_isTrack ∈ W0 := wT4 100 rfl rfl
theorem m_ML_X8_77 : Cond.methodLink RX8 77 yX8_sectorsOf ∈ W0 := wT4 10 rfl rfl
theorem m_ML_X8_80 : Cond.methodLink RX8 80 yX8_startOf ∈ W0 := wT4 28 rfl rfl
theorem m_ML_X8_92 : Cond.methodLink RX8 92 yX8_putBits ∈ W0 := wT4 24 rfl rfl
theorem m_ML_X8_96 : Cond.methodLink RX8 96 yX8_putSync ∈ W0 := wT4 20 rfl rfl
theorem m_ML_X8_99 : Cond.methodLink RX8 99 yX8_putCoded ∈ W0 := wT4 37 rfl rfl
theorem m_ML_X8_103 : Cond.methodLink RX8 103 yX8_decoded ∈ W0 := wT4 81 rfl rfl
theorem m_ML_X8_107 : Cond.methodLink RX8 107 yX8_findSyncs ∈ W0 := wT4 73 rfl rfl
theorem m_ML_X8_113 : Cond.methodLink RX8 113 yX8_isHeaderOf ∈ W0 := wT4 77 rfl rfl
theorem m_ML_X8_116 : Cond.methodLink RX8 116 yX8_seek ∈ W0 := wT4 69 rfl rfl
theorem m_ML_X8_119 : Cond.methodLink RX8 119 yX8_dataOf ∈ W0 := wT4 85 rfl rfl
theorem m_ML_X8_128 : Cond.methodLink RX8 128 yX8_putData ∈ W0 := wT4 41 rfl rfl
theorem m_ML_X8_143 : Cond.methodLink RX8 143 yX8_ends ∈ W0 := wT4 45 rfl rfl
theorem m_ML_X8_147 : Cond.methodLink RX8 147 yX8_readBlock ∈ W0 := wT4 65 rfl rfl
theorem m_ML_X8_150 : Cond.methodLink RX8 150 yX8_writeBlock ∈ W0 := wT4 123 rfl rfl
theorem m_ML_X8_153 : Cond.methodLink RX8 153 yX8_nameByte ∈ W0 := wT4 17 rfl rfl
theorem m_ML_X8_162 : Cond.methodLink RX8 162 yX8_hasName ∈ W0 := wT4 93 rfl rfl
theorem m_ML_X8_168 : Cond.methodLink RX8 168 yX8_isBlock ∈ W0 := wT4 97 rfl rfl
theorem m_ML_X8_176 : Cond.methodLink RX8 176 yX8_setFree ∈ W0 := wT4 13 rfl rfl
theorem m_ML_X8_183 : Cond.methodLink RX8 183 yX8_isFree ∈ W0 := wT4 111 rfl rfl
theorem m_ML_X8_186 : Cond.methodLink RX8 186 yX8_begins ∈ W0 := wT4 61 rfl rfl
theorem m_ML_X8_190 : Cond.methodLink RX8 190 yX8_readDirectory ∈ W0 := wT4 89 rfl rfl
theorem m_ML_X8_194 : Cond.methodLink RX8 194 yX8_emptyEntry ∈ W0 := wT4 103 rfl rfl
theorem m_ML_X8_198 : Cond.methodLink RX8 198 yX8_freeOfDirectory ∈ W0 := wT4 107 rfl rfl
theorem m_ML_X8_201 : Cond.methodLink RX8 201 yX8_takes ∈ W0 := wT4 115 rfl rfl
theorem m_ML_X8_204 : Cond.methodLink RX8 204 yX8_writeFile ∈ W0 := wT4 119 rfl rfl
theorem m_ML_X8_207 : Cond.methodLink RX8 207 yX8_writeDirectory ∈ W0 := wT4 127 rfl rfl
theorem m_ML_X8_210 : Cond.methodLink RX8 210 yX8_writeMap ∈ W0 := wT4 131 rfl rfl
theorem m_ML_X8_213 : Cond.methodLink RX8 213 yX8_saves ∈ W0 := wT4 57 rfl rfl
theorem m_ML_X8_217 : Cond.methodLink RX8 217 yX8_tell ∈ W0 := wT4 143 rfl rfl
theorem m_ML_X8_223 : Cond.methodLink RX8 223 yX8_readFile ∈ W0 := wT4 139 rfl rfl
theorem m_ML_X8_227 : Cond.methodLink RX8 227 yX8_scratches ∈ W0 := wT4 151 rfl rfl
theorem m_ML_X8_230 : Cond.methodLink RX8 230 yX8_isByte ∈ W0 := wT4 175 rfl rfl
theorem m_ML_X8_233 : Cond.methodLink RX8 233 yX8_byteAt ∈ W0 := wT4 178 rfl rfl
theorem m_ML_X8_236 : Cond.methodLink RX8 236 yX8_setByte ∈ W0 := wT4 186 rfl rfl
theorem m_CL_L_7 : Cond.classLink RL 7 RX7 ∈ W0 := wT1 12 rfl rfl
theorem m_CL_X7_9 : Cond.classLink RX7 9 RX6 ∈ W0 := wT1 20 rfl rfl
theorem m_CL_X7_16 : Cond.classLink RX7 16 RX0 ∈ W0 := wT1 39 rfl rfl
theorem m_CL_X0_19 : Cond.classLink RX0 19 RX5 ∈ W0 := wT1 45 rfl rfl
theorem m_AC_int : Cond.arrayClass Jvm.ClassFile.FieldType.int ∈ W0 := wT1 75 rfl rfl
theorem m_CL_X7_25 : Cond.classLink RX7 25 RX4 ∈ W0 := wT1 125 rfl rfl
theorem m_CL_X7_32 : Cond.classLink RX7 32 RX3 ∈ W0 := wT1 136 rfl rfl
theorem m_CL_X7_41 : Cond.classLink RX7 41 RX2 ∈ W0 := wT1 191 rfl rfl
theorem m_CL_X7_48 : Cond.classLink RX7 48 RX1 ∈ W0 := wT1 219 rfl rfl
theorem m_KO_X7_83 : Cond.constant RX7 83 (65535) ∈ W0 := wT2 47 rfl rfl
theorem m_CL_L_10 : Cond.classLink RL 10 RX8 ∈ W0 := wT3 128 rfl rfl
theorem m_KO_X8_7 : Cond.constant RX8 7 (124480) ∈ W0 := wT3 134 rfl rfl
theorem m_AC_boolean : Cond.arrayClass Jvm.ClassFile.FieldType.boolean ∈ W0 := wT3 233 rfl rfl
theorem m_KO_X8_175 : Cond.constant RX8 175 (65535) ∈ W0 := wT4 9 rfl rfl
theorem m_IM_obj : Cond.instanceMethod objectInit ∈ W0 := wT1 18 rfl rfl
theorem m_CO_J9_floorMod_7cf53 : Cond.code yJ9_floorMod_7cf53 cJ9_floorMod_7cf53 3 (some .int) ∈ W0 := wT3 108 rfl rfl
theorem m_ST_J9_floorMod_7cf53 : Cond.static yJ9_floorMod_7cf53 ∈ W0 := wT3 107 rfl rfl
abbrev wzJ9_floorMod_7cf53 : List Cond := .code yJ9_floorMod_7cf53 cJ9_floorMod_7cf53 3 (some .int) :: W0
theorem hd_J9_floorMod_7cf53 : yJ9_floorMod_7cf53.cls = RJ9 ∧ yJ9_floorMod_7cf53.cls ≠ "java/lang/invoke/MethodHandle" ∧ yJ9_floorMod_7cf53.cls ≠ "java/lang/invoke/VarHandle" ∧ (parseMethodDescriptor yJ9_floorMod_7cf53.desc).map (fun d => d.parameters.length) = some 2 := by decide +kernel
theorem m_CO_J9_max_7cf53 : Cond.code yJ9_max_7cf53 cJ9_max_7cf53 2 (some .int) ∈ W0 := wT1 57 rfl rfl
theorem m_ST_J9_max_7cf53 : Cond.static yJ9_max_7cf53 ∈ W0 := wT1 56 rfl rfl
abbrev wzJ9_max_7cf53 : List Cond := .code yJ9_max_7cf53 cJ9_max_7cf53 2 (some .int) :: W0
theorem hd_J9_max_7cf53 : yJ9_max_7cf53.cls = RJ9 ∧ yJ9_max_7cf53.cls ≠ "java/lang/invoke/MethodHandle" ∧ yJ9_max_7cf53.cls ≠ "java/lang/invoke/VarHandle" ∧ (parseMethodDescriptor yJ9_max_7cf53.desc).map (fun d => d.parameters.length) = some 2 := by decide +kernel
theorem m_CO_X0_fetch : Cond.code yX0_fetch cX0_fetch 5 (some .int) ∈ W0 := wT2 122 rfl rfl
theorem m_IM_X0_fetch : Cond.instanceMethod yX0_fetch ∈ W0 := wT2 120 rfl rfl
theorem m_SE_X0_fetch : Cond.selects RX0 yX0_fetch yX0_fetch ∈ W0 := wT2 121 rfl rfl
abbrev wzX0_fetch : List Cond := .code yX0_fetch cX0_fetch 5 (some .int) :: W0
theorem hd_X0_fetch : yX0_fetch.cls = RX0 ∧ yX0_fetch.cls ≠ "java/lang/invoke/MethodHandle" ∧ yX0_fetch.cls ≠ "java/lang/invoke/VarHandle" ∧ (parseMethodDescriptor yX0_fetch.desc).map (fun d => d.parameters.length) = some 3 := by decide +kernel
theorem m_CO_X0_formatTrack : Cond.code yX0_formatTrack cX0_formatTrack 5 none ∈ W0 := wT2 59 rfl rfl
theorem m_IM_X0_formatTrack : Cond.instanceMethod yX0_formatTrack ∈ W0 := wT2 58 rfl rfl
theorem m_SE_X0_formatTrack : Cond.selects RX0 yX0_formatTrack yX0_formatTrack ∈ W0 := wS1 0 7 rfl rfl
abbrev wzX0_formatTrack : List Cond := .code yX0_formatTrack cX0_formatTrack 5 none :: W0
theorem hd_X0_formatTrack : yX0_formatTrack.cls = RX0 ∧ yX0_formatTrack.cls ≠ "java/lang/invoke/MethodHandle" ∧ yX0_formatTrack.cls ≠ "java/lang/invoke/VarHandle" ∧ (parseMethodDescriptor yX0_formatTrack.desc).map (fun d => d.parameters.length) = some 2 := by decide +kernel
theorem m_CO_X0_formatTracks : Cond.code yX0_formatTracks cX0_formatTracks 3 none ∈ W0 := wT2 51 rfl rfl
theorem m_IM_X0_formatTracks : Cond.instanceMethod yX0_formatTracks ∈ W0 := wT2 49 rfl rfl
theorem m_SE_X0_formatTracks : Cond.selects RX0 yX0_formatTracks yX0_formatTracks ∈ W0 := wT2 50 rfl rfl
abbrev wzX0_formatTracks : List Cond := .code yX0_formatTracks cX0_formatTracks 3 none :: W0
theorem hd_X0_formatTracks : yX0_formatTracks.cls = RX0 ∧ yX0_formatTracks.cls ≠ "java/lang/invoke/MethodHandle" ∧ yX0_formatTracks.cls ≠ "java/lang/invoke/VarHandle" ∧ (parseMethodDescriptor yX0_formatTracks.desc).map (fun d => d.parameters.length) = some 0 := by decide +kernel
theorem m_CO_X0_headerError : Cond.code yX0_headerError cX0_headerError 8 (some .int) ∈ W0 := wT2 143 rfl rfl
theorem m_IM_X0_headerError : Cond.instanceMethod yX0_headerError ∈ W0 := wT2 142 rfl rfl
theorem m_SE_X0_headerError : Cond.selects RX0 yX0_headerError yX0_headerError ∈ W0 := wS1 4 7 rfl rfl
abbrev wzX0_headerError : List Cond := .code yX0_headerError cX0_headerError 8 (some .int) :: W0
theorem hd_X0_headerError : yX0_headerError.cls = RX0 ∧ yX0_headerError.cls ≠ "java/lang/invoke/MethodHandle" ∧ yX0_headerError.cls ≠ "java/lang/invoke/VarHandle" ∧ (parseMethodDescriptor yX0_headerError.desc).map (fun d => d.parameters.length) = some 4 := by decide +kernel
theorem m_CO_X0_init : Cond.code yX0_init cX0_init 3 none ∈ W0 := wT1 43 rfl rfl
theorem m_IM_X0_init : Cond.instanceMethod yX0_init ∈ W0 := wT1 42 rfl rfl
abbrev wzX0_init : List Cond := .code yX0_init cX0_init 3 none :: W0
theorem hd_X0_init : yX0_init.cls = RX0 ∧ yX0_init.cls ≠ "java/lang/invoke/MethodHandle" ∧ yX0_init.cls ≠ "java/lang/invoke/VarHandle" ∧ (parseMethodDescriptor yX0_init.desc).map (fun d => d.parameters.length) = some 1 := by decide +kernel
theorem m_CO_X0_isBlock : Cond.code yX0_isBlock cX0_isBlock 2 (some .boolean) ∈ W0 := wT2 88 rfl rfl
theorem m_ST_X0_isBlock : Cond.static yX0_isBlock ∈ W0 := wT2 87 rfl rfl
abbrev wzX0_isBlock : List Cond := .code yX0_isBlock cX0_isBlock 2 (some .boolean) :: W0
theorem hd_X0_isBlock : yX0_isBlock.cls = RX0 ∧ yX0_isBlock.cls ≠ "java/lang/invoke/MethodHandle" ∧ yX0_isBlock.cls ≠ "java/lang/invoke/VarHandle" ∧ (parseMethodDescriptor yX0_isBlock.desc).map (fun d => d.parameters.length) = some 2 := by decide +kernel
theorem m_CO_X0_layFormatted : Cond.code yX0_layFormatted cX0_layFormatted 5 none ∈ W0 := wT2 98 rfl rfl
theorem m_IM_X0_layFormatted : Cond.instanceMethod yX0_layFormatted ∈ W0 := wT2 96 rfl rfl
theorem m_SE_X0_layFormatted : Cond.selects RX0 yX0_layFormatted yX0_layFormatted ∈ W0 := wT2 97 rfl rfl
abbrev wzX0_layFormatted : List Cond := .code yX0_layFormatted cX0_layFormatted 5 none :: W0
theorem hd_X0_layFormatted : yX0_layFormatted.cls = RX0 ∧ yX0_layFormatted.cls ≠ "java/lang/invoke/MethodHandle" ∧ yX0_layFormatted.cls ≠ "java/lang/invoke/VarHandle" ∧ (parseMethodDescriptor yX0_layFormatted.desc).map (fun d => d.parameters.length) = some 3 := by decide +kernel
theorem m_CO_X0_readBlock : Cond.code yX0_readBlock cX0_readBlock 8 (some .int) ∈ W0 := wT2 126 rfl rfl
theorem m_IM_X0_readBlock : Cond.instanceMethod yX0_readBlock ∈ W0 := wT2 124 rfl rfl
theorem m_SE_X0_readBlock : Cond.selects RX0 yX0_readBlock yX0_readBlock ∈ W0 := wT2 125 rfl rfl
abbrev wzX0_readBlock : List Cond := .code yX0_readBlock cX0_readBlock 8 (some .int) :: W0
theorem hd_X0_readBlock : yX0_readBlock.cls = RX0 ∧ yX0_readBlock.cls ≠ "java/lang/invoke/MethodHandle" ∧ yX0_readBlock.cls ≠ "java/lang/invoke/VarHandle" ∧ (parseMethodDescriptor yX0_readBlock.desc).map (fun d => d.parameters.length) = some 3 := by decide +kernel
theorem m_CO_X0_ringOf : Cond.code yX0_ringOf cX0_ringOf 2 (some (.object "BitDrive$Ring")) ∈ W0 := wT2 55 rfl rfl
theorem m_IM_X0_ringOf : Cond.instanceMethod yX0_ringOf ∈ W0 := wT2 53 rfl rfl
theorem m_SE_X0_ringOf : Cond.selects RX0 yX0_ringOf yX0_ringOf ∈ W0 := wT2 54 rfl rfl
abbrev wzX0_ringOf : List Cond := .code yX0_ringOf cX0_ringOf 2 (some (.object "BitDrive$Ring")) :: W0
theorem hd_X0_ringOf : yX0_ringOf.cls = RX0 ∧ yX0_ringOf.cls ≠ "java/lang/invoke/MethodHandle" ∧ yX0_ringOf.cls ≠ "java/lang/invoke/VarHandle" ∧ (parseMethodDescriptor yX0_ringOf.desc).map (fun d => d.parameters.length) = some 1 := by decide +kernel
theorem m_CO_X0_sectorsOf : Cond.code yX0_sectorsOf cX0_sectorsOf 1 (some .int) ∈ W0 := wT2 62 rfl rfl
theorem m_ST_X0_sectorsOf : Cond.static yX0_sectorsOf ∈ W0 := wT2 61 rfl rfl
abbrev wzX0_sectorsOf : List Cond := .code yX0_sectorsOf cX0_sectorsOf 1 (some .int) :: W0
theorem hd_X0_sectorsOf : yX0_sectorsOf.cls = RX0 ∧ yX0_sectorsOf.cls ≠ "java/lang/invoke/MethodHandle" ∧ yX0_sectorsOf.cls ≠ "java/lang/invoke/VarHandle" ∧ (parseMethodDescriptor yX0_sectorsOf.desc).map (fun d => d.parameters.length) = some 1 := by decide +kernel
theorem m_CO_X0_seek : Cond.code yX0_seek cX0_seek 7 (some .int) ∈ W0 := wT2 131 rfl rfl
theorem m_IM_X0_seek : Cond.instanceMethod yX0_seek ∈ W0 := wT2 130 rfl rfl
theorem m_SE_X0_seek : Cond.selects RX0 yX0_seek yX0_seek ∈ W0 := wS1 3 7 rfl rfl
abbrev wzX0_seek : List Cond := .code yX0_seek cX0_seek 7 (some .int) :: W0
theorem hd_X0_seek : yX0_seek.cls = RX0 ∧ yX0_seek.cls ≠ "java/lang/invoke/MethodHandle" ∧ yX0_seek.cls ≠ "java/lang/invoke/VarHandle" ∧ (parseMethodDescriptor yX0_seek.desc).map (fun d => d.parameters.length) = some 3 := by decide +kernel
theorem m_CO_X0_store : Cond.code yX0_store cX0_store 5 (some .int) ∈ W0 := wT2 234 rfl rfl
theorem m_IM_X0_store : Cond.instanceMethod yX0_store ∈ W0 := wT2 232 rfl rfl
theorem m_SE_X0_store : Cond.selects RX0 yX0_store yX0_store ∈ W0 := wT2 233 rfl rfl
abbrev wzX0_store : List Cond := .code yX0_store cX0_store 5 (some .int) :: W0
theorem hd_X0_store : yX0_store.cls = RX0 ∧ yX0_store.cls ≠ "java/lang/invoke/MethodHandle" ∧ yX0_store.cls ≠ "java/lang/invoke/VarHandle" ∧ (parseMethodDescriptor yX0_store.desc).map (fun d => d.parameters.length) = some 3 := by decide +kernel
theorem m_CO_X0_writeBlock : Cond.code yX0_writeBlock cX0_writeBlock 6 (some .int) ∈ W0 := wT2 238 rfl rfl
theorem m_IM_X0_writeBlock : Cond.instanceMethod yX0_writeBlock ∈ W0 := wT2 236 rfl rfl
theorem m_SE_X0_writeBlock : Cond.selects RX0 yX0_writeBlock yX0_writeBlock ∈ W0 := wT2 237 rfl rfl
abbrev wzX0_writeBlock : List Cond := .code yX0_writeBlock cX0_writeBlock 6 (some .int) :: W0
theorem hd_X0_writeBlock : yX0_writeBlock.cls = RX0 ∧ yX0_writeBlock.cls ≠ "java/lang/invoke/MethodHandle" ∧ yX0_writeBlock.cls ≠ "java/lang/invoke/VarHandle" ∧ (parseMethodDescriptor yX0_writeBlock.desc).map (fun d => d.parameters.length) = some 3 := by decide +kernel
theorem m_CO_X1_add : Cond.code yX1_add cX1_add 2 none ∈ W0 := wT2 38 rfl rfl
theorem m_IM_X1_add : Cond.instanceMethod yX1_add ∈ W0 := wT2 36 rfl rfl
theorem m_SE_X1_add : Cond.selects RX1 yX1_add yX1_add ∈ W0 := wT2 37 rfl rfl
abbrev wzX1_add : List Cond := .code yX1_add cX1_add 2 none :: W0
theorem hd_X1_add : yX1_add.cls = RX1 ∧ yX1_add.cls ≠ "java/lang/invoke/MethodHandle" ∧ yX1_add.cls ≠ "java/lang/invoke/VarHandle" ∧ (parseMethodDescriptor yX1_add.desc).map (fun d => d.parameters.length) = some 1 := by decide +kernel
theorem m_CO_X1_addNumber : Cond.code yX1_addNumber cX1_addNumber 2 none ∈ W0 := wT2 34 rfl rfl
theorem m_IM_X1_addNumber : Cond.instanceMethod yX1_addNumber ∈ W0 := wT2 32 rfl rfl
theorem m_SE_X1_addNumber : Cond.selects RX1 yX1_addNumber yX1_addNumber ∈ W0 := wT2 33 rfl rfl
abbrev wzX1_addNumber : List Cond := .code yX1_addNumber cX1_addNumber 2 none :: W0
theorem hd_X1_addNumber : yX1_addNumber.cls = RX1 ∧ yX1_addNumber.cls ≠ "java/lang/invoke/MethodHandle" ∧ yX1_addNumber.cls ≠ "java/lang/invoke/VarHandle" ∧ (parseMethodDescriptor yX1_addNumber.desc).map (fun d => d.parameters.length) = some 1 := by decide +kernel
theorem m_CO_X1_addRow : Cond.code yX1_addRow cX1_addRow 5 none ∈ W0 := wT3 28 rfl rfl
theorem m_IM_X1_addRow : Cond.instanceMethod yX1_addRow ∈ W0 := wT3 26 rfl rfl
theorem m_SE_X1_addRow : Cond.selects RX1 yX1_addRow yX1_addRow ∈ W0 := wT3 27 rfl rfl
abbrev wzX1_addRow : List Cond := .code yX1_addRow cX1_addRow 5 none :: W0
theorem hd_X1_addRow : yX1_addRow.cls = RX1 ∧ yX1_addRow.cls ≠ "java/lang/invoke/MethodHandle" ∧ yX1_addRow.cls ≠ "java/lang/invoke/VarHandle" ∧ (parseMethodDescriptor yX1_addRow.desc).map (fun d => d.parameters.length) = some 3 := by decide +kernel
theorem m_CO_X1_byteAt : Cond.code yX1_byteAt cX1_byteAt 2 (some .int) ∈ W0 := wT2 229 rfl rfl
theorem m_IM_X1_byteAt : Cond.instanceMethod yX1_byteAt ∈ W0 := wT2 227 rfl rfl
theorem m_SE_X1_byteAt : Cond.selects RX1 yX1_byteAt yX1_byteAt ∈ W0 := wT2 228 rfl rfl
abbrev wzX1_byteAt : List Cond := .code yX1_byteAt cX1_byteAt 2 (some .int) :: W0
theorem hd_X1_byteAt : yX1_byteAt.cls = RX1 ∧ yX1_byteAt.cls ≠ "java/lang/invoke/MethodHandle" ∧ yX1_byteAt.cls ≠ "java/lang/invoke/VarHandle" ∧ (parseMethodDescriptor yX1_byteAt.desc).map (fun d => d.parameters.length) = some 1 := by decide +kernel
theorem m_CO_X1_init : Cond.code yX1_init cX1_init 2 none ∈ W0 := wT1 223 rfl rfl
theorem m_IM_X1_init : Cond.instanceMethod yX1_init ∈ W0 := wT1 222 rfl rfl
abbrev wzX1_init : List Cond := .code yX1_init cX1_init 2 none :: W0
theorem hd_X1_init : yX1_init.cls = RX1 ∧ yX1_init.cls ≠ "java/lang/invoke/MethodHandle" ∧ yX1_init.cls ≠ "java/lang/invoke/VarHandle" ∧ (parseMethodDescriptor yX1_init.desc).map (fun d => d.parameters.length) = some 1 := by decide +kernel
theorem m_CO_X2_addBlock : Cond.code yX2_addBlock cX2_addBlock 3 none ∈ W0 := wT2 217 rfl rfl
theorem m_IM_X2_addBlock : Cond.instanceMethod yX2_addBlock ∈ W0 := wT2 216 rfl rfl
theorem m_SE_X2_addBlock : Cond.selects RX2 yX2_addBlock yX2_addBlock ∈ W0 := wS1 7 6 rfl rfl
abbrev wzX2_addBlock : List Cond := .code yX2_addBlock cX2_addBlock 3 none :: W0
theorem hd_X2_addBlock : yX2_addBlock.cls = RX2 ∧ yX2_addBlock.cls ≠ "java/lang/invoke/MethodHandle" ∧ yX2_addBlock.cls ≠ "java/lang/invoke/VarHandle" ∧ (parseMethodDescriptor yX2_addBlock.desc).map (fun d => d.parameters.length) = some 2 := by decide +kernel
theorem m_CO_X2_fillBlock : Cond.code yX2_fillBlock cX2_fillBlock 6 none ∈ W0 := wT2 225 rfl rfl
theorem m_IM_X2_fillBlock : Cond.instanceMethod yX2_fillBlock ∈ W0 := wT2 224 rfl rfl
theorem m_SE_X2_fillBlock : Cond.selects RX2 yX2_fillBlock yX2_fillBlock ∈ W0 := wS1 8 6 rfl rfl
abbrev wzX2_fillBlock : List Cond := .code yX2_fillBlock cX2_fillBlock 6 none :: W0
theorem hd_X2_fillBlock : yX2_fillBlock.cls = RX2 ∧ yX2_fillBlock.cls ≠ "java/lang/invoke/MethodHandle" ∧ yX2_fillBlock.cls ≠ "java/lang/invoke/VarHandle" ∧ (parseMethodDescriptor yX2_fillBlock.desc).map (fun d => d.parameters.length) = some 2 := by decide +kernel
theorem m_CO_X2_follow : Cond.code yX2_follow cX2_follow 8 (some .int) ∈ W0 := wT3 21 rfl rfl
theorem m_IM_X2_follow : Cond.instanceMethod yX2_follow ∈ W0 := wT3 19 rfl rfl
theorem m_SE_X2_follow : Cond.selects RX2 yX2_follow yX2_follow ∈ W0 := wT3 20 rfl rfl
abbrev wzX2_follow : List Cond := .code yX2_follow cX2_follow 8 (some .int) :: W0
theorem hd_X2_follow : yX2_follow.cls = RX2 ∧ yX2_follow.cls ≠ "java/lang/invoke/MethodHandle" ∧ yX2_follow.cls ≠ "java/lang/invoke/VarHandle" ∧ (parseMethodDescriptor yX2_follow.desc).map (fun d => d.parameters.length) = some 2 := by decide +kernel
theorem m_CO_X2_init : Cond.code yX2_init cX2_init 3 none ∈ W0 := wT1 195 rfl rfl
theorem m_IM_X2_init : Cond.instanceMethod yX2_init ∈ W0 := wT1 194 rfl rfl
abbrev wzX2_init : List Cond := .code yX2_init cX2_init 3 none :: W0
theorem hd_X2_init : yX2_init.cls = RX2 ∧ yX2_init.cls ≠ "java/lang/invoke/MethodHandle" ∧ yX2_init.cls ≠ "java/lang/invoke/VarHandle" ∧ (parseMethodDescriptor yX2_init.desc).map (fun d => d.parameters.length) = some 2 := by decide +kernel
theorem m_CO_X2_release : Cond.code yX2_release cX2_release 3 none ∈ W0 := wT3 44 rfl rfl
theorem m_IM_X2_release : Cond.instanceMethod yX2_release ∈ W0 := wT3 42 rfl rfl
theorem m_SE_X2_release : Cond.selects RX2 yX2_release yX2_release ∈ W0 := wT3 43 rfl rfl
abbrev wzX2_release : List Cond := .code yX2_release cX2_release 3 none :: W0
theorem hd_X2_release : yX2_release.cls = RX2 ∧ yX2_release.cls ≠ "java/lang/invoke/MethodHandle" ∧ yX2_release.cls ≠ "java/lang/invoke/VarHandle" ∧ (parseMethodDescriptor yX2_release.desc).map (fun d => d.parameters.length) = some 1 := by decide +kernel
theorem m_CO_X2_store : Cond.code yX2_store cX2_store 4 (some .int) ∈ W0 := wT2 221 rfl rfl
theorem m_IM_X2_store : Cond.instanceMethod yX2_store ∈ W0 := wT2 219 rfl rfl
theorem m_SE_X2_store : Cond.selects RX2 yX2_store yX2_store ∈ W0 := wT2 220 rfl rfl
abbrev wzX2_store : List Cond := .code yX2_store cX2_store 4 (some .int) :: W0
theorem hd_X2_store : yX2_store.cls = RX2 ∧ yX2_store.cls ≠ "java/lang/invoke/MethodHandle" ∧ yX2_store.cls ≠ "java/lang/invoke/VarHandle" ∧ (parseMethodDescriptor yX2_store.desc).map (fun d => d.parameters.length) = some 1 := by decide +kernel
theorem m_CO_X2_take : Cond.code yX2_take cX2_take 9 (some .boolean) ∈ W0 := wT2 208 rfl rfl
theorem m_IM_X2_take : Cond.instanceMethod yX2_take ∈ W0 := wT2 206 rfl rfl
theorem m_SE_X2_take : Cond.selects RX2 yX2_take yX2_take ∈ W0 := wT2 207 rfl rfl
abbrev wzX2_take : List Cond := .code yX2_take cX2_take 9 (some .boolean) :: W0
theorem hd_X2_take : yX2_take.cls = RX2 ∧ yX2_take.cls ≠ "java/lang/invoke/MethodHandle" ∧ yX2_take.cls ≠ "java/lang/invoke/VarHandle" ∧ (parseMethodDescriptor yX2_take.desc).map (fun d => d.parameters.length) = some 2 := by decide +kernel
theorem m_CO_X3_addEntries : Cond.code yX3_addEntries cX3_addEntries 3 none ∈ W0 := wT3 52 rfl rfl
theorem m_IM_X3_addEntries : Cond.instanceMethod yX3_addEntries ∈ W0 := wT3 50 rfl rfl
theorem m_SE_X3_addEntries : Cond.selects RX3 yX3_addEntries yX3_addEntries ∈ W0 := wT3 51 rfl rfl
abbrev wzX3_addEntries : List Cond := .code yX3_addEntries cX3_addEntries 3 none :: W0
theorem hd_X3_addEntries : yX3_addEntries.cls = RX3 ∧ yX3_addEntries.cls ≠ "java/lang/invoke/MethodHandle" ∧ yX3_addEntries.cls ≠ "java/lang/invoke/VarHandle" ∧ (parseMethodDescriptor yX3_addEntries.desc).map (fun d => d.parameters.length) = some 1 := by decide +kernel
theorem m_CO_X3_begin : Cond.code yX3_begin cX3_begin 1 (some .int) ∈ W0 := wT2 159 rfl rfl
theorem m_IM_X3_begin : Cond.instanceMethod yX3_begin ∈ W0 := wT2 157 rfl rfl
theorem m_SE_X3_begin : Cond.selects RX3 yX3_begin yX3_begin ∈ W0 := wT2 158 rfl rfl
abbrev wzX3_begin : List Cond := .code yX3_begin cX3_begin 1 (some .int) :: W0
theorem hd_X3_begin : yX3_begin.cls = RX3 ∧ yX3_begin.cls ≠ "java/lang/invoke/MethodHandle" ∧ yX3_begin.cls ≠ "java/lang/invoke/VarHandle" ∧ (parseMethodDescriptor yX3_begin.desc).map (fun d => d.parameters.length) = some 0 := by decide +kernel
theorem m_CO_X3_findEntry : Cond.code yX3_findEntry cX3_findEntry 4 (some .boolean) ∈ W0 := wT2 164 rfl rfl
theorem m_IM_X3_findEntry : Cond.instanceMethod yX3_findEntry ∈ W0 := wT2 162 rfl rfl
theorem m_SE_X3_findEntry : Cond.selects RX3 yX3_findEntry yX3_findEntry ∈ W0 := wT2 163 rfl rfl
abbrev wzX3_findEntry : List Cond := .code yX3_findEntry cX3_findEntry 4 (some .boolean) :: W0
theorem hd_X3_findEntry : yX3_findEntry.cls = RX3 ∧ yX3_findEntry.cls ≠ "java/lang/invoke/MethodHandle" ∧ yX3_findEntry.cls ≠ "java/lang/invoke/VarHandle" ∧ (parseMethodDescriptor yX3_findEntry.desc).map (fun d => d.parameters.length) = some 2 := by decide +kernel
theorem m_CO_X3_init : Cond.code yX3_init cX3_init 3 none ∈ W0 := wT1 140 rfl rfl
theorem m_IM_X3_init : Cond.instanceMethod yX3_init ∈ W0 := wT1 139 rfl rfl
abbrev wzX3_init : List Cond := .code yX3_init cX3_init 3 none :: W0
theorem hd_X3_init : yX3_init.cls = RX3 ∧ yX3_init.cls ≠ "java/lang/invoke/MethodHandle" ∧ yX3_init.cls ≠ "java/lang/invoke/VarHandle" ∧ (parseMethodDescriptor yX3_init.desc).map (fun d => d.parameters.length) = some 2 := by decide +kernel
theorem m_CO_X3_isLast : Cond.code yX3_isLast cX3_isLast 1 (some .boolean) ∈ W0 := wT2 176 rfl rfl
theorem m_IM_X3_isLast : Cond.instanceMethod yX3_isLast ∈ W0 := wT2 174 rfl rfl
theorem m_SE_X3_isLast : Cond.selects RX3 yX3_isLast yX3_isLast ∈ W0 := wT2 175 rfl rfl
abbrev wzX3_isLast : List Cond := .code yX3_isLast cX3_isLast 1 (some .boolean) :: W0
theorem hd_X3_isLast : yX3_isLast.cls = RX3 ∧ yX3_isLast.cls ≠ "java/lang/invoke/MethodHandle" ∧ yX3_isLast.cls ≠ "java/lang/invoke/VarHandle" ∧ (parseMethodDescriptor yX3_isLast.desc).map (fun d => d.parameters.length) = some 0 := by decide +kernel
theorem m_CO_X3_keepRoom : Cond.code yX3_keepRoom cX3_keepRoom 2 none ∈ W0 := wT2 168 rfl rfl
theorem m_IM_X3_keepRoom : Cond.instanceMethod yX3_keepRoom ∈ W0 := wT2 167 rfl rfl
theorem m_SE_X3_keepRoom : Cond.selects RX3 yX3_keepRoom yX3_keepRoom ∈ W0 := wS1 5 12 rfl rfl
abbrev wzX3_keepRoom : List Cond := .code yX3_keepRoom cX3_keepRoom 2 none :: W0
theorem hd_X3_keepRoom : yX3_keepRoom.cls = RX3 ∧ yX3_keepRoom.cls ≠ "java/lang/invoke/MethodHandle" ∧ yX3_keepRoom.cls ≠ "java/lang/invoke/VarHandle" ∧ (parseMethodDescriptor yX3_keepRoom.desc).map (fun d => d.parameters.length) = some 1 := by decide +kernel
theorem m_CO_X3_step : Cond.code yX3_step cX3_step 1 (some .int) ∈ W0 := wT2 180 rfl rfl
theorem m_IM_X3_step : Cond.instanceMethod yX3_step ∈ W0 := wT2 178 rfl rfl
theorem m_SE_X3_step : Cond.selects RX3 yX3_step yX3_step ∈ W0 := wT2 179 rfl rfl
abbrev wzX3_step : List Cond := .code yX3_step cX3_step 1 (some .int) :: W0
theorem hd_X3_step : yX3_step.cls = RX3 ∧ yX3_step.cls ≠ "java/lang/invoke/MethodHandle" ∧ yX3_step.cls ≠ "java/lang/invoke/VarHandle" ∧ (parseMethodDescriptor yX3_step.desc).map (fun d => d.parameters.length) = some 0 := by decide +kernel
theorem m_CO_X3_storeLink : Cond.code yX3_storeLink cX3_storeLink 1 (some .int) ∈ W0 := wT3 12 rfl rfl
theorem m_IM_X3_storeLink : Cond.instanceMethod yX3_storeLink ∈ W0 := wT3 10 rfl rfl
theorem m_SE_X3_storeLink : Cond.selects RX3 yX3_storeLink yX3_storeLink ∈ W0 := wT3 11 rfl rfl
abbrev wzX3_storeLink : List Cond := .code yX3_storeLink cX3_storeLink 1 (some .int) :: W0
theorem hd_X3_storeLink : yX3_storeLink.cls = RX3 ∧ yX3_storeLink.cls ≠ "java/lang/invoke/MethodHandle" ∧ yX3_storeLink.cls ≠ "java/lang/invoke/VarHandle" ∧ (parseMethodDescriptor yX3_storeLink.desc).map (fun d => d.parameters.length) = some 0 := by decide +kernel
theorem m_CO_X3_storeWithoutEntry : Cond.code yX3_storeWithoutEntry cX3_storeWithoutEntry 1 (some .int) ∈ W0 := wT3 40 rfl rfl
theorem m_IM_X3_storeWithoutEntry : Cond.instanceMethod yX3_storeWithoutEntry ∈ W0 := wT3 38 rfl rfl
theorem m_SE_X3_storeWithoutEntry : Cond.selects RX3 yX3_storeWithoutEntry yX3_storeWithoutEntry ∈ W0 := wT3 39 rfl rfl
abbrev wzX3_storeWithoutEntry : List Cond := .code yX3_storeWithoutEntry cX3_storeWithoutEntry 1 (some .int) :: W0
theorem hd_X3_storeWithoutEntry : yX3_storeWithoutEntry.cls = RX3 ∧ yX3_storeWithoutEntry.cls ≠ "java/lang/invoke/MethodHandle" ∧ yX3_storeWithoutEntry.cls ≠ "java/lang/invoke/VarHandle" ∧ (parseMethodDescriptor yX3_storeWithoutEntry.desc).map (fun d => d.parameters.length) = some 0 := by decide +kernel
theorem m_CO_X3_takeEntry : Cond.code yX3_takeEntry cX3_takeEntry 3 (some .boolean) ∈ W0 := wT2 190 rfl rfl
theorem m_IM_X3_takeEntry : Cond.instanceMethod yX3_takeEntry ∈ W0 := wT2 188 rfl rfl
theorem m_SE_X3_takeEntry : Cond.selects RX3 yX3_takeEntry yX3_takeEntry ∈ W0 := wT2 189 rfl rfl
abbrev wzX3_takeEntry : List Cond := .code yX3_takeEntry cX3_takeEntry 3 (some .boolean) :: W0
theorem hd_X3_takeEntry : yX3_takeEntry.cls = RX3 ∧ yX3_takeEntry.cls ≠ "java/lang/invoke/MethodHandle" ∧ yX3_takeEntry.cls ≠ "java/lang/invoke/VarHandle" ∧ (parseMethodDescriptor yX3_takeEntry.desc).map (fun d => d.parameters.length) = some 1 := by decide +kernel
theorem m_CO_X4_fillNew : Cond.code yX4_fillNew cX4_fillNew 7 none ∈ W0 := wT2 77 rfl rfl
theorem m_IM_X4_fillNew : Cond.instanceMethod yX4_fillNew ∈ W0 := wT2 75 rfl rfl
theorem m_SE_X4_fillNew : Cond.selects RX4 yX4_fillNew yX4_fillNew ∈ W0 := wT2 76 rfl rfl
abbrev wzX4_fillNew : List Cond := .code yX4_fillNew cX4_fillNew 7 none :: W0
theorem hd_X4_fillNew : yX4_fillNew.cls = RX4 ∧ yX4_fillNew.cls ≠ "java/lang/invoke/MethodHandle" ∧ yX4_fillNew.cls ≠ "java/lang/invoke/VarHandle" ∧ (parseMethodDescriptor yX4_fillNew.desc).map (fun d => d.parameters.length) = some 3 := by decide +kernel
theorem m_CO_X4_freeBlocks : Cond.code yX4_freeBlocks cX4_freeBlocks 8 (some .int) ∈ W0 := wT3 63 rfl rfl
theorem m_IM_X4_freeBlocks : Cond.instanceMethod yX4_freeBlocks ∈ W0 := wT3 61 rfl rfl
theorem m_SE_X4_freeBlocks : Cond.selects RX4 yX4_freeBlocks yX4_freeBlocks ∈ W0 := wT3 62 rfl rfl
abbrev wzX4_freeBlocks : List Cond := .code yX4_freeBlocks cX4_freeBlocks 8 (some .int) :: W0
theorem hd_X4_freeBlocks : yX4_freeBlocks.cls = RX4 ∧ yX4_freeBlocks.cls ≠ "java/lang/invoke/MethodHandle" ∧ yX4_freeBlocks.cls ≠ "java/lang/invoke/VarHandle" ∧ (parseMethodDescriptor yX4_freeBlocks.desc).map (fun d => d.parameters.length) = some 0 := by decide +kernel
theorem m_CO_X4_init : Cond.code yX4_init cX4_init 1 none ∈ W0 := wT1 129 rfl rfl
theorem m_IM_X4_init : Cond.instanceMethod yX4_init ∈ W0 := wT1 128 rfl rfl
abbrev wzX4_init : List Cond := .code yX4_init cX4_init 1 none :: W0
theorem hd_X4_init : yX4_init.cls = RX4 ∧ yX4_init.cls ≠ "java/lang/invoke/MethodHandle" ∧ yX4_init.cls ≠ "java/lang/invoke/VarHandle" ∧ (parseMethodDescriptor yX4_init.desc).map (fun d => d.parameters.length) = some 0 := by decide +kernel
theorem m_CO_X4_isFree : Cond.code yX4_isFree cX4_isFree 3 (some .boolean) ∈ W0 := wT2 198 rfl rfl
theorem m_IM_X4_isFree : Cond.instanceMethod yX4_isFree ∈ W0 := wT2 196 rfl rfl
theorem m_SE_X4_isFree : Cond.selects RX4 yX4_isFree yX4_isFree ∈ W0 := wT2 197 rfl rfl
abbrev wzX4_isFree : List Cond := .code yX4_isFree cX4_isFree 3 (some .boolean) :: W0
theorem hd_X4_isFree : yX4_isFree.cls = RX4 ∧ yX4_isFree.cls ≠ "java/lang/invoke/MethodHandle" ∧ yX4_isFree.cls ≠ "java/lang/invoke/VarHandle" ∧ (parseMethodDescriptor yX4_isFree.desc).map (fun d => d.parameters.length) = some 2 := by decide +kernel
theorem m_CO_X4_leastFree : Cond.code yX4_leastFree cX4_leastFree 4 (some .int) ∈ W0 := wT2 194 rfl rfl
theorem m_IM_X4_leastFree : Cond.instanceMethod yX4_leastFree ∈ W0 := wT2 192 rfl rfl
theorem m_SE_X4_leastFree : Cond.selects RX4 yX4_leastFree yX4_leastFree ∈ W0 := wT2 193 rfl rfl
abbrev wzX4_leastFree : List Cond := .code yX4_leastFree cX4_leastFree 4 (some .int) :: W0
theorem hd_X4_leastFree : yX4_leastFree.cls = RX4 ∧ yX4_leastFree.cls ≠ "java/lang/invoke/MethodHandle" ∧ yX4_leastFree.cls ≠ "java/lang/invoke/VarHandle" ∧ (parseMethodDescriptor yX4_leastFree.desc).map (fun d => d.parameters.length) = some 1 := by decide +kernel
theorem m_CO_X4_setFree : Cond.code yX4_setFree cX4_setFree 6 none ∈ W0 := wT2 85 rfl rfl
theorem m_IM_X4_setFree : Cond.instanceMethod yX4_setFree ∈ W0 := wT2 83 rfl rfl
theorem m_SE_X4_setFree : Cond.selects RX4 yX4_setFree yX4_setFree ∈ W0 := wT2 84 rfl rfl
abbrev wzX4_setFree : List Cond := .code yX4_setFree cX4_setFree 6 none :: W0
theorem hd_X4_setFree : yX4_setFree.cls = RX4 ∧ yX4_setFree.cls ≠ "java/lang/invoke/MethodHandle" ∧ yX4_setFree.cls ≠ "java/lang/invoke/VarHandle" ∧ (parseMethodDescriptor yX4_setFree.desc).map (fun d => d.parameters.length) = some 3 := by decide +kernel
theorem m_CO_X5_byteAt : Cond.code yX5_byteAt cX5_byteAt 2 (some .int) ∈ W0 := wT3 87 rfl rfl
theorem m_IM_X5_byteAt : Cond.instanceMethod yX5_byteAt ∈ W0 := wT3 85 rfl rfl
theorem m_SE_X5_byteAt : Cond.selects RX5 yX5_byteAt yX5_byteAt ∈ W0 := wT3 86 rfl rfl
abbrev wzX5_byteAt : List Cond := .code yX5_byteAt cX5_byteAt 2 (some .int) :: W0
theorem hd_X5_byteAt : yX5_byteAt.cls = RX5 ∧ yX5_byteAt.cls ≠ "java/lang/invoke/MethodHandle" ∧ yX5_byteAt.cls ≠ "java/lang/invoke/VarHandle" ∧ (parseMethodDescriptor yX5_byteAt.desc).map (fun d => d.parameters.length) = some 1 := by decide +kernel
theorem m_CO_X5_codedAt : Cond.code yX5_codedAt cX5_codedAt 10 (some .int) ∈ W0 := wT2 147 rfl rfl
theorem m_IM_X5_codedAt : Cond.instanceMethod yX5_codedAt ∈ W0 := wT2 145 rfl rfl
theorem m_SE_X5_codedAt : Cond.selects RX5 yX5_codedAt yX5_codedAt ∈ W0 := wT2 146 rfl rfl
abbrev wzX5_codedAt : List Cond := .code yX5_codedAt cX5_codedAt 10 (some .int) :: W0
theorem hd_X5_codedAt : yX5_codedAt.cls = RX5 ∧ yX5_codedAt.cls ≠ "java/lang/invoke/MethodHandle" ∧ yX5_codedAt.cls ≠ "java/lang/invoke/VarHandle" ∧ (parseMethodDescriptor yX5_codedAt.desc).map (fun d => d.parameters.length) = some 1 := by decide +kernel
theorem m_CO_X5_fillGap : Cond.code yX5_fillGap cX5_fillGap 2 none ∈ W0 := wT1 79 rfl rfl
theorem m_IM_X5_fillGap : Cond.instanceMethod yX5_fillGap ∈ W0 := wT1 77 rfl rfl
theorem m_SE_X5_fillGap : Cond.selects RX5 yX5_fillGap yX5_fillGap ∈ W0 := wT1 78 rfl rfl
abbrev wzX5_fillGap : List Cond := .code yX5_fillGap cX5_fillGap 2 none :: W0
theorem hd_X5_fillGap : yX5_fillGap.cls = RX5 ∧ yX5_fillGap.cls ≠ "java/lang/invoke/MethodHandle" ∧ yX5_fillGap.cls ≠ "java/lang/invoke/VarHandle" ∧ (parseMethodDescriptor yX5_fillGap.desc).map (fun d => d.parameters.length) = some 0 := by decide +kernel
theorem m_CO_X5_findSyncs : Cond.code yX5_findSyncs cX5_findSyncs 6 (some .int) ∈ W0 := wT2 135 rfl rfl
theorem m_IM_X5_findSyncs : Cond.instanceMethod yX5_findSyncs ∈ W0 := wT2 133 rfl rfl
theorem m_SE_X5_findSyncs : Cond.selects RX5 yX5_findSyncs yX5_findSyncs ∈ W0 := wT2 134 rfl rfl
abbrev wzX5_findSyncs : List Cond := .code yX5_findSyncs cX5_findSyncs 6 (some .int) :: W0
theorem hd_X5_findSyncs : yX5_findSyncs.cls = RX5 ∧ yX5_findSyncs.cls ≠ "java/lang/invoke/MethodHandle" ∧ yX5_findSyncs.cls ≠ "java/lang/invoke/VarHandle" ∧ (parseMethodDescriptor yX5_findSyncs.desc).map (fun d => d.parameters.length) = some 0 := by decide +kernel
theorem m_CO_X5_hasByte : Cond.code yX5_hasByte cX5_hasByte 2 (some .boolean) ∈ W0 := wT3 83 rfl rfl
theorem m_IM_X5_hasByte : Cond.instanceMethod yX5_hasByte ∈ W0 := wT3 81 rfl rfl
theorem m_SE_X5_hasByte : Cond.selects RX5 yX5_hasByte yX5_hasByte ∈ W0 := wT3 82 rfl rfl
abbrev wzX5_hasByte : List Cond := .code yX5_hasByte cX5_hasByte 2 (some .boolean) :: W0
theorem hd_X5_hasByte : yX5_hasByte.cls = RX5 ∧ yX5_hasByte.cls ≠ "java/lang/invoke/MethodHandle" ∧ yX5_hasByte.cls ≠ "java/lang/invoke/VarHandle" ∧ (parseMethodDescriptor yX5_hasByte.desc).map (fun d => d.parameters.length) = some 1 := by decide +kernel
theorem m_CO_X5_init : Cond.code yX5_init cX5_init 3 none ∈ W0 := wT1 53 rfl rfl
theorem m_IM_X5_init : Cond.instanceMethod yX5_init ∈ W0 := wT1 52 rfl rfl
abbrev wzX5_init : List Cond := .code yX5_init cX5_init 3 none :: W0
theorem hd_X5_init : yX5_init.cls = RX5 ∧ yX5_init.cls ≠ "java/lang/invoke/MethodHandle" ∧ yX5_init.cls ≠ "java/lang/invoke/VarHandle" ∧ (parseMethodDescriptor yX5_init.desc).map (fun d => d.parameters.length) = some 1 := by decide +kernel
theorem m_CO_X5_layRing : Cond.code yX5_layRing cX5_layRing 3 none ∈ W0 := wT2 70 rfl rfl
theorem m_IM_X5_layRing : Cond.instanceMethod yX5_layRing ∈ W0 := wT2 68 rfl rfl
theorem m_SE_X5_layRing : Cond.selects RX5 yX5_layRing yX5_layRing ∈ W0 := wT2 69 rfl rfl
abbrev wzX5_layRing : List Cond := .code yX5_layRing cX5_layRing 3 none :: W0
theorem hd_X5_layRing : yX5_layRing.cls = RX5 ∧ yX5_layRing.cls ≠ "java/lang/invoke/MethodHandle" ∧ yX5_layRing.cls ≠ "java/lang/invoke/VarHandle" ∧ (parseMethodDescriptor yX5_layRing.desc).map (fun d => d.parameters.length) = some 2 := by decide +kernel
theorem m_CO_X5_putBits : Cond.code yX5_putBits cX5_putBits 11 none ∈ W0 := wT1 87 rfl rfl
theorem m_IM_X5_putBits : Cond.instanceMethod yX5_putBits ∈ W0 := wT1 85 rfl rfl
theorem m_SE_X5_putBits : Cond.selects RX5 yX5_putBits yX5_putBits ∈ W0 := wT1 86 rfl rfl
abbrev wzX5_putBits : List Cond := .code yX5_putBits cX5_putBits 11 none :: W0
theorem hd_X5_putBits : yX5_putBits.cls = RX5 ∧ yX5_putBits.cls ≠ "java/lang/invoke/MethodHandle" ∧ yX5_putBits.cls ≠ "java/lang/invoke/VarHandle" ∧ (parseMethodDescriptor yX5_putBits.desc).map (fun d => d.parameters.length) = some 3 := by decide +kernel
theorem m_CO_X5_putCoded : Cond.code yX5_putCoded cX5_putCoded 3 none ∈ W0 := wT1 96 rfl rfl
theorem m_IM_X5_putCoded : Cond.instanceMethod yX5_putCoded ∈ W0 := wT1 94 rfl rfl
theorem m_SE_X5_putCoded : Cond.selects RX5 yX5_putCoded yX5_putCoded ∈ W0 := wT1 95 rfl rfl
abbrev wzX5_putCoded : List Cond := .code yX5_putCoded cX5_putCoded 3 none :: W0
theorem hd_X5_putCoded : yX5_putCoded.cls = RX5 ∧ yX5_putCoded.cls ≠ "java/lang/invoke/MethodHandle" ∧ yX5_putCoded.cls ≠ "java/lang/invoke/VarHandle" ∧ (parseMethodDescriptor yX5_putCoded.desc).map (fun d => d.parameters.length) = some 2 := by decide +kernel
theorem m_CO_X5_putData : Cond.code yX5_putData cX5_putData 6 none ∈ W0 := wT1 91 rfl rfl
theorem m_IM_X5_putData : Cond.instanceMethod yX5_putData ∈ W0 := wT1 89 rfl rfl
theorem m_SE_X5_putData : Cond.selects RX5 yX5_putData yX5_putData ∈ W0 := wT1 90 rfl rfl
abbrev wzX5_putData : List Cond := .code yX5_putData cX5_putData 6 none :: W0
theorem hd_X5_putData : yX5_putData.cls = RX5 ∧ yX5_putData.cls ≠ "java/lang/invoke/MethodHandle" ∧ yX5_putData.cls ≠ "java/lang/invoke/VarHandle" ∧ (parseMethodDescriptor yX5_putData.desc).map (fun d => d.parameters.length) = some 2 := by decide +kernel
theorem m_CO_X5_putHeader : Cond.code yX5_putHeader cX5_putHeader 7 none ∈ W0 := wT2 66 rfl rfl
theorem m_IM_X5_putHeader : Cond.instanceMethod yX5_putHeader ∈ W0 := wT2 64 rfl rfl
theorem m_SE_X5_putHeader : Cond.selects RX5 yX5_putHeader yX5_putHeader ∈ W0 := wT2 65 rfl rfl
abbrev wzX5_putHeader : List Cond := .code yX5_putHeader cX5_putHeader 7 none :: W0
theorem hd_X5_putHeader : yX5_putHeader.cls = RX5 ∧ yX5_putHeader.cls ≠ "java/lang/invoke/MethodHandle" ∧ yX5_putHeader.cls ≠ "java/lang/invoke/VarHandle" ∧ (parseMethodDescriptor yX5_putHeader.desc).map (fun d => d.parameters.length) = some 4 := by decide +kernel
theorem m_CO_X5_putSync : Cond.code yX5_putSync cX5_putSync 3 none ∈ W0 := wT1 83 rfl rfl
theorem m_IM_X5_putSync : Cond.instanceMethod yX5_putSync ∈ W0 := wT1 81 rfl rfl
theorem m_SE_X5_putSync : Cond.selects RX5 yX5_putSync yX5_putSync ∈ W0 := wT1 82 rfl rfl
abbrev wzX5_putSync : List Cond := .code yX5_putSync cX5_putSync 3 none :: W0
theorem hd_X5_putSync : yX5_putSync.cls = RX5 ∧ yX5_putSync.cls ≠ "java/lang/invoke/MethodHandle" ∧ yX5_putSync.cls ≠ "java/lang/invoke/VarHandle" ∧ (parseMethodDescriptor yX5_putSync.desc).map (fun d => d.parameters.length) = some 1 := by decide +kernel
theorem m_CO_X5_rotate : Cond.code yX5_rotate cX5_rotate 10 none ∈ W0 := wT3 105 rfl rfl
theorem m_IM_X5_rotate : Cond.instanceMethod yX5_rotate ∈ W0 := wT3 103 rfl rfl
theorem m_SE_X5_rotate : Cond.selects RX5 yX5_rotate yX5_rotate ∈ W0 := wT3 104 rfl rfl
abbrev wzX5_rotate : List Cond := .code yX5_rotate cX5_rotate 10 none :: W0
theorem hd_X5_rotate : yX5_rotate.cls = RX5 ∧ yX5_rotate.cls ≠ "java/lang/invoke/MethodHandle" ∧ yX5_rotate.cls ≠ "java/lang/invoke/VarHandle" ∧ (parseMethodDescriptor yX5_rotate.desc).map (fun d => d.parameters.length) = some 2 := by decide +kernel
theorem m_CO_X5_sizeOf : Cond.code yX5_sizeOf cX5_sizeOf 1 (some .int) ∈ W0 := wT1 50 rfl rfl
theorem m_ST_X5_sizeOf : Cond.static yX5_sizeOf ∈ W0 := wT1 49 rfl rfl
abbrev wzX5_sizeOf : List Cond := .code yX5_sizeOf cX5_sizeOf 1 (some .int) :: W0
theorem hd_X5_sizeOf : yX5_sizeOf.cls = RX5 ∧ yX5_sizeOf.cls ≠ "java/lang/invoke/MethodHandle" ∧ yX5_sizeOf.cls ≠ "java/lang/invoke/VarHandle" ∧ (parseMethodDescriptor yX5_sizeOf.desc).map (fun d => d.parameters.length) = some 1 := by decide +kernel
theorem m_CO_X5_startOf : Cond.code yX5_startOf cX5_startOf 2 (some .int) ∈ W0 := wT2 139 rfl rfl
theorem m_IM_X5_startOf : Cond.instanceMethod yX5_startOf ∈ W0 := wT2 137 rfl rfl
theorem m_SE_X5_startOf : Cond.selects RX5 yX5_startOf yX5_startOf ∈ W0 := wT2 138 rfl rfl
abbrev wzX5_startOf : List Cond := .code yX5_startOf cX5_startOf 2 (some .int) :: W0
theorem hd_X5_startOf : yX5_startOf.cls = RX5 ∧ yX5_startOf.cls ≠ "java/lang/invoke/MethodHandle" ∧ yX5_startOf.cls ≠ "java/lang/invoke/VarHandle" ∧ (parseMethodDescriptor yX5_startOf.desc).map (fun d => d.parameters.length) = some 1 := by decide +kernel
theorem m_CO_X5_takeData : Cond.code yX5_takeData cX5_takeData 7 (some .int) ∈ W0 := wT2 153 rfl rfl
theorem m_IM_X5_takeData : Cond.instanceMethod yX5_takeData ∈ W0 := wT2 151 rfl rfl
theorem m_SE_X5_takeData : Cond.selects RX5 yX5_takeData yX5_takeData ∈ W0 := wT2 152 rfl rfl
abbrev wzX5_takeData : List Cond := .code yX5_takeData cX5_takeData 7 (some .int) :: W0
theorem hd_X5_takeData : yX5_takeData.cls = RX5 ∧ yX5_takeData.cls ≠ "java/lang/invoke/MethodHandle" ∧ yX5_takeData.cls ≠ "java/lang/invoke/VarHandle" ∧ (parseMethodDescriptor yX5_takeData.desc).map (fun d => d.parameters.length) = some 2 := by decide +kernel
theorem m_CO_X6_init : Cond.code yX6_init cX6_init 1 none ∈ W0 := wT1 24 rfl rfl
theorem m_IM_X6_init : Cond.instanceMethod yX6_init ∈ W0 := wT1 23 rfl rfl
abbrev wzX6_init : List Cond := .code yX6_init cX6_init 1 none :: W0
theorem hd_X6_init : yX6_init.cls = RX6 ∧ yX6_init.cls ≠ "java/lang/invoke/MethodHandle" ∧ yX6_init.cls ≠ "java/lang/invoke/VarHandle" ∧ (parseMethodDescriptor yX6_init.desc).map (fun d => d.parameters.length) = some 0 := by decide +kernel
theorem m_CO_X6_tell : Cond.code yX6_tell cX6_tell 4 (some .int) ∈ W0 := wT2 102 rfl rfl
theorem m_IM_X6_tell : Cond.instanceMethod yX6_tell ∈ W0 := wT2 100 rfl rfl
theorem m_SE_X6_tell : Cond.selects RX6 yX6_tell yX6_tell ∈ W0 := wT2 101 rfl rfl
abbrev wzX6_tell : List Cond := .code yX6_tell cX6_tell 4 (some .int) :: W0
theorem hd_X6_tell : yX6_tell.cls = RX6 ∧ yX6_tell.cls ≠ "java/lang/invoke/MethodHandle" ∧ yX6_tell.cls ≠ "java/lang/invoke/VarHandle" ∧ (parseMethodDescriptor yX6_tell.desc).map (fun d => d.parameters.length) = some 3 := by decide +kernel
theorem m_CO_X7_blocksNeeded : Cond.code yX7_blocksNeeded cX7_blocksNeeded 1 (some .int) ∈ W0 := wT2 203 rfl rfl
theorem m_ST_X7_blocksNeeded : Cond.static yX7_blocksNeeded ∈ W0 := wT2 202 rfl rfl
abbrev wzX7_blocksNeeded : List Cond := .code yX7_blocksNeeded cX7_blocksNeeded 1 (some .int) :: W0
theorem hd_X7_blocksNeeded : yX7_blocksNeeded.cls = RX7 ∧ yX7_blocksNeeded.cls ≠ "java/lang/invoke/MethodHandle" ∧ yX7_blocksNeeded.cls ≠ "java/lang/invoke/VarHandle" ∧ (parseMethodDescriptor yX7_blocksNeeded.desc).map (fun d => d.parameters.length) = some 1 := by decide +kernel
theorem m_CO_X7_clearRow : Cond.code yX7_clearRow cX7_clearRow 4 none ∈ W0 := wT2 80 rfl rfl
theorem m_ST_X7_clearRow : Cond.static yX7_clearRow ∈ W0 := wT2 79 rfl rfl
abbrev wzX7_clearRow : List Cond := .code yX7_clearRow cX7_clearRow 4 none :: W0
theorem hd_X7_clearRow : yX7_clearRow.cls = RX7 ∧ yX7_clearRow.cls ≠ "java/lang/invoke/MethodHandle" ∧ yX7_clearRow.cls ≠ "java/lang/invoke/VarHandle" ∧ (parseMethodDescriptor yX7_clearRow.desc).map (fun d => d.parameters.length) = some 3 := by decide +kernel
theorem m_CO_X7_count : Cond.code yX7_count cX7_count 2 (some .int) ∈ W0 := wT3 127 rfl rfl
theorem m_IM_X7_count : Cond.instanceMethod yX7_count ∈ W0 := wT3 125 rfl rfl
theorem m_SE_X7_count : Cond.selects RX7 yX7_count yX7_count ∈ W0 := wT3 126 rfl rfl
abbrev wzX7_count : List Cond := .code yX7_count cX7_count 2 (some .int) :: W0
theorem hd_X7_count : yX7_count.cls = RX7 ∧ yX7_count.cls ≠ "java/lang/invoke/MethodHandle" ∧ yX7_count.cls ≠ "java/lang/invoke/VarHandle" ∧ (parseMethodDescriptor yX7_count.desc).map (fun d => d.parameters.length) = some 1 := by decide +kernel
theorem m_CO_X7_end : Cond.code yX7_end cX7_end 2 (some .int) ∈ W0 := wT2 42 rfl rfl
theorem m_IM_X7_end : Cond.instanceMethod yX7_end ∈ W0 := wT2 40 rfl rfl
theorem m_SE_X7_end : Cond.selects RX7 yX7_end yX7_end ∈ W0 := wT2 41 rfl rfl
abbrev wzX7_end : List Cond := .code yX7_end cX7_end 2 (some .int) :: W0
theorem hd_X7_end : yX7_end.cls = RX7 ∧ yX7_end.cls ≠ "java/lang/invoke/MethodHandle" ∧ yX7_end.cls ≠ "java/lang/invoke/VarHandle" ∧ (parseMethodDescriptor yX7_end.desc).map (fun d => d.parameters.length) = some 1 := by decide +kernel
theorem m_CO_X7_feed : Cond.code yX7_feed cX7_feed 6 (some .int) ∈ W0 := wT2 30 rfl rfl
theorem m_IM_X7_feed : Cond.instanceMethod yX7_feed ∈ W0 := wT2 28 rfl rfl
theorem m_SE_X7_feed : Cond.selects RX7 yX7_feed yX7_feed ∈ W0 := wT2 29 rfl rfl
abbrev wzX7_feed : List Cond := .code yX7_feed cX7_feed 6 (some .int) :: W0
theorem hd_X7_feed : yX7_feed.cls = RX7 ∧ yX7_feed.cls ≠ "java/lang/invoke/MethodHandle" ∧ yX7_feed.cls ≠ "java/lang/invoke/VarHandle" ∧ (parseMethodDescriptor yX7_feed.desc).map (fun d => d.parameters.length) = some 5 := by decide +kernel
theorem m_CO_X7_fillEntry : Cond.code yX7_fillEntry cX7_fillEntry 6 none ∈ W0 := wT3 6 rfl rfl
theorem m_IM_X7_fillEntry : Cond.instanceMethod yX7_fillEntry ∈ W0 := wT3 5 rfl rfl
theorem m_SE_X7_fillEntry : Cond.selects RX7 yX7_fillEntry yX7_fillEntry ∈ W0 := wS1 10 10 rfl rfl
abbrev wzX7_fillEntry : List Cond := .code yX7_fillEntry cX7_fillEntry 6 none :: W0
theorem hd_X7_fillEntry : yX7_fillEntry.cls = RX7 ∧ yX7_fillEntry.cls ≠ "java/lang/invoke/MethodHandle" ∧ yX7_fillEntry.cls ≠ "java/lang/invoke/VarHandle" ∧ (parseMethodDescriptor yX7_fillEntry.desc).map (fun d => d.parameters.length) = some 5 := by decide +kernel
theorem m_CO_X7_fillName : Cond.code yX7_fillName cX7_fillName 5 none ∈ W0 := wT2 91 rfl rfl
theorem m_ST_X7_fillName : Cond.static yX7_fillName ∈ W0 := wT2 90 rfl rfl
abbrev wzX7_fillName : List Cond := .code yX7_fillName cX7_fillName 5 none :: W0
theorem hd_X7_fillName : yX7_fillName.cls = RX7 ∧ yX7_fillName.cls ≠ "java/lang/invoke/MethodHandle" ∧ yX7_fillName.cls ≠ "java/lang/invoke/VarHandle" ∧ (parseMethodDescriptor yX7_fillName.desc).map (fun d => d.parameters.length) = some 4 := by decide +kernel
theorem m_CO_X7_format : Cond.code yX7_format cX7_format 4 (some .int) ∈ W0 := wT2 46 rfl rfl
theorem m_IM_X7_format : Cond.instanceMethod yX7_format ∈ W0 := wT2 44 rfl rfl
theorem m_SE_X7_format : Cond.selects RX7 yX7_format yX7_format ∈ W0 := wT2 45 rfl rfl
abbrev wzX7_format : List Cond := .code yX7_format cX7_format 4 (some .int) :: W0
theorem hd_X7_format : yX7_format.cls = RX7 ∧ yX7_format.cls ≠ "java/lang/invoke/MethodHandle" ∧ yX7_format.cls ≠ "java/lang/invoke/VarHandle" ∧ (parseMethodDescriptor yX7_format.desc).map (fun d => d.parameters.length) = some 3 := by decide +kernel
theorem m_CO_X7_hasName : Cond.code yX7_hasName cX7_hasName 5 (some .boolean) ∈ W0 := wT2 172 rfl rfl
theorem m_ST_X7_hasName : Cond.static yX7_hasName ∈ W0 := wT2 171 rfl rfl
abbrev wzX7_hasName : List Cond := .code yX7_hasName cX7_hasName 5 (some .boolean) :: W0
theorem hd_X7_hasName : yX7_hasName.cls = RX7 ∧ yX7_hasName.cls ≠ "java/lang/invoke/MethodHandle" ∧ yX7_hasName.cls ≠ "java/lang/invoke/VarHandle" ∧ (parseMethodDescriptor yX7_hasName.desc).map (fun d => d.parameters.length) = some 4 := by decide +kernel
theorem m_CO_X7_info : Cond.code yX7_info cX7_info 2 (some .int) ∈ W0 := wT3 58 rfl rfl
theorem m_IM_X7_info : Cond.instanceMethod yX7_info ∈ W0 := wT3 56 rfl rfl
theorem m_SE_X7_info : Cond.selects RX7 yX7_info yX7_info ∈ W0 := wT3 57 rfl rfl
abbrev wzX7_info : List Cond := .code yX7_info cX7_info 2 (some .int) :: W0
theorem hd_X7_info : yX7_info.cls = RX7 ∧ yX7_info.cls ≠ "java/lang/invoke/MethodHandle" ∧ yX7_info.cls ≠ "java/lang/invoke/VarHandle" ∧ (parseMethodDescriptor yX7_info.desc).map (fun d => d.parameters.length) = some 0 := by decide +kernel
theorem m_CO_X7_init : Cond.code yX7_init cX7_init 1 none ∈ W0 := wT1 16 rfl rfl
theorem m_IM_X7_init : Cond.instanceMethod yX7_init ∈ W0 := wT1 15 rfl rfl
abbrev wzX7_init : List Cond := .code yX7_init cX7_init 1 none :: W0
theorem hd_X7_init : yX7_init.cls = RX7 ∧ yX7_init.cls ≠ "java/lang/invoke/MethodHandle" ∧ yX7_init.cls ≠ "java/lang/invoke/VarHandle" ∧ (parseMethodDescriptor yX7_init.desc).map (fun d => d.parameters.length) = some 0 := by decide +kernel
theorem m_CO_X7_list : Cond.code yX7_list cX7_list 3 (some .int) ∈ W0 := wT3 48 rfl rfl
theorem m_IM_X7_list : Cond.instanceMethod yX7_list ∈ W0 := wT3 46 rfl rfl
theorem m_SE_X7_list : Cond.selects RX7 yX7_list yX7_list ∈ W0 := wT3 47 rfl rfl
abbrev wzX7_list : List Cond := .code yX7_list cX7_list 3 (some .int) :: W0
theorem hd_X7_list : yX7_list.cls = RX7 ∧ yX7_list.cls ≠ "java/lang/invoke/MethodHandle" ∧ yX7_list.cls ≠ "java/lang/invoke/VarHandle" ∧ (parseMethodDescriptor yX7_list.desc).map (fun d => d.parameters.length) = some 0 := by decide +kernel
theorem m_CO_X7_load : Cond.code yX7_load cX7_load 4 (some .int) ∈ W0 := wT3 17 rfl rfl
theorem m_IM_X7_load : Cond.instanceMethod yX7_load ∈ W0 := wT3 15 rfl rfl
theorem m_SE_X7_load : Cond.selects RX7 yX7_load yX7_load ∈ W0 := wT3 16 rfl rfl
abbrev wzX7_load : List Cond := .code yX7_load cX7_load 4 (some .int) :: W0
theorem hd_X7_load : yX7_load.cls = RX7 ∧ yX7_load.cls ≠ "java/lang/invoke/MethodHandle" ∧ yX7_load.cls ≠ "java/lang/invoke/VarHandle" ∧ (parseMethodDescriptor yX7_load.desc).map (fun d => d.parameters.length) = some 2 := by decide +kernel
theorem m_CO_X7_lookFor : Cond.code yX7_lookFor cX7_lookFor 5 (some .int) ∈ W0 := wT2 114 rfl rfl
theorem m_IM_X7_lookFor : Cond.instanceMethod yX7_lookFor ∈ W0 := wT2 113 rfl rfl
theorem m_SE_X7_lookFor : Cond.selects RX7 yX7_lookFor yX7_lookFor ∈ W0 := wS1 1 10 rfl rfl
abbrev wzX7_lookFor : List Cond := .code yX7_lookFor cX7_lookFor 5 (some .int) :: W0
theorem hd_X7_lookFor : yX7_lookFor.cls = RX7 ∧ yX7_lookFor.cls ≠ "java/lang/invoke/MethodHandle" ∧ yX7_lookFor.cls ≠ "java/lang/invoke/VarHandle" ∧ (parseMethodDescriptor yX7_lookFor.desc).map (fun d => d.parameters.length) = some 2 := by decide +kernel
theorem m_CO_X7_mount : Cond.code yX7_mount cX7_mount 2 (some .int) ∈ W0 := wT2 106 rfl rfl
theorem m_IM_X7_mount : Cond.instanceMethod yX7_mount ∈ W0 := wT2 104 rfl rfl
theorem m_SE_X7_mount : Cond.selects RX7 yX7_mount yX7_mount ∈ W0 := wT2 105 rfl rfl
abbrev wzX7_mount : List Cond := .code yX7_mount cX7_mount 2 (some .int) :: W0
theorem hd_X7_mount : yX7_mount.cls = RX7 ∧ yX7_mount.cls ≠ "java/lang/invoke/MethodHandle" ∧ yX7_mount.cls ≠ "java/lang/invoke/VarHandle" ∧ (parseMethodDescriptor yX7_mount.desc).map (fun d => d.parameters.length) = some 1 := by decide +kernel
theorem m_CO_X7_nameByte : Cond.code yX7_nameByte cX7_nameByte 3 (some .int) ∈ W0 := wT2 94 rfl rfl
theorem m_ST_X7_nameByte : Cond.static yX7_nameByte ∈ W0 := wT2 93 rfl rfl
abbrev wzX7_nameByte : List Cond := .code yX7_nameByte cX7_nameByte 3 (some .int) :: W0
theorem hd_X7_nameByte : yX7_nameByte.cls = RX7 ∧ yX7_nameByte.cls ≠ "java/lang/invoke/MethodHandle" ∧ yX7_nameByte.cls ≠ "java/lang/invoke/VarHandle" ∧ (parseMethodDescriptor yX7_nameByte.desc).map (fun d => d.parameters.length) = some 3 := by decide +kernel
theorem m_CO_X7_openDisk : Cond.code yX7_openDisk cX7_openDisk 1 (some .int) ∈ W0 := wT2 118 rfl rfl
theorem m_IM_X7_openDisk : Cond.instanceMethod yX7_openDisk ∈ W0 := wT2 117 rfl rfl
theorem m_SE_X7_openDisk : Cond.selects RX7 yX7_openDisk yX7_openDisk ∈ W0 := wS1 2 10 rfl rfl
abbrev wzX7_openDisk : List Cond := .code yX7_openDisk cX7_openDisk 1 (some .int) :: W0
theorem hd_X7_openDisk : yX7_openDisk.cls = RX7 ∧ yX7_openDisk.cls ≠ "java/lang/invoke/MethodHandle" ∧ yX7_openDisk.cls ≠ "java/lang/invoke/VarHandle" ∧ (parseMethodDescriptor yX7_openDisk.desc).map (fun d => d.parameters.length) = some 0 := by decide +kernel
theorem m_CO_X7_out : Cond.code yX7_out cX7_out 2 (some .int) ∈ W0 := wT3 69 rfl rfl
theorem m_IM_X7_out : Cond.instanceMethod yX7_out ∈ W0 := wT3 67 rfl rfl
theorem m_SE_X7_out : Cond.selects RX7 yX7_out yX7_out ∈ W0 := wT3 68 rfl rfl
abbrev wzX7_out : List Cond := .code yX7_out cX7_out 2 (some .int) :: W0
theorem hd_X7_out : yX7_out.cls = RX7 ∧ yX7_out.cls ≠ "java/lang/invoke/MethodHandle" ∧ yX7_out.cls ≠ "java/lang/invoke/VarHandle" ∧ (parseMethodDescriptor yX7_out.desc).map (fun d => d.parameters.length) = some 1 := by decide +kernel
theorem m_CO_X7_outputOr : Cond.code yX7_outputOr cX7_outputOr 2 (some .int) ∈ W0 := wT3 32 rfl rfl
theorem m_IM_X7_outputOr : Cond.instanceMethod yX7_outputOr ∈ W0 := wT3 31 rfl rfl
theorem m_SE_X7_outputOr : Cond.selects RX7 yX7_outputOr yX7_outputOr ∈ W0 := wS1 11 10 rfl rfl
abbrev wzX7_outputOr : List Cond := .code yX7_outputOr cX7_outputOr 2 (some .int) :: W0
theorem hd_X7_outputOr : yX7_outputOr.cls = RX7 ∧ yX7_outputOr.cls ≠ "java/lang/invoke/MethodHandle" ∧ yX7_outputOr.cls ≠ "java/lang/invoke/VarHandle" ∧ (parseMethodDescriptor yX7_outputOr.desc).map (fun d => d.parameters.length) = some 1 := by decide +kernel
theorem m_CO_X7_peek : Cond.code yX7_peek cX7_peek 4 (some .int) ∈ W0 := wT3 78 rfl rfl
theorem m_IM_X7_peek : Cond.instanceMethod yX7_peek ∈ W0 := wT3 76 rfl rfl
theorem m_SE_X7_peek : Cond.selects RX7 yX7_peek yX7_peek ∈ W0 := wT3 77 rfl rfl
abbrev wzX7_peek : List Cond := .code yX7_peek cX7_peek 4 (some .int) :: W0
theorem hd_X7_peek : yX7_peek.cls = RX7 ∧ yX7_peek.cls ≠ "java/lang/invoke/MethodHandle" ∧ yX7_peek.cls ≠ "java/lang/invoke/VarHandle" ∧ (parseMethodDescriptor yX7_peek.desc).map (fun d => d.parameters.length) = some 2 := by decide +kernel
theorem m_CO_X7_poke : Cond.code yX7_poke cX7_poke 6 (some .int) ∈ W0 := wT3 92 rfl rfl
theorem m_IM_X7_poke : Cond.instanceMethod yX7_poke ∈ W0 := wT3 90 rfl rfl
theorem m_SE_X7_poke : Cond.selects RX7 yX7_poke yX7_poke ∈ W0 := wT3 91 rfl rfl
abbrev wzX7_poke : List Cond := .code yX7_poke cX7_poke 6 (some .int) :: W0
theorem hd_X7_poke : yX7_poke.cls = RX7 ∧ yX7_poke.cls ≠ "java/lang/invoke/MethodHandle" ∧ yX7_poke.cls ≠ "java/lang/invoke/VarHandle" ∧ (parseMethodDescriptor yX7_poke.desc).map (fun d => d.parameters.length) = some 3 := by decide +kernel
theorem m_CO_X7_read : Cond.code yX7_read cX7_read 4 (some .int) ∈ W0 := wT3 117 rfl rfl
theorem m_IM_X7_read : Cond.instanceMethod yX7_read ∈ W0 := wT3 115 rfl rfl
theorem m_SE_X7_read : Cond.selects RX7 yX7_read yX7_read ∈ W0 := wT3 116 rfl rfl
abbrev wzX7_read : List Cond := .code yX7_read cX7_read 4 (some .int) :: W0
theorem hd_X7_read : yX7_read.cls = RX7 ∧ yX7_read.cls ≠ "java/lang/invoke/MethodHandle" ∧ yX7_read.cls ≠ "java/lang/invoke/VarHandle" ∧ (parseMethodDescriptor yX7_read.desc).map (fun d => d.parameters.length) = some 2 := by decide +kernel
theorem m_CO_X7_save : Cond.code yX7_save cX7_save 5 (some .int) ∈ W0 := wT2 110 rfl rfl
theorem m_IM_X7_save : Cond.instanceMethod yX7_save ∈ W0 := wT2 108 rfl rfl
theorem m_SE_X7_save : Cond.selects RX7 yX7_save yX7_save ∈ W0 := wT2 109 rfl rfl
abbrev wzX7_save : List Cond := .code yX7_save cX7_save 5 (some .int) :: W0
theorem hd_X7_save : yX7_save.cls = RX7 ∧ yX7_save.cls ≠ "java/lang/invoke/MethodHandle" ∧ yX7_save.cls ≠ "java/lang/invoke/VarHandle" ∧ (parseMethodDescriptor yX7_save.desc).map (fun d => d.parameters.length) = some 3 := by decide +kernel
theorem m_CO_X7_scratch : Cond.code yX7_scratch cX7_scratch 4 (some .int) ∈ W0 := wT3 36 rfl rfl
theorem m_IM_X7_scratch : Cond.instanceMethod yX7_scratch ∈ W0 := wT3 34 rfl rfl
theorem m_SE_X7_scratch : Cond.selects RX7 yX7_scratch yX7_scratch ∈ W0 := wT3 35 rfl rfl
abbrev wzX7_scratch : List Cond := .code yX7_scratch cX7_scratch 4 (some .int) :: W0
theorem hd_X7_scratch : yX7_scratch.cls = RX7 ∧ yX7_scratch.cls ≠ "java/lang/invoke/MethodHandle" ∧ yX7_scratch.cls ≠ "java/lang/invoke/VarHandle" ∧ (parseMethodDescriptor yX7_scratch.desc).map (fun d => d.parameters.length) = some 2 := by decide +kernel
theorem m_CO_X7_stamp : Cond.code yX7_stamp cX7_stamp 5 (some .int) ∈ W0 := wT3 97 rfl rfl
theorem m_IM_X7_stamp : Cond.instanceMethod yX7_stamp ∈ W0 := wT3 95 rfl rfl
theorem m_SE_X7_stamp : Cond.selects RX7 yX7_stamp yX7_stamp ∈ W0 := wT3 96 rfl rfl
abbrev wzX7_stamp : List Cond := .code yX7_stamp cX7_stamp 5 (some .int) :: W0
theorem hd_X7_stamp : yX7_stamp.cls = RX7 ∧ yX7_stamp.cls ≠ "java/lang/invoke/MethodHandle" ∧ yX7_stamp.cls ≠ "java/lang/invoke/VarHandle" ∧ (parseMethodDescriptor yX7_stamp.desc).map (fun d => d.parameters.length) = some 3 := by decide +kernel
theorem m_CO_X7_status : Cond.code yX7_status cX7_status 2 (some .int) ∈ W0 := wT3 74 rfl rfl
theorem m_IM_X7_status : Cond.instanceMethod yX7_status ∈ W0 := wT3 72 rfl rfl
theorem m_SE_X7_status : Cond.selects RX7 yX7_status yX7_status ∈ W0 := wT3 73 rfl rfl
abbrev wzX7_status : List Cond := .code yX7_status cX7_status 2 (some .int) :: W0
theorem hd_X7_status : yX7_status.cls = RX7 ∧ yX7_status.cls ≠ "java/lang/invoke/MethodHandle" ∧ yX7_status.cls ≠ "java/lang/invoke/VarHandle" ∧ (parseMethodDescriptor yX7_status.desc).map (fun d => d.parameters.length) = some 1 := by decide +kernel
theorem m_CO_X7_storeEntry : Cond.code yX7_storeEntry cX7_storeEntry 5 (some .int) ∈ W0 := wT3 2 rfl rfl
theorem m_IM_X7_storeEntry : Cond.instanceMethod yX7_storeEntry ∈ W0 := wT3 1 rfl rfl
theorem m_SE_X7_storeEntry : Cond.selects RX7 yX7_storeEntry yX7_storeEntry ∈ W0 := wS1 9 10 rfl rfl
abbrev wzX7_storeEntry : List Cond := .code yX7_storeEntry cX7_storeEntry 5 (some .int) :: W0
theorem hd_X7_storeEntry : yX7_storeEntry.cls = RX7 ∧ yX7_storeEntry.cls ≠ "java/lang/invoke/MethodHandle" ∧ yX7_storeEntry.cls ≠ "java/lang/invoke/VarHandle" ∧ (parseMethodDescriptor yX7_storeEntry.desc).map (fun d => d.parameters.length) = some 3 := by decide +kernel
theorem m_CO_X7_syncs : Cond.code yX7_syncs cX7_syncs 3 (some .int) ∈ W0 := wT3 112 rfl rfl
theorem m_IM_X7_syncs : Cond.instanceMethod yX7_syncs ∈ W0 := wT3 110 rfl rfl
theorem m_SE_X7_syncs : Cond.selects RX7 yX7_syncs yX7_syncs ∈ W0 := wT3 111 rfl rfl
abbrev wzX7_syncs : List Cond := .code yX7_syncs cX7_syncs 3 (some .int) :: W0
theorem hd_X7_syncs : yX7_syncs.cls = RX7 ∧ yX7_syncs.cls ≠ "java/lang/invoke/MethodHandle" ∧ yX7_syncs.cls ≠ "java/lang/invoke/VarHandle" ∧ (parseMethodDescriptor yX7_syncs.desc).map (fun d => d.parameters.length) = some 1 := by decide +kernel
theorem m_CO_X7_takeRoom : Cond.code yX7_takeRoom cX7_takeRoom 1 (some .boolean) ∈ W0 := wT2 186 rfl rfl
theorem m_IM_X7_takeRoom : Cond.instanceMethod yX7_takeRoom ∈ W0 := wT2 185 rfl rfl
theorem m_SE_X7_takeRoom : Cond.selects RX7 yX7_takeRoom yX7_takeRoom ∈ W0 := wS1 6 10 rfl rfl
abbrev wzX7_takeRoom : List Cond := .code yX7_takeRoom cX7_takeRoom 1 (some .boolean) :: W0
theorem hd_X7_takeRoom : yX7_takeRoom.cls = RX7 ∧ yX7_takeRoom.cls ≠ "java/lang/invoke/MethodHandle" ∧ yX7_takeRoom.cls ≠ "java/lang/invoke/VarHandle" ∧ (parseMethodDescriptor yX7_takeRoom.desc).map (fun d => d.parameters.length) = some 0 := by decide +kernel
theorem m_CO_X7_turn : Cond.code yX7_turn cX7_turn 4 (some .int) ∈ W0 := wT3 101 rfl rfl
theorem m_IM_X7_turn : Cond.instanceMethod yX7_turn ∈ W0 := wT3 99 rfl rfl
theorem m_SE_X7_turn : Cond.selects RX7 yX7_turn yX7_turn ∈ W0 := wT3 100 rfl rfl
abbrev wzX7_turn : List Cond := .code yX7_turn cX7_turn 4 (some .int) :: W0
theorem hd_X7_turn : yX7_turn.cls = RX7 ∧ yX7_turn.cls ≠ "java/lang/invoke/MethodHandle" ∧ yX7_turn.cls ≠ "java/lang/invoke/VarHandle" ∧ (parseMethodDescriptor yX7_turn.desc).map (fun d => d.parameters.length) = some 2 := by decide +kernel
theorem m_CO_X7_write : Cond.code yX7_write cX7_write 4 (some .int) ∈ W0 := wT3 122 rfl rfl
theorem m_IM_X7_write : Cond.instanceMethod yX7_write ∈ W0 := wT3 120 rfl rfl
theorem m_SE_X7_write : Cond.selects RX7 yX7_write yX7_write ∈ W0 := wT3 121 rfl rfl
abbrev wzX7_write : List Cond := .code yX7_write cX7_write 4 (some .int) :: W0
theorem hd_X7_write : yX7_write.cls = RX7 ∧ yX7_write.cls ≠ "java/lang/invoke/MethodHandle" ∧ yX7_write.cls ≠ "java/lang/invoke/VarHandle" ∧ (parseMethodDescriptor yX7_write.desc).map (fun d => d.parameters.length) = some 2 := by decide +kernel
theorem m_CO_X8_begins : Cond.code yX8_begins cX8_begins 4 (some .boolean) ∈ W0 := wT4 64 rfl rfl
theorem m_IM_X8_begins : Cond.instanceMethod yX8_begins ∈ W0 := wT4 63 rfl rfl
theorem m_SE_X8_begins : Cond.selects RX8 yX8_begins yX8_begins ∈ W0 := wS2 4 31 rfl rfl
abbrev wzX8_begins : List Cond := .code yX8_begins cX8_begins 4 (some .boolean) :: W0
theorem hd_X8_begins : yX8_begins.cls = RX8 ∧ yX8_begins.cls ≠ "java/lang/invoke/MethodHandle" ∧ yX8_begins.cls ≠ "java/lang/invoke/VarHandle" ∧ (parseMethodDescriptor yX8_begins.desc).map (fun d => d.parameters.length) = some 0 := by decide +kernel
theorem m_CO_X8_byteAt : Cond.code yX8_byteAt cX8_byteAt 6 (some .int) ∈ W0 := wT4 181 rfl rfl
theorem m_IM_X8_byteAt : Cond.instanceMethod yX8_byteAt ∈ W0 := wT4 180 rfl rfl
theorem m_SE_X8_byteAt : Cond.selects RX8 yX8_byteAt yX8_byteAt ∈ W0 := wS3 8 31 rfl rfl
abbrev wzX8_byteAt : List Cond := .code yX8_byteAt cX8_byteAt 6 (some .int) :: W0
theorem hd_X8_byteAt : yX8_byteAt.cls = RX8 ∧ yX8_byteAt.cls ≠ "java/lang/invoke/MethodHandle" ∧ yX8_byteAt.cls ≠ "java/lang/invoke/VarHandle" ∧ (parseMethodDescriptor yX8_byteAt.desc).map (fun d => d.parameters.length) = some 2 := by decide +kernel
theorem m_CO_X8_bytesOf : Cond.code yX8_bytesOf cX8_bytesOf 1 (some .int) ∈ W0 := wT4 36 rfl rfl
theorem m_ST_X8_bytesOf : Cond.static yX8_bytesOf ∈ W0 := wT4 35 rfl rfl
abbrev wzX8_bytesOf : List Cond := .code yX8_bytesOf cX8_bytesOf 1 (some .int) :: W0
theorem hd_X8_bytesOf : yX8_bytesOf.cls = RX8 ∧ yX8_bytesOf.cls ≠ "java/lang/invoke/MethodHandle" ∧ yX8_bytesOf.cls ≠ "java/lang/invoke/VarHandle" ∧ (parseMethodDescriptor yX8_bytesOf.desc).map (fun d => d.parameters.length) = some 1 := by decide +kernel
theorem m_CO_X8_count : Cond.code yX8_count cX8_count 2 (some .int) ∈ W0 := wT4 213 rfl rfl
theorem m_IM_X8_count : Cond.instanceMethod yX8_count ∈ W0 := wT4 211 rfl rfl
theorem m_SE_X8_count : Cond.selects RX8 yX8_count yX8_count ∈ W0 := wT4 212 rfl rfl
abbrev wzX8_count : List Cond := .code yX8_count cX8_count 2 (some .int) :: W0
theorem hd_X8_count : yX8_count.cls = RX8 ∧ yX8_count.cls ≠ "java/lang/invoke/MethodHandle" ∧ yX8_count.cls ≠ "java/lang/invoke/VarHandle" ∧ (parseMethodDescriptor yX8_count.desc).map (fun d => d.parameters.length) = some 1 := by decide +kernel
theorem m_CO_X8_dataOf : Cond.code yX8_dataOf cX8_dataOf 6 (some .int) ∈ W0 := wT4 88 rfl rfl
theorem m_IM_X8_dataOf : Cond.instanceMethod yX8_dataOf ∈ W0 := wT4 87 rfl rfl
theorem m_SE_X8_dataOf : Cond.selects RX8 yX8_dataOf yX8_dataOf ∈ W0 := wS2 10 31 rfl rfl
abbrev wzX8_dataOf : List Cond := .code yX8_dataOf cX8_dataOf 6 (some .int) :: W0
theorem hd_X8_dataOf : yX8_dataOf.cls = RX8 ∧ yX8_dataOf.cls ≠ "java/lang/invoke/MethodHandle" ∧ yX8_dataOf.cls ≠ "java/lang/invoke/VarHandle" ∧ (parseMethodDescriptor yX8_dataOf.desc).map (fun d => d.parameters.length) = some 1 := by decide +kernel
theorem m_CO_X8_decoded : Cond.code yX8_decoded cX8_decoded 8 (some .int) ∈ W0 := wT4 84 rfl rfl
theorem m_IM_X8_decoded : Cond.instanceMethod yX8_decoded ∈ W0 := wT4 83 rfl rfl
theorem m_SE_X8_decoded : Cond.selects RX8 yX8_decoded yX8_decoded ∈ W0 := wS2 9 31 rfl rfl
abbrev wzX8_decoded : List Cond := .code yX8_decoded cX8_decoded 8 (some .int) :: W0
theorem hd_X8_decoded : yX8_decoded.cls = RX8 ∧ yX8_decoded.cls ≠ "java/lang/invoke/MethodHandle" ∧ yX8_decoded.cls ≠ "java/lang/invoke/VarHandle" ∧ (parseMethodDescriptor yX8_decoded.desc).map (fun d => d.parameters.length) = some 2 := by decide +kernel
theorem m_CO_X8_emptyEntry : Cond.code yX8_emptyEntry cX8_emptyEntry 3 (some .int) ∈ W0 := wT4 106 rfl rfl
theorem m_IM_X8_emptyEntry : Cond.instanceMethod yX8_emptyEntry ∈ W0 := wT4 105 rfl rfl
theorem m_SE_X8_emptyEntry : Cond.selects RX8 yX8_emptyEntry yX8_emptyEntry ∈ W0 := wS2 13 31 rfl rfl
abbrev wzX8_emptyEntry : List Cond := .code yX8_emptyEntry cX8_emptyEntry 3 (some .int) :: W0
theorem hd_X8_emptyEntry : yX8_emptyEntry.cls = RX8 ∧ yX8_emptyEntry.cls ≠ "java/lang/invoke/MethodHandle" ∧ yX8_emptyEntry.cls ≠ "java/lang/invoke/VarHandle" ∧ (parseMethodDescriptor yX8_emptyEntry.desc).map (fun d => d.parameters.length) = some 0 := by decide +kernel
theorem m_CO_X8_end : Cond.code yX8_end cX8_end 2 (some .int) ∈ W0 := wT4 1 rfl rfl
theorem m_IM_X8_end : Cond.instanceMethod yX8_end ∈ W0 := wT3 239 rfl rfl
theorem m_SE_X8_end : Cond.selects RX8 yX8_end yX8_end ∈ W0 := wT4 0 rfl rfl
abbrev wzX8_end : List Cond := .code yX8_end cX8_end 2 (some .int) :: W0
theorem hd_X8_end : yX8_end.cls = RX8 ∧ yX8_end.cls ≠ "java/lang/invoke/MethodHandle" ∧ yX8_end.cls ≠ "java/lang/invoke/VarHandle" ∧ (parseMethodDescriptor yX8_end.desc).map (fun d => d.parameters.length) = some 1 := by decide +kernel
theorem m_CO_X8_ends : Cond.code yX8_ends cX8_ends 4 (some .int) ∈ W0 := wT4 48 rfl rfl
theorem m_IM_X8_ends : Cond.instanceMethod yX8_ends ∈ W0 := wT4 47 rfl rfl
theorem m_SE_X8_ends : Cond.selects RX8 yX8_ends yX8_ends ∈ W0 := wS2 2 31 rfl rfl
abbrev wzX8_ends : List Cond := .code yX8_ends cX8_ends 4 (some .int) :: W0
theorem hd_X8_ends : yX8_ends.cls = RX8 ∧ yX8_ends.cls ≠ "java/lang/invoke/MethodHandle" ∧ yX8_ends.cls ≠ "java/lang/invoke/VarHandle" ∧ (parseMethodDescriptor yX8_ends.desc).map (fun d => d.parameters.length) = some 3 := by decide +kernel
theorem m_CO_X8_feed : Cond.code yX8_feed cX8_feed 8 (some .int) ∈ W0 := wT3 237 rfl rfl
theorem m_IM_X8_feed : Cond.instanceMethod yX8_feed ∈ W0 := wT3 235 rfl rfl
theorem m_SE_X8_feed : Cond.selects RX8 yX8_feed yX8_feed ∈ W0 := wT3 236 rfl rfl
abbrev wzX8_feed : List Cond := .code yX8_feed cX8_feed 8 (some .int) :: W0
theorem hd_X8_feed : yX8_feed.cls = RX8 ∧ yX8_feed.cls ≠ "java/lang/invoke/MethodHandle" ∧ yX8_feed.cls ≠ "java/lang/invoke/VarHandle" ∧ (parseMethodDescriptor yX8_feed.desc).map (fun d => d.parameters.length) = some 5 := by decide +kernel
theorem m_CO_X8_findSyncs : Cond.code yX8_findSyncs cX8_findSyncs 6 none ∈ W0 := wT4 76 rfl rfl
theorem m_IM_X8_findSyncs : Cond.instanceMethod yX8_findSyncs ∈ W0 := wT4 75 rfl rfl
theorem m_SE_X8_findSyncs : Cond.selects RX8 yX8_findSyncs yX8_findSyncs ∈ W0 := wS2 7 31 rfl rfl
abbrev wzX8_findSyncs : List Cond := .code yX8_findSyncs cX8_findSyncs 6 none :: W0
theorem hd_X8_findSyncs : yX8_findSyncs.cls = RX8 ∧ yX8_findSyncs.cls ≠ "java/lang/invoke/MethodHandle" ∧ yX8_findSyncs.cls ≠ "java/lang/invoke/VarHandle" ∧ (parseMethodDescriptor yX8_findSyncs.desc).map (fun d => d.parameters.length) = some 1 := by decide +kernel
theorem m_CO_X8_format : Cond.code yX8_format cX8_format 7 (some .int) ∈ W0 := wT4 8 rfl rfl
theorem m_IM_X8_format : Cond.instanceMethod yX8_format ∈ W0 := wT4 6 rfl rfl
theorem m_SE_X8_format : Cond.selects RX8 yX8_format yX8_format ∈ W0 := wT4 7 rfl rfl
abbrev wzX8_format : List Cond := .code yX8_format cX8_format 7 (some .int) :: W0
theorem hd_X8_format : yX8_format.cls = RX8 ∧ yX8_format.cls ≠ "java/lang/invoke/MethodHandle" ∧ yX8_format.cls ≠ "java/lang/invoke/VarHandle" ∧ (parseMethodDescriptor yX8_format.desc).map (fun d => d.parameters.length) = some 3 := by decide +kernel
theorem m_CO_X8_freeOfDirectory : Cond.code yX8_freeOfDirectory cX8_freeOfDirectory 3 (some .int) ∈ W0 := wT4 110 rfl rfl
theorem m_IM_X8_freeOfDirectory : Cond.instanceMethod yX8_freeOfDirectory ∈ W0 := wT4 109 rfl rfl
theorem m_SE_X8_freeOfDirectory : Cond.selects RX8 yX8_freeOfDirectory yX8_freeOfDirectory ∈ W0 := wS2 14 31 rfl rfl
abbrev wzX8_freeOfDirectory : List Cond := .code yX8_freeOfDirectory cX8_freeOfDirectory 3 (some .int) :: W0
theorem hd_X8_freeOfDirectory : yX8_freeOfDirectory.cls = RX8 ∧ yX8_freeOfDirectory.cls ≠ "java/lang/invoke/MethodHandle" ∧ yX8_freeOfDirectory.cls ≠ "java/lang/invoke/VarHandle" ∧ (parseMethodDescriptor yX8_freeOfDirectory.desc).map (fun d => d.parameters.length) = some 0 := by decide +kernel
theorem m_CO_X8_hasName : Cond.code yX8_hasName cX8_hasName 6 (some .boolean) ∈ W0 := wT4 96 rfl rfl
theorem m_IM_X8_hasName : Cond.instanceMethod yX8_hasName ∈ W0 := wT4 95 rfl rfl
theorem m_SE_X8_hasName : Cond.selects RX8 yX8_hasName yX8_hasName ∈ W0 := wS2 12 31 rfl rfl
abbrev wzX8_hasName : List Cond := .code yX8_hasName cX8_hasName 6 (some .boolean) :: W0
theorem hd_X8_hasName : yX8_hasName.cls = RX8 ∧ yX8_hasName.cls ≠ "java/lang/invoke/MethodHandle" ∧ yX8_hasName.cls ≠ "java/lang/invoke/VarHandle" ∧ (parseMethodDescriptor yX8_hasName.desc).map (fun d => d.parameters.length) = some 3 := by decide +kernel
theorem m_CO_X8_info : Cond.code yX8_info cX8_info 4 (some .int) ∈ W0 := wT4 162 rfl rfl
theorem m_IM_X8_info : Cond.instanceMethod yX8_info ∈ W0 := wT4 160 rfl rfl
theorem m_SE_X8_info : Cond.selects RX8 yX8_info yX8_info ∈ W0 := wT4 161 rfl rfl
abbrev wzX8_info : List Cond := .code yX8_info cX8_info 4 (some .int) :: W0
theorem hd_X8_info : yX8_info.cls = RX8 ∧ yX8_info.cls ≠ "java/lang/invoke/MethodHandle" ∧ yX8_info.cls ≠ "java/lang/invoke/VarHandle" ∧ (parseMethodDescriptor yX8_info.desc).map (fun d => d.parameters.length) = some 0 := by decide +kernel
theorem m_CO_X8_init : Cond.code yX8_init cX8_init 2 none ∈ W0 := wT3 132 rfl rfl
theorem m_IM_X8_init : Cond.instanceMethod yX8_init ∈ W0 := wT3 131 rfl rfl
abbrev wzX8_init : List Cond := .code yX8_init cX8_init 2 none :: W0
theorem hd_X8_init : yX8_init.cls = RX8 ∧ yX8_init.cls ≠ "java/lang/invoke/MethodHandle" ∧ yX8_init.cls ≠ "java/lang/invoke/VarHandle" ∧ (parseMethodDescriptor yX8_init.desc).map (fun d => d.parameters.length) = some 0 := by decide +kernel
theorem m_CO_X8_isBlock : Cond.code yX8_isBlock cX8_isBlock 2 (some .boolean) ∈ W0 := wT4 99 rfl rfl
theorem m_ST_X8_isBlock : Cond.static yX8_isBlock ∈ W0 := wT4 98 rfl rfl
abbrev wzX8_isBlock : List Cond := .code yX8_isBlock cX8_isBlock 2 (some .boolean) :: W0
theorem hd_X8_isBlock : yX8_isBlock.cls = RX8 ∧ yX8_isBlock.cls ≠ "java/lang/invoke/MethodHandle" ∧ yX8_isBlock.cls ≠ "java/lang/invoke/VarHandle" ∧ (parseMethodDescriptor yX8_isBlock.desc).map (fun d => d.parameters.length) = some 2 := by decide +kernel
theorem m_CO_X8_isByte : Cond.code yX8_isByte cX8_isByte 2 (some .boolean) ∈ W0 := wT4 177 rfl rfl
theorem m_ST_X8_isByte : Cond.static yX8_isByte ∈ W0 := wT4 176 rfl rfl
abbrev wzX8_isByte : List Cond := .code yX8_isByte cX8_isByte 2 (some .boolean) :: W0
theorem hd_X8_isByte : yX8_isByte.cls = RX8 ∧ yX8_isByte.cls ≠ "java/lang/invoke/MethodHandle" ∧ yX8_isByte.cls ≠ "java/lang/invoke/VarHandle" ∧ (parseMethodDescriptor yX8_isByte.desc).map (fun d => d.parameters.length) = some 2 := by decide +kernel
theorem m_CO_X8_isFree : Cond.code yX8_isFree cX8_isFree 3 (some .boolean) ∈ W0 := wT4 114 rfl rfl
theorem m_IM_X8_isFree : Cond.instanceMethod yX8_isFree ∈ W0 := wT4 113 rfl rfl
theorem m_SE_X8_isFree : Cond.selects RX8 yX8_isFree yX8_isFree ∈ W0 := wS2 15 31 rfl rfl
abbrev wzX8_isFree : List Cond := .code yX8_isFree cX8_isFree 3 (some .boolean) :: W0
theorem hd_X8_isFree : yX8_isFree.cls = RX8 ∧ yX8_isFree.cls ≠ "java/lang/invoke/MethodHandle" ∧ yX8_isFree.cls ≠ "java/lang/invoke/VarHandle" ∧ (parseMethodDescriptor yX8_isFree.desc).map (fun d => d.parameters.length) = some 2 := by decide +kernel
theorem m_CO_X8_isHeaderOf : Cond.code yX8_isHeaderOf cX8_isHeaderOf 6 (some .boolean) ∈ W0 := wT4 80 rfl rfl
theorem m_IM_X8_isHeaderOf : Cond.instanceMethod yX8_isHeaderOf ∈ W0 := wT4 79 rfl rfl
theorem m_SE_X8_isHeaderOf : Cond.selects RX8 yX8_isHeaderOf yX8_isHeaderOf ∈ W0 := wS2 8 31 rfl rfl
abbrev wzX8_isHeaderOf : List Cond := .code yX8_isHeaderOf cX8_isHeaderOf 6 (some .boolean) :: W0
theorem hd_X8_isHeaderOf : yX8_isHeaderOf.cls = RX8 ∧ yX8_isHeaderOf.cls ≠ "java/lang/invoke/MethodHandle" ∧ yX8_isHeaderOf.cls ≠ "java/lang/invoke/VarHandle" ∧ (parseMethodDescriptor yX8_isHeaderOf.desc).map (fun d => d.parameters.length) = some 3 := by decide +kernel
theorem m_CO_X8_isIn : Cond.code yX8_isIn cX8_isIn 3 (some .boolean) ∈ W0 := wT4 4 rfl rfl
theorem m_ST_X8_isIn : Cond.static yX8_isIn ∈ W0 := wT4 3 rfl rfl
abbrev wzX8_isIn : List Cond := .code yX8_isIn cX8_isIn 3 (some .boolean) :: W0
theorem hd_X8_isIn : yX8_isIn.cls = RX8 ∧ yX8_isIn.cls ≠ "java/lang/invoke/MethodHandle" ∧ yX8_isIn.cls ≠ "java/lang/invoke/VarHandle" ∧ (parseMethodDescriptor yX8_isIn.desc).map (fun d => d.parameters.length) = some 3 := by decide +kernel
theorem m_CO_X8_isTrack : Cond.code yX8_isTrack cX8_isTrack 1 (some .boolean) ∈ W0 := wT4 102 rfl rfl
theorem m_ST_X8_isTrack : Cond.static yX8_isTrack ∈ W0 := wT4 101 rfl rfl
abbrev wzX8_isTrack : List Cond := .code yX8_isTrack cX8_isTrack 1 (some .boolean) :: W0
theorem hd_X8_isTrack : yX8_isTrack.cls = RX8 ∧ yX8_isTrack.cls ≠ "java/lang/invoke/MethodHandle" ∧ yX8_isTrack.cls ≠ "java/lang/invoke/VarHandle" ∧ (parseMethodDescriptor yX8_isTrack.desc).map (fun d => d.parameters.length) = some 1 := by decide +kernel
theorem m_CO_X8_lengthOf : Cond.code yX8_lengthOf cX8_lengthOf 1 (some .int) ∈ W0 := wT4 33 rfl rfl
theorem m_ST_X8_lengthOf : Cond.static yX8_lengthOf ∈ W0 := wT4 32 rfl rfl
abbrev wzX8_lengthOf : List Cond := .code yX8_lengthOf cX8_lengthOf 1 (some .int) :: W0
theorem hd_X8_lengthOf : yX8_lengthOf.cls = RX8 ∧ yX8_lengthOf.cls ≠ "java/lang/invoke/MethodHandle" ∧ yX8_lengthOf.cls ≠ "java/lang/invoke/VarHandle" ∧ (parseMethodDescriptor yX8_lengthOf.desc).map (fun d => d.parameters.length) = some 1 := by decide +kernel
theorem m_CO_X8_list : Cond.code yX8_list cX8_list 4 (some .int) ∈ W0 := wT4 158 rfl rfl
theorem m_IM_X8_list : Cond.instanceMethod yX8_list ∈ W0 := wT4 156 rfl rfl
theorem m_SE_X8_list : Cond.selects RX8 yX8_list yX8_list ∈ W0 := wT4 157 rfl rfl
abbrev wzX8_list : List Cond := .code yX8_list cX8_list 4 (some .int) :: W0
theorem hd_X8_list : yX8_list.cls = RX8 ∧ yX8_list.cls ≠ "java/lang/invoke/MethodHandle" ∧ yX8_list.cls ≠ "java/lang/invoke/VarHandle" ∧ (parseMethodDescriptor yX8_list.desc).map (fun d => d.parameters.length) = some 0 := by decide +kernel
theorem m_CO_X8_load : Cond.code yX8_load cX8_load 3 (some .int) ∈ W0 := wT4 138 rfl rfl
theorem m_IM_X8_load : Cond.instanceMethod yX8_load ∈ W0 := wT4 136 rfl rfl
theorem m_SE_X8_load : Cond.selects RX8 yX8_load yX8_load ∈ W0 := wT4 137 rfl rfl
abbrev wzX8_load : List Cond := .code yX8_load cX8_load 3 (some .int) :: W0
theorem hd_X8_load : yX8_load.cls = RX8 ∧ yX8_load.cls ≠ "java/lang/invoke/MethodHandle" ∧ yX8_load.cls ≠ "java/lang/invoke/VarHandle" ∧ (parseMethodDescriptor yX8_load.desc).map (fun d => d.parameters.length) = some 2 := by decide +kernel
theorem m_CO_X8_mount : Cond.code yX8_mount cX8_mount 2 (some .int) ∈ W0 := wT4 52 rfl rfl
theorem m_IM_X8_mount : Cond.instanceMethod yX8_mount ∈ W0 := wT4 50 rfl rfl
theorem m_SE_X8_mount : Cond.selects RX8 yX8_mount yX8_mount ∈ W0 := wT4 51 rfl rfl
abbrev wzX8_mount : List Cond := .code yX8_mount cX8_mount 2 (some .int) :: W0
theorem hd_X8_mount : yX8_mount.cls = RX8 ∧ yX8_mount.cls ≠ "java/lang/invoke/MethodHandle" ∧ yX8_mount.cls ≠ "java/lang/invoke/VarHandle" ∧ (parseMethodDescriptor yX8_mount.desc).map (fun d => d.parameters.length) = some 1 := by decide +kernel
theorem m_CO_X8_nameByte : Cond.code yX8_nameByte cX8_nameByte 3 (some .int) ∈ W0 := wT4 19 rfl rfl
theorem m_ST_X8_nameByte : Cond.static yX8_nameByte ∈ W0 := wT4 18 rfl rfl
abbrev wzX8_nameByte : List Cond := .code yX8_nameByte cX8_nameByte 3 (some .int) :: W0
theorem hd_X8_nameByte : yX8_nameByte.cls = RX8 ∧ yX8_nameByte.cls ≠ "java/lang/invoke/MethodHandle" ∧ yX8_nameByte.cls ≠ "java/lang/invoke/VarHandle" ∧ (parseMethodDescriptor yX8_nameByte.desc).map (fun d => d.parameters.length) = some 3 := by decide +kernel
theorem m_CO_X8_out : Cond.code yX8_out cX8_out 2 (some .int) ∈ W0 := wT4 166 rfl rfl
theorem m_IM_X8_out : Cond.instanceMethod yX8_out ∈ W0 := wT4 164 rfl rfl
theorem m_SE_X8_out : Cond.selects RX8 yX8_out yX8_out ∈ W0 := wT4 165 rfl rfl
abbrev wzX8_out : List Cond := .code yX8_out cX8_out 2 (some .int) :: W0
theorem hd_X8_out : yX8_out.cls = RX8 ∧ yX8_out.cls ≠ "java/lang/invoke/MethodHandle" ∧ yX8_out.cls ≠ "java/lang/invoke/VarHandle" ∧ (parseMethodDescriptor yX8_out.desc).map (fun d => d.parameters.length) = some 1 := by decide +kernel
theorem m_CO_X8_peek : Cond.code yX8_peek cX8_peek 3 (some .int) ∈ W0 := wT4 174 rfl rfl
theorem m_IM_X8_peek : Cond.instanceMethod yX8_peek ∈ W0 := wT4 172 rfl rfl
theorem m_SE_X8_peek : Cond.selects RX8 yX8_peek yX8_peek ∈ W0 := wT4 173 rfl rfl
abbrev wzX8_peek : List Cond := .code yX8_peek cX8_peek 3 (some .int) :: W0
theorem hd_X8_peek : yX8_peek.cls = RX8 ∧ yX8_peek.cls ≠ "java/lang/invoke/MethodHandle" ∧ yX8_peek.cls ≠ "java/lang/invoke/VarHandle" ∧ (parseMethodDescriptor yX8_peek.desc).map (fun d => d.parameters.length) = some 2 := by decide +kernel
theorem m_CO_X8_poke : Cond.code yX8_poke cX8_poke 5 (some .int) ∈ W0 := wT4 185 rfl rfl
theorem m_IM_X8_poke : Cond.instanceMethod yX8_poke ∈ W0 := wT4 183 rfl rfl
theorem m_SE_X8_poke : Cond.selects RX8 yX8_poke yX8_poke ∈ W0 := wT4 184 rfl rfl
abbrev wzX8_poke : List Cond := .code yX8_poke cX8_poke 5 (some .int) :: W0
theorem hd_X8_poke : yX8_poke.cls = RX8 ∧ yX8_poke.cls ≠ "java/lang/invoke/MethodHandle" ∧ yX8_poke.cls ≠ "java/lang/invoke/VarHandle" ∧ (parseMethodDescriptor yX8_poke.desc).map (fun d => d.parameters.length) = some 3 := by decide +kernel
theorem m_CO_X8_putBits : Cond.code yX8_putBits cX8_putBits 6 none ∈ W0 := wT4 27 rfl rfl
theorem m_IM_X8_putBits : Cond.instanceMethod yX8_putBits ∈ W0 := wT4 26 rfl rfl
theorem m_SE_X8_putBits : Cond.selects RX8 yX8_putBits yX8_putBits ∈ W0 := wS1 15 31 rfl rfl
abbrev wzX8_putBits : List Cond := .code yX8_putBits cX8_putBits 6 none :: W0
theorem hd_X8_putBits : yX8_putBits.cls = RX8 ∧ yX8_putBits.cls ≠ "java/lang/invoke/MethodHandle" ∧ yX8_putBits.cls ≠ "java/lang/invoke/VarHandle" ∧ (parseMethodDescriptor yX8_putBits.desc).map (fun d => d.parameters.length) = some 2 := by decide +kernel
theorem m_CO_X8_putCoded : Cond.code yX8_putCoded cX8_putCoded 2 none ∈ W0 := wT4 40 rfl rfl
theorem m_IM_X8_putCoded : Cond.instanceMethod yX8_putCoded ∈ W0 := wT4 39 rfl rfl
theorem m_SE_X8_putCoded : Cond.selects RX8 yX8_putCoded yX8_putCoded ∈ W0 := wS2 0 31 rfl rfl
abbrev wzX8_putCoded : List Cond := .code yX8_putCoded cX8_putCoded 2 none :: W0
theorem hd_X8_putCoded : yX8_putCoded.cls = RX8 ∧ yX8_putCoded.cls ≠ "java/lang/invoke/MethodHandle" ∧ yX8_putCoded.cls ≠ "java/lang/invoke/VarHandle" ∧ (parseMethodDescriptor yX8_putCoded.desc).map (fun d => d.parameters.length) = some 1 := by decide +kernel
theorem m_CO_X8_putData : Cond.code yX8_putData cX8_putData 3 none ∈ W0 := wT4 44 rfl rfl
theorem m_IM_X8_putData : Cond.instanceMethod yX8_putData ∈ W0 := wT4 43 rfl rfl
theorem m_SE_X8_putData : Cond.selects RX8 yX8_putData yX8_putData ∈ W0 := wS2 1 31 rfl rfl
abbrev wzX8_putData : List Cond := .code yX8_putData cX8_putData 3 none :: W0
theorem hd_X8_putData : yX8_putData.cls = RX8 ∧ yX8_putData.cls ≠ "java/lang/invoke/MethodHandle" ∧ yX8_putData.cls ≠ "java/lang/invoke/VarHandle" ∧ (parseMethodDescriptor yX8_putData.desc).map (fun d => d.parameters.length) = some 0 := by decide +kernel
theorem m_CO_X8_putSync : Cond.code yX8_putSync cX8_putSync 1 none ∈ W0 := wT4 23 rfl rfl
theorem m_IM_X8_putSync : Cond.instanceMethod yX8_putSync ∈ W0 := wT4 22 rfl rfl
theorem m_SE_X8_putSync : Cond.selects RX8 yX8_putSync yX8_putSync ∈ W0 := wS1 14 31 rfl rfl
abbrev wzX8_putSync : List Cond := .code yX8_putSync cX8_putSync 1 none :: W0
theorem hd_X8_putSync : yX8_putSync.cls = RX8 ∧ yX8_putSync.cls ≠ "java/lang/invoke/MethodHandle" ∧ yX8_putSync.cls ≠ "java/lang/invoke/VarHandle" ∧ (parseMethodDescriptor yX8_putSync.desc).map (fun d => d.parameters.length) = some 0 := by decide +kernel
theorem m_CO_X8_read : Cond.code yX8_read cX8_read 5 (some .int) ∈ W0 := wT4 205 rfl rfl
theorem m_IM_X8_read : Cond.instanceMethod yX8_read ∈ W0 := wT4 203 rfl rfl
theorem m_SE_X8_read : Cond.selects RX8 yX8_read yX8_read ∈ W0 := wT4 204 rfl rfl
abbrev wzX8_read : List Cond := .code yX8_read cX8_read 5 (some .int) :: W0
theorem hd_X8_read : yX8_read.cls = RX8 ∧ yX8_read.cls ≠ "java/lang/invoke/MethodHandle" ∧ yX8_read.cls ≠ "java/lang/invoke/VarHandle" ∧ (parseMethodDescriptor yX8_read.desc).map (fun d => d.parameters.length) = some 2 := by decide +kernel
theorem m_CO_X8_readBlock : Cond.code yX8_readBlock cX8_readBlock 4 (some .int) ∈ W0 := wT4 68 rfl rfl
theorem m_IM_X8_readBlock : Cond.instanceMethod yX8_readBlock ∈ W0 := wT4 67 rfl rfl
theorem m_SE_X8_readBlock : Cond.selects RX8 yX8_readBlock yX8_readBlock ∈ W0 := wS2 5 31 rfl rfl
abbrev wzX8_readBlock : List Cond := .code yX8_readBlock cX8_readBlock 4 (some .int) :: W0
theorem hd_X8_readBlock : yX8_readBlock.cls = RX8 ∧ yX8_readBlock.cls ≠ "java/lang/invoke/MethodHandle" ∧ yX8_readBlock.cls ≠ "java/lang/invoke/VarHandle" ∧ (parseMethodDescriptor yX8_readBlock.desc).map (fun d => d.parameters.length) = some 2 := by decide +kernel
theorem m_CO_X8_readDirectory : Cond.code yX8_readDirectory cX8_readDirectory 9 (some .boolean) ∈ W0 := wT4 92 rfl rfl
theorem m_IM_X8_readDirectory : Cond.instanceMethod yX8_readDirectory ∈ W0 := wT4 91 rfl rfl
theorem m_SE_X8_readDirectory : Cond.selects RX8 yX8_readDirectory yX8_readDirectory ∈ W0 := wS2 11 31 rfl rfl
abbrev wzX8_readDirectory : List Cond := .code yX8_readDirectory cX8_readDirectory 9 (some .boolean) :: W0
theorem hd_X8_readDirectory : yX8_readDirectory.cls = RX8 ∧ yX8_readDirectory.cls ≠ "java/lang/invoke/MethodHandle" ∧ yX8_readDirectory.cls ≠ "java/lang/invoke/VarHandle" ∧ (parseMethodDescriptor yX8_readDirectory.desc).map (fun d => d.parameters.length) = some 3 := by decide +kernel
theorem m_CO_X8_readFile : Cond.code yX8_readFile cX8_readFile 11 (some .boolean) ∈ W0 := wT4 142 rfl rfl
theorem m_IM_X8_readFile : Cond.instanceMethod yX8_readFile ∈ W0 := wT4 141 rfl rfl
theorem m_SE_X8_readFile : Cond.selects RX8 yX8_readFile yX8_readFile ∈ W0 := wS3 5 31 rfl rfl
abbrev wzX8_readFile : List Cond := .code yX8_readFile cX8_readFile 11 (some .boolean) :: W0
theorem hd_X8_readFile : yX8_readFile.cls = RX8 ∧ yX8_readFile.cls ≠ "java/lang/invoke/MethodHandle" ∧ yX8_readFile.cls ≠ "java/lang/invoke/VarHandle" ∧ (parseMethodDescriptor yX8_readFile.desc).map (fun d => d.parameters.length) = some 3 := by decide +kernel
theorem m_CO_X8_save : Cond.code yX8_save cX8_save 6 (some .int) ∈ W0 := wT4 56 rfl rfl
theorem m_IM_X8_save : Cond.instanceMethod yX8_save ∈ W0 := wT4 54 rfl rfl
theorem m_SE_X8_save : Cond.selects RX8 yX8_save yX8_save ∈ W0 := wT4 55 rfl rfl
abbrev wzX8_save : List Cond := .code yX8_save cX8_save 6 (some .int) :: W0
theorem hd_X8_save : yX8_save.cls = RX8 ∧ yX8_save.cls ≠ "java/lang/invoke/MethodHandle" ∧ yX8_save.cls ≠ "java/lang/invoke/VarHandle" ∧ (parseMethodDescriptor yX8_save.desc).map (fun d => d.parameters.length) = some 3 := by decide +kernel
theorem m_CO_X8_saves : Cond.code yX8_saves cX8_saves 10 (some .boolean) ∈ W0 := wT4 60 rfl rfl
theorem m_IM_X8_saves : Cond.instanceMethod yX8_saves ∈ W0 := wT4 59 rfl rfl
theorem m_SE_X8_saves : Cond.selects RX8 yX8_saves yX8_saves ∈ W0 := wS2 3 31 rfl rfl
abbrev wzX8_saves : List Cond := .code yX8_saves cX8_saves 10 (some .boolean) :: W0
theorem hd_X8_saves : yX8_saves.cls = RX8 ∧ yX8_saves.cls ≠ "java/lang/invoke/MethodHandle" ∧ yX8_saves.cls ≠ "java/lang/invoke/VarHandle" ∧ (parseMethodDescriptor yX8_saves.desc).map (fun d => d.parameters.length) = some 4 := by decide +kernel
theorem m_CO_X8_scratch : Cond.code yX8_scratch cX8_scratch 4 (some .int) ∈ W0 := wT4 150 rfl rfl
theorem m_IM_X8_scratch : Cond.instanceMethod yX8_scratch ∈ W0 := wT4 148 rfl rfl
theorem m_SE_X8_scratch : Cond.selects RX8 yX8_scratch yX8_scratch ∈ W0 := wT4 149 rfl rfl
abbrev wzX8_scratch : List Cond := .code yX8_scratch cX8_scratch 4 (some .int) :: W0
theorem hd_X8_scratch : yX8_scratch.cls = RX8 ∧ yX8_scratch.cls ≠ "java/lang/invoke/MethodHandle" ∧ yX8_scratch.cls ≠ "java/lang/invoke/VarHandle" ∧ (parseMethodDescriptor yX8_scratch.desc).map (fun d => d.parameters.length) = some 2 := by decide +kernel
theorem m_CO_X8_scratches : Cond.code yX8_scratches cX8_scratches 4 (some .boolean) ∈ W0 := wT4 154 rfl rfl
theorem m_IM_X8_scratches : Cond.instanceMethod yX8_scratches ∈ W0 := wT4 153 rfl rfl
theorem m_SE_X8_scratches : Cond.selects RX8 yX8_scratches yX8_scratches ∈ W0 := wS3 7 31 rfl rfl
abbrev wzX8_scratches : List Cond := .code yX8_scratches cX8_scratches 4 (some .boolean) :: W0
theorem hd_X8_scratches : yX8_scratches.cls = RX8 ∧ yX8_scratches.cls ≠ "java/lang/invoke/MethodHandle" ∧ yX8_scratches.cls ≠ "java/lang/invoke/VarHandle" ∧ (parseMethodDescriptor yX8_scratches.desc).map (fun d => d.parameters.length) = some 2 := by decide +kernel
theorem m_CO_X8_sectorsOf : Cond.code yX8_sectorsOf cX8_sectorsOf 1 (some .int) ∈ W0 := wT4 12 rfl rfl
theorem m_ST_X8_sectorsOf : Cond.static yX8_sectorsOf ∈ W0 := wT4 11 rfl rfl
abbrev wzX8_sectorsOf : List Cond := .code yX8_sectorsOf cX8_sectorsOf 1 (some .int) :: W0
theorem hd_X8_sectorsOf : yX8_sectorsOf.cls = RX8 ∧ yX8_sectorsOf.cls ≠ "java/lang/invoke/MethodHandle" ∧ yX8_sectorsOf.cls ≠ "java/lang/invoke/VarHandle" ∧ (parseMethodDescriptor yX8_sectorsOf.desc).map (fun d => d.parameters.length) = some 1 := by decide +kernel
theorem m_CO_X8_seek : Cond.code yX8_seek cX8_seek 6 (some .int) ∈ W0 := wT4 72 rfl rfl
theorem m_IM_X8_seek : Cond.instanceMethod yX8_seek ∈ W0 := wT4 71 rfl rfl
theorem m_SE_X8_seek : Cond.selects RX8 yX8_seek yX8_seek ∈ W0 := wS2 6 31 rfl rfl
abbrev wzX8_seek : List Cond := .code yX8_seek cX8_seek 6 (some .int) :: W0
theorem hd_X8_seek : yX8_seek.cls = RX8 ∧ yX8_seek.cls ≠ "java/lang/invoke/MethodHandle" ∧ yX8_seek.cls ≠ "java/lang/invoke/VarHandle" ∧ (parseMethodDescriptor yX8_seek.desc).map (fun d => d.parameters.length) = some 2 := by decide +kernel
theorem m_CO_X8_setByte : Cond.code yX8_setByte cX8_setByte 6 none ∈ W0 := wT4 189 rfl rfl
theorem m_IM_X8_setByte : Cond.instanceMethod yX8_setByte ∈ W0 := wT4 188 rfl rfl
theorem m_SE_X8_setByte : Cond.selects RX8 yX8_setByte yX8_setByte ∈ W0 := wS3 9 31 rfl rfl
abbrev wzX8_setByte : List Cond := .code yX8_setByte cX8_setByte 6 none :: W0
theorem hd_X8_setByte : yX8_setByte.cls = RX8 ∧ yX8_setByte.cls ≠ "java/lang/invoke/MethodHandle" ∧ yX8_setByte.cls ≠ "java/lang/invoke/VarHandle" ∧ (parseMethodDescriptor yX8_setByte.desc).map (fun d => d.parameters.length) = some 3 := by decide +kernel
theorem m_CO_X8_setCodes : Cond.code yX8_setCodes cX8_setCodes 6 none ∈ W0 := wT3 138 rfl rfl
theorem m_IM_X8_setCodes : Cond.instanceMethod yX8_setCodes ∈ W0 := wT3 137 rfl rfl
theorem m_SE_X8_setCodes : Cond.selects RX8 yX8_setCodes yX8_setCodes ∈ W0 := wS1 12 31 rfl rfl
abbrev wzX8_setCodes : List Cond := .code yX8_setCodes cX8_setCodes 6 none :: W0
theorem hd_X8_setCodes : yX8_setCodes.cls = RX8 ∧ yX8_setCodes.cls ≠ "java/lang/invoke/MethodHandle" ∧ yX8_setCodes.cls ≠ "java/lang/invoke/VarHandle" ∧ (parseMethodDescriptor yX8_setCodes.desc).map (fun d => d.parameters.length) = some 5 := by decide +kernel
theorem m_CO_X8_setFree : Cond.code yX8_setFree cX8_setFree 6 none ∈ W0 := wT4 16 rfl rfl
theorem m_IM_X8_setFree : Cond.instanceMethod yX8_setFree ∈ W0 := wT4 15 rfl rfl
theorem m_SE_X8_setFree : Cond.selects RX8 yX8_setFree yX8_setFree ∈ W0 := wS1 13 31 rfl rfl
abbrev wzX8_setFree : List Cond := .code yX8_setFree cX8_setFree 6 none :: W0
theorem hd_X8_setFree : yX8_setFree.cls = RX8 ∧ yX8_setFree.cls ≠ "java/lang/invoke/MethodHandle" ∧ yX8_setFree.cls ≠ "java/lang/invoke/VarHandle" ∧ (parseMethodDescriptor yX8_setFree.desc).map (fun d => d.parameters.length) = some 3 := by decide +kernel
theorem m_CO_X8_stamp : Cond.code yX8_stamp cX8_stamp 5 (some .int) ∈ W0 := wT4 193 rfl rfl
theorem m_IM_X8_stamp : Cond.instanceMethod yX8_stamp ∈ W0 := wT4 191 rfl rfl
theorem m_SE_X8_stamp : Cond.selects RX8 yX8_stamp yX8_stamp ∈ W0 := wT4 192 rfl rfl
abbrev wzX8_stamp : List Cond := .code yX8_stamp cX8_stamp 5 (some .int) :: W0
theorem hd_X8_stamp : yX8_stamp.cls = RX8 ∧ yX8_stamp.cls ≠ "java/lang/invoke/MethodHandle" ∧ yX8_stamp.cls ≠ "java/lang/invoke/VarHandle" ∧ (parseMethodDescriptor yX8_stamp.desc).map (fun d => d.parameters.length) = some 3 := by decide +kernel
theorem m_CO_X8_startOf : Cond.code yX8_startOf cX8_startOf 3 (some .int) ∈ W0 := wT4 30 rfl rfl
theorem m_ST_X8_startOf : Cond.static yX8_startOf ∈ W0 := wT4 29 rfl rfl
abbrev wzX8_startOf : List Cond := .code yX8_startOf cX8_startOf 3 (some .int) :: W0
theorem hd_X8_startOf : yX8_startOf.cls = RX8 ∧ yX8_startOf.cls ≠ "java/lang/invoke/MethodHandle" ∧ yX8_startOf.cls ≠ "java/lang/invoke/VarHandle" ∧ (parseMethodDescriptor yX8_startOf.desc).map (fun d => d.parameters.length) = some 1 := by decide +kernel
theorem m_CO_X8_status : Cond.code yX8_status cX8_status 2 (some .int) ∈ W0 := wT4 170 rfl rfl
theorem m_IM_X8_status : Cond.instanceMethod yX8_status ∈ W0 := wT4 168 rfl rfl
theorem m_SE_X8_status : Cond.selects RX8 yX8_status yX8_status ∈ W0 := wT4 169 rfl rfl
abbrev wzX8_status : List Cond := .code yX8_status cX8_status 2 (some .int) :: W0
theorem hd_X8_status : yX8_status.cls = RX8 ∧ yX8_status.cls ≠ "java/lang/invoke/MethodHandle" ∧ yX8_status.cls ≠ "java/lang/invoke/VarHandle" ∧ (parseMethodDescriptor yX8_status.desc).map (fun d => d.parameters.length) = some 1 := by decide +kernel
theorem m_CO_X8_syncs : Cond.code yX8_syncs cX8_syncs 2 (some .int) ∈ W0 := wT4 201 rfl rfl
theorem m_IM_X8_syncs : Cond.instanceMethod yX8_syncs ∈ W0 := wT4 199 rfl rfl
theorem m_SE_X8_syncs : Cond.selects RX8 yX8_syncs yX8_syncs ∈ W0 := wT4 200 rfl rfl
abbrev wzX8_syncs : List Cond := .code yX8_syncs cX8_syncs 2 (some .int) :: W0
theorem hd_X8_syncs : yX8_syncs.cls = RX8 ∧ yX8_syncs.cls ≠ "java/lang/invoke/MethodHandle" ∧ yX8_syncs.cls ≠ "java/lang/invoke/VarHandle" ∧ (parseMethodDescriptor yX8_syncs.desc).map (fun d => d.parameters.length) = some 1 := by decide +kernel
theorem m_CO_X8_takes : Cond.code yX8_takes cX8_takes 5 (some .boolean) ∈ W0 := wT4 118 rfl rfl
theorem m_IM_X8_takes : Cond.instanceMethod yX8_takes ∈ W0 := wT4 117 rfl rfl
theorem m_SE_X8_takes : Cond.selects RX8 yX8_takes yX8_takes ∈ W0 := wS3 0 31 rfl rfl
abbrev wzX8_takes : List Cond := .code yX8_takes cX8_takes 5 (some .boolean) :: W0
theorem hd_X8_takes : yX8_takes.cls = RX8 ∧ yX8_takes.cls ≠ "java/lang/invoke/MethodHandle" ∧ yX8_takes.cls ≠ "java/lang/invoke/VarHandle" ∧ (parseMethodDescriptor yX8_takes.desc).map (fun d => d.parameters.length) = some 1 := by decide +kernel
theorem m_CO_X8_tell : Cond.code yX8_tell cX8_tell 2 none ∈ W0 := wT4 146 rfl rfl
theorem m_IM_X8_tell : Cond.instanceMethod yX8_tell ∈ W0 := wT4 145 rfl rfl
theorem m_SE_X8_tell : Cond.selects RX8 yX8_tell yX8_tell ∈ W0 := wS3 6 31 rfl rfl
abbrev wzX8_tell : List Cond := .code yX8_tell cX8_tell 2 none :: W0
theorem hd_X8_tell : yX8_tell.cls = RX8 ∧ yX8_tell.cls ≠ "java/lang/invoke/MethodHandle" ∧ yX8_tell.cls ≠ "java/lang/invoke/VarHandle" ∧ (parseMethodDescriptor yX8_tell.desc).map (fun d => d.parameters.length) = some 1 := by decide +kernel
theorem m_CO_X8_turn : Cond.code yX8_turn cX8_turn 7 (some .int) ∈ W0 := wT4 197 rfl rfl
theorem m_IM_X8_turn : Cond.instanceMethod yX8_turn ∈ W0 := wT4 195 rfl rfl
theorem m_SE_X8_turn : Cond.selects RX8 yX8_turn yX8_turn ∈ W0 := wT4 196 rfl rfl
abbrev wzX8_turn : List Cond := .code yX8_turn cX8_turn 7 (some .int) :: W0
theorem hd_X8_turn : yX8_turn.cls = RX8 ∧ yX8_turn.cls ≠ "java/lang/invoke/MethodHandle" ∧ yX8_turn.cls ≠ "java/lang/invoke/VarHandle" ∧ (parseMethodDescriptor yX8_turn.desc).map (fun d => d.parameters.length) = some 2 := by decide +kernel
theorem m_CO_X8_write : Cond.code yX8_write cX8_write 5 (some .int) ∈ W0 := wT4 209 rfl rfl
theorem m_IM_X8_write : Cond.instanceMethod yX8_write ∈ W0 := wT4 207 rfl rfl
theorem m_SE_X8_write : Cond.selects RX8 yX8_write yX8_write ∈ W0 := wT4 208 rfl rfl
abbrev wzX8_write : List Cond := .code yX8_write cX8_write 5 (some .int) :: W0
theorem hd_X8_write : yX8_write.cls = RX8 ∧ yX8_write.cls ≠ "java/lang/invoke/MethodHandle" ∧ yX8_write.cls ≠ "java/lang/invoke/VarHandle" ∧ (parseMethodDescriptor yX8_write.desc).map (fun d => d.parameters.length) = some 2 := by decide +kernel
theorem m_CO_X8_writeBlock : Cond.code yX8_writeBlock cX8_writeBlock 4 (some .int) ∈ W0 := wT4 126 rfl rfl
theorem m_IM_X8_writeBlock : Cond.instanceMethod yX8_writeBlock ∈ W0 := wT4 125 rfl rfl
theorem m_SE_X8_writeBlock : Cond.selects RX8 yX8_writeBlock yX8_writeBlock ∈ W0 := wS3 2 31 rfl rfl
abbrev wzX8_writeBlock : List Cond := .code yX8_writeBlock cX8_writeBlock 4 (some .int) :: W0
theorem hd_X8_writeBlock : yX8_writeBlock.cls = RX8 ∧ yX8_writeBlock.cls ≠ "java/lang/invoke/MethodHandle" ∧ yX8_writeBlock.cls ≠ "java/lang/invoke/VarHandle" ∧ (parseMethodDescriptor yX8_writeBlock.desc).map (fun d => d.parameters.length) = some 2 := by decide +kernel
theorem m_CO_X8_writeDirectory : Cond.code yX8_writeDirectory cX8_writeDirectory 3 (some .boolean) ∈ W0 := wT4 130 rfl rfl
theorem m_IM_X8_writeDirectory : Cond.instanceMethod yX8_writeDirectory ∈ W0 := wT4 129 rfl rfl
theorem m_SE_X8_writeDirectory : Cond.selects RX8 yX8_writeDirectory yX8_writeDirectory ∈ W0 := wS3 3 31 rfl rfl
abbrev wzX8_writeDirectory : List Cond := .code yX8_writeDirectory cX8_writeDirectory 3 (some .boolean) :: W0
theorem hd_X8_writeDirectory : yX8_writeDirectory.cls = RX8 ∧ yX8_writeDirectory.cls ≠ "java/lang/invoke/MethodHandle" ∧ yX8_writeDirectory.cls ≠ "java/lang/invoke/VarHandle" ∧ (parseMethodDescriptor yX8_writeDirectory.desc).map (fun d => d.parameters.length) = some 1 := by decide +kernel
theorem m_CO_X8_writeFile : Cond.code yX8_writeFile cX8_writeFile 6 (some .boolean) ∈ W0 := wT4 122 rfl rfl
theorem m_IM_X8_writeFile : Cond.instanceMethod yX8_writeFile ∈ W0 := wT4 121 rfl rfl
theorem m_SE_X8_writeFile : Cond.selects RX8 yX8_writeFile yX8_writeFile ∈ W0 := wS3 1 31 rfl rfl
abbrev wzX8_writeFile : List Cond := .code yX8_writeFile cX8_writeFile 6 (some .boolean) :: W0
theorem hd_X8_writeFile : yX8_writeFile.cls = RX8 ∧ yX8_writeFile.cls ≠ "java/lang/invoke/MethodHandle" ∧ yX8_writeFile.cls ≠ "java/lang/invoke/VarHandle" ∧ (parseMethodDescriptor yX8_writeFile.desc).map (fun d => d.parameters.length) = some 1 := by decide +kernel
theorem m_CO_X8_writeMap : Cond.code yX8_writeMap cX8_writeMap 2 (some .boolean) ∈ W0 := wT4 134 rfl rfl
theorem m_IM_X8_writeMap : Cond.instanceMethod yX8_writeMap ∈ W0 := wT4 133 rfl rfl
theorem m_SE_X8_writeMap : Cond.selects RX8 yX8_writeMap yX8_writeMap ∈ W0 := wS3 4 31 rfl rfl
abbrev wzX8_writeMap : List Cond := .code yX8_writeMap cX8_writeMap 2 (some .boolean) :: W0
theorem hd_X8_writeMap : yX8_writeMap.cls = RX8 ∧ yX8_writeMap.cls ≠ "java/lang/invoke/MethodHandle" ∧ yX8_writeMap.cls ≠ "java/lang/invoke/VarHandle" ∧ (parseMethodDescriptor yX8_writeMap.desc).map (fun d => d.parameters.length) = some 0 := by decide +kernel
theorem m_native_cpy : Cond.native arraycopyName ∈ W0 := wT2 73 rfl rfl
theorem m_static_cpy : Cond.static arraycopyName ∈ W0 := wT2 72 rfl rfl
theorem m_ST_max : Cond.static Lib.Math.max.name ∈ W0 := wT1 56 rfl rfl
theorem m_CO_max : Cond.code Lib.Math.max.name Lib.Math.max.code 2 (some .int) ∈ W0 := wT1 57 rfl rfl
theorem m_CO_obj : Cond.code objectInit ⟨#[0xb1]⟩ 1 none ∈ W0 := wT1 19 rfl rfl
theorem ss_J9_floorMod_7cf53 : Cond.static yJ9_floorMod_7cf53 ∈ W0 ∧ Cond.initialized yJ9_floorMod_7cf53.cls ∈ W0 ∧ Cond.code yJ9_floorMod_7cf53 cJ9_floorMod_7cf53 3 (some .int) ∈ W0 := ⟨m_ST_J9_floorMod_7cf53, m_IN_J9, m_CO_J9_floorMod_7cf53⟩
theorem ss_J9_max_7cf53 : Cond.static yJ9_max_7cf53 ∈ W0 ∧ Cond.initialized yJ9_max_7cf53.cls ∈ W0 ∧ Cond.code yJ9_max_7cf53 cJ9_max_7cf53 2 (some .int) ∈ W0 := ⟨m_ST_J9_max_7cf53, m_IN_J9, m_CO_J9_max_7cf53⟩
theorem sv_X0_fetch : Cond.instanceMethod yX0_fetch ∈ W0 ∧ Cond.selects RX0 yX0_fetch yX0_fetch ∈ W0 ∧ Cond.initialized RX0 ∈ W0 ∧ Cond.code yX0_fetch cX0_fetch 5 (some .int) ∈ W0 := ⟨m_IM_X0_fetch, m_SE_X0_fetch, m_IN_X0, m_CO_X0_fetch⟩
theorem sv_X0_formatTrack : Cond.instanceMethod yX0_formatTrack ∈ W0 ∧ Cond.selects RX0 yX0_formatTrack yX0_formatTrack ∈ W0 ∧ Cond.initialized RX0 ∈ W0 ∧ Cond.code yX0_formatTrack cX0_formatTrack 5 none ∈ W0 := ⟨m_IM_X0_formatTrack, m_SE_X0_formatTrack, m_IN_X0, m_CO_X0_formatTrack⟩
theorem sv_X0_formatTracks : Cond.instanceMethod yX0_formatTracks ∈ W0 ∧ Cond.selects RX0 yX0_formatTracks yX0_formatTracks ∈ W0 ∧ Cond.initialized RX0 ∈ W0 ∧ Cond.code yX0_formatTracks cX0_formatTracks 3 none ∈ W0 := ⟨m_IM_X0_formatTracks, m_SE_X0_formatTracks, m_IN_X0, m_CO_X0_formatTracks⟩
theorem sv_X0_headerError : Cond.instanceMethod yX0_headerError ∈ W0 ∧ Cond.selects RX0 yX0_headerError yX0_headerError ∈ W0 ∧ Cond.initialized RX0 ∈ W0 ∧ Cond.code yX0_headerError cX0_headerError 8 (some .int) ∈ W0 := ⟨m_IM_X0_headerError, m_SE_X0_headerError, m_IN_X0, m_CO_X0_headerError⟩
theorem ss_X0_isBlock : Cond.static yX0_isBlock ∈ W0 ∧ Cond.initialized yX0_isBlock.cls ∈ W0 ∧ Cond.code yX0_isBlock cX0_isBlock 2 (some .boolean) ∈ W0 := ⟨m_ST_X0_isBlock, m_IN_X0, m_CO_X0_isBlock⟩
theorem sv_X0_layFormatted : Cond.instanceMethod yX0_layFormatted ∈ W0 ∧ Cond.selects RX0 yX0_layFormatted yX0_layFormatted ∈ W0 ∧ Cond.initialized RX0 ∈ W0 ∧ Cond.code yX0_layFormatted cX0_layFormatted 5 none ∈ W0 := ⟨m_IM_X0_layFormatted, m_SE_X0_layFormatted, m_IN_X0, m_CO_X0_layFormatted⟩
theorem sv_X0_readBlock : Cond.instanceMethod yX0_readBlock ∈ W0 ∧ Cond.selects RX0 yX0_readBlock yX0_readBlock ∈ W0 ∧ Cond.initialized RX0 ∈ W0 ∧ Cond.code yX0_readBlock cX0_readBlock 8 (some .int) ∈ W0 := ⟨m_IM_X0_readBlock, m_SE_X0_readBlock, m_IN_X0, m_CO_X0_readBlock⟩
theorem sv_X0_ringOf : Cond.instanceMethod yX0_ringOf ∈ W0 ∧ Cond.selects RX0 yX0_ringOf yX0_ringOf ∈ W0 ∧ Cond.initialized RX0 ∈ W0 ∧ Cond.code yX0_ringOf cX0_ringOf 2 (some (.object "BitDrive$Ring")) ∈ W0 := ⟨m_IM_X0_ringOf, m_SE_X0_ringOf, m_IN_X0, m_CO_X0_ringOf⟩
theorem ss_X0_sectorsOf : Cond.static yX0_sectorsOf ∈ W0 ∧ Cond.initialized yX0_sectorsOf.cls ∈ W0 ∧ Cond.code yX0_sectorsOf cX0_sectorsOf 1 (some .int) ∈ W0 := ⟨m_ST_X0_sectorsOf, m_IN_X0, m_CO_X0_sectorsOf⟩
theorem sv_X0_seek : Cond.instanceMethod yX0_seek ∈ W0 ∧ Cond.selects RX0 yX0_seek yX0_seek ∈ W0 ∧ Cond.initialized RX0 ∈ W0 ∧ Cond.code yX0_seek cX0_seek 7 (some .int) ∈ W0 := ⟨m_IM_X0_seek, m_SE_X0_seek, m_IN_X0, m_CO_X0_seek⟩
theorem sv_X0_store : Cond.instanceMethod yX0_store ∈ W0 ∧ Cond.selects RX0 yX0_store yX0_store ∈ W0 ∧ Cond.initialized RX0 ∈ W0 ∧ Cond.code yX0_store cX0_store 5 (some .int) ∈ W0 := ⟨m_IM_X0_store, m_SE_X0_store, m_IN_X0, m_CO_X0_store⟩
theorem sv_X0_writeBlock : Cond.instanceMethod yX0_writeBlock ∈ W0 ∧ Cond.selects RX0 yX0_writeBlock yX0_writeBlock ∈ W0 ∧ Cond.initialized RX0 ∈ W0 ∧ Cond.code yX0_writeBlock cX0_writeBlock 6 (some .int) ∈ W0 := ⟨m_IM_X0_writeBlock, m_SE_X0_writeBlock, m_IN_X0, m_CO_X0_writeBlock⟩
theorem sv_X1_add : Cond.instanceMethod yX1_add ∈ W0 ∧ Cond.selects RX1 yX1_add yX1_add ∈ W0 ∧ Cond.initialized RX1 ∈ W0 ∧ Cond.code yX1_add cX1_add 2 none ∈ W0 := ⟨m_IM_X1_add, m_SE_X1_add, m_IN_X1, m_CO_X1_add⟩
theorem sv_X1_addNumber : Cond.instanceMethod yX1_addNumber ∈ W0 ∧ Cond.selects RX1 yX1_addNumber yX1_addNumber ∈ W0 ∧ Cond.initialized RX1 ∈ W0 ∧ Cond.code yX1_addNumber cX1_addNumber 2 none ∈ W0 := ⟨m_IM_X1_addNumber, m_SE_X1_addNumber, m_IN_X1, m_CO_X1_addNumber⟩
theorem sv_X1_addRow : Cond.instanceMethod yX1_addRow ∈ W0 ∧ Cond.selects RX1 yX1_addRow yX1_addRow ∈ W0 ∧ Cond.initialized RX1 ∈ W0 ∧ Cond.code yX1_addRow cX1_addRow 5 none ∈ W0 := ⟨m_IM_X1_addRow, m_SE_X1_addRow, m_IN_X1, m_CO_X1_addRow⟩
theorem sv_X1_byteAt : Cond.instanceMethod yX1_byteAt ∈ W0 ∧ Cond.selects RX1 yX1_byteAt yX1_byteAt ∈ W0 ∧ Cond.initialized RX1 ∈ W0 ∧ Cond.code yX1_byteAt cX1_byteAt 2 (some .int) ∈ W0 := ⟨m_IM_X1_byteAt, m_SE_X1_byteAt, m_IN_X1, m_CO_X1_byteAt⟩
theorem sv_X2_addBlock : Cond.instanceMethod yX2_addBlock ∈ W0 ∧ Cond.selects RX2 yX2_addBlock yX2_addBlock ∈ W0 ∧ Cond.initialized RX2 ∈ W0 ∧ Cond.code yX2_addBlock cX2_addBlock 3 none ∈ W0 := ⟨m_IM_X2_addBlock, m_SE_X2_addBlock, m_IN_X2, m_CO_X2_addBlock⟩
theorem sv_X2_fillBlock : Cond.instanceMethod yX2_fillBlock ∈ W0 ∧ Cond.selects RX2 yX2_fillBlock yX2_fillBlock ∈ W0 ∧ Cond.initialized RX2 ∈ W0 ∧ Cond.code yX2_fillBlock cX2_fillBlock 6 none ∈ W0 := ⟨m_IM_X2_fillBlock, m_SE_X2_fillBlock, m_IN_X2, m_CO_X2_fillBlock⟩
theorem sv_X2_follow : Cond.instanceMethod yX2_follow ∈ W0 ∧ Cond.selects RX2 yX2_follow yX2_follow ∈ W0 ∧ Cond.initialized RX2 ∈ W0 ∧ Cond.code yX2_follow cX2_follow 8 (some .int) ∈ W0 := ⟨m_IM_X2_follow, m_SE_X2_follow, m_IN_X2, m_CO_X2_follow⟩
theorem sv_X2_release : Cond.instanceMethod yX2_release ∈ W0 ∧ Cond.selects RX2 yX2_release yX2_release ∈ W0 ∧ Cond.initialized RX2 ∈ W0 ∧ Cond.code yX2_release cX2_release 3 none ∈ W0 := ⟨m_IM_X2_release, m_SE_X2_release, m_IN_X2, m_CO_X2_release⟩
theorem sv_X2_store : Cond.instanceMethod yX2_store ∈ W0 ∧ Cond.selects RX2 yX2_store yX2_store ∈ W0 ∧ Cond.initialized RX2 ∈ W0 ∧ Cond.code yX2_store cX2_store 4 (some .int) ∈ W0 := ⟨m_IM_X2_store, m_SE_X2_store, m_IN_X2, m_CO_X2_store⟩
theorem sv_X2_take : Cond.instanceMethod yX2_take ∈ W0 ∧ Cond.selects RX2 yX2_take yX2_take ∈ W0 ∧ Cond.initialized RX2 ∈ W0 ∧ Cond.code yX2_take cX2_take 9 (some .boolean) ∈ W0 := ⟨m_IM_X2_take, m_SE_X2_take, m_IN_X2, m_CO_X2_take⟩
theorem sv_X3_addEntries : Cond.instanceMethod yX3_addEntries ∈ W0 ∧ Cond.selects RX3 yX3_addEntries yX3_addEntries ∈ W0 ∧ Cond.initialized RX3 ∈ W0 ∧ Cond.code yX3_addEntries cX3_addEntries 3 none ∈ W0 := ⟨m_IM_X3_addEntries, m_SE_X3_addEntries, m_IN_X3, m_CO_X3_addEntries⟩
theorem sv_X3_begin : Cond.instanceMethod yX3_begin ∈ W0 ∧ Cond.selects RX3 yX3_begin yX3_begin ∈ W0 ∧ Cond.initialized RX3 ∈ W0 ∧ Cond.code yX3_begin cX3_begin 1 (some .int) ∈ W0 := ⟨m_IM_X3_begin, m_SE_X3_begin, m_IN_X3, m_CO_X3_begin⟩
theorem sv_X3_findEntry : Cond.instanceMethod yX3_findEntry ∈ W0 ∧ Cond.selects RX3 yX3_findEntry yX3_findEntry ∈ W0 ∧ Cond.initialized RX3 ∈ W0 ∧ Cond.code yX3_findEntry cX3_findEntry 4 (some .boolean) ∈ W0 := ⟨m_IM_X3_findEntry, m_SE_X3_findEntry, m_IN_X3, m_CO_X3_findEntry⟩
theorem sv_X3_isLast : Cond.instanceMethod yX3_isLast ∈ W0 ∧ Cond.selects RX3 yX3_isLast yX3_isLast ∈ W0 ∧ Cond.initialized RX3 ∈ W0 ∧ Cond.code yX3_isLast cX3_isLast 1 (some .boolean) ∈ W0 := ⟨m_IM_X3_isLast, m_SE_X3_isLast, m_IN_X3, m_CO_X3_isLast⟩
theorem sv_X3_keepRoom : Cond.instanceMethod yX3_keepRoom ∈ W0 ∧ Cond.selects RX3 yX3_keepRoom yX3_keepRoom ∈ W0 ∧ Cond.initialized RX3 ∈ W0 ∧ Cond.code yX3_keepRoom cX3_keepRoom 2 none ∈ W0 := ⟨m_IM_X3_keepRoom, m_SE_X3_keepRoom, m_IN_X3, m_CO_X3_keepRoom⟩
theorem sv_X3_step : Cond.instanceMethod yX3_step ∈ W0 ∧ Cond.selects RX3 yX3_step yX3_step ∈ W0 ∧ Cond.initialized RX3 ∈ W0 ∧ Cond.code yX3_step cX3_step 1 (some .int) ∈ W0 := ⟨m_IM_X3_step, m_SE_X3_step, m_IN_X3, m_CO_X3_step⟩
theorem sv_X3_storeLink : Cond.instanceMethod yX3_storeLink ∈ W0 ∧ Cond.selects RX3 yX3_storeLink yX3_storeLink ∈ W0 ∧ Cond.initialized RX3 ∈ W0 ∧ Cond.code yX3_storeLink cX3_storeLink 1 (some .int) ∈ W0 := ⟨m_IM_X3_storeLink, m_SE_X3_storeLink, m_IN_X3, m_CO_X3_storeLink⟩
theorem sv_X3_storeWithoutEntry : Cond.instanceMethod yX3_storeWithoutEntry ∈ W0 ∧ Cond.selects RX3 yX3_storeWithoutEntry yX3_storeWithoutEntry ∈ W0 ∧ Cond.initialized RX3 ∈ W0 ∧ Cond.code yX3_storeWithoutEntry cX3_storeWithoutEntry 1 (some .int) ∈ W0 := ⟨m_IM_X3_storeWithoutEntry, m_SE_X3_storeWithoutEntry, m_IN_X3, m_CO_X3_storeWithoutEntry⟩
theorem sv_X3_takeEntry : Cond.instanceMethod yX3_takeEntry ∈ W0 ∧ Cond.selects RX3 yX3_takeEntry yX3_takeEntry ∈ W0 ∧ Cond.initialized RX3 ∈ W0 ∧ Cond.code yX3_takeEntry cX3_takeEntry 3 (some .boolean) ∈ W0 := ⟨m_IM_X3_takeEntry, m_SE_X3_takeEntry, m_IN_X3, m_CO_X3_takeEntry⟩
theorem sv_X4_fillNew : Cond.instanceMethod yX4_fillNew ∈ W0 ∧ Cond.selects RX4 yX4_fillNew yX4_fillNew ∈ W0 ∧ Cond.initialized RX4 ∈ W0 ∧ Cond.code yX4_fillNew cX4_fillNew 7 none ∈ W0 := ⟨m_IM_X4_fillNew, m_SE_X4_fillNew, m_IN_X4, m_CO_X4_fillNew⟩
theorem sv_X4_freeBlocks : Cond.instanceMethod yX4_freeBlocks ∈ W0 ∧ Cond.selects RX4 yX4_freeBlocks yX4_freeBlocks ∈ W0 ∧ Cond.initialized RX4 ∈ W0 ∧ Cond.code yX4_freeBlocks cX4_freeBlocks 8 (some .int) ∈ W0 := ⟨m_IM_X4_freeBlocks, m_SE_X4_freeBlocks, m_IN_X4, m_CO_X4_freeBlocks⟩
theorem sv_X4_isFree : Cond.instanceMethod yX4_isFree ∈ W0 ∧ Cond.selects RX4 yX4_isFree yX4_isFree ∈ W0 ∧ Cond.initialized RX4 ∈ W0 ∧ Cond.code yX4_isFree cX4_isFree 3 (some .boolean) ∈ W0 := ⟨m_IM_X4_isFree, m_SE_X4_isFree, m_IN_X4, m_CO_X4_isFree⟩
theorem sv_X4_leastFree : Cond.instanceMethod yX4_leastFree ∈ W0 ∧ Cond.selects RX4 yX4_leastFree yX4_leastFree ∈ W0 ∧ Cond.initialized RX4 ∈ W0 ∧ Cond.code yX4_leastFree cX4_leastFree 4 (some .int) ∈ W0 := ⟨m_IM_X4_leastFree, m_SE_X4_leastFree, m_IN_X4, m_CO_X4_leastFree⟩
theorem sv_X4_setFree : Cond.instanceMethod yX4_setFree ∈ W0 ∧ Cond.selects RX4 yX4_setFree yX4_setFree ∈ W0 ∧ Cond.initialized RX4 ∈ W0 ∧ Cond.code yX4_setFree cX4_setFree 6 none ∈ W0 := ⟨m_IM_X4_setFree, m_SE_X4_setFree, m_IN_X4, m_CO_X4_setFree⟩
theorem sv_X5_byteAt : Cond.instanceMethod yX5_byteAt ∈ W0 ∧ Cond.selects RX5 yX5_byteAt yX5_byteAt ∈ W0 ∧ Cond.initialized RX5 ∈ W0 ∧ Cond.code yX5_byteAt cX5_byteAt 2 (some .int) ∈ W0 := ⟨m_IM_X5_byteAt, m_SE_X5_byteAt, m_IN_X5, m_CO_X5_byteAt⟩
theorem sv_X5_codedAt : Cond.instanceMethod yX5_codedAt ∈ W0 ∧ Cond.selects RX5 yX5_codedAt yX5_codedAt ∈ W0 ∧ Cond.initialized RX5 ∈ W0 ∧ Cond.code yX5_codedAt cX5_codedAt 10 (some .int) ∈ W0 := ⟨m_IM_X5_codedAt, m_SE_X5_codedAt, m_IN_X5, m_CO_X5_codedAt⟩
theorem sv_X5_fillGap : Cond.instanceMethod yX5_fillGap ∈ W0 ∧ Cond.selects RX5 yX5_fillGap yX5_fillGap ∈ W0 ∧ Cond.initialized RX5 ∈ W0 ∧ Cond.code yX5_fillGap cX5_fillGap 2 none ∈ W0 := ⟨m_IM_X5_fillGap, m_SE_X5_fillGap, m_IN_X5, m_CO_X5_fillGap⟩
theorem sv_X5_findSyncs : Cond.instanceMethod yX5_findSyncs ∈ W0 ∧ Cond.selects RX5 yX5_findSyncs yX5_findSyncs ∈ W0 ∧ Cond.initialized RX5 ∈ W0 ∧ Cond.code yX5_findSyncs cX5_findSyncs 6 (some .int) ∈ W0 := ⟨m_IM_X5_findSyncs, m_SE_X5_findSyncs, m_IN_X5, m_CO_X5_findSyncs⟩
theorem sv_X5_hasByte : Cond.instanceMethod yX5_hasByte ∈ W0 ∧ Cond.selects RX5 yX5_hasByte yX5_hasByte ∈ W0 ∧ Cond.initialized RX5 ∈ W0 ∧ Cond.code yX5_hasByte cX5_hasByte 2 (some .boolean) ∈ W0 := ⟨m_IM_X5_hasByte, m_SE_X5_hasByte, m_IN_X5, m_CO_X5_hasByte⟩
theorem sv_X5_layRing : Cond.instanceMethod yX5_layRing ∈ W0 ∧ Cond.selects RX5 yX5_layRing yX5_layRing ∈ W0 ∧ Cond.initialized RX5 ∈ W0 ∧ Cond.code yX5_layRing cX5_layRing 3 none ∈ W0 := ⟨m_IM_X5_layRing, m_SE_X5_layRing, m_IN_X5, m_CO_X5_layRing⟩
theorem sv_X5_putBits : Cond.instanceMethod yX5_putBits ∈ W0 ∧ Cond.selects RX5 yX5_putBits yX5_putBits ∈ W0 ∧ Cond.initialized RX5 ∈ W0 ∧ Cond.code yX5_putBits cX5_putBits 11 none ∈ W0 := ⟨m_IM_X5_putBits, m_SE_X5_putBits, m_IN_X5, m_CO_X5_putBits⟩
theorem sv_X5_putCoded : Cond.instanceMethod yX5_putCoded ∈ W0 ∧ Cond.selects RX5 yX5_putCoded yX5_putCoded ∈ W0 ∧ Cond.initialized RX5 ∈ W0 ∧ Cond.code yX5_putCoded cX5_putCoded 3 none ∈ W0 := ⟨m_IM_X5_putCoded, m_SE_X5_putCoded, m_IN_X5, m_CO_X5_putCoded⟩
theorem sv_X5_putData : Cond.instanceMethod yX5_putData ∈ W0 ∧ Cond.selects RX5 yX5_putData yX5_putData ∈ W0 ∧ Cond.initialized RX5 ∈ W0 ∧ Cond.code yX5_putData cX5_putData 6 none ∈ W0 := ⟨m_IM_X5_putData, m_SE_X5_putData, m_IN_X5, m_CO_X5_putData⟩
theorem sv_X5_putHeader : Cond.instanceMethod yX5_putHeader ∈ W0 ∧ Cond.selects RX5 yX5_putHeader yX5_putHeader ∈ W0 ∧ Cond.initialized RX5 ∈ W0 ∧ Cond.code yX5_putHeader cX5_putHeader 7 none ∈ W0 := ⟨m_IM_X5_putHeader, m_SE_X5_putHeader, m_IN_X5, m_CO_X5_putHeader⟩
theorem sv_X5_putSync : Cond.instanceMethod yX5_putSync ∈ W0 ∧ Cond.selects RX5 yX5_putSync yX5_putSync ∈ W0 ∧ Cond.initialized RX5 ∈ W0 ∧ Cond.code yX5_putSync cX5_putSync 3 none ∈ W0 := ⟨m_IM_X5_putSync, m_SE_X5_putSync, m_IN_X5, m_CO_X5_putSync⟩
theorem sv_X5_rotate : Cond.instanceMethod yX5_rotate ∈ W0 ∧ Cond.selects RX5 yX5_rotate yX5_rotate ∈ W0 ∧ Cond.initialized RX5 ∈ W0 ∧ Cond.code yX5_rotate cX5_rotate 10 none ∈ W0 := ⟨m_IM_X5_rotate, m_SE_X5_rotate, m_IN_X5, m_CO_X5_rotate⟩
theorem ss_X5_sizeOf : Cond.static yX5_sizeOf ∈ W0 ∧ Cond.initialized yX5_sizeOf.cls ∈ W0 ∧ Cond.code yX5_sizeOf cX5_sizeOf 1 (some .int) ∈ W0 := ⟨m_ST_X5_sizeOf, m_IN_X5, m_CO_X5_sizeOf⟩
theorem sv_X5_startOf : Cond.instanceMethod yX5_startOf ∈ W0 ∧ Cond.selects RX5 yX5_startOf yX5_startOf ∈ W0 ∧ Cond.initialized RX5 ∈ W0 ∧ Cond.code yX5_startOf cX5_startOf 2 (some .int) ∈ W0 := ⟨m_IM_X5_startOf, m_SE_X5_startOf, m_IN_X5, m_CO_X5_startOf⟩
theorem sv_X5_takeData : Cond.instanceMethod yX5_takeData ∈ W0 ∧ Cond.selects RX5 yX5_takeData yX5_takeData ∈ W0 ∧ Cond.initialized RX5 ∈ W0 ∧ Cond.code yX5_takeData cX5_takeData 7 (some .int) ∈ W0 := ⟨m_IM_X5_takeData, m_SE_X5_takeData, m_IN_X5, m_CO_X5_takeData⟩
theorem sv_X6_tell : Cond.instanceMethod yX6_tell ∈ W0 ∧ Cond.selects RX6 yX6_tell yX6_tell ∈ W0 ∧ Cond.initialized RX6 ∈ W0 ∧ Cond.code yX6_tell cX6_tell 4 (some .int) ∈ W0 := ⟨m_IM_X6_tell, m_SE_X6_tell, m_IN_X6, m_CO_X6_tell⟩
theorem ss_X7_blocksNeeded : Cond.static yX7_blocksNeeded ∈ W0 ∧ Cond.initialized yX7_blocksNeeded.cls ∈ W0 ∧ Cond.code yX7_blocksNeeded cX7_blocksNeeded 1 (some .int) ∈ W0 := ⟨m_ST_X7_blocksNeeded, m_IN_X7, m_CO_X7_blocksNeeded⟩
theorem ss_X7_clearRow : Cond.static yX7_clearRow ∈ W0 ∧ Cond.initialized yX7_clearRow.cls ∈ W0 ∧ Cond.code yX7_clearRow cX7_clearRow 4 none ∈ W0 := ⟨m_ST_X7_clearRow, m_IN_X7, m_CO_X7_clearRow⟩
theorem sv_X7_count : Cond.instanceMethod yX7_count ∈ W0 ∧ Cond.selects RX7 yX7_count yX7_count ∈ W0 ∧ Cond.initialized RX7 ∈ W0 ∧ Cond.code yX7_count cX7_count 2 (some .int) ∈ W0 := ⟨m_IM_X7_count, m_SE_X7_count, m_IN_X7, m_CO_X7_count⟩
theorem sv_X7_end : Cond.instanceMethod yX7_end ∈ W0 ∧ Cond.selects RX7 yX7_end yX7_end ∈ W0 ∧ Cond.initialized RX7 ∈ W0 ∧ Cond.code yX7_end cX7_end 2 (some .int) ∈ W0 := ⟨m_IM_X7_end, m_SE_X7_end, m_IN_X7, m_CO_X7_end⟩
theorem sv_X7_feed : Cond.instanceMethod yX7_feed ∈ W0 ∧ Cond.selects RX7 yX7_feed yX7_feed ∈ W0 ∧ Cond.initialized RX7 ∈ W0 ∧ Cond.code yX7_feed cX7_feed 6 (some .int) ∈ W0 := ⟨m_IM_X7_feed, m_SE_X7_feed, m_IN_X7, m_CO_X7_feed⟩
theorem sv_X7_fillEntry : Cond.instanceMethod yX7_fillEntry ∈ W0 ∧ Cond.selects RX7 yX7_fillEntry yX7_fillEntry ∈ W0 ∧ Cond.initialized RX7 ∈ W0 ∧ Cond.code yX7_fillEntry cX7_fillEntry 6 none ∈ W0 := ⟨m_IM_X7_fillEntry, m_SE_X7_fillEntry, m_IN_X7, m_CO_X7_fillEntry⟩
theorem ss_X7_fillName : Cond.static yX7_fillName ∈ W0 ∧ Cond.initialized yX7_fillName.cls ∈ W0 ∧ Cond.code yX7_fillName cX7_fillName 5 none ∈ W0 := ⟨m_ST_X7_fillName, m_IN_X7, m_CO_X7_fillName⟩
theorem sv_X7_format : Cond.instanceMethod yX7_format ∈ W0 ∧ Cond.selects RX7 yX7_format yX7_format ∈ W0 ∧ Cond.initialized RX7 ∈ W0 ∧ Cond.code yX7_format cX7_format 4 (some .int) ∈ W0 := ⟨m_IM_X7_format, m_SE_X7_format, m_IN_X7, m_CO_X7_format⟩
theorem ss_X7_hasName : Cond.static yX7_hasName ∈ W0 ∧ Cond.initialized yX7_hasName.cls ∈ W0 ∧ Cond.code yX7_hasName cX7_hasName 5 (some .boolean) ∈ W0 := ⟨m_ST_X7_hasName, m_IN_X7, m_CO_X7_hasName⟩
theorem sv_X7_info : Cond.instanceMethod yX7_info ∈ W0 ∧ Cond.selects RX7 yX7_info yX7_info ∈ W0 ∧ Cond.initialized RX7 ∈ W0 ∧ Cond.code yX7_info cX7_info 2 (some .int) ∈ W0 := ⟨m_IM_X7_info, m_SE_X7_info, m_IN_X7, m_CO_X7_info⟩
theorem sv_X7_list : Cond.instanceMethod yX7_list ∈ W0 ∧ Cond.selects RX7 yX7_list yX7_list ∈ W0 ∧ Cond.initialized RX7 ∈ W0 ∧ Cond.code yX7_list cX7_list 3 (some .int) ∈ W0 := ⟨m_IM_X7_list, m_SE_X7_list, m_IN_X7, m_CO_X7_list⟩
theorem sv_X7_load : Cond.instanceMethod yX7_load ∈ W0 ∧ Cond.selects RX7 yX7_load yX7_load ∈ W0 ∧ Cond.initialized RX7 ∈ W0 ∧ Cond.code yX7_load cX7_load 4 (some .int) ∈ W0 := ⟨m_IM_X7_load, m_SE_X7_load, m_IN_X7, m_CO_X7_load⟩
theorem sv_X7_lookFor : Cond.instanceMethod yX7_lookFor ∈ W0 ∧ Cond.selects RX7 yX7_lookFor yX7_lookFor ∈ W0 ∧ Cond.initialized RX7 ∈ W0 ∧ Cond.code yX7_lookFor cX7_lookFor 5 (some .int) ∈ W0 := ⟨m_IM_X7_lookFor, m_SE_X7_lookFor, m_IN_X7, m_CO_X7_lookFor⟩
theorem sv_X7_mount : Cond.instanceMethod yX7_mount ∈ W0 ∧ Cond.selects RX7 yX7_mount yX7_mount ∈ W0 ∧ Cond.initialized RX7 ∈ W0 ∧ Cond.code yX7_mount cX7_mount 2 (some .int) ∈ W0 := ⟨m_IM_X7_mount, m_SE_X7_mount, m_IN_X7, m_CO_X7_mount⟩
theorem ss_X7_nameByte : Cond.static yX7_nameByte ∈ W0 ∧ Cond.initialized yX7_nameByte.cls ∈ W0 ∧ Cond.code yX7_nameByte cX7_nameByte 3 (some .int) ∈ W0 := ⟨m_ST_X7_nameByte, m_IN_X7, m_CO_X7_nameByte⟩
theorem sv_X7_openDisk : Cond.instanceMethod yX7_openDisk ∈ W0 ∧ Cond.selects RX7 yX7_openDisk yX7_openDisk ∈ W0 ∧ Cond.initialized RX7 ∈ W0 ∧ Cond.code yX7_openDisk cX7_openDisk 1 (some .int) ∈ W0 := ⟨m_IM_X7_openDisk, m_SE_X7_openDisk, m_IN_X7, m_CO_X7_openDisk⟩
theorem sv_X7_out : Cond.instanceMethod yX7_out ∈ W0 ∧ Cond.selects RX7 yX7_out yX7_out ∈ W0 ∧ Cond.initialized RX7 ∈ W0 ∧ Cond.code yX7_out cX7_out 2 (some .int) ∈ W0 := ⟨m_IM_X7_out, m_SE_X7_out, m_IN_X7, m_CO_X7_out⟩
theorem sv_X7_outputOr : Cond.instanceMethod yX7_outputOr ∈ W0 ∧ Cond.selects RX7 yX7_outputOr yX7_outputOr ∈ W0 ∧ Cond.initialized RX7 ∈ W0 ∧ Cond.code yX7_outputOr cX7_outputOr 2 (some .int) ∈ W0 := ⟨m_IM_X7_outputOr, m_SE_X7_outputOr, m_IN_X7, m_CO_X7_outputOr⟩
theorem sv_X7_peek : Cond.instanceMethod yX7_peek ∈ W0 ∧ Cond.selects RX7 yX7_peek yX7_peek ∈ W0 ∧ Cond.initialized RX7 ∈ W0 ∧ Cond.code yX7_peek cX7_peek 4 (some .int) ∈ W0 := ⟨m_IM_X7_peek, m_SE_X7_peek, m_IN_X7, m_CO_X7_peek⟩
theorem sv_X7_poke : Cond.instanceMethod yX7_poke ∈ W0 ∧ Cond.selects RX7 yX7_poke yX7_poke ∈ W0 ∧ Cond.initialized RX7 ∈ W0 ∧ Cond.code yX7_poke cX7_poke 6 (some .int) ∈ W0 := ⟨m_IM_X7_poke, m_SE_X7_poke, m_IN_X7, m_CO_X7_poke⟩
theorem sv_X7_read : Cond.instanceMethod yX7_read ∈ W0 ∧ Cond.selects RX7 yX7_read yX7_read ∈ W0 ∧ Cond.initialized RX7 ∈ W0 ∧ Cond.code yX7_read cX7_read 4 (some .int) ∈ W0 := ⟨m_IM_X7_read, m_SE_X7_read, m_IN_X7, m_CO_X7_read⟩
theorem sv_X7_save : Cond.instanceMethod yX7_save ∈ W0 ∧ Cond.selects RX7 yX7_save yX7_save ∈ W0 ∧ Cond.initialized RX7 ∈ W0 ∧ Cond.code yX7_save cX7_save 5 (some .int) ∈ W0 := ⟨m_IM_X7_save, m_SE_X7_save, m_IN_X7, m_CO_X7_save⟩
theorem sv_X7_scratch : Cond.instanceMethod yX7_scratch ∈ W0 ∧ Cond.selects RX7 yX7_scratch yX7_scratch ∈ W0 ∧ Cond.initialized RX7 ∈ W0 ∧ Cond.code yX7_scratch cX7_scratch 4 (some .int) ∈ W0 := ⟨m_IM_X7_scratch, m_SE_X7_scratch, m_IN_X7, m_CO_X7_scratch⟩
theorem sv_X7_stamp : Cond.instanceMethod yX7_stamp ∈ W0 ∧ Cond.selects RX7 yX7_stamp yX7_stamp ∈ W0 ∧ Cond.initialized RX7 ∈ W0 ∧ Cond.code yX7_stamp cX7_stamp 5 (some .int) ∈ W0 := ⟨m_IM_X7_stamp, m_SE_X7_stamp, m_IN_X7, m_CO_X7_stamp⟩
theorem sv_X7_status : Cond.instanceMethod yX7_status ∈ W0 ∧ Cond.selects RX7 yX7_status yX7_status ∈ W0 ∧ Cond.initialized RX7 ∈ W0 ∧ Cond.code yX7_status cX7_status 2 (some .int) ∈ W0 := ⟨m_IM_X7_status, m_SE_X7_status, m_IN_X7, m_CO_X7_status⟩
theorem sv_X7_storeEntry : Cond.instanceMethod yX7_storeEntry ∈ W0 ∧ Cond.selects RX7 yX7_storeEntry yX7_storeEntry ∈ W0 ∧ Cond.initialized RX7 ∈ W0 ∧ Cond.code yX7_storeEntry cX7_storeEntry 5 (some .int) ∈ W0 := ⟨m_IM_X7_storeEntry, m_SE_X7_storeEntry, m_IN_X7, m_CO_X7_storeEntry⟩
theorem sv_X7_syncs : Cond.instanceMethod yX7_syncs ∈ W0 ∧ Cond.selects RX7 yX7_syncs yX7_syncs ∈ W0 ∧ Cond.initialized RX7 ∈ W0 ∧ Cond.code yX7_syncs cX7_syncs 3 (some .int) ∈ W0 := ⟨m_IM_X7_syncs, m_SE_X7_syncs, m_IN_X7, m_CO_X7_syncs⟩
theorem sv_X7_takeRoom : Cond.instanceMethod yX7_takeRoom ∈ W0 ∧ Cond.selects RX7 yX7_takeRoom yX7_takeRoom ∈ W0 ∧ Cond.initialized RX7 ∈ W0 ∧ Cond.code yX7_takeRoom cX7_takeRoom 1 (some .boolean) ∈ W0 := ⟨m_IM_X7_takeRoom, m_SE_X7_takeRoom, m_IN_X7, m_CO_X7_takeRoom⟩
theorem sv_X7_turn : Cond.instanceMethod yX7_turn ∈ W0 ∧ Cond.selects RX7 yX7_turn yX7_turn ∈ W0 ∧ Cond.initialized RX7 ∈ W0 ∧ Cond.code yX7_turn cX7_turn 4 (some .int) ∈ W0 := ⟨m_IM_X7_turn, m_SE_X7_turn, m_IN_X7, m_CO_X7_turn⟩
theorem sv_X7_write : Cond.instanceMethod yX7_write ∈ W0 ∧ Cond.selects RX7 yX7_write yX7_write ∈ W0 ∧ Cond.initialized RX7 ∈ W0 ∧ Cond.code yX7_write cX7_write 4 (some .int) ∈ W0 := ⟨m_IM_X7_write, m_SE_X7_write, m_IN_X7, m_CO_X7_write⟩
theorem sv_X8_begins : Cond.instanceMethod yX8_begins ∈ W0 ∧ Cond.selects RX8 yX8_begins yX8_begins ∈ W0 ∧ Cond.initialized RX8 ∈ W0 ∧ Cond.code yX8_begins cX8_begins 4 (some .boolean) ∈ W0 := ⟨m_IM_X8_begins, m_SE_X8_begins, m_IN_X8, m_CO_X8_begins⟩
theorem sv_X8_byteAt : Cond.instanceMethod yX8_byteAt ∈ W0 ∧ Cond.selects RX8 yX8_byteAt yX8_byteAt ∈ W0 ∧ Cond.initialized RX8 ∈ W0 ∧ Cond.code yX8_byteAt cX8_byteAt 6 (some .int) ∈ W0 := ⟨m_IM_X8_byteAt, m_SE_X8_byteAt, m_IN_X8, m_CO_X8_byteAt⟩
theorem ss_X8_bytesOf : Cond.static yX8_bytesOf ∈ W0 ∧ Cond.initialized yX8_bytesOf.cls ∈ W0 ∧ Cond.code yX8_bytesOf cX8_bytesOf 1 (some .int) ∈ W0 := ⟨m_ST_X8_bytesOf, m_IN_X8, m_CO_X8_bytesOf⟩
theorem sv_X8_count : Cond.instanceMethod yX8_count ∈ W0 ∧ Cond.selects RX8 yX8_count yX8_count ∈ W0 ∧ Cond.initialized RX8 ∈ W0 ∧ Cond.code yX8_count cX8_count 2 (some .int) ∈ W0 := ⟨m_IM_X8_count, m_SE_X8_count, m_IN_X8, m_CO_X8_count⟩
theorem sv_X8_dataOf : Cond.instanceMethod yX8_dataOf ∈ W0 ∧ Cond.selects RX8 yX8_dataOf yX8_dataOf ∈ W0 ∧ Cond.initialized RX8 ∈ W0 ∧ Cond.code yX8_dataOf cX8_dataOf 6 (some .int) ∈ W0 := ⟨m_IM_X8_dataOf, m_SE_X8_dataOf, m_IN_X8, m_CO_X8_dataOf⟩
theorem sv_X8_decoded : Cond.instanceMethod yX8_decoded ∈ W0 ∧ Cond.selects RX8 yX8_decoded yX8_decoded ∈ W0 ∧ Cond.initialized RX8 ∈ W0 ∧ Cond.code yX8_decoded cX8_decoded 8 (some .int) ∈ W0 := ⟨m_IM_X8_decoded, m_SE_X8_decoded, m_IN_X8, m_CO_X8_decoded⟩
theorem sv_X8_emptyEntry : Cond.instanceMethod yX8_emptyEntry ∈ W0 ∧ Cond.selects RX8 yX8_emptyEntry yX8_emptyEntry ∈ W0 ∧ Cond.initialized RX8 ∈ W0 ∧ Cond.code yX8_emptyEntry cX8_emptyEntry 3 (some .int) ∈ W0 := ⟨m_IM_X8_emptyEntry, m_SE_X8_emptyEntry, m_IN_X8, m_CO_X8_emptyEntry⟩
theorem sv_X8_end : Cond.instanceMethod yX8_end ∈ W0 ∧ Cond.selects RX8 yX8_end yX8_end ∈ W0 ∧ Cond.initialized RX8 ∈ W0 ∧ Cond.code yX8_end cX8_end 2 (some .int) ∈ W0 := ⟨m_IM_X8_end, m_SE_X8_end, m_IN_X8, m_CO_X8_end⟩
theorem sv_X8_ends : Cond.instanceMethod yX8_ends ∈ W0 ∧ Cond.selects RX8 yX8_ends yX8_ends ∈ W0 ∧ Cond.initialized RX8 ∈ W0 ∧ Cond.code yX8_ends cX8_ends 4 (some .int) ∈ W0 := ⟨m_IM_X8_ends, m_SE_X8_ends, m_IN_X8, m_CO_X8_ends⟩
theorem sv_X8_feed : Cond.instanceMethod yX8_feed ∈ W0 ∧ Cond.selects RX8 yX8_feed yX8_feed ∈ W0 ∧ Cond.initialized RX8 ∈ W0 ∧ Cond.code yX8_feed cX8_feed 8 (some .int) ∈ W0 := ⟨m_IM_X8_feed, m_SE_X8_feed, m_IN_X8, m_CO_X8_feed⟩
theorem sv_X8_findSyncs : Cond.instanceMethod yX8_findSyncs ∈ W0 ∧ Cond.selects RX8 yX8_findSyncs yX8_findSyncs ∈ W0 ∧ Cond.initialized RX8 ∈ W0 ∧ Cond.code yX8_findSyncs cX8_findSyncs 6 none ∈ W0 := ⟨m_IM_X8_findSyncs, m_SE_X8_findSyncs, m_IN_X8, m_CO_X8_findSyncs⟩
theorem sv_X8_format : Cond.instanceMethod yX8_format ∈ W0 ∧ Cond.selects RX8 yX8_format yX8_format ∈ W0 ∧ Cond.initialized RX8 ∈ W0 ∧ Cond.code yX8_format cX8_format 7 (some .int) ∈ W0 := ⟨m_IM_X8_format, m_SE_X8_format, m_IN_X8, m_CO_X8_format⟩
theorem sv_X8_freeOfDirectory : Cond.instanceMethod yX8_freeOfDirectory ∈ W0 ∧ Cond.selects RX8 yX8_freeOfDirectory yX8_freeOfDirectory ∈ W0 ∧ Cond.initialized RX8 ∈ W0 ∧ Cond.code yX8_freeOfDirectory cX8_freeOfDirectory 3 (some .int) ∈ W0 := ⟨m_IM_X8_freeOfDirectory, m_SE_X8_freeOfDirectory, m_IN_X8, m_CO_X8_freeOfDirectory⟩
theorem sv_X8_hasName : Cond.instanceMethod yX8_hasName ∈ W0 ∧ Cond.selects RX8 yX8_hasName yX8_hasName ∈ W0 ∧ Cond.initialized RX8 ∈ W0 ∧ Cond.code yX8_hasName cX8_hasName 6 (some .boolean) ∈ W0 := ⟨m_IM_X8_hasName, m_SE_X8_hasName, m_IN_X8, m_CO_X8_hasName⟩
theorem sv_X8_info : Cond.instanceMethod yX8_info ∈ W0 ∧ Cond.selects RX8 yX8_info yX8_info ∈ W0 ∧ Cond.initialized RX8 ∈ W0 ∧ Cond.code yX8_info cX8_info 4 (some .int) ∈ W0 := ⟨m_IM_X8_info, m_SE_X8_info, m_IN_X8, m_CO_X8_info⟩
theorem ss_X8_isBlock : Cond.static yX8_isBlock ∈ W0 ∧ Cond.initialized yX8_isBlock.cls ∈ W0 ∧ Cond.code yX8_isBlock cX8_isBlock 2 (some .boolean) ∈ W0 := ⟨m_ST_X8_isBlock, m_IN_X8, m_CO_X8_isBlock⟩
theorem ss_X8_isByte : Cond.static yX8_isByte ∈ W0 ∧ Cond.initialized yX8_isByte.cls ∈ W0 ∧ Cond.code yX8_isByte cX8_isByte 2 (some .boolean) ∈ W0 := ⟨m_ST_X8_isByte, m_IN_X8, m_CO_X8_isByte⟩
theorem sv_X8_isFree : Cond.instanceMethod yX8_isFree ∈ W0 ∧ Cond.selects RX8 yX8_isFree yX8_isFree ∈ W0 ∧ Cond.initialized RX8 ∈ W0 ∧ Cond.code yX8_isFree cX8_isFree 3 (some .boolean) ∈ W0 := ⟨m_IM_X8_isFree, m_SE_X8_isFree, m_IN_X8, m_CO_X8_isFree⟩
theorem sv_X8_isHeaderOf : Cond.instanceMethod yX8_isHeaderOf ∈ W0 ∧ Cond.selects RX8 yX8_isHeaderOf yX8_isHeaderOf ∈ W0 ∧ Cond.initialized RX8 ∈ W0 ∧ Cond.code yX8_isHeaderOf cX8_isHeaderOf 6 (some .boolean) ∈ W0 := ⟨m_IM_X8_isHeaderOf, m_SE_X8_isHeaderOf, m_IN_X8, m_CO_X8_isHeaderOf⟩
theorem ss_X8_isIn : Cond.static yX8_isIn ∈ W0 ∧ Cond.initialized yX8_isIn.cls ∈ W0 ∧ Cond.code yX8_isIn cX8_isIn 3 (some .boolean) ∈ W0 := ⟨m_ST_X8_isIn, m_IN_X8, m_CO_X8_isIn⟩
theorem ss_X8_isTrack : Cond.static yX8_isTrack ∈ W0 ∧ Cond.initialized yX8_isTrack.cls ∈ W0 ∧ Cond.code yX8_isTrack cX8_isTrack 1 (some .boolean) ∈ W0 := ⟨m_ST_X8_isTrack, m_IN_X8, m_CO_X8_isTrack⟩
theorem ss_X8_lengthOf : Cond.static yX8_lengthOf ∈ W0 ∧ Cond.initialized yX8_lengthOf.cls ∈ W0 ∧ Cond.code yX8_lengthOf cX8_lengthOf 1 (some .int) ∈ W0 := ⟨m_ST_X8_lengthOf, m_IN_X8, m_CO_X8_lengthOf⟩
theorem sv_X8_list : Cond.instanceMethod yX8_list ∈ W0 ∧ Cond.selects RX8 yX8_list yX8_list ∈ W0 ∧ Cond.initialized RX8 ∈ W0 ∧ Cond.code yX8_list cX8_list 4 (some .int) ∈ W0 := ⟨m_IM_X8_list, m_SE_X8_list, m_IN_X8, m_CO_X8_list⟩
theorem sv_X8_load : Cond.instanceMethod yX8_load ∈ W0 ∧ Cond.selects RX8 yX8_load yX8_load ∈ W0 ∧ Cond.initialized RX8 ∈ W0 ∧ Cond.code yX8_load cX8_load 3 (some .int) ∈ W0 := ⟨m_IM_X8_load, m_SE_X8_load, m_IN_X8, m_CO_X8_load⟩
theorem sv_X8_mount : Cond.instanceMethod yX8_mount ∈ W0 ∧ Cond.selects RX8 yX8_mount yX8_mount ∈ W0 ∧ Cond.initialized RX8 ∈ W0 ∧ Cond.code yX8_mount cX8_mount 2 (some .int) ∈ W0 := ⟨m_IM_X8_mount, m_SE_X8_mount, m_IN_X8, m_CO_X8_mount⟩
theorem ss_X8_nameByte : Cond.static yX8_nameByte ∈ W0 ∧ Cond.initialized yX8_nameByte.cls ∈ W0 ∧ Cond.code yX8_nameByte cX8_nameByte 3 (some .int) ∈ W0 := ⟨m_ST_X8_nameByte, m_IN_X8, m_CO_X8_nameByte⟩
theorem sv_X8_out : Cond.instanceMethod yX8_out ∈ W0 ∧ Cond.selects RX8 yX8_out yX8_out ∈ W0 ∧ Cond.initialized RX8 ∈ W0 ∧ Cond.code yX8_out cX8_out 2 (some .int) ∈ W0 := ⟨m_IM_X8_out, m_SE_X8_out, m_IN_X8, m_CO_X8_out⟩
theorem sv_X8_peek : Cond.instanceMethod yX8_peek ∈ W0 ∧ Cond.selects RX8 yX8_peek yX8_peek ∈ W0 ∧ Cond.initialized RX8 ∈ W0 ∧ Cond.code yX8_peek cX8_peek 3 (some .int) ∈ W0 := ⟨m_IM_X8_peek, m_SE_X8_peek, m_IN_X8, m_CO_X8_peek⟩
theorem sv_X8_poke : Cond.instanceMethod yX8_poke ∈ W0 ∧ Cond.selects RX8 yX8_poke yX8_poke ∈ W0 ∧ Cond.initialized RX8 ∈ W0 ∧ Cond.code yX8_poke cX8_poke 5 (some .int) ∈ W0 := ⟨m_IM_X8_poke, m_SE_X8_poke, m_IN_X8, m_CO_X8_poke⟩
theorem sv_X8_putBits : Cond.instanceMethod yX8_putBits ∈ W0 ∧ Cond.selects RX8 yX8_putBits yX8_putBits ∈ W0 ∧ Cond.initialized RX8 ∈ W0 ∧ Cond.code yX8_putBits cX8_putBits 6 none ∈ W0 := ⟨m_IM_X8_putBits, m_SE_X8_putBits, m_IN_X8, m_CO_X8_putBits⟩
theorem sv_X8_putCoded : Cond.instanceMethod yX8_putCoded ∈ W0 ∧ Cond.selects RX8 yX8_putCoded yX8_putCoded ∈ W0 ∧ Cond.initialized RX8 ∈ W0 ∧ Cond.code yX8_putCoded cX8_putCoded 2 none ∈ W0 := ⟨m_IM_X8_putCoded, m_SE_X8_putCoded, m_IN_X8, m_CO_X8_putCoded⟩
theorem sv_X8_putData : Cond.instanceMethod yX8_putData ∈ W0 ∧ Cond.selects RX8 yX8_putData yX8_putData ∈ W0 ∧ Cond.initialized RX8 ∈ W0 ∧ Cond.code yX8_putData cX8_putData 3 none ∈ W0 := ⟨m_IM_X8_putData, m_SE_X8_putData, m_IN_X8, m_CO_X8_putData⟩
theorem sv_X8_putSync : Cond.instanceMethod yX8_putSync ∈ W0 ∧ Cond.selects RX8 yX8_putSync yX8_putSync ∈ W0 ∧ Cond.initialized RX8 ∈ W0 ∧ Cond.code yX8_putSync cX8_putSync 1 none ∈ W0 := ⟨m_IM_X8_putSync, m_SE_X8_putSync, m_IN_X8, m_CO_X8_putSync⟩
theorem sv_X8_read : Cond.instanceMethod yX8_read ∈ W0 ∧ Cond.selects RX8 yX8_read yX8_read ∈ W0 ∧ Cond.initialized RX8 ∈ W0 ∧ Cond.code yX8_read cX8_read 5 (some .int) ∈ W0 := ⟨m_IM_X8_read, m_SE_X8_read, m_IN_X8, m_CO_X8_read⟩
theorem sv_X8_readBlock : Cond.instanceMethod yX8_readBlock ∈ W0 ∧ Cond.selects RX8 yX8_readBlock yX8_readBlock ∈ W0 ∧ Cond.initialized RX8 ∈ W0 ∧ Cond.code yX8_readBlock cX8_readBlock 4 (some .int) ∈ W0 := ⟨m_IM_X8_readBlock, m_SE_X8_readBlock, m_IN_X8, m_CO_X8_readBlock⟩
theorem sv_X8_readDirectory : Cond.instanceMethod yX8_readDirectory ∈ W0 ∧ Cond.selects RX8 yX8_readDirectory yX8_readDirectory ∈ W0 ∧ Cond.initialized RX8 ∈ W0 ∧ Cond.code yX8_readDirectory cX8_readDirectory 9 (some .boolean) ∈ W0 := ⟨m_IM_X8_readDirectory, m_SE_X8_readDirectory, m_IN_X8, m_CO_X8_readDirectory⟩
theorem sv_X8_readFile : Cond.instanceMethod yX8_readFile ∈ W0 ∧ Cond.selects RX8 yX8_readFile yX8_readFile ∈ W0 ∧ Cond.initialized RX8 ∈ W0 ∧ Cond.code yX8_readFile cX8_readFile 11 (some .boolean) ∈ W0 := ⟨m_IM_X8_readFile, m_SE_X8_readFile, m_IN_X8, m_CO_X8_readFile⟩
theorem sv_X8_save : Cond.instanceMethod yX8_save ∈ W0 ∧ Cond.selects RX8 yX8_save yX8_save ∈ W0 ∧ Cond.initialized RX8 ∈ W0 ∧ Cond.code yX8_save cX8_save 6 (some .int) ∈ W0 := ⟨m_IM_X8_save, m_SE_X8_save, m_IN_X8, m_CO_X8_save⟩
theorem sv_X8_saves : Cond.instanceMethod yX8_saves ∈ W0 ∧ Cond.selects RX8 yX8_saves yX8_saves ∈ W0 ∧ Cond.initialized RX8 ∈ W0 ∧ Cond.code yX8_saves cX8_saves 10 (some .boolean) ∈ W0 := ⟨m_IM_X8_saves, m_SE_X8_saves, m_IN_X8, m_CO_X8_saves⟩
theorem sv_X8_scratch : Cond.instanceMethod yX8_scratch ∈ W0 ∧ Cond.selects RX8 yX8_scratch yX8_scratch ∈ W0 ∧ Cond.initialized RX8 ∈ W0 ∧ Cond.code yX8_scratch cX8_scratch 4 (some .int) ∈ W0 := ⟨m_IM_X8_scratch, m_SE_X8_scratch, m_IN_X8, m_CO_X8_scratch⟩
theorem sv_X8_scratches : Cond.instanceMethod yX8_scratches ∈ W0 ∧ Cond.selects RX8 yX8_scratches yX8_scratches ∈ W0 ∧ Cond.initialized RX8 ∈ W0 ∧ Cond.code yX8_scratches cX8_scratches 4 (some .boolean) ∈ W0 := ⟨m_IM_X8_scratches, m_SE_X8_scratches, m_IN_X8, m_CO_X8_scratches⟩
theorem ss_X8_sectorsOf : Cond.static yX8_sectorsOf ∈ W0 ∧ Cond.initialized yX8_sectorsOf.cls ∈ W0 ∧ Cond.code yX8_sectorsOf cX8_sectorsOf 1 (some .int) ∈ W0 := ⟨m_ST_X8_sectorsOf, m_IN_X8, m_CO_X8_sectorsOf⟩
theorem sv_X8_seek : Cond.instanceMethod yX8_seek ∈ W0 ∧ Cond.selects RX8 yX8_seek yX8_seek ∈ W0 ∧ Cond.initialized RX8 ∈ W0 ∧ Cond.code yX8_seek cX8_seek 6 (some .int) ∈ W0 := ⟨m_IM_X8_seek, m_SE_X8_seek, m_IN_X8, m_CO_X8_seek⟩
theorem sv_X8_setByte : Cond.instanceMethod yX8_setByte ∈ W0 ∧ Cond.selects RX8 yX8_setByte yX8_setByte ∈ W0 ∧ Cond.initialized RX8 ∈ W0 ∧ Cond.code yX8_setByte cX8_setByte 6 none ∈ W0 := ⟨m_IM_X8_setByte, m_SE_X8_setByte, m_IN_X8, m_CO_X8_setByte⟩
theorem sv_X8_setCodes : Cond.instanceMethod yX8_setCodes ∈ W0 ∧ Cond.selects RX8 yX8_setCodes yX8_setCodes ∈ W0 ∧ Cond.initialized RX8 ∈ W0 ∧ Cond.code yX8_setCodes cX8_setCodes 6 none ∈ W0 := ⟨m_IM_X8_setCodes, m_SE_X8_setCodes, m_IN_X8, m_CO_X8_setCodes⟩
theorem sv_X8_setFree : Cond.instanceMethod yX8_setFree ∈ W0 ∧ Cond.selects RX8 yX8_setFree yX8_setFree ∈ W0 ∧ Cond.initialized RX8 ∈ W0 ∧ Cond.code yX8_setFree cX8_setFree 6 none ∈ W0 := ⟨m_IM_X8_setFree, m_SE_X8_setFree, m_IN_X8, m_CO_X8_setFree⟩
theorem sv_X8_stamp : Cond.instanceMethod yX8_stamp ∈ W0 ∧ Cond.selects RX8 yX8_stamp yX8_stamp ∈ W0 ∧ Cond.initialized RX8 ∈ W0 ∧ Cond.code yX8_stamp cX8_stamp 5 (some .int) ∈ W0 := ⟨m_IM_X8_stamp, m_SE_X8_stamp, m_IN_X8, m_CO_X8_stamp⟩
theorem ss_X8_startOf : Cond.static yX8_startOf ∈ W0 ∧ Cond.initialized yX8_startOf.cls ∈ W0 ∧ Cond.code yX8_startOf cX8_startOf 3 (some .int) ∈ W0 := ⟨m_ST_X8_startOf, m_IN_X8, m_CO_X8_startOf⟩
theorem sv_X8_status : Cond.instanceMethod yX8_status ∈ W0 ∧ Cond.selects RX8 yX8_status yX8_status ∈ W0 ∧ Cond.initialized RX8 ∈ W0 ∧ Cond.code yX8_status cX8_status 2 (some .int) ∈ W0 := ⟨m_IM_X8_status, m_SE_X8_status, m_IN_X8, m_CO_X8_status⟩
theorem sv_X8_syncs : Cond.instanceMethod yX8_syncs ∈ W0 ∧ Cond.selects RX8 yX8_syncs yX8_syncs ∈ W0 ∧ Cond.initialized RX8 ∈ W0 ∧ Cond.code yX8_syncs cX8_syncs 2 (some .int) ∈ W0 := ⟨m_IM_X8_syncs, m_SE_X8_syncs, m_IN_X8, m_CO_X8_syncs⟩
theorem sv_X8_takes : Cond.instanceMethod yX8_takes ∈ W0 ∧ Cond.selects RX8 yX8_takes yX8_takes ∈ W0 ∧ Cond.initialized RX8 ∈ W0 ∧ Cond.code yX8_takes cX8_takes 5 (some .boolean) ∈ W0 := ⟨m_IM_X8_takes, m_SE_X8_takes, m_IN_X8, m_CO_X8_takes⟩
theorem sv_X8_tell : Cond.instanceMethod yX8_tell ∈ W0 ∧ Cond.selects RX8 yX8_tell yX8_tell ∈ W0 ∧ Cond.initialized RX8 ∈ W0 ∧ Cond.code yX8_tell cX8_tell 2 none ∈ W0 := ⟨m_IM_X8_tell, m_SE_X8_tell, m_IN_X8, m_CO_X8_tell⟩
theorem sv_X8_turn : Cond.instanceMethod yX8_turn ∈ W0 ∧ Cond.selects RX8 yX8_turn yX8_turn ∈ W0 ∧ Cond.initialized RX8 ∈ W0 ∧ Cond.code yX8_turn cX8_turn 7 (some .int) ∈ W0 := ⟨m_IM_X8_turn, m_SE_X8_turn, m_IN_X8, m_CO_X8_turn⟩
theorem sv_X8_write : Cond.instanceMethod yX8_write ∈ W0 ∧ Cond.selects RX8 yX8_write yX8_write ∈ W0 ∧ Cond.initialized RX8 ∈ W0 ∧ Cond.code yX8_write cX8_write 5 (some .int) ∈ W0 := ⟨m_IM_X8_write, m_SE_X8_write, m_IN_X8, m_CO_X8_write⟩
theorem sv_X8_writeBlock : Cond.instanceMethod yX8_writeBlock ∈ W0 ∧ Cond.selects RX8 yX8_writeBlock yX8_writeBlock ∈ W0 ∧ Cond.initialized RX8 ∈ W0 ∧ Cond.code yX8_writeBlock cX8_writeBlock 4 (some .int) ∈ W0 := ⟨m_IM_X8_writeBlock, m_SE_X8_writeBlock, m_IN_X8, m_CO_X8_writeBlock⟩
theorem sv_X8_writeDirectory : Cond.instanceMethod yX8_writeDirectory ∈ W0 ∧ Cond.selects RX8 yX8_writeDirectory yX8_writeDirectory ∈ W0 ∧ Cond.initialized RX8 ∈ W0 ∧ Cond.code yX8_writeDirectory cX8_writeDirectory 3 (some .boolean) ∈ W0 := ⟨m_IM_X8_writeDirectory, m_SE_X8_writeDirectory, m_IN_X8, m_CO_X8_writeDirectory⟩
theorem sv_X8_writeFile : Cond.instanceMethod yX8_writeFile ∈ W0 ∧ Cond.selects RX8 yX8_writeFile yX8_writeFile ∈ W0 ∧ Cond.initialized RX8 ∈ W0 ∧ Cond.code yX8_writeFile cX8_writeFile 6 (some .boolean) ∈ W0 := ⟨m_IM_X8_writeFile, m_SE_X8_writeFile, m_IN_X8, m_CO_X8_writeFile⟩
theorem sv_X8_writeMap : Cond.instanceMethod yX8_writeMap ∈ W0 ∧ Cond.selects RX8 yX8_writeMap yX8_writeMap ∈ W0 ∧ Cond.initialized RX8 ∈ W0 ∧ Cond.code yX8_writeMap cX8_writeMap 2 (some .boolean) ∈ W0 := ⟨m_IM_X8_writeMap, m_SE_X8_writeMap, m_IN_X8, m_CO_X8_writeMap⟩
theorem u_X0 : ∀ w ∈ u_ws RX0 TX0 7, w ∈ W0 := by
  intro w hw
  obtain ⟨k, hk, rfl⟩ := List.mem_map.mp hw
  have hk := List.mem_range.mp hk
  match k, hk with
  | 0, _ => exact wT1 110 rfl rfl
  | 1, _ => exact wT1 112 rfl rfl
  | 2, _ => exact wT1 114 rfl rfl
  | 3, _ => exact wT1 116 rfl rfl
  | 4, _ => exact wT1 118 rfl rfl
  | 5, _ => exact wT1 120 rfl rfl
  | 6, _ => exact wT1 122 rfl rfl
  | k + 7, hk => exact absurd hk (by omega)
theorem u_X1 : ∀ w ∈ u_ws RX1 TX1 2, w ∈ W0 := by
  intro w hw
  obtain ⟨k, hk, rfl⟩ := List.mem_map.mp hw
  have hk := List.mem_range.mp hk
  match k, hk with
  | 0, _ => exact wT1 230 rfl rfl
  | 1, _ => exact wT1 232 rfl rfl
  | k + 2, hk => exact absurd hk (by omega)
theorem u_X2 : ∀ w ∈ u_ws RX2 TX2 6, w ∈ W0 := by
  intro w hw
  obtain ⟨k, hk, rfl⟩ := List.mem_map.mp hw
  have hk := List.mem_range.mp hk
  match k, hk with
  | 0, _ => exact wT1 206 rfl rfl
  | 1, _ => exact wT1 208 rfl rfl
  | 2, _ => exact wT1 210 rfl rfl
  | 3, _ => exact wT1 212 rfl rfl
  | 4, _ => exact wT1 214 rfl rfl
  | 5, _ => exact wT1 216 rfl rfl
  | k + 6, hk => exact absurd hk (by omega)
theorem u_X3 : ∀ w ∈ u_ws RX3 TX3 12, w ∈ W0 := by
  intro w hw
  obtain ⟨k, hk, rfl⟩ := List.mem_map.mp hw
  have hk := List.mem_range.mp hk
  match k, hk with
  | 0, _ => exact wT1 166 rfl rfl
  | 1, _ => exact wT1 168 rfl rfl
  | 2, _ => exact wT1 170 rfl rfl
  | 3, _ => exact wT1 172 rfl rfl
  | 4, _ => exact wT1 174 rfl rfl
  | 5, _ => exact wT1 176 rfl rfl
  | 6, _ => exact wT1 178 rfl rfl
  | 7, _ => exact wT1 180 rfl rfl
  | 8, _ => exact wT1 182 rfl rfl
  | 9, _ => exact wT1 184 rfl rfl
  | 10, _ => exact wT1 186 rfl rfl
  | 11, _ => exact wT1 188 rfl rfl
  | k + 12, hk => exact absurd hk (by omega)
theorem u_X4 : ∀ w ∈ u_ws RX4 TX4 1, w ∈ W0 := by
  intro w hw
  obtain ⟨k, hk, rfl⟩ := List.mem_map.mp hw
  have hk := List.mem_range.mp hk
  match k, hk with
  | 0, _ => exact wT1 133 rfl rfl
  | k + 1, hk => exact absurd hk (by omega)
theorem u_X5 : ∀ w ∈ u_ws RX5 TX5 5, w ∈ W0 := by
  intro w hw
  obtain ⟨k, hk, rfl⟩ := List.mem_map.mp hw
  have hk := List.mem_range.mp hk
  match k, hk with
  | 0, _ => exact wT1 64 rfl rfl
  | 1, _ => exact wT1 66 rfl rfl
  | 2, _ => exact wT1 68 rfl rfl
  | 3, _ => exact wT1 70 rfl rfl
  | 4, _ => exact wT1 72 rfl rfl
  | k + 5, hk => exact absurd hk (by omega)
theorem u_X6 : ∀ w ∈ u_ws RX6 TX6 3, w ∈ W0 := by
  intro w hw
  obtain ⟨k, hk, rfl⟩ := List.mem_map.mp hw
  have hk := List.mem_range.mp hk
  match k, hk with
  | 0, _ => exact wT1 32 rfl rfl
  | 1, _ => exact wT1 34 rfl rfl
  | 2, _ => exact wT1 36 rfl rfl
  | k + 3, hk => exact absurd hk (by omega)
theorem u_X7 : ∀ w ∈ u_ws RX7 TX7 10, w ∈ W0 := by
  intro w hw
  obtain ⟨k, hk, rfl⟩ := List.mem_map.mp hw
  have hk := List.mem_range.mp hk
  match k, hk with
  | 0, _ => exact wT2 6 rfl rfl
  | 1, _ => exact wT2 8 rfl rfl
  | 2, _ => exact wT2 10 rfl rfl
  | 3, _ => exact wT2 12 rfl rfl
  | 4, _ => exact wT2 14 rfl rfl
  | 5, _ => exact wT2 16 rfl rfl
  | 6, _ => exact wT2 18 rfl rfl
  | 7, _ => exact wT2 20 rfl rfl
  | 8, _ => exact wT2 22 rfl rfl
  | 9, _ => exact wT2 24 rfl rfl
  | k + 10, hk => exact absurd hk (by omega)
theorem u_X8 : ∀ w ∈ u_ws RX8 TX8 31, w ∈ W0 := by
  intro w hw
  obtain ⟨k, hk, rfl⟩ := List.mem_map.mp hw
  have hk := List.mem_range.mp hk
  match k, hk with
  | 0, _ => exact wT3 170 rfl rfl
  | 1, _ => exact wT3 172 rfl rfl
  | 2, _ => exact wT3 174 rfl rfl
  | 3, _ => exact wT3 176 rfl rfl
  | 4, _ => exact wT3 178 rfl rfl
  | 5, _ => exact wT3 180 rfl rfl
  | 6, _ => exact wT3 182 rfl rfl
  | 7, _ => exact wT3 184 rfl rfl
  | 8, _ => exact wT3 186 rfl rfl
  | 9, _ => exact wT3 188 rfl rfl
  | 10, _ => exact wT3 190 rfl rfl
  | 11, _ => exact wT3 192 rfl rfl
  | 12, _ => exact wT3 194 rfl rfl
  | 13, _ => exact wT3 196 rfl rfl
  | 14, _ => exact wT3 198 rfl rfl
  | 15, _ => exact wT3 200 rfl rfl
  | 16, _ => exact wT3 202 rfl rfl
  | 17, _ => exact wT3 204 rfl rfl
  | 18, _ => exact wT3 206 rfl rfl
  | 19, _ => exact wT3 208 rfl rfl
  | 20, _ => exact wT3 210 rfl rfl
  | 21, _ => exact wT3 212 rfl rfl
  | 22, _ => exact wT3 214 rfl rfl
  | 23, _ => exact wT3 216 rfl rfl
  | 24, _ => exact wT3 218 rfl rfl
  | 25, _ => exact wT3 220 rfl rfl
  | 26, _ => exact wT3 222 rfl rfl
  | 27, _ => exact wT3 224 rfl rfl
  | 28, _ => exact wT3 226 rfl rfl
  | 29, _ => exact wT3 228 rfl rfl
  | 30, _ => exact wT3 230 rfl rfl
  | k + 31, hk => exact absurd hk (by omega)
end
section
/-! CORE: the memory of a system by codes (a code is the number of a cell by the order of its making), its world, rows over it -/
abbrev Mm : Type := Nat → Nat → Int32
def upA (D : Mm) (c : Nat) (f : Nat → Int32) : Mm := fun c' => if c' = c then f else D c'
def up2 (D : Mm) (c k : Nat) (v : Int32) : Mm := upA D c (upd (D c) k v)
/-- the graph: how many cells, the kind of each, the length of each array, what each reference leads to -/
abbrev Gr : Type := Nat × (Nat → Nat) × (Nat → Nat) × (Nat → Nat → Option Nat)
def gn (G : Gr) : Nat := G.1
def gK (G : Gr) : Nat → Nat := G.2.1
def gN (G : Gr) : Nat → Nat := G.2.2.1
def gP (G : Gr) : Nat → Nat → Option Nat := G.2.2.2
abbrev Yc : Type := ClassId × ClassId × ClassId
abbrev tyL (Y : Yc) : List (ClassId × FieldType) := [(Y.1, .int), (Y.2.1, .boolean), (Y.2.2, .object RX5)]
def cE (Y : Yc) (k N : Nat) (p : Nat → Option Nat) (d : Nat → Int32) : va_E := match k with
  | 0 => .inr (0, [va_rf (p 0), va_rf (p 1), va_rf (p 2), .int (d 3), .int (d 4), .int (d 5), .int (d 6)])
  | 1 => .inr (1, [va_rf (p 0), .int (d 1)])
  | 2 => .inr (2, [va_rf (p 0), va_rf (p 1), va_rf (p 2), va_rf (p 3), .int (d 4), va_rf (p 5)])
  | 3 => .inr (3, [va_rf (p 0), va_rf (p 1), va_rf (p 2), .int (d 3), .int (d 4), .int (d 5), .int (d 6), .int (d 7), va_rf (p 8), .int (d 9), .int (d 10), .int (d 11)])
  | 4 => .inr (4, [va_rf (p 0)])
  | 5 => .inr (5, [va_rf (p 0), .int (d 1), va_rf (p 2), .int (d 3), .int (d 4)])
  | 6 => .inr (6, [.int (d 0), .int (d 1), .int (d 2)])
  | 7 => .inr (7, [va_rf (p 0), va_rf (p 1), va_rf (p 2), va_rf (p 3), va_rf (p 4), va_rf (p 5), va_rf (p 6), va_rf (p 7), va_rf (p 8), va_rf (p 9)])
  | 8 => .inr (8, [va_rf (p 0), va_rf (p 1), va_rf (p 2), va_rf (p 3), .int (d 4), va_rf (p 5), .int (d 6), va_rf (p 7), .int (d 8), .int (d 9), .int (d 10), .int (d 11), .int (d 12), .int (d 13), .int (d 14), va_rf (p 15), .int (d 16), .int (d 17), va_rf (p 18), va_rf (p 19), va_rf (p 20), va_rf (p 21), va_rf (p 22), .int (d 23), .int (d 24), .int (d 25), va_rf (p 26), va_rf (p 27), .int (d 28), .int (d 29), .int (d 30)])
  | 9 => .inl (Y.1, N, .inl d)
  | 10 => .inl (Y.2.1, N, .inl d)
  | _ => .inl (Y.2.2, N, .inr (.inr (.inr (.inr p))))
theorem ce0 {Y : Yc} {k N : Nat} {p : Nat → Option Nat} {d : Nat → Int32} (h : k = 0) : cE Y k N p d = .inr (0, [va_rf (p 0), va_rf (p 1), va_rf (p 2), .int (d 3), .int (d 4), .int (d 5), .int (d 6)]) := by subst h; rfl
theorem ce1 {Y : Yc} {k N : Nat} {p : Nat → Option Nat} {d : Nat → Int32} (h : k = 1) : cE Y k N p d = .inr (1, [va_rf (p 0), .int (d 1)]) := by subst h; rfl
theorem ce2 {Y : Yc} {k N : Nat} {p : Nat → Option Nat} {d : Nat → Int32} (h : k = 2) : cE Y k N p d = .inr (2, [va_rf (p 0), va_rf (p 1), va_rf (p 2), va_rf (p 3), .int (d 4), va_rf (p 5)]) := by subst h; rfl
theorem ce3 {Y : Yc} {k N : Nat} {p : Nat → Option Nat} {d : Nat → Int32} (h : k = 3) : cE Y k N p d = .inr (3, [va_rf (p 0), va_rf (p 1), va_rf (p 2), .int (d 3), .int (d 4), .int (d 5), .int (d 6), .int (d 7), va_rf (p 8), .int (d 9), .int (d 10), .int (d 11)]) := by subst h; rfl
theorem ce4 {Y : Yc} {k N : Nat} {p : Nat → Option Nat} {d : Nat → Int32} (h : k = 4) : cE Y k N p d = .inr (4, [va_rf (p 0)]) := by subst h; rfl
theorem ce5 {Y : Yc} {k N : Nat} {p : Nat → Option Nat} {d : Nat → Int32} (h : k = 5) : cE Y k N p d = .inr (5, [va_rf (p 0), .int (d 1), va_rf (p 2), .int (d 3), .int (d 4)]) := by subst h; rfl
theorem ce6 {Y : Yc} {k N : Nat} {p : Nat → Option Nat} {d : Nat → Int32} (h : k = 6) : cE Y k N p d = .inr (6, [.int (d 0), .int (d 1), .int (d 2)]) := by subst h; rfl
theorem ce7 {Y : Yc} {k N : Nat} {p : Nat → Option Nat} {d : Nat → Int32} (h : k = 7) : cE Y k N p d = .inr (7, [va_rf (p 0), va_rf (p 1), va_rf (p 2), va_rf (p 3), va_rf (p 4), va_rf (p 5), va_rf (p 6), va_rf (p 7), va_rf (p 8), va_rf (p 9)]) := by subst h; rfl
theorem ce8 {Y : Yc} {k N : Nat} {p : Nat → Option Nat} {d : Nat → Int32} (h : k = 8) : cE Y k N p d = .inr (8, [va_rf (p 0), va_rf (p 1), va_rf (p 2), va_rf (p 3), .int (d 4), va_rf (p 5), .int (d 6), va_rf (p 7), .int (d 8), .int (d 9), .int (d 10), .int (d 11), .int (d 12), .int (d 13), .int (d 14), va_rf (p 15), .int (d 16), .int (d 17), va_rf (p 18), va_rf (p 19), va_rf (p 20), va_rf (p 21), va_rf (p 22), .int (d 23), .int (d 24), .int (d 25), va_rf (p 26), va_rf (p 27), .int (d 28), .int (d 29), .int (d 30)]) := by subst h; rfl
def pE (G : Gr) (ad : Nat → Nat) (c : Nat) : Nat → Option Nat := fun i => (gP G c i).map ad
def wW (Y : Yc) (G : Gr) (ad : Nat → Nat) (D : Mm) : va_W := (List.range (gn G)).map (fun c => (ad c, cE Y (gK G c) (gN G c) (pE G ad c) (D c)))
theorem wW_at {Y : Yc} {G : Gr} {ad : Nat → Nat} {D : Mm} {c : Nat} {e : va_E} (h : c < gn G) (he : cE Y (gK G c) (gN G c) (pE G ad c) (D c) = e) : (wW Y G ad D)[c]? = some (ad c, e) := by
  subst he
  simp [wW, h]
theorem wW_set {Y : Yc} {G : Gr} {ad : Nat → Nat} {D D' : Mm} {c : Nat} {e : va_E} (h : c < gn G) (he : cE Y (gK G c) (gN G c) (pE G ad c) (D' c) = e) (ho : ∀ c', c' ≠ c → D' c' = D c') : (wW Y G ad D).set c (ad c, e) = wW Y G ad D' := by
  subst he
  apply List.ext_getElem?
  intro i
  rw [List.getElem?_set]
  by_cases hi : c = i
  · subst hi
    simp [wW, h]
  · rw [if_neg hi]
    by_cases hn : i < gn G
    · simp [wW, hn, ho i (fun q => hi q.symm)]
    · simp [wW, hn]
/-- what may change: the cells of the graph -/
def pA (G : Gr) (ad : Nat → Nat) : Nat → Prop := fun q => ∃ c, c < gn G ∧ ad c = q
abbrev Ij (G : Gr) (ad : Nat → Nat) : Prop := ∀ i j, i < gn G → j < gn G → ad i = ad j → i = j
theorem wW_D {Y : Yc} {G : Gr} {ad : Nat → Nat} {D : Mm} (ij : Ij G ad) : va_D (pA G ad) (wW Y G ad D) := by
  have key : ∀ (k : Nat) (q : Nat × va_E), (wW Y G ad D)[k]? = some q → k < gn G ∧ q.1 = ad k := by
    intro k q hq
    by_cases hn : k < gn G
    · simp [wW, hn] at hq
      exact ⟨hn, by rw [← hq]⟩
    · simp [wW, hn] at hq
  refine ⟨fun i j p q hp hq e => ?_, fun k q hq => ?_⟩
  · obtain ⟨a1, a2⟩ := key i p hp
    obtain ⟨b1, b2⟩ := key j q hq
    exact ij i j a1 b1 (by rw [← a2, ← b2, e])
  · obtain ⟨a1, a2⟩ := key k q hq
    exact ⟨k, a1, a2.symm⟩
def AtK (G : Gr) (c k : Nat) : Prop := c < gn G ∧ gK G c = k
theorem rfv {G : Gr} {ad : Nat → Nat} {c k c' : Nat} (h : gP G c k = some c') : some (va_rf (pE G ad c k)) = some (Value.ref (ad c')) := by
  unfold pE
  rw [h]
  rfl
-- tables of the class's constants
def tFIVES : Nat → Int32 := fun j => [10, 11, 18, 19, 14, 15, 22, 23, 9, 25, 26, 27, 13, 29, 30, 21].getD j 0
def tHALVES : Nat → Int32 := fun j => [-1, -1, -1, -1, -1, -1, -1, -1, -1, 8, 0, 1, -1, 12, 4, 5, -1, -1, 2, 3, -1, 15, 6, 7, -1, 9, 10, 11, -1, 13, 14, -1].getD j 0
def tFILES : Nat → Int32 := fun j => [8, 7, 6, 5, 4, 3, 2, 1, 10, 11, 12, 13, 14, 15, 16].getD j 0
/-- the words on nest mates -/
def Nst (U : State) : Prop :=
  va_Nw (.fieldLinkNest RX5 39 "BitDrive" "FIVES" "[I" "BitDrive") U ∧
  va_Nw (.fieldLinkNest RX5 46 "BitDrive" "HALVES" "[I" "BitDrive") U ∧
  va_Nw (.fieldLinkNest RX2 33 "BitDrive" "FILE_TRACKS" "[I" "BitDrive") U ∧
  va_Nw (.fieldLinkNest RX4 40 "BitDrive" "FILE_TRACKS" "[I" "BitDrive") U ∧
  va_Nw (.methodLinkNest RX7 11 yX6_init "BitDrive") U ∧
  va_Nw (.methodLinkNest RX7 27 yX4_init "BitDrive") U ∧
  va_Nw (.methodLinkNest RX4 15 yX7_clearRow "BitDrive") U ∧
  va_Nw (.methodLinkNest RX4 29 yX7_fillName "BitDrive") U ∧
  va_Nw (.methodLinkNest RX3 66 yX7_hasName "BitDrive") U ∧
  va_Nw (.methodLinkNest RX3 101 yX7_clearRow "BitDrive") U
theorem Nst.warm {s U : State} (hW : s.WarmedH U.vm) (h : Nst s) : Nst U := by
  obtain ⟨a1, a2, a3, a4, b1, b2, b3, b4, b5, b6⟩ := h
  exact ⟨a1.warmF hW, a2.warmF hW, a3.warmF hW, a4.warmF hW, b1.warmM hW, b2.warmM hW, b3.warmM hW, b4.warmM hW, b5.warmM hW, b6.warmM hW⟩
theorem Nst.same {s U : State} (hW : s.vm = U.vm) (h : Nst s) : Nst U := by
  obtain ⟨a1, a2, a3, a4, b1, b2, b3, b4, b5, b6⟩ := h
  exact ⟨a1.same rfl hW, a2.same rfl hW, a3.same rfl hW, a4.same rfl hW, b1.same rfl hW, b2.same rfl hW, b3.same rfl hW, b4.same rfl hW, b5.same rfl hW, b6.same rfl hW⟩
abbrev Ts3 : Type := Nat × Nat × Nat
/-- the static arrays, at t, outside of A -/
def Sta (t : Ts3) (A : Nat → Prop) (U : State) : Prop :=
  va_Z "BitDrive" "FIVES" "[I" (.ref t.1) A U U.heap ∧ va_T .int t.1 16 (fun j => .int (tFIVES j)) A U U.heap ∧
  va_Z "BitDrive" "HALVES" "[I" (.ref t.2.1) A U U.heap ∧ va_T .int t.2.1 32 (fun j => .int (tHALVES j)) A U U.heap ∧
  va_Z "BitDrive" "FILE_TRACKS" "[I" (.ref t.2.2) A U U.heap ∧ va_T .int t.2.2 15 (fun j => .int (tFILES j)) A U U.heap ∧ Nst U
theorem Sta.go {t : Ts3} {A : Nat → Prop} {s U : State} {H : Heap} {locs : List Loc} (hS : va_S A s.heap H locs) (hU : U.heap = H) (hW : s.WarmedH U.vm) (h : Sta t A s) : Sta t A U := by
  obtain ⟨a1, a2, a3, a4, a5, a6, a7⟩ := h
  have hq : ∀ a : Nat, a < s.heap.size → ¬ A a → U.heap[a]? = s.heap[a]? := fun a h1 h2 => by rw [hU]; exact hS.2.1 a h1 h2
  have al := hW.alike
  exact ⟨(a1.kept hq).moved al, (a2.kept hq).moved al, (a3.kept hq).moved al, (a4.kept hq).moved al, (a5.kept hq).moved al, (a6.kept hq).moved al, a7.warm hW⟩
theorem Sta.same {t : Ts3} {A : Nat → Prop} {s U : State} (hH : s.heap = U.heap) (hV : s.vm = U.vm) (h : Sta t A s) : Sta t A U := by
  obtain ⟨a1, a2, a3, a4, a5, a6, a7⟩ := h
  have al : s.vm.Alike U.vm := by rw [hV]; exact Vm.Alike.refl U.vm
  rw [hH] at a1 a2 a3 a4 a5 a6
  exact ⟨a1.moved al, a2.moved al, a3.moved al, a4.moved al, a5.moved al, a6.moved al, a7.same hV⟩
abbrev Dd : Type := va_G
/-- the world: the cells, the classes, the static arrays -/
def Wd (dd : Dd) (Y : Yc) (t : Ts3) (G : Gr) (ad : Nat → Nat) (D : Mm) (U : State) : Prop := va_P dd vwCl (wW Y G ad D) U.heap ∧ va_K dd vwCl (tyL Y) U ∧ Sta t (pA G ad) U
theorem Wd.blind {dd : Dd} {Y : Yc} {t : Ts3} {G : Gr} {ad : Nat → Nat} {D : Mm} {av : List Value} : FrameBlind (va_Pc av (Wd dd Y t G ad D)) := by
  intro a U g mk h
  obtain ⟨h1, h2, h3, h4⟩ := h
  exact ⟨h1, h2, va_K.moved (u := U) (U := U.calling g mk a) (Vm.Alike.refl U.vm) h3, h4.same rfl rfl⟩
theorem Wd.go {dd : Dd} {Y : Yc} {t : Ts3} {G : Gr} {ad : Nat → Nat} {D : Mm} {s U : State} {H : Heap} {locs : List Loc} (hP : va_P dd vwCl (wW Y G ad D) H) (hK : va_K dd vwCl (tyL Y) s) (hT : Sta t (pA G ad) s) (hS : va_S (pA G ad) s.heap H locs) (hU : U.heap = H) (hW : s.WarmedH U.vm) : Wd dd Y t G ad D U :=
  ⟨by rw [hU]; exact hP, va_K.moved hW.alike hK, hT.go hS hU hW⟩
/-- the end of a contract: the answer r0, the memory D' -/
abbrev Qi (dd : Dd) (Y : Yc) (G : Gr) (ad : Nat → Nat) (ty : FieldType) (r0 : Int32) (D' : Mm) : Array Value → State → Outcome → State → Prop := va_Qi (fun (r : Int32) (u : Mm) => r = r0 ∧ u = D' ∧ narrow ty (.int r) = .int r) (fun u t => va_P dd vwCl (wW Y G ad u) t.heap) (pA G ad)
abbrev Qv (dd : Dd) (Y : Yc) (G : Gr) (ad : Nat → Nat) (D' : Mm) : Array Value → State → Outcome → State → Prop := va_Qv (fun (u : Mm) => u = D') (fun u t => va_P dd vwCl (wW Y G ad u) t.heap) (pA G ad)
-- pure helpers
def inB (i : Int32) (n : Nat) : Bool := decide (¬ (i < 0 ∨ n ≤ i.toNatClampNeg))
theorem inB_in {i : Int32} {n : Nat} (h : inB i n = true) : vp_in i n := by
  have q : ¬ (i < 0 ∨ n ≤ i.toNatClampNeg) := of_decide_eq_true h
  exact q
theorem x_if {c : Prop} {α : Type} {a : Option α} {r : α} {_ : Decidable c} (h : (if c then a else none) = some r) : c ∧ a = some r := by
  by_cases hc : c
  · rw [if_pos hc] at h; exact ⟨hc, h⟩
  · rw [if_neg hc] at h; cases h
theorem x_ifn {c : Prop} {α : Type} {a : Option α} {r : α} {_ : Decidable c} (h : (if c then none else a) = some r) : ¬ c ∧ a = some r := by
  by_cases hc : c
  · rw [if_pos hc] at h; cases h
  · rw [if_neg hc] at h; exact ⟨hc, h⟩
theorem x_t {c : Prop} {α : Type} {a b r : α} {_ : Decidable c} (hc : c) (h : (if c then a else b) = r) : a = r := by rw [if_pos hc] at h; exact h
theorem x_f {c : Prop} {α : Type} {a b r : α} {_ : Decidable c} (hc : ¬ c) (h : (if c then a else b) = r) : b = r := by rw [if_neg hc] at h; exact h
abbrev Rs : Type := Option (Int32 × Mm)
def bi (x : Rs) (k : Int32 → Mm → Rs) : Rs := match x with
  | none => none
  | some q => k q.1 q.2
theorem bi_some {x : Rs} {k : Int32 → Mm → Rs} {r : Int32 × Mm} (h : bi x k = some r) : ∃ v D, x = some (v, D) ∧ k v D = some r := by
  cases x with
  | none => cases h
  | some q => exact ⟨q.1, q.2, rfl, h⟩
abbrev jrem (x y : Int32) : Int32 := x - x / y * y
abbrev jush (x y : Int32) : Int32 := (x.toUInt32 >>> (y.toUInt32 &&& Int32.toUInt32 31)).toInt32
section X1
variable {p : Program} {l : Launch} {e : Env} {R : Room} {s : State} {m : MethodId} {args : Array Value} {below : List Frame} {meth : Method} {c : Code} {H : Heap} {locs : List Loc} {cells slots : Nat} {Q : State → Prop} {cc : ByteArray} {pc : Nat} {ls : Array Slot} {rest st0 : List Value} {dd : Dd} {Y : Yc} {t : Ts3} {G : Gr} {ad : Nat → Nat} {D : Mm}
theorem x_get (hx : p.tables.exec = Jvm.exec) (hb : c.code = cc) {own ref C : String} {T : u_T} {N ci index : Nat} {Ts : List Cond} (hts : ∀ w ∈ Ts, w.before args s = true) (hin : ∀ w ∈ u_ws C T N, w ∈ Ts) (hown : s.vm.findClass own = some m.cls) (hK : va_K dd vwCl (tyL Y) s) (hP : va_P dd vwCl (wW Y G ad D) H) {q0 : Nat} {fs : List Value} (hn : q0 < gn G) (he : cE Y (gK G q0) (gN G q0) (pE G ad q0) (D q0) = .inr (ci, fs)) (hc : vwCl[ci]? = some (C, T, N)) (k : Nat) (hk : k < N) (hlink : (Cond.fieldLink own index ref (T k).2.1 (T k).2.2.1).before args s = true) (hsame : (T k).1 = ref) {v : Value} (hv : fs[k]? = some v) (hdg : decode cc pc = .ok (.getfield index, 3))
    (kk : W p l e R s m args below meth c H locs cells slots Q (F0 m (pc + 3) ls (v :: rest))) : W p l e R s m args below meth c H locs cells slots Q (F0 m pc ls (.ref (ad q0) :: rest)) :=
  va_get hx hb hts hin hown hK hP q0 (wW_at hn he) hc k hk hlink (fun x h => by rw [← hsame]; exact h) hv hdg kk
theorem x_put (hx : p.tables.exec = Jvm.exec) (hb : c.code = cc) {own ref C : String} {T : u_T} {N ci index : Nat} {Ts : List Cond} (hts : ∀ w ∈ Ts, w.before args s = true) (hin : ∀ w ∈ u_ws C T N, w ∈ Ts) (ty0 : Nat → FieldType) (hty : ∀ k, k < N → parseFieldDescriptor (T k).2.2.1 = some (ty0 k)) (hnm : ∀ a, a < N → ∀ b, b < N → a ≠ b → (T a).2.1 ≠ (T b).2.1) (hown : s.vm.findClass own = some m.cls) (hK : va_K dd vwCl (tyL Y) s) (ij : Ij G ad) (hP : va_P dd vwCl (wW Y G ad D) H) (hS : va_S (pA G ad) s.heap H locs) {q0 : Nat} {fs : List Value} (hn : q0 < gn G) (he : cE Y (gK G q0) (gN G q0) (pE G ad q0) (D q0) = .inr (ci, fs)) (hc : vwCl[ci]? = some (C, T, N)) (k : Nat) (hk : k < N) (hlink : (Cond.fieldLink own index ref (T k).2.1 (T k).2.2.1).before args s = true) (hsame : (T k).1 = ref) (hfin : (T k).2.2.2 = false) {ty : FieldType} {x : Int32} (hd : parseFieldDescriptor (T k).2.2.1 = some ty) (hnr : narrow ty (.int x) = .int x) (hfit : fits ty (.int x) = true) (hl : k < fs.length) (he2 : cE Y (gK G q0) (gN G q0) (pE G ad q0) (upd (D q0) k x) = .inr (ci, fs.set k (.int x)))
    (hdg : decode cc pc = .ok (.putfield index, 3)) (kk : ∀ (H1 : Heap) (locs1 : List Loc), va_P dd vwCl (wW Y G ad (up2 D q0 k x)) H1 → va_S (pA G ad) s.heap H1 locs1 → W p l e R s m args below meth c H1 locs1 cells slots Q (F0 m (pc + 3) ls rest)) : W p l e R s m args below meth c H locs cells slots Q (F0 m pc ls (.int x :: .ref (ad q0) :: rest)) := by
  refine va_put hx hb hts hin ty0 hty hnm hown hK hP (wW_D ij) hS q0 (wW_at hn he) hc k hk hlink (fun x h => by rw [← hsame]; exact h) hfin hd hnr hfit hl hdg (fun H1 locs1 hP1 _ hS1 => ?_)
  rw [wW_set (D' := up2 D q0 k x) hn (by simp [up2, upA]; exact he2) (fun c' hc' => by simp [up2, upA, hc'])] at hP1
  exact kk H1 locs1 hP1 hS1
theorem x_ald (hx : p.tables.exec = Jvm.exec) (hb : c.code = cc) (hK : va_K dd vwCl (tyL Y) s) (hP : va_P dd vwCl (wW Y G ad D) H) {q0 : Nat} (ha : AtK G q0 9) {i : Int32} (hin : inB i (gN G q0) = true) (hdg : decode cc pc = .ok (.iaload, 1))
    (kk : W p l e R s m args below meth c H locs cells slots Q (F0 m (pc + 1) ls (.int (D q0 i.toNatClampNeg) :: rest))) : W p l e R s m args below meth c H locs cells slots Q (F0 m pc ls (.int i :: .ref (ad q0) :: rest)) :=
  va_iald (cA := Y.1) (n := gN G q0) (f := D q0) hx hb hK hP q0 0 (wW_at ha.1 (by rw [ha.2]; rfl)) rfl (inB_in hin) hdg kk
theorem x_zld (hx : p.tables.exec = Jvm.exec) (hb : c.code = cc) (hK : va_K dd vwCl (tyL Y) s) (hP : va_P dd vwCl (wW Y G ad D) H) {q0 : Nat} (ha : AtK G q0 10) {i : Int32} (hin : inB i (gN G q0) = true) (hdg : decode cc pc = .ok (.baload, 1))
    (kk : W p l e R s m args below meth c H locs cells slots Q (F0 m (pc + 1) ls (.int (D q0 i.toNatClampNeg) :: rest))) : W p l e R s m args below meth c H locs cells slots Q (F0 m pc ls (.int i :: .ref (ad q0) :: rest)) :=
  va_zald (cA := Y.2.1) (n := gN G q0) (f := D q0) hx hb hK hP q0 1 (wW_at ha.1 (by rw [ha.2]; rfl)) rfl (inB_in hin) hdg kk
theorem x_ast (hx : p.tables.exec = Jvm.exec) (hb : c.code = cc) (hK : va_K dd vwCl (tyL Y) s) (ij : Ij G ad) (hP : va_P dd vwCl (wW Y G ad D) H) (hS : va_S (pA G ad) s.heap H locs) {q0 : Nat} (ha : AtK G q0 9) {i x : Int32} (hin : inB i (gN G q0) = true) (hdg : decode cc pc = .ok (.iastore, 1))
    (kk : ∀ (H1 : Heap) (locs1 : List Loc), va_P dd vwCl (wW Y G ad (up2 D q0 i.toNatClampNeg x)) H1 → va_S (pA G ad) s.heap H1 locs1 → W p l e R s m args below meth c H1 locs1 cells slots Q (F0 m (pc + 1) ls rest)) : W p l e R s m args below meth c H locs cells slots Q (F0 m pc ls (.int x :: .int i :: .ref (ad q0) :: rest)) := by
  refine va_iast (cA := Y.1) (n := gN G q0) (f := D q0) hx hb hK hP (wW_D ij) hS q0 0 (wW_at ha.1 (by rw [ha.2]; rfl)) rfl (inB_in hin) hdg (fun H1 locs1 hP1 _ hS1 => ?_)
  rw [wW_set (D' := up2 D q0 i.toNatClampNeg x) ha.1 (by rw [ha.2]; simp [up2, upA, cE]) (fun c' hc' => by simp [up2, upA, hc'])] at hP1
  exact kk H1 locs1 hP1 hS1
theorem x_zst (hx : p.tables.exec = Jvm.exec) (hb : c.code = cc) (hK : va_K dd vwCl (tyL Y) s) (ij : Ij G ad) (hP : va_P dd vwCl (wW Y G ad D) H) (hS : va_S (pA G ad) s.heap H locs) {q0 : Nat} (ha : AtK G q0 10) {i x : Int32} (hin : inB i (gN G q0) = true) (hdg : decode cc pc = .ok (.bastore, 1))
    (kk : ∀ (H1 : Heap) (locs1 : List Loc), va_P dd vwCl (wW Y G ad (up2 D q0 i.toNatClampNeg (vp_nar .boolean x))) H1 → va_S (pA G ad) s.heap H1 locs1 → W p l e R s m args below meth c H1 locs1 cells slots Q (F0 m (pc + 1) ls rest)) : W p l e R s m args below meth c H locs cells slots Q (F0 m pc ls (.int x :: .int i :: .ref (ad q0) :: rest)) := by
  refine va_zast (cA := Y.2.1) (n := gN G q0) (f := D q0) hx hb hK hP (wW_D ij) hS q0 1 (wW_at ha.1 (by rw [ha.2]; rfl)) rfl (inB_in hin) hdg (fun H1 locs1 hP1 _ hS1 => ?_)
  rw [wW_set (D' := up2 D q0 i.toNatClampNeg (vp_nar .boolean x)) ha.1 (by rw [ha.2]; simp [up2, upA, cE]) (fun c' hc' => by simp [up2, upA, hc'])] at hP1
  exact kk H1 locs1 hP1 hS1
theorem x_len (hx : p.tables.exec = Jvm.exec) (hb : c.code = cc) (hK : va_K dd vwCl (tyL Y) s) (hP : va_P dd vwCl (wW Y G ad D) H) {q0 : Nat} (ha : AtK G q0 9) (hdg : decode cc pc = .ok (.arraylength, 1))
    (kk : W p l e R s m args below meth c H locs cells slots Q (F0 m (pc + 1) ls (.int (nI (gN G q0)) :: rest))) : W p l e R s m args below meth c H locs cells slots Q (F0 m pc ls (.ref (ad q0) :: rest)) :=
  va_alen (cA := Y.1) (x := (gN G q0, .inl (D q0))) hx hb hK hP q0 0 (wW_at ha.1 (by rw [ha.2]; rfl)) rfl rfl hdg kk
theorem x_cpy (hx : p.tables.exec = Jvm.exec) (hb : c.code = cc) (hml : c.maxLocals = ls.size) {own : String} {index : Nat} (hown : s.vm.findClass own = some m.cls) (hlink : (Cond.methodLink own index arraycopyName).before args s = true) (hnat : (Cond.native arraycopyName).before args s = true) (hstat : (Cond.static arraycopyName).before args s = true) (hini : (Cond.initialized "java/lang/System").before args s = true) (hK : va_K dd vwCl (tyL Y) s) (ij : Ij G ad) (hP : va_P dd vwCl (wW Y G ad D) H) (hS : va_S (pA G ad) s.heap H locs) {q0 q1 : Nat} (ha : AtK G q0 9) (ha1 : AtK G q1 9) {sp dp n : Int32} (hc : (decide (¬ sp < 0 ∧ ¬ dp < 0 ∧ ¬ n < 0 ∧ sp.toNatClampNeg + n.toNatClampNeg ≤ gN G q0 ∧ dp.toNatClampNeg + n.toNatClampNeg ≤ gN G q1)) = true) (hfr : 1 ≤ R.frames) (hlo : (rest.map fun v => v.category).sum + (nativeFrameWords "java/lang/System" "arraycopy" 5 + 11) ≤ R.locals) (hdg : decode cc pc = .ok (.invokestatic index, 3))
    (kk : ∀ (H1 : Heap) (locs1 : List Loc), va_P dd vwCl (wW Y G ad (upA D q1 (va_cpy (D q0) (D q1) sp.toNatClampNeg dp.toNatClampNeg n.toNatClampNeg))) H1 → va_S (pA G ad) s.heap H1 locs1 → W p l e R s m args below meth c H1 locs1 cells slots Q (F0 m (pc + 3) ls rest)) : W p l e R s m args below meth c H locs cells slots Q (F0 m pc ls (.int n :: .int dp :: .ref (ad q1) :: .int sp :: .ref (ad q0) :: rest)) := by
  obtain ⟨h1, h2, h3, h4, h5⟩ := of_decide_eq_true hc
  refine va_copyi (c0 := Y.1) (c1 := Y.1) (n0 := gN G q0) (n1 := gN G q1) (f := D q0) (g := D q1) (ty := .int) hx hb hml hown hlink hnat hstat hini hK hP (wW_D ij) hS q0 q1 0 0 (wW_at ha.1 (by rw [ha.2]; rfl)) (wW_at ha1.1 (by rw [ha1.2]; rfl)) rfl rfl rfl h1 h2 h3 h4 h5 (fun _ _ => rfl) hfr hlo hdg (fun H1 locs1 hP1 _ hS1 => ?_)
  rw [wW_set (D' := upA D q1 (va_cpy (D q0) (D q1) sp.toNatClampNeg dp.toNatClampNeg n.toNatClampNeg)) ha1.1 (by rw [ha1.2]; simp [upA, cE]) (fun c' hc' => by simp [upA, hc'])] at hP1
  exact kk H1 locs1 hP1 hS1
theorem x_iret {ty : FieldType} {v r0 : Int32} {D' : Mm} (hx : p.tables.exec = Jvm.exec) (hb : c.code = cc) (hr : meth.sig.returnType = some ty) (hlocks : meth.locks = false) (hn : narrow ty (.int v) = .int v) (hP : va_P dd vwCl (wW Y G ad D) H) (hS : va_S (pA G ad) s.heap H locs) (h : some (v, D) = some (r0, D')) (hdg : decode cc pc = .ok (.ireturn, 1)) : W p l e R s m args below meth c H locs 0 0 (MQ below (Qi dd Y G ad ty r0 D') args s 0 0 (pA G ad)) (F0 m pc ls [.int v]) := by
  obtain ⟨e1, e2⟩ := Prod.mk.inj (Option.some.inj h)
  subst e1 e2
  exact W.zret hx hb hr hn (fun t ht hW => ⟨⟨v, D, rfl, ⟨rfl, rfl, hn⟩, by show va_P dd vwCl (wW Y G ad D) t.heap; rw [ht]; exact hP⟩, hS.F ht⟩) hS.2.2 hdg hlocks
theorem x_vret {r0 : Int32} {D' : Mm} (hx : p.tables.exec = Jvm.exec) (hb : c.code = cc) (hr : meth.sig.returnType = none) (hlocks : meth.locks = false) (hP : va_P dd vwCl (wW Y G ad D) H) (hS : va_S (pA G ad) s.heap H locs) (h : some ((0 : Int32), D) = some (r0, D')) (hdg : decode cc pc = .ok (.return_, 1)) : W p l e R s m args below meth c H locs 0 0 (MQ below (Qv dd Y G ad D') args s 0 0 (pA G ad)) (F0 m pc ls []) := by
  obtain ⟨e1, e2⟩ := Prod.mk.inj (Option.some.inj h)
  subst e2
  exact W.vret hx hb hr (fun t ht hW => ⟨⟨D, rfl, rfl, by show va_P dd vwCl (wW Y G ad D) t.heap; rw [ht]; exact hP⟩, hS.F ht⟩) hS.2.2 hdg hlocks
variable {y : MethodName} {bytes : ByteArray} {maxL nL n index : Nat} {ret : Option FieldType} {rm : Room} {own C : String} {h : Nat} {As : List Value} {D1 : Mm} {r0 : Int32} {ty : FieldType}
theorem x_callVi (S : CallFix p m c cc nL s args W0 own) (hK : va_K dd vwCl (tyL Y) s) (hT : Sta t (pA G ad) s) (hP : va_P dd vwCl (wW Y G ad D) H) (hS : va_S (pA G ad) s.heap H locs) (hM : Met l y (.code y bytes maxL ret :: W0) rm (va_Pc (.ref (ad h) :: As) (Wd dd Y t G ad D)) (Qi dd Y G ad ty r0 D1) 0 0 (pA G ad)) (h1 : Cond.methodLink own index y ∈ W0) (hs : Cond.instanceMethod y ∈ W0 ∧ Cond.selects C y y ∈ W0 ∧ Cond.initialized C ∈ W0 ∧ Cond.code y bytes maxL ret ∈ W0) (hd : y.cls = C ∧ y.cls ≠ "java/lang/invoke/MethodHandle" ∧ y.cls ≠ "java/lang/invoke/VarHandle" ∧ (parseMethodDescriptor y.desc).map (fun d => d.parameters.length) = some n) (hrc : rm.cells = 0) (hrs : rm.slots = 0) (hR : rm.frames + 1 ≤ R.frames ∧ 8 + (maxL + 11) + rm.locals ≤ R.locals)
    {ci : Nat} {T : u_T} {N : Nat} {fs : List Value} (hn : h < gn G) (he : cE Y (gK G h) (gN G h) (pE G ad h) (D h) = .inr (ci, fs)) (hc : vwCl[ci]? = some (C, T, N)) (hl : As.length = n) (hsize : ls.size = nL) (hst : st0 = As.reverse ++ .ref (ad h) :: rest) (hW : (rest.map fun v => v.category).sum ≤ 8) (hdg : decode cc pc = .ok (.invokevirtual index, 3)) (hcs : cells + 0 ≤ R.cells ∧ slots + 0 ≤ R.slots)
    (kk : ∀ (H1 : Heap) (locs1 : List Loc), narrow ty (.int r0) = .int r0 → va_P dd vwCl (wW Y G ad D1) H1 → va_S (pA G ad) s.heap H1 locs1 → W p l e R s m args below meth c H1 locs1 cells slots Q (F0 m (pc + 3) ls (.int r0 :: rest))) : W p l e R s m args below meth c H locs cells slots Q (F0 m pc ls st0) := by
  refine va_calli (va_runV (As := As) (rest := rest) S hM (cwV n S.2.2.2.2 (gV h1 hs.1 hs.2.1 hs.2.2.1 hs.2.2.2) rfl hrc hrs hd hR) ⟨Wd.blind, va_recv hK hP hc (wW_at hn he), fun U hU hW => ⟨rfl, Wd.go hP hK hT hS hU hW⟩⟩ rfl hl hsize hst (lv_room hW) hdg hcs) hS (fun _ _ h => h) (fun _ h => h) (fun r u t H1 locs1 ht _ hw hB _ _ hS1 => ?_)
  obtain ⟨rfl, rfl, hnr⟩ := hw
  rw [ht] at hB
  exact kk H1 locs1 hnr hB hS1
theorem x_callVv (S : CallFix p m c cc nL s args W0 own) (hK : va_K dd vwCl (tyL Y) s) (hT : Sta t (pA G ad) s) (hP : va_P dd vwCl (wW Y G ad D) H) (hS : va_S (pA G ad) s.heap H locs) (hM : Met l y (.code y bytes maxL ret :: W0) rm (va_Pc (.ref (ad h) :: As) (Wd dd Y t G ad D)) (Qv dd Y G ad D1) 0 0 (pA G ad)) (h1 : Cond.methodLink own index y ∈ W0) (hs : Cond.instanceMethod y ∈ W0 ∧ Cond.selects C y y ∈ W0 ∧ Cond.initialized C ∈ W0 ∧ Cond.code y bytes maxL ret ∈ W0) (hd : y.cls = C ∧ y.cls ≠ "java/lang/invoke/MethodHandle" ∧ y.cls ≠ "java/lang/invoke/VarHandle" ∧ (parseMethodDescriptor y.desc).map (fun d => d.parameters.length) = some n) (hrc : rm.cells = 0) (hrs : rm.slots = 0) (hR : rm.frames + 1 ≤ R.frames ∧ 8 + (maxL + 11) + rm.locals ≤ R.locals)
    {ci : Nat} {T : u_T} {N : Nat} {fs : List Value} (hn : h < gn G) (he : cE Y (gK G h) (gN G h) (pE G ad h) (D h) = .inr (ci, fs)) (hc : vwCl[ci]? = some (C, T, N)) (hl : As.length = n) (hsize : ls.size = nL) (hst : st0 = As.reverse ++ .ref (ad h) :: rest) (hW : (rest.map fun v => v.category).sum ≤ 8) (hdg : decode cc pc = .ok (.invokevirtual index, 3)) (hcs : cells + 0 ≤ R.cells ∧ slots + 0 ≤ R.slots)
    (kk : ∀ (H1 : Heap) (locs1 : List Loc), va_P dd vwCl (wW Y G ad D1) H1 → va_S (pA G ad) s.heap H1 locs1 → W p l e R s m args below meth c H1 locs1 cells slots Q (F0 m (pc + 3) ls rest)) : W p l e R s m args below meth c H locs cells slots Q (F0 m pc ls st0) := by
  refine va_callv (va_runV (As := As) (rest := rest) S hM (cwV n S.2.2.2.2 (gV h1 hs.1 hs.2.1 hs.2.2.1 hs.2.2.2) rfl hrc hrs hd hR) ⟨Wd.blind, va_recv hK hP hc (wW_at hn he), fun U hU hW => ⟨rfl, Wd.go hP hK hT hS hU hW⟩⟩ rfl hl hsize hst (lv_room hW) hdg hcs) hS (fun _ _ h => h) (fun _ h => h) (fun u t H1 locs1 ht _ hw hB _ _ hS1 => ?_)
  subst hw
  rw [ht] at hB
  exact kk H1 locs1 hB hS1
theorem x_callSi (S : CallFix p m c cc nL s args W0 own) (hK : va_K dd vwCl (tyL Y) s) (hT : Sta t (pA G ad) s) (hP : va_P dd vwCl (wW Y G ad D) H) (hS : va_S (pA G ad) s.heap H locs) (hM : Met l y (.code y bytes maxL ret :: W0) rm (va_Pc As (Wd dd Y t G ad D)) (Qi dd Y G ad ty r0 D1) 0 0 (pA G ad)) (h1 : Cond.methodLink own index y ∈ W0) (hs : Cond.static y ∈ W0 ∧ Cond.initialized y.cls ∈ W0 ∧ Cond.code y bytes maxL ret ∈ W0) (hd : y.cls = C ∧ y.cls ≠ "java/lang/invoke/MethodHandle" ∧ y.cls ≠ "java/lang/invoke/VarHandle" ∧ (parseMethodDescriptor y.desc).map (fun d => d.parameters.length) = some n) (hrc : rm.cells = 0) (hrs : rm.slots = 0) (hR : rm.frames + 1 ≤ R.frames ∧ 8 + (maxL + 11) + rm.locals ≤ R.locals)
    (hl : As.length = n) (hsize : ls.size = nL) (hst : st0 = As.reverse ++ rest) (hW : (rest.map fun v => v.category).sum ≤ 8) (hdg : decode cc pc = .ok (.invokestatic index, 3)) (hcs : cells + 0 ≤ R.cells ∧ slots + 0 ≤ R.slots)
    (kk : ∀ (H1 : Heap) (locs1 : List Loc), narrow ty (.int r0) = .int r0 → va_P dd vwCl (wW Y G ad D1) H1 → va_S (pA G ad) s.heap H1 locs1 → W p l e R s m args below meth c H1 locs1 cells slots Q (F0 m (pc + 3) ls (.int r0 :: rest))) : W p l e R s m args below meth c H locs cells slots Q (F0 m pc ls st0) := by
  refine va_calli (va_runS (As := As) (rest := rest) S hM (va_cwS n S.2.2.2.2 (gS h1 hs.1 hs.2.1 hs.2.2) rfl hrc hrs hd.2 hR) ⟨Wd.blind, fun U hU hW => ⟨rfl, Wd.go hP hK hT hS hU hW⟩⟩ rfl hl hsize hst (lv_room hW) hdg hcs) hS (fun _ _ h => h) (fun _ h => h) (fun r u t H1 locs1 ht _ hw hB _ _ hS1 => ?_)
  obtain ⟨rfl, rfl, hnr⟩ := hw
  rw [ht] at hB
  exact kk H1 locs1 hnr hB hS1
theorem x_callSv (S : CallFix p m c cc nL s args W0 own) (hK : va_K dd vwCl (tyL Y) s) (hT : Sta t (pA G ad) s) (hP : va_P dd vwCl (wW Y G ad D) H) (hS : va_S (pA G ad) s.heap H locs) (hM : Met l y (.code y bytes maxL ret :: W0) rm (va_Pc As (Wd dd Y t G ad D)) (Qv dd Y G ad D1) 0 0 (pA G ad)) (h1 : Cond.methodLink own index y ∈ W0) (hs : Cond.static y ∈ W0 ∧ Cond.initialized y.cls ∈ W0 ∧ Cond.code y bytes maxL ret ∈ W0) (hd : y.cls = C ∧ y.cls ≠ "java/lang/invoke/MethodHandle" ∧ y.cls ≠ "java/lang/invoke/VarHandle" ∧ (parseMethodDescriptor y.desc).map (fun d => d.parameters.length) = some n) (hrc : rm.cells = 0) (hrs : rm.slots = 0) (hR : rm.frames + 1 ≤ R.frames ∧ 8 + (maxL + 11) + rm.locals ≤ R.locals)
    (hl : As.length = n) (hsize : ls.size = nL) (hst : st0 = As.reverse ++ rest) (hW : (rest.map fun v => v.category).sum ≤ 8) (hdg : decode cc pc = .ok (.invokestatic index, 3)) (hcs : cells + 0 ≤ R.cells ∧ slots + 0 ≤ R.slots)
    (kk : ∀ (H1 : Heap) (locs1 : List Loc), va_P dd vwCl (wW Y G ad D1) H1 → va_S (pA G ad) s.heap H1 locs1 → W p l e R s m args below meth c H1 locs1 cells slots Q (F0 m (pc + 3) ls rest)) : W p l e R s m args below meth c H locs cells slots Q (F0 m pc ls st0) := by
  refine va_callv (va_runS (As := As) (rest := rest) S hM (va_cwS n S.2.2.2.2 (gS h1 hs.1 hs.2.1 hs.2.2) rfl hrc hrs hd.2 hR) ⟨Wd.blind, fun U hU hW => ⟨rfl, Wd.go hP hK hT hS hU hW⟩⟩ rfl hl hsize hst (lv_room hW) hdg hcs) hS (fun _ _ h => h) (fun _ h => h) (fun u t H1 locs1 ht _ hw hB _ _ hS1 => ?_)
  subst hw
  rw [ht] at hB
  exact kk H1 locs1 hB hS1
theorem x_callNi {host : String} (S : CallFix p m c cc nL s args W0 own) (hK : va_K dd vwCl (tyL Y) s) (hT : Sta t (pA G ad) s) (hP : va_P dd vwCl (wW Y G ad D) H) (hS : va_S (pA G ad) s.heap H locs) (hM : Met l y (.code y bytes maxL ret :: W0) rm (va_Pc As (Wd dd Y t G ad D)) (Qi dd Y G ad ty r0 D1) 0 0 (pA G ad)) (h1 : va_Nw (.methodLinkNest own index y host) s) (hs : Cond.static y ∈ W0 ∧ Cond.initialized y.cls ∈ W0 ∧ Cond.code y bytes maxL ret ∈ W0) (hd : y.cls = C ∧ y.cls ≠ "java/lang/invoke/MethodHandle" ∧ y.cls ≠ "java/lang/invoke/VarHandle" ∧ (parseMethodDescriptor y.desc).map (fun d => d.parameters.length) = some n) (hrc : rm.cells = 0) (hrs : rm.slots = 0) (hR : rm.frames + 1 ≤ R.frames ∧ 8 + (maxL + 11) + rm.locals ≤ R.locals)
    (hl : As.length = n) (hsize : ls.size = nL) (hst : st0 = As.reverse ++ rest) (hW : (rest.map fun v => v.category).sum ≤ 8) (hdg : decode cc pc = .ok (.invokestatic index, 3)) (hcs : cells + 0 ≤ R.cells ∧ slots + 0 ≤ R.slots)
    (kk : ∀ (H1 : Heap) (locs1 : List Loc), narrow ty (.int r0) = .int r0 → va_P dd vwCl (wW Y G ad D1) H1 → va_S (pA G ad) s.heap H1 locs1 → W p l e R s m args below meth c H1 locs1 cells slots Q (F0 m (pc + 3) ls (.int r0 :: rest))) : W p l e R s m args below meth c H locs cells slots Q (F0 m pc ls st0) := by
  refine va_calli (va_runSN (As := As) (rest := rest) S hM ⟨va_cnB n S.2.2.2.2 (gC hs.2.2) rfl hrc hrs h1 (S.2.2.2.2 _ hs.2.1) hd.2 hR, S.2.2.2.2 _ hs.1, trivial⟩ ⟨Wd.blind, fun U hU hW => ⟨rfl, Wd.go hP hK hT hS hU hW⟩⟩ rfl hl hsize hst (lv_room hW) hdg hcs) hS (fun _ _ h => h) (fun _ h => h) (fun r u t H1 locs1 ht _ hw hB _ _ hS1 => ?_)
  obtain ⟨rfl, rfl, hnr⟩ := hw
  rw [ht] at hB
  exact kk H1 locs1 hnr hB hS1
theorem x_callNv {host : String} (S : CallFix p m c cc nL s args W0 own) (hK : va_K dd vwCl (tyL Y) s) (hT : Sta t (pA G ad) s) (hP : va_P dd vwCl (wW Y G ad D) H) (hS : va_S (pA G ad) s.heap H locs) (hM : Met l y (.code y bytes maxL ret :: W0) rm (va_Pc As (Wd dd Y t G ad D)) (Qv dd Y G ad D1) 0 0 (pA G ad)) (h1 : va_Nw (.methodLinkNest own index y host) s) (hs : Cond.static y ∈ W0 ∧ Cond.initialized y.cls ∈ W0 ∧ Cond.code y bytes maxL ret ∈ W0) (hd : y.cls = C ∧ y.cls ≠ "java/lang/invoke/MethodHandle" ∧ y.cls ≠ "java/lang/invoke/VarHandle" ∧ (parseMethodDescriptor y.desc).map (fun d => d.parameters.length) = some n) (hrc : rm.cells = 0) (hrs : rm.slots = 0) (hR : rm.frames + 1 ≤ R.frames ∧ 8 + (maxL + 11) + rm.locals ≤ R.locals)
    (hl : As.length = n) (hsize : ls.size = nL) (hst : st0 = As.reverse ++ rest) (hW : (rest.map fun v => v.category).sum ≤ 8) (hdg : decode cc pc = .ok (.invokestatic index, 3)) (hcs : cells + 0 ≤ R.cells ∧ slots + 0 ≤ R.slots)
    (kk : ∀ (H1 : Heap) (locs1 : List Loc), va_P dd vwCl (wW Y G ad D1) H1 → va_S (pA G ad) s.heap H1 locs1 → W p l e R s m args below meth c H1 locs1 cells slots Q (F0 m (pc + 3) ls rest)) : W p l e R s m args below meth c H locs cells slots Q (F0 m pc ls st0) := by
  refine va_callv (va_runSN (As := As) (rest := rest) S hM ⟨va_cnB n S.2.2.2.2 (gC hs.2.2) rfl hrc hrs h1 (S.2.2.2.2 _ hs.2.1) hd.2 hR, S.2.2.2.2 _ hs.1, trivial⟩ ⟨Wd.blind, fun U hU hW => ⟨rfl, Wd.go hP hK hT hS hU hW⟩⟩ rfl hl hsize hst (lv_room hW) hdg hcs) hS (fun _ _ h => h) (fun _ h => h) (fun u t H1 locs1 ht _ hw hB _ _ hS1 => ?_)
  subst hw
  rw [ht] at hB
  exact kk H1 locs1 hB hS1
theorem x_callVq (S : CallFix p m c cc nL s args W0 own) (hK : va_K dd vwCl (tyL Y) s) (hT : Sta t (pA G ad) s) (hP : va_P dd vwCl (wW Y G ad D) H) (hS : va_S (pA G ad) s.heap H locs) {qo : Option Nat} (hM : Met l y (.code y bytes maxL ret :: W0) rm (va_Pc (.ref (ad h) :: As) (Wd dd Y t G ad D)) (va_Qq (fun (r : Option Nat) (u : Mm) => r = qo.map ad ∧ u = D1) (fun u t => va_P dd vwCl (wW Y G ad u) t.heap) (pA G ad)) 0 0 (pA G ad)) (h1 : Cond.methodLink own index y ∈ W0) (hs : Cond.instanceMethod y ∈ W0 ∧ Cond.selects C y y ∈ W0 ∧ Cond.initialized C ∈ W0 ∧ Cond.code y bytes maxL ret ∈ W0) (hd : y.cls = C ∧ y.cls ≠ "java/lang/invoke/MethodHandle" ∧ y.cls ≠ "java/lang/invoke/VarHandle" ∧ (parseMethodDescriptor y.desc).map (fun d => d.parameters.length) = some n) (hrc : rm.cells = 0) (hrs : rm.slots = 0) (hR : rm.frames + 1 ≤ R.frames ∧ 8 + (maxL + 11) + rm.locals ≤ R.locals)
    {ci : Nat} {T : u_T} {N : Nat} {fs : List Value} (hn : h < gn G) (he : cE Y (gK G h) (gN G h) (pE G ad h) (D h) = .inr (ci, fs)) (hc : vwCl[ci]? = some (C, T, N)) (hl : As.length = n) (hsize : ls.size = nL) (hst : st0 = As.reverse ++ .ref (ad h) :: rest) (hW : (rest.map fun v => v.category).sum ≤ 8) (hdg : decode cc pc = .ok (.invokevirtual index, 3)) (hcs : cells + 0 ≤ R.cells ∧ slots + 0 ≤ R.slots)
    (k0 : qo = none → ∀ (H1 : Heap) (locs1 : List Loc), va_P dd vwCl (wW Y G ad D1) H1 → va_S (pA G ad) s.heap H1 locs1 → W p l e R s m args below meth c H1 locs1 cells slots Q (F0 m (pc + 3) ls (.null :: rest)))
    (k1 : ∀ q, qo = some q → ∀ (H1 : Heap) (locs1 : List Loc), va_P dd vwCl (wW Y G ad D1) H1 → va_S (pA G ad) s.heap H1 locs1 → W p l e R s m args below meth c H1 locs1 cells slots Q (F0 m (pc + 3) ls (.ref (ad q) :: rest))) : W p l e R s m args below meth c H locs cells slots Q (F0 m pc ls st0) := by
  refine va_callq (va_runV (As := As) (rest := rest) S hM (cwV n S.2.2.2.2 (gV h1 hs.1 hs.2.1 hs.2.2.1 hs.2.2.2) rfl hrc hrs hd hR) ⟨Wd.blind, va_recv hK hP hc (wW_at hn he), fun U hU hW => ⟨rfl, Wd.go hP hK hT hS hU hW⟩⟩ rfl hl hsize hst (lv_room hW) hdg hcs) hS (fun _ _ h => h) (fun _ h => h) (fun r u t H1 locs1 ht _ hw hB _ _ hS1 => ?_)
  obtain ⟨rfl, rfl⟩ := hw
  rw [ht] at hB
  cases qo with
  | none => exact k0 rfl H1 locs1 hB hS1
  | some q => exact k1 q rfl H1 locs1 hB hS1
end X1
theorem x_sw {x : Int32} {k : Int32} (h : ¬ x = k) : x.toInt ≠ k.toInt := fun q => h (Int32.toInt_inj.mp q)
def bq (x : Option Nat) (a : Rs) (b : Nat → Rs) : Rs := match x with
  | none => a
  | some q => b q
theorem bq_n {x : Option Nat} {a : Rs} {b : Nat → Rs} {r : Int32 × Mm} (hq : x = none) (h : bq x a b = some r) : a = some r := by subst hq; exact h
theorem bq_s {x : Option Nat} {a : Rs} {b : Nat → Rs} {r : Int32 × Mm} {q : Nat} (hq : x = some q) (h : bq x a b = some r) : b q = some r := by subst hq; exact h

abbrev IArr (G : Gr) (c : Nat) : Prop := AtK G c 9
def RingAt (G : Gr) (h : Nat) : Prop := AtK G h 5 ∧ gP G h 0 = some (h + 1) ∧ gP G h 2 = some (h + 2) ∧ AtK G (h + 1) 9 ∧ AtK G (h + 2) 9
def BytesAt (G : Gr) (h : Nat) : Prop := AtK G h 1 ∧ gP G h 0 = some (h + 1) ∧ AtK G (h + 1) 9
end
section
theorem dX0_init_0 : decode cX0_init 0 = .ok (.aload_n 0, 1) := by decide +kernel
theorem dX0_init_1 : decode cX0_init 1 = .ok (.invokespecial 3, 3) := by decide +kernel
theorem dX0_init_4 : decode cX0_init 4 = .ok (.aload_n 0, 1) := by decide +kernel
theorem dX0_init_5 : decode cX0_init 5 = .ok (.aload_n 1, 1) := by decide +kernel
theorem dX0_init_6 : decode cX0_init 6 = .ok (.putfield 9, 3) := by decide +kernel
theorem dX0_init_9 : decode cX0_init 9 = .ok (.aload_n 0, 1) := by decide +kernel
theorem dX0_init_10 : decode cX0_init 10 = .ok (.iconst (-1), 1) := by decide +kernel
theorem dX0_init_11 : decode cX0_init 11 = .ok (.putfield 15, 3) := by decide +kernel
theorem dX0_init_14 : decode cX0_init 14 = .ok (.aload_n 0, 1) := by decide +kernel
theorem dX0_init_15 : decode cX0_init 15 = .ok (.bipush 16, 2) := by decide +kernel
theorem dX0_init_17 : decode cX0_init 17 = .ok (.anewarray 19, 3) := by decide +kernel
theorem dX0_init_20 : decode cX0_init 20 = .ok (.putfield 21, 3) := by decide +kernel
theorem dX0_init_23 : decode cX0_init 23 = .ok (.iconst 0, 1) := by decide +kernel
theorem dX0_init_24 : decode cX0_init 24 = .ok (.istore_n 2, 1) := by decide +kernel
theorem dX0_init_25 : decode cX0_init 25 = .ok (.iload_n 2, 1) := by decide +kernel
theorem dX0_init_26 : decode cX0_init 26 = .ok (.bipush 16, 2) := by decide +kernel
theorem dX0_init_28 : decode cX0_init 28 = .ok (.if_icmp .ge 28, 3) := by decide +kernel
theorem dX0_init_31 : decode cX0_init 31 = .ok (.aload_n 0, 1) := by decide +kernel
theorem dX0_init_32 : decode cX0_init 32 = .ok (.getfield 21, 3) := by decide +kernel
theorem dX0_init_35 : decode cX0_init 35 = .ok (.iload_n 2, 1) := by decide +kernel
theorem dX0_init_36 : decode cX0_init 36 = .ok (.new 19, 3) := by decide +kernel
theorem dX0_init_39 : decode cX0_init 39 = .ok (.dup, 1) := by decide +kernel
theorem dX0_init_40 : decode cX0_init 40 = .ok (.iload_n 2, 1) := by decide +kernel
theorem dX0_init_41 : decode cX0_init 41 = .ok (.iconst 1, 1) := by decide +kernel
theorem dX0_init_42 : decode cX0_init 42 = .ok (.iadd, 1) := by decide +kernel
theorem dX0_init_43 : decode cX0_init 43 = .ok (.invokestatic 25, 3) := by decide +kernel
theorem dX0_init_46 : decode cX0_init 46 = .ok (.invokespecial 29, 3) := by decide +kernel
theorem dX0_init_49 : decode cX0_init 49 = .ok (.aastore, 1) := by decide +kernel
theorem dX0_init_50 : decode cX0_init 50 = .ok (.iinc 2 1, 3) := by decide +kernel
theorem dX0_init_53 : decode cX0_init 53 = .ok (.goto (-28), 3) := by decide +kernel
theorem dX0_init_56 : decode cX0_init 56 = .ok (.aload_n 0, 1) := by decide +kernel
theorem dX0_init_57 : decode cX0_init 57 = .ok (.new 19, 3) := by decide +kernel
theorem dX0_init_60 : decode cX0_init 60 = .ok (.dup, 1) := by decide +kernel
theorem dX0_init_61 : decode cX0_init 61 = .ok (.bipush 114, 2) := by decide +kernel
theorem dX0_init_63 : decode cX0_init 63 = .ok (.invokespecial 29, 3) := by decide +kernel
theorem dX0_init_66 : decode cX0_init 66 = .ok (.putfield 32, 3) := by decide +kernel
theorem dX0_init_69 : decode cX0_init 69 = .ok (.aload_n 0, 1) := by decide +kernel
theorem dX0_init_70 : decode cX0_init 70 = .ok (.getfield 32, 3) := by decide +kernel
theorem dX0_init_73 : decode cX0_init 73 = .ok (.invokevirtual 36, 3) := by decide +kernel
theorem dX0_init_76 : decode cX0_init 76 = .ok (.aload_n 0, 1) := by decide +kernel
theorem dX0_init_77 : decode cX0_init 77 = .ok (.getfield 32, 3) := by decide +kernel
theorem dX0_init_80 : decode cX0_init 80 = .ok (.iconst 0, 1) := by decide +kernel
theorem dX0_init_81 : decode cX0_init 81 = .ok (.invokevirtual 39, 3) := by decide +kernel
theorem dX0_init_84 : decode cX0_init 84 = .ok (.aload_n 0, 1) := by decide +kernel
theorem dX0_init_85 : decode cX0_init 85 = .ok (.getfield 32, 3) := by decide +kernel
theorem dX0_init_88 : decode cX0_init 88 = .ok (.bipush 40, 2) := by decide +kernel
theorem dX0_init_90 : decode cX0_init 90 = .ok (.bipush 64, 2) := by decide +kernel
theorem dX0_init_92 : decode cX0_init 92 = .ok (.newarray .int, 2) := by decide +kernel
theorem dX0_init_94 : decode cX0_init 94 = .ok (.invokevirtual 42, 3) := by decide +kernel
theorem dX0_init_97 : decode cX0_init 97 = .ok (.return_, 1) := by decide +kernel
theorem dX0_ringOf_0 : decode cX0_ringOf 0 = .ok (.iload_n 1, 1) := by decide +kernel
theorem dX0_ringOf_1 : decode cX0_ringOf 1 = .ok (.iconst 1, 1) := by decide +kernel
theorem dX0_ringOf_2 : decode cX0_ringOf 2 = .ok (.if_icmp .lt 20, 3) := by decide +kernel
theorem dX0_ringOf_5 : decode cX0_ringOf 5 = .ok (.iload_n 1, 1) := by decide +kernel
theorem dX0_ringOf_6 : decode cX0_ringOf 6 = .ok (.bipush 16, 2) := by decide +kernel
theorem dX0_ringOf_8 : decode cX0_ringOf 8 = .ok (.if_icmp .gt 14, 3) := by decide +kernel
theorem dX0_ringOf_11 : decode cX0_ringOf 11 = .ok (.aload_n 0, 1) := by decide +kernel
theorem dX0_ringOf_12 : decode cX0_ringOf 12 = .ok (.getfield 21, 3) := by decide +kernel
theorem dX0_ringOf_15 : decode cX0_ringOf 15 = .ok (.iload_n 1, 1) := by decide +kernel
theorem dX0_ringOf_16 : decode cX0_ringOf 16 = .ok (.iconst 1, 1) := by decide +kernel
theorem dX0_ringOf_17 : decode cX0_ringOf 17 = .ok (.isub, 1) := by decide +kernel
theorem dX0_ringOf_18 : decode cX0_ringOf 18 = .ok (.aaload, 1) := by decide +kernel
theorem dX0_ringOf_19 : decode cX0_ringOf 19 = .ok (.goto 4, 3) := by decide +kernel
theorem dX0_ringOf_22 : decode cX0_ringOf 22 = .ok (.aconst_null, 1) := by decide +kernel
theorem dX0_ringOf_23 : decode cX0_ringOf 23 = .ok (.areturn, 1) := by decide +kernel
theorem dX0_sectorsOf_0 : decode cX0_sectorsOf 0 = .ok (.iload_n 0, 1) := by decide +kernel
theorem dX0_sectorsOf_1 : decode cX0_sectorsOf 1 = .ok (.iconst 1, 1) := by decide +kernel
theorem dX0_sectorsOf_2 : decode cX0_sectorsOf 2 = .ok (.if_icmp .lt 9, 3) := by decide +kernel
theorem dX0_sectorsOf_5 : decode cX0_sectorsOf 5 = .ok (.iload_n 0, 1) := by decide +kernel
theorem dX0_sectorsOf_6 : decode cX0_sectorsOf 6 = .ok (.bipush 16, 2) := by decide +kernel
theorem dX0_sectorsOf_8 : decode cX0_sectorsOf 8 = .ok (.if_icmp .le 5, 3) := by decide +kernel
theorem dX0_sectorsOf_11 : decode cX0_sectorsOf 11 = .ok (.iconst 0, 1) := by decide +kernel
theorem dX0_sectorsOf_12 : decode cX0_sectorsOf 12 = .ok (.ireturn, 1) := by decide +kernel
theorem dX0_sectorsOf_13 : decode cX0_sectorsOf 13 = .ok (.iload_n 0, 1) := by decide +kernel
theorem dX0_sectorsOf_14 : decode cX0_sectorsOf 14 = .ok (.bipush 8, 2) := by decide +kernel
theorem dX0_sectorsOf_16 : decode cX0_sectorsOf 16 = .ok (.if_icmp .gt 8, 3) := by decide +kernel
theorem dX0_sectorsOf_19 : decode cX0_sectorsOf 19 = .ok (.bipush 9, 2) := by decide +kernel
theorem dX0_sectorsOf_21 : decode cX0_sectorsOf 21 = .ok (.goto 16, 3) := by decide +kernel
theorem dX0_sectorsOf_24 : decode cX0_sectorsOf 24 = .ok (.iload_n 0, 1) := by decide +kernel
theorem dX0_sectorsOf_25 : decode cX0_sectorsOf 25 = .ok (.bipush 12, 2) := by decide +kernel
theorem dX0_sectorsOf_27 : decode cX0_sectorsOf 27 = .ok (.if_icmp .gt 8, 3) := by decide +kernel
theorem dX0_sectorsOf_30 : decode cX0_sectorsOf 30 = .ok (.bipush 8, 2) := by decide +kernel
theorem dX0_sectorsOf_32 : decode cX0_sectorsOf 32 = .ok (.goto 5, 3) := by decide +kernel
theorem dX0_sectorsOf_35 : decode cX0_sectorsOf 35 = .ok (.bipush 7, 2) := by decide +kernel
theorem dX0_sectorsOf_37 : decode cX0_sectorsOf 37 = .ok (.ireturn, 1) := by decide +kernel
theorem dX0_isBlock_0 : decode cX0_isBlock 0 = .ok (.iload_n 1, 1) := by decide +kernel
theorem dX0_isBlock_1 : decode cX0_isBlock 1 = .ok (.ifCond .lt 15, 3) := by decide +kernel
theorem dX0_isBlock_4 : decode cX0_isBlock 4 = .ok (.iload_n 1, 1) := by decide +kernel
theorem dX0_isBlock_5 : decode cX0_isBlock 5 = .ok (.iload_n 0, 1) := by decide +kernel
theorem dX0_isBlock_6 : decode cX0_isBlock 6 = .ok (.invokestatic 46, 3) := by decide +kernel
theorem dX0_isBlock_9 : decode cX0_isBlock 9 = .ok (.if_icmp .ge 7, 3) := by decide +kernel
theorem dX0_isBlock_12 : decode cX0_isBlock 12 = .ok (.iconst 1, 1) := by decide +kernel
theorem dX0_isBlock_13 : decode cX0_isBlock 13 = .ok (.goto 4, 3) := by decide +kernel
theorem dX0_isBlock_16 : decode cX0_isBlock 16 = .ok (.iconst 0, 1) := by decide +kernel
theorem dX0_isBlock_17 : decode cX0_isBlock 17 = .ok (.ireturn, 1) := by decide +kernel
theorem dX0_formatTracks_0 : decode cX0_formatTracks 0 = .ok (.iconst 1, 1) := by decide +kernel
theorem dX0_formatTracks_1 : decode cX0_formatTracks 1 = .ok (.istore_n 1, 1) := by decide +kernel
theorem dX0_formatTracks_2 : decode cX0_formatTracks 2 = .ok (.iload_n 1, 1) := by decide +kernel
theorem dX0_formatTracks_3 : decode cX0_formatTracks 3 = .ok (.bipush 16, 2) := by decide +kernel
theorem dX0_formatTracks_5 : decode cX0_formatTracks 5 = .ok (.if_icmp .gt 25, 3) := by decide +kernel
theorem dX0_formatTracks_8 : decode cX0_formatTracks 8 = .ok (.aload_n 0, 1) := by decide +kernel
theorem dX0_formatTracks_9 : decode cX0_formatTracks 9 = .ok (.iload_n 1, 1) := by decide +kernel
theorem dX0_formatTracks_10 : decode cX0_formatTracks 10 = .ok (.invokevirtual 49, 3) := by decide +kernel
theorem dX0_formatTracks_13 : decode cX0_formatTracks 13 = .ok (.astore_n 2, 1) := by decide +kernel
theorem dX0_formatTracks_14 : decode cX0_formatTracks 14 = .ok (.aload_n 2, 1) := by decide +kernel
theorem dX0_formatTracks_15 : decode cX0_formatTracks 15 = .ok (.ifnull 9, 3) := by decide +kernel
theorem dX0_formatTracks_18 : decode cX0_formatTracks 18 = .ok (.aload_n 0, 1) := by decide +kernel
theorem dX0_formatTracks_19 : decode cX0_formatTracks 19 = .ok (.aload_n 2, 1) := by decide +kernel
theorem dX0_formatTracks_20 : decode cX0_formatTracks 20 = .ok (.iload_n 1, 1) := by decide +kernel
theorem dX0_formatTracks_21 : decode cX0_formatTracks 21 = .ok (.invokevirtual 53, 3) := by decide +kernel
theorem dX0_formatTracks_24 : decode cX0_formatTracks 24 = .ok (.iinc 1 1, 3) := by decide +kernel
theorem dX0_formatTracks_27 : decode cX0_formatTracks 27 = .ok (.goto (-25), 3) := by decide +kernel
theorem dX0_formatTracks_30 : decode cX0_formatTracks 30 = .ok (.return_, 1) := by decide +kernel
theorem dX0_formatTrack_0 : decode cX0_formatTrack 0 = .ok (.aload_n 1, 1) := by decide +kernel
theorem dX0_formatTrack_1 : decode cX0_formatTrack 1 = .ok (.invokevirtual 36, 3) := by decide +kernel
theorem dX0_formatTrack_4 : decode cX0_formatTrack 4 = .ok (.iload_n 2, 1) := by decide +kernel
theorem dX0_formatTrack_5 : decode cX0_formatTrack 5 = .ok (.invokestatic 46, 3) := by decide +kernel
theorem dX0_formatTrack_8 : decode cX0_formatTrack 8 = .ok (.istore_n 3, 1) := by decide +kernel
theorem dX0_formatTrack_9 : decode cX0_formatTrack 9 = .ok (.iconst 0, 1) := by decide +kernel
theorem dX0_formatTrack_10 : decode cX0_formatTrack 10 = .ok (.istore 4, 2) := by decide +kernel
theorem dX0_formatTrack_12 : decode cX0_formatTrack 12 = .ok (.iload 4, 2) := by decide +kernel
theorem dX0_formatTrack_14 : decode cX0_formatTrack 14 = .ok (.iload_n 3, 1) := by decide +kernel
theorem dX0_formatTrack_15 : decode cX0_formatTrack 15 = .ok (.if_icmp .ge 38, 3) := by decide +kernel
theorem dX0_formatTrack_18 : decode cX0_formatTrack 18 = .ok (.aload_n 0, 1) := by decide +kernel
theorem dX0_formatTrack_19 : decode cX0_formatTrack 19 = .ok (.getfield 32, 3) := by decide +kernel
theorem dX0_formatTrack_22 : decode cX0_formatTrack 22 = .ok (.bipush 40, 2) := by decide +kernel
theorem dX0_formatTrack_24 : decode cX0_formatTrack 24 = .ok (.iload_n 2, 1) := by decide +kernel
theorem dX0_formatTrack_25 : decode cX0_formatTrack 25 = .ok (.iload 4, 2) := by decide +kernel
theorem dX0_formatTrack_27 : decode cX0_formatTrack 27 = .ok (.aload_n 0, 1) := by decide +kernel
theorem dX0_formatTrack_28 : decode cX0_formatTrack 28 = .ok (.getfield 15, 3) := by decide +kernel
theorem dX0_formatTrack_31 : decode cX0_formatTrack 31 = .ok (.invokevirtual 57, 3) := by decide +kernel
theorem dX0_formatTrack_34 : decode cX0_formatTrack 34 = .ok (.aload_n 1, 1) := by decide +kernel
theorem dX0_formatTrack_35 : decode cX0_formatTrack 35 = .ok (.aload_n 0, 1) := by decide +kernel
theorem dX0_formatTrack_36 : decode cX0_formatTrack 36 = .ok (.getfield 32, 3) := by decide +kernel
theorem dX0_formatTrack_39 : decode cX0_formatTrack 39 = .ok (.bipush 114, 2) := by decide +kernel
theorem dX0_formatTrack_41 : decode cX0_formatTrack 41 = .ok (.iload 4, 2) := by decide +kernel
theorem dX0_formatTrack_43 : decode cX0_formatTrack 43 = .ok (.imul, 1) := by decide +kernel
theorem dX0_formatTrack_44 : decode cX0_formatTrack 44 = .ok (.invokevirtual 61, 3) := by decide +kernel
theorem dX0_formatTrack_47 : decode cX0_formatTrack 47 = .ok (.iinc 4 1, 3) := by decide +kernel
theorem dX0_formatTrack_50 : decode cX0_formatTrack 50 = .ok (.goto (-38), 3) := by decide +kernel
theorem dX0_formatTrack_53 : decode cX0_formatTrack 53 = .ok (.return_, 1) := by decide +kernel
theorem dX0_layFormatted_0 : decode cX0_layFormatted 0 = .ok (.aload_n 0, 1) := by decide +kernel
theorem dX0_layFormatted_1 : decode cX0_layFormatted 1 = .ok (.iload_n 1, 1) := by decide +kernel
theorem dX0_layFormatted_2 : decode cX0_layFormatted 2 = .ok (.invokevirtual 49, 3) := by decide +kernel
theorem dX0_layFormatted_5 : decode cX0_layFormatted 5 = .ok (.astore 4, 2) := by decide +kernel
theorem dX0_layFormatted_7 : decode cX0_layFormatted 7 = .ok (.aload 4, 2) := by decide +kernel
theorem dX0_layFormatted_9 : decode cX0_layFormatted 9 = .ok (.ifnull 18, 3) := by decide +kernel
theorem dX0_layFormatted_12 : decode cX0_layFormatted 12 = .ok (.aload 4, 2) := by decide +kernel
theorem dX0_layFormatted_14 : decode cX0_layFormatted 14 = .ok (.bipush 8, 2) := by decide +kernel
theorem dX0_layFormatted_16 : decode cX0_layFormatted 16 = .ok (.bipush 114, 2) := by decide +kernel
theorem dX0_layFormatted_18 : decode cX0_layFormatted 18 = .ok (.iload_n 2, 1) := by decide +kernel
theorem dX0_layFormatted_19 : decode cX0_layFormatted 19 = .ok (.imul, 1) := by decide +kernel
theorem dX0_layFormatted_20 : decode cX0_layFormatted 20 = .ok (.iconst 5, 1) := by decide +kernel
theorem dX0_layFormatted_21 : decode cX0_layFormatted 21 = .ok (.iadd, 1) := by decide +kernel
theorem dX0_layFormatted_22 : decode cX0_layFormatted 22 = .ok (.imul, 1) := by decide +kernel
theorem dX0_layFormatted_23 : decode cX0_layFormatted 23 = .ok (.aload_n 3, 1) := by decide +kernel
theorem dX0_layFormatted_24 : decode cX0_layFormatted 24 = .ok (.invokevirtual 42, 3) := by decide +kernel
theorem dX0_layFormatted_27 : decode cX0_layFormatted 27 = .ok (.return_, 1) := by decide +kernel
theorem dX0_fetch_0 : decode cX0_fetch 0 = .ok (.aload_n 0, 1) := by decide +kernel
theorem dX0_fetch_1 : decode cX0_fetch 1 = .ok (.iload_n 1, 1) := by decide +kernel
theorem dX0_fetch_2 : decode cX0_fetch 2 = .ok (.iload_n 2, 1) := by decide +kernel
theorem dX0_fetch_3 : decode cX0_fetch 3 = .ok (.aload_n 3, 1) := by decide +kernel
theorem dX0_fetch_4 : decode cX0_fetch 4 = .ok (.invokevirtual 64, 3) := by decide +kernel
theorem dX0_fetch_7 : decode cX0_fetch 7 = .ok (.istore 4, 2) := by decide +kernel
theorem dX0_fetch_9 : decode cX0_fetch 9 = .ok (.iload 4, 2) := by decide +kernel
theorem dX0_fetch_11 : decode cX0_fetch 11 = .ok (.ifCond .ne 7, 3) := by decide +kernel
theorem dX0_fetch_14 : decode cX0_fetch 14 = .ok (.iconst 0, 1) := by decide +kernel
theorem dX0_fetch_15 : decode cX0_fetch 15 = .ok (.goto 14, 3) := by decide +kernel
theorem dX0_fetch_18 : decode cX0_fetch 18 = .ok (.aload_n 0, 1) := by decide +kernel
theorem dX0_fetch_19 : decode cX0_fetch 19 = .ok (.getfield 9, 3) := by decide +kernel
theorem dX0_fetch_22 : decode cX0_fetch 22 = .ok (.iload 4, 2) := by decide +kernel
theorem dX0_fetch_24 : decode cX0_fetch 24 = .ok (.iload_n 1, 1) := by decide +kernel
theorem dX0_fetch_25 : decode cX0_fetch 25 = .ok (.iload_n 2, 1) := by decide +kernel
theorem dX0_fetch_26 : decode cX0_fetch 26 = .ok (.invokevirtual 68, 3) := by decide +kernel
theorem dX0_fetch_29 : decode cX0_fetch 29 = .ok (.ireturn, 1) := by decide +kernel
theorem dX0_store_0 : decode cX0_store 0 = .ok (.aload_n 0, 1) := by decide +kernel
theorem dX0_store_1 : decode cX0_store 1 = .ok (.iload_n 1, 1) := by decide +kernel
theorem dX0_store_2 : decode cX0_store 2 = .ok (.iload_n 2, 1) := by decide +kernel
theorem dX0_store_3 : decode cX0_store 3 = .ok (.aload_n 3, 1) := by decide +kernel
theorem dX0_store_4 : decode cX0_store 4 = .ok (.invokevirtual 74, 3) := by decide +kernel
theorem dX0_store_7 : decode cX0_store 7 = .ok (.istore 4, 2) := by decide +kernel
theorem dX0_store_9 : decode cX0_store 9 = .ok (.iload 4, 2) := by decide +kernel
theorem dX0_store_11 : decode cX0_store 11 = .ok (.ifCond .ne 7, 3) := by decide +kernel
theorem dX0_store_14 : decode cX0_store 14 = .ok (.iconst 0, 1) := by decide +kernel
theorem dX0_store_15 : decode cX0_store 15 = .ok (.goto 14, 3) := by decide +kernel
theorem dX0_store_18 : decode cX0_store 18 = .ok (.aload_n 0, 1) := by decide +kernel
theorem dX0_store_19 : decode cX0_store 19 = .ok (.getfield 9, 3) := by decide +kernel
theorem dX0_store_22 : decode cX0_store 22 = .ok (.iload 4, 2) := by decide +kernel
theorem dX0_store_24 : decode cX0_store 24 = .ok (.iload_n 1, 1) := by decide +kernel
theorem dX0_store_25 : decode cX0_store 25 = .ok (.iload_n 2, 1) := by decide +kernel
theorem dX0_store_26 : decode cX0_store 26 = .ok (.invokevirtual 68, 3) := by decide +kernel
theorem dX0_store_29 : decode cX0_store 29 = .ok (.ireturn, 1) := by decide +kernel
theorem dX0_readBlock_0 : decode cX0_readBlock 0 = .ok (.aload_n 0, 1) := by decide +kernel
theorem dX0_readBlock_1 : decode cX0_readBlock 1 = .ok (.iload_n 1, 1) := by decide +kernel
theorem dX0_readBlock_2 : decode cX0_readBlock 2 = .ok (.invokevirtual 49, 3) := by decide +kernel
theorem dX0_readBlock_5 : decode cX0_readBlock 5 = .ok (.astore 4, 2) := by decide +kernel
theorem dX0_readBlock_7 : decode cX0_readBlock 7 = .ok (.aload_n 0, 1) := by decide +kernel
theorem dX0_readBlock_8 : decode cX0_readBlock 8 = .ok (.getfield 15, 3) := by decide +kernel
theorem dX0_readBlock_11 : decode cX0_readBlock 11 = .ok (.iconst (-1), 1) := by decide +kernel
theorem dX0_readBlock_12 : decode cX0_readBlock 12 = .ok (.if_icmp .ne 6, 3) := by decide +kernel
theorem dX0_readBlock_15 : decode cX0_readBlock 15 = .ok (.bipush 74, 2) := by decide +kernel
theorem dX0_readBlock_17 : decode cX0_readBlock 17 = .ok (.ireturn, 1) := by decide +kernel
theorem dX0_readBlock_18 : decode cX0_readBlock 18 = .ok (.aload 4, 2) := by decide +kernel
theorem dX0_readBlock_20 : decode cX0_readBlock 20 = .ok (.ifnull 11, 3) := by decide +kernel
theorem dX0_readBlock_23 : decode cX0_readBlock 23 = .ok (.iload_n 1, 1) := by decide +kernel
theorem dX0_readBlock_24 : decode cX0_readBlock 24 = .ok (.iload_n 2, 1) := by decide +kernel
theorem dX0_readBlock_25 : decode cX0_readBlock 25 = .ok (.invokestatic 77, 3) := by decide +kernel
theorem dX0_readBlock_28 : decode cX0_readBlock 28 = .ok (.ifCond .ne 6, 3) := by decide +kernel
theorem dX0_readBlock_31 : decode cX0_readBlock 31 = .ok (.bipush 66, 2) := by decide +kernel
theorem dX0_readBlock_33 : decode cX0_readBlock 33 = .ok (.ireturn, 1) := by decide +kernel
theorem dX0_readBlock_34 : decode cX0_readBlock 34 = .ok (.aload_n 0, 1) := by decide +kernel
theorem dX0_readBlock_35 : decode cX0_readBlock 35 = .ok (.aload 4, 2) := by decide +kernel
theorem dX0_readBlock_37 : decode cX0_readBlock 37 = .ok (.iload_n 1, 1) := by decide +kernel
theorem dX0_readBlock_38 : decode cX0_readBlock 38 = .ok (.iload_n 2, 1) := by decide +kernel
theorem dX0_readBlock_39 : decode cX0_readBlock 39 = .ok (.invokevirtual 81, 3) := by decide +kernel
theorem dX0_readBlock_42 : decode cX0_readBlock 42 = .ok (.istore 5, 2) := by decide +kernel
theorem dX0_readBlock_44 : decode cX0_readBlock 44 = .ok (.iload 5, 2) := by decide +kernel
theorem dX0_readBlock_46 : decode cX0_readBlock 46 = .ok (.iconst 1, 1) := by decide +kernel
theorem dX0_readBlock_47 : decode cX0_readBlock 47 = .ok (.iadd, 1) := by decide +kernel
theorem dX0_readBlock_48 : decode cX0_readBlock 48 = .ok (.aload 4, 2) := by decide +kernel
theorem dX0_readBlock_50 : decode cX0_readBlock 50 = .ok (.getfield 85, 3) := by decide +kernel
theorem dX0_readBlock_53 : decode cX0_readBlock 53 = .ok (.if_icmp .ge 10, 3) := by decide +kernel
theorem dX0_readBlock_56 : decode cX0_readBlock 56 = .ok (.iload 5, 2) := by decide +kernel
theorem dX0_readBlock_58 : decode cX0_readBlock 58 = .ok (.iconst 1, 1) := by decide +kernel
theorem dX0_readBlock_59 : decode cX0_readBlock 59 = .ok (.iadd, 1) := by decide +kernel
theorem dX0_readBlock_60 : decode cX0_readBlock 60 = .ok (.goto 4, 3) := by decide +kernel
theorem dX0_readBlock_63 : decode cX0_readBlock 63 = .ok (.iconst 0, 1) := by decide +kernel
theorem dX0_readBlock_64 : decode cX0_readBlock 64 = .ok (.istore 6, 2) := by decide +kernel
theorem dX0_readBlock_66 : decode cX0_readBlock 66 = .ok (.iload 5, 2) := by decide +kernel
theorem dX0_readBlock_68 : decode cX0_readBlock 68 = .ok (.ifCond .ge 9, 3) := by decide +kernel
theorem dX0_readBlock_71 : decode cX0_readBlock 71 = .ok (.iload 5, 2) := by decide +kernel
theorem dX0_readBlock_73 : decode cX0_readBlock 73 = .ok (.ineg, 1) := by decide +kernel
theorem dX0_readBlock_74 : decode cX0_readBlock 74 = .ok (.goto 16, 3) := by decide +kernel
theorem dX0_readBlock_77 : decode cX0_readBlock 77 = .ok (.aload 4, 2) := by decide +kernel
theorem dX0_readBlock_79 : decode cX0_readBlock 79 = .ok (.aload 4, 2) := by decide +kernel
theorem dX0_readBlock_81 : decode cX0_readBlock 81 = .ok (.iload 6, 2) := by decide +kernel
theorem dX0_readBlock_83 : decode cX0_readBlock 83 = .ok (.invokevirtual 88, 3) := by decide +kernel
theorem dX0_readBlock_86 : decode cX0_readBlock 86 = .ok (.aload_n 3, 1) := by decide +kernel
theorem dX0_readBlock_87 : decode cX0_readBlock 87 = .ok (.invokevirtual 91, 3) := by decide +kernel
theorem dX0_readBlock_90 : decode cX0_readBlock 90 = .ok (.istore 7, 2) := by decide +kernel
theorem dX0_readBlock_92 : decode cX0_readBlock 92 = .ok (.iload 7, 2) := by decide +kernel
theorem dX0_readBlock_94 : decode cX0_readBlock 94 = .ok (.ifCond .ne 16, 3) := by decide +kernel
theorem dX0_readBlock_97 : decode cX0_readBlock 97 = .ok (.aload_n 0, 1) := by decide +kernel
theorem dX0_readBlock_98 : decode cX0_readBlock 98 = .ok (.dup, 1) := by decide +kernel
theorem dX0_readBlock_99 : decode cX0_readBlock 99 = .ok (.getfield 95, 3) := by decide +kernel
theorem dX0_readBlock_102 : decode cX0_readBlock 102 = .ok (.iconst 1, 1) := by decide +kernel
theorem dX0_readBlock_103 : decode cX0_readBlock 103 = .ok (.iadd, 1) := by decide +kernel
theorem dX0_readBlock_104 : decode cX0_readBlock 104 = .ok (.putfield 95, 3) := by decide +kernel
theorem dX0_readBlock_107 : decode cX0_readBlock 107 = .ok (.goto 13, 3) := by decide +kernel
theorem dX0_readBlock_110 : decode cX0_readBlock 110 = .ok (.aload_n 0, 1) := by decide +kernel
theorem dX0_readBlock_111 : decode cX0_readBlock 111 = .ok (.dup, 1) := by decide +kernel
theorem dX0_readBlock_112 : decode cX0_readBlock 112 = .ok (.getfield 98, 3) := by decide +kernel
theorem dX0_readBlock_115 : decode cX0_readBlock 115 = .ok (.iconst 1, 1) := by decide +kernel
theorem dX0_readBlock_116 : decode cX0_readBlock 116 = .ok (.iadd, 1) := by decide +kernel
theorem dX0_readBlock_117 : decode cX0_readBlock 117 = .ok (.putfield 98, 3) := by decide +kernel
theorem dX0_readBlock_120 : decode cX0_readBlock 120 = .ok (.iload 7, 2) := by decide +kernel
theorem dX0_readBlock_122 : decode cX0_readBlock 122 = .ok (.ireturn, 1) := by decide +kernel
theorem dX0_writeBlock_0 : decode cX0_writeBlock 0 = .ok (.aload_n 0, 1) := by decide +kernel
theorem dX0_writeBlock_1 : decode cX0_writeBlock 1 = .ok (.iload_n 1, 1) := by decide +kernel
theorem dX0_writeBlock_2 : decode cX0_writeBlock 2 = .ok (.invokevirtual 49, 3) := by decide +kernel
theorem dX0_writeBlock_5 : decode cX0_writeBlock 5 = .ok (.astore 4, 2) := by decide +kernel
theorem dX0_writeBlock_7 : decode cX0_writeBlock 7 = .ok (.aload_n 0, 1) := by decide +kernel
theorem dX0_writeBlock_8 : decode cX0_writeBlock 8 = .ok (.getfield 15, 3) := by decide +kernel
theorem dX0_writeBlock_11 : decode cX0_writeBlock 11 = .ok (.iconst (-1), 1) := by decide +kernel
theorem dX0_writeBlock_12 : decode cX0_writeBlock 12 = .ok (.if_icmp .ne 6, 3) := by decide +kernel
theorem dX0_writeBlock_15 : decode cX0_writeBlock 15 = .ok (.bipush 74, 2) := by decide +kernel
theorem dX0_writeBlock_17 : decode cX0_writeBlock 17 = .ok (.ireturn, 1) := by decide +kernel
theorem dX0_writeBlock_18 : decode cX0_writeBlock 18 = .ok (.aload 4, 2) := by decide +kernel
theorem dX0_writeBlock_20 : decode cX0_writeBlock 20 = .ok (.ifnull 11, 3) := by decide +kernel
theorem dX0_writeBlock_23 : decode cX0_writeBlock 23 = .ok (.iload_n 1, 1) := by decide +kernel
theorem dX0_writeBlock_24 : decode cX0_writeBlock 24 = .ok (.iload_n 2, 1) := by decide +kernel
theorem dX0_writeBlock_25 : decode cX0_writeBlock 25 = .ok (.invokestatic 77, 3) := by decide +kernel
theorem dX0_writeBlock_28 : decode cX0_writeBlock 28 = .ok (.ifCond .ne 6, 3) := by decide +kernel
theorem dX0_writeBlock_31 : decode cX0_writeBlock 31 = .ok (.bipush 66, 2) := by decide +kernel
theorem dX0_writeBlock_33 : decode cX0_writeBlock 33 = .ok (.ireturn, 1) := by decide +kernel
theorem dX0_writeBlock_34 : decode cX0_writeBlock 34 = .ok (.aload_n 0, 1) := by decide +kernel
theorem dX0_writeBlock_35 : decode cX0_writeBlock 35 = .ok (.aload 4, 2) := by decide +kernel
theorem dX0_writeBlock_37 : decode cX0_writeBlock 37 = .ok (.iload_n 1, 1) := by decide +kernel
theorem dX0_writeBlock_38 : decode cX0_writeBlock 38 = .ok (.iload_n 2, 1) := by decide +kernel
theorem dX0_writeBlock_39 : decode cX0_writeBlock 39 = .ok (.invokevirtual 81, 3) := by decide +kernel
theorem dX0_writeBlock_42 : decode cX0_writeBlock 42 = .ok (.istore 5, 2) := by decide +kernel
theorem dX0_writeBlock_44 : decode cX0_writeBlock 44 = .ok (.iload 5, 2) := by decide +kernel
theorem dX0_writeBlock_46 : decode cX0_writeBlock 46 = .ok (.ifCond .ge 17, 3) := by decide +kernel
theorem dX0_writeBlock_49 : decode cX0_writeBlock 49 = .ok (.aload_n 0, 1) := by decide +kernel
theorem dX0_writeBlock_50 : decode cX0_writeBlock 50 = .ok (.dup, 1) := by decide +kernel
theorem dX0_writeBlock_51 : decode cX0_writeBlock 51 = .ok (.getfield 98, 3) := by decide +kernel
theorem dX0_writeBlock_54 : decode cX0_writeBlock 54 = .ok (.iconst 1, 1) := by decide +kernel
theorem dX0_writeBlock_55 : decode cX0_writeBlock 55 = .ok (.iadd, 1) := by decide +kernel
theorem dX0_writeBlock_56 : decode cX0_writeBlock 56 = .ok (.putfield 98, 3) := by decide +kernel
theorem dX0_writeBlock_59 : decode cX0_writeBlock 59 = .ok (.iload 5, 2) := by decide +kernel
theorem dX0_writeBlock_61 : decode cX0_writeBlock 61 = .ok (.ineg, 1) := by decide +kernel
theorem dX0_writeBlock_62 : decode cX0_writeBlock 62 = .ok (.ireturn, 1) := by decide +kernel
theorem dX0_writeBlock_63 : decode cX0_writeBlock 63 = .ok (.aload 4, 2) := by decide +kernel
theorem dX0_writeBlock_65 : decode cX0_writeBlock 65 = .ok (.aload 4, 2) := by decide +kernel
theorem dX0_writeBlock_67 : decode cX0_writeBlock 67 = .ok (.iload 5, 2) := by decide +kernel
theorem dX0_writeBlock_69 : decode cX0_writeBlock 69 = .ok (.invokevirtual 88, 3) := by decide +kernel
theorem dX0_writeBlock_72 : decode cX0_writeBlock 72 = .ok (.aload_n 3, 1) := by decide +kernel
theorem dX0_writeBlock_73 : decode cX0_writeBlock 73 = .ok (.invokevirtual 42, 3) := by decide +kernel
theorem dX0_writeBlock_76 : decode cX0_writeBlock 76 = .ok (.aload_n 0, 1) := by decide +kernel
theorem dX0_writeBlock_77 : decode cX0_writeBlock 77 = .ok (.dup, 1) := by decide +kernel
theorem dX0_writeBlock_78 : decode cX0_writeBlock 78 = .ok (.getfield 101, 3) := by decide +kernel
theorem dX0_writeBlock_81 : decode cX0_writeBlock 81 = .ok (.iconst 1, 1) := by decide +kernel
theorem dX0_writeBlock_82 : decode cX0_writeBlock 82 = .ok (.iadd, 1) := by decide +kernel
theorem dX0_writeBlock_83 : decode cX0_writeBlock 83 = .ok (.putfield 101, 3) := by decide +kernel
theorem dX0_writeBlock_86 : decode cX0_writeBlock 86 = .ok (.iconst 0, 1) := by decide +kernel
theorem dX0_writeBlock_87 : decode cX0_writeBlock 87 = .ok (.ireturn, 1) := by decide +kernel
theorem dX0_seek_0 : decode cX0_seek 0 = .ok (.aload_n 1, 1) := by decide +kernel
theorem dX0_seek_1 : decode cX0_seek 1 = .ok (.invokevirtual 104, 3) := by decide +kernel
theorem dX0_seek_4 : decode cX0_seek 4 = .ok (.istore 4, 2) := by decide +kernel
theorem dX0_seek_6 : decode cX0_seek 6 = .ok (.iload 4, 2) := by decide +kernel
theorem dX0_seek_8 : decode cX0_seek 8 = .ok (.ifCond .ne 6, 3) := by decide +kernel
theorem dX0_seek_11 : decode cX0_seek 11 = .ok (.bipush (-21), 2) := by decide +kernel
theorem dX0_seek_13 : decode cX0_seek 13 = .ok (.ireturn, 1) := by decide +kernel
theorem dX0_seek_14 : decode cX0_seek 14 = .ok (.iconst 0, 1) := by decide +kernel
theorem dX0_seek_15 : decode cX0_seek 15 = .ok (.istore 5, 2) := by decide +kernel
theorem dX0_seek_17 : decode cX0_seek 17 = .ok (.iload 5, 2) := by decide +kernel
theorem dX0_seek_19 : decode cX0_seek 19 = .ok (.iload 4, 2) := by decide +kernel
theorem dX0_seek_21 : decode cX0_seek 21 = .ok (.if_icmp .ge 45, 3) := by decide +kernel
theorem dX0_seek_24 : decode cX0_seek 24 = .ok (.aload_n 0, 1) := by decide +kernel
theorem dX0_seek_25 : decode cX0_seek 25 = .ok (.aload_n 1, 1) := by decide +kernel
theorem dX0_seek_26 : decode cX0_seek 26 = .ok (.aload_n 1, 1) := by decide +kernel
theorem dX0_seek_27 : decode cX0_seek 27 = .ok (.iload 5, 2) := by decide +kernel
theorem dX0_seek_29 : decode cX0_seek 29 = .ok (.invokevirtual 88, 3) := by decide +kernel
theorem dX0_seek_32 : decode cX0_seek 32 = .ok (.iload_n 2, 1) := by decide +kernel
theorem dX0_seek_33 : decode cX0_seek 33 = .ok (.iload_n 3, 1) := by decide +kernel
theorem dX0_seek_34 : decode cX0_seek 34 = .ok (.invokevirtual 108, 3) := by decide +kernel
theorem dX0_seek_37 : decode cX0_seek 37 = .ok (.istore 6, 2) := by decide +kernel
theorem dX0_seek_39 : decode cX0_seek 39 = .ok (.iload 6, 2) := by decide +kernel
theorem dX0_seek_41 : decode cX0_seek 41 = .ok (.bipush 20, 2) := by decide +kernel
theorem dX0_seek_43 : decode cX0_seek 43 = .ok (.if_icmp .eq 17, 3) := by decide +kernel
theorem dX0_seek_46 : decode cX0_seek 46 = .ok (.iload 6, 2) := by decide +kernel
theorem dX0_seek_48 : decode cX0_seek 48 = .ok (.ifCond .ne 8, 3) := by decide +kernel
theorem dX0_seek_51 : decode cX0_seek 51 = .ok (.iload 5, 2) := by decide +kernel
theorem dX0_seek_53 : decode cX0_seek 53 = .ok (.goto 6, 3) := by decide +kernel
theorem dX0_seek_56 : decode cX0_seek 56 = .ok (.iload 6, 2) := by decide +kernel
theorem dX0_seek_58 : decode cX0_seek 58 = .ok (.ineg, 1) := by decide +kernel
theorem dX0_seek_59 : decode cX0_seek 59 = .ok (.ireturn, 1) := by decide +kernel
theorem dX0_seek_60 : decode cX0_seek 60 = .ok (.iinc 5 1, 3) := by decide +kernel
theorem dX0_seek_63 : decode cX0_seek 63 = .ok (.goto (-46), 3) := by decide +kernel
theorem dX0_seek_66 : decode cX0_seek 66 = .ok (.bipush (-20), 2) := by decide +kernel
theorem dX0_seek_68 : decode cX0_seek 68 = .ok (.ireturn, 1) := by decide +kernel
theorem dX0_headerError_0 : decode cX0_headerError 0 = .ok (.aload_n 1, 1) := by decide +kernel
theorem dX0_headerError_1 : decode cX0_headerError 1 = .ok (.iload_n 2, 1) := by decide +kernel
theorem dX0_headerError_2 : decode cX0_headerError 2 = .ok (.invokevirtual 112, 3) := by decide +kernel
theorem dX0_headerError_5 : decode cX0_headerError 5 = .ok (.bipush 8, 2) := by decide +kernel
theorem dX0_headerError_7 : decode cX0_headerError 7 = .ok (.if_icmp .ne 28, 3) := by decide +kernel
theorem dX0_headerError_10 : decode cX0_headerError 10 = .ok (.aload_n 1, 1) := by decide +kernel
theorem dX0_headerError_11 : decode cX0_headerError 11 = .ok (.iload_n 2, 1) := by decide +kernel
theorem dX0_headerError_12 : decode cX0_headerError 12 = .ok (.bipush 20, 2) := by decide +kernel
theorem dX0_headerError_14 : decode cX0_headerError 14 = .ok (.iadd, 1) := by decide +kernel
theorem dX0_headerError_15 : decode cX0_headerError 15 = .ok (.invokevirtual 112, 3) := by decide +kernel
theorem dX0_headerError_18 : decode cX0_headerError 18 = .ok (.iload 4, 2) := by decide +kernel
theorem dX0_headerError_20 : decode cX0_headerError 20 = .ok (.if_icmp .ne 15, 3) := by decide +kernel
theorem dX0_headerError_23 : decode cX0_headerError 23 = .ok (.aload_n 1, 1) := by decide +kernel
theorem dX0_headerError_24 : decode cX0_headerError 24 = .ok (.iload_n 2, 1) := by decide +kernel
theorem dX0_headerError_25 : decode cX0_headerError 25 = .ok (.bipush 30, 2) := by decide +kernel
theorem dX0_headerError_27 : decode cX0_headerError 27 = .ok (.iadd, 1) := by decide +kernel
theorem dX0_headerError_28 : decode cX0_headerError 28 = .ok (.invokevirtual 112, 3) := by decide +kernel
theorem dX0_headerError_31 : decode cX0_headerError 31 = .ok (.iload_n 3, 1) := by decide +kernel
theorem dX0_headerError_32 : decode cX0_headerError 32 = .ok (.if_icmp .eq 6, 3) := by decide +kernel
theorem dX0_headerError_35 : decode cX0_headerError 35 = .ok (.bipush 20, 2) := by decide +kernel
theorem dX0_headerError_37 : decode cX0_headerError 37 = .ok (.ireturn, 1) := by decide +kernel
theorem dX0_headerError_38 : decode cX0_headerError 38 = .ok (.aload_n 1, 1) := by decide +kernel
theorem dX0_headerError_39 : decode cX0_headerError 39 = .ok (.iload_n 2, 1) := by decide +kernel
theorem dX0_headerError_40 : decode cX0_headerError 40 = .ok (.bipush 10, 2) := by decide +kernel
theorem dX0_headerError_42 : decode cX0_headerError 42 = .ok (.iadd, 1) := by decide +kernel
theorem dX0_headerError_43 : decode cX0_headerError 43 = .ok (.invokevirtual 112, 3) := by decide +kernel
theorem dX0_headerError_46 : decode cX0_headerError 46 = .ok (.istore 5, 2) := by decide +kernel
theorem dX0_headerError_48 : decode cX0_headerError 48 = .ok (.aload_n 1, 1) := by decide +kernel
theorem dX0_headerError_49 : decode cX0_headerError 49 = .ok (.iload_n 2, 1) := by decide +kernel
theorem dX0_headerError_50 : decode cX0_headerError 50 = .ok (.bipush 40, 2) := by decide +kernel
theorem dX0_headerError_52 : decode cX0_headerError 52 = .ok (.iadd, 1) := by decide +kernel
theorem dX0_headerError_53 : decode cX0_headerError 53 = .ok (.invokevirtual 112, 3) := by decide +kernel
theorem dX0_headerError_56 : decode cX0_headerError 56 = .ok (.istore 6, 2) := by decide +kernel
theorem dX0_headerError_58 : decode cX0_headerError 58 = .ok (.aload_n 1, 1) := by decide +kernel
theorem dX0_headerError_59 : decode cX0_headerError 59 = .ok (.iload_n 2, 1) := by decide +kernel
theorem dX0_headerError_60 : decode cX0_headerError 60 = .ok (.bipush 50, 2) := by decide +kernel
theorem dX0_headerError_62 : decode cX0_headerError 62 = .ok (.iadd, 1) := by decide +kernel
theorem dX0_headerError_63 : decode cX0_headerError 63 = .ok (.invokevirtual 112, 3) := by decide +kernel
theorem dX0_headerError_66 : decode cX0_headerError 66 = .ok (.istore 7, 2) := by decide +kernel
theorem dX0_headerError_68 : decode cX0_headerError 68 = .ok (.iload 5, 2) := by decide +kernel
theorem dX0_headerError_70 : decode cX0_headerError 70 = .ok (.iconst (-1), 1) := by decide +kernel
theorem dX0_headerError_71 : decode cX0_headerError 71 = .ok (.if_icmp .eq 15, 3) := by decide +kernel
theorem dX0_headerError_74 : decode cX0_headerError 74 = .ok (.iload 6, 2) := by decide +kernel
theorem dX0_headerError_76 : decode cX0_headerError 76 = .ok (.iconst (-1), 1) := by decide +kernel
theorem dX0_headerError_77 : decode cX0_headerError 77 = .ok (.if_icmp .eq 9, 3) := by decide +kernel
theorem dX0_headerError_80 : decode cX0_headerError 80 = .ok (.iload 7, 2) := by decide +kernel
theorem dX0_headerError_82 : decode cX0_headerError 82 = .ok (.iconst (-1), 1) := by decide +kernel
theorem dX0_headerError_83 : decode cX0_headerError 83 = .ok (.if_icmp .ne 6, 3) := by decide +kernel
theorem dX0_headerError_86 : decode cX0_headerError 86 = .ok (.bipush 20, 2) := by decide +kernel
theorem dX0_headerError_88 : decode cX0_headerError 88 = .ok (.ireturn, 1) := by decide +kernel
theorem dX0_headerError_89 : decode cX0_headerError 89 = .ok (.iload 5, 2) := by decide +kernel
theorem dX0_headerError_91 : decode cX0_headerError 91 = .ok (.iload 4, 2) := by decide +kernel
theorem dX0_headerError_93 : decode cX0_headerError 93 = .ok (.iload_n 3, 1) := by decide +kernel
theorem dX0_headerError_94 : decode cX0_headerError 94 = .ok (.ixor, 1) := by decide +kernel
theorem dX0_headerError_95 : decode cX0_headerError 95 = .ok (.iload 6, 2) := by decide +kernel
theorem dX0_headerError_97 : decode cX0_headerError 97 = .ok (.ixor, 1) := by decide +kernel
theorem dX0_headerError_98 : decode cX0_headerError 98 = .ok (.iload 7, 2) := by decide +kernel
theorem dX0_headerError_100 : decode cX0_headerError 100 = .ok (.ixor, 1) := by decide +kernel
theorem dX0_headerError_101 : decode cX0_headerError 101 = .ok (.if_icmp .eq 6, 3) := by decide +kernel
theorem dX0_headerError_104 : decode cX0_headerError 104 = .ok (.bipush 27, 2) := by decide +kernel
theorem dX0_headerError_106 : decode cX0_headerError 106 = .ok (.ireturn, 1) := by decide +kernel
theorem dX0_headerError_107 : decode cX0_headerError 107 = .ok (.iload 6, 2) := by decide +kernel
theorem dX0_headerError_109 : decode cX0_headerError 109 = .ok (.bipush 8, 2) := by decide +kernel
theorem dX0_headerError_111 : decode cX0_headerError 111 = .ok (.ishl, 1) := by decide +kernel
theorem dX0_headerError_112 : decode cX0_headerError 112 = .ok (.iload 7, 2) := by decide +kernel
theorem dX0_headerError_114 : decode cX0_headerError 114 = .ok (.ior, 1) := by decide +kernel
theorem dX0_headerError_115 : decode cX0_headerError 115 = .ok (.aload_n 0, 1) := by decide +kernel
theorem dX0_headerError_116 : decode cX0_headerError 116 = .ok (.getfield 15, 3) := by decide +kernel
theorem dX0_headerError_119 : decode cX0_headerError 119 = .ok (.if_icmp .ne 7, 3) := by decide +kernel
theorem dX0_headerError_122 : decode cX0_headerError 122 = .ok (.iconst 0, 1) := by decide +kernel
theorem dX0_headerError_123 : decode cX0_headerError 123 = .ok (.goto 5, 3) := by decide +kernel
theorem dX0_headerError_126 : decode cX0_headerError 126 = .ok (.bipush 29, 2) := by decide +kernel
theorem dX0_headerError_128 : decode cX0_headerError 128 = .ok (.ireturn, 1) := by decide +kernel
theorem dX1_init_0 : decode cX1_init 0 = .ok (.aload_n 0, 1) := by decide +kernel
theorem dX1_init_1 : decode cX1_init 1 = .ok (.invokespecial 1, 3) := by decide +kernel
theorem dX1_init_4 : decode cX1_init 4 = .ok (.aload_n 0, 1) := by decide +kernel
theorem dX1_init_5 : decode cX1_init 5 = .ok (.iconst 0, 1) := by decide +kernel
theorem dX1_init_6 : decode cX1_init 6 = .ok (.iload_n 1, 1) := by decide +kernel
theorem dX1_init_7 : decode cX1_init 7 = .ok (.invokestatic 7, 3) := by decide +kernel
theorem dX1_init_10 : decode cX1_init 10 = .ok (.newarray .int, 2) := by decide +kernel
theorem dX1_init_12 : decode cX1_init 12 = .ok (.putfield 13, 3) := by decide +kernel
theorem dX1_init_15 : decode cX1_init 15 = .ok (.return_, 1) := by decide +kernel
theorem dX1_add_0 : decode cX1_add 0 = .ok (.aload_n 0, 1) := by decide +kernel
theorem dX1_add_1 : decode cX1_add 1 = .ok (.getfield 19, 3) := by decide +kernel
theorem dX1_add_4 : decode cX1_add 4 = .ok (.aload_n 0, 1) := by decide +kernel
theorem dX1_add_5 : decode cX1_add 5 = .ok (.getfield 13, 3) := by decide +kernel
theorem dX1_add_8 : decode cX1_add 8 = .ok (.arraylength, 1) := by decide +kernel
theorem dX1_add_9 : decode cX1_add 9 = .ok (.if_icmp .ge 27, 3) := by decide +kernel
theorem dX1_add_12 : decode cX1_add 12 = .ok (.aload_n 0, 1) := by decide +kernel
theorem dX1_add_13 : decode cX1_add 13 = .ok (.getfield 13, 3) := by decide +kernel
theorem dX1_add_16 : decode cX1_add 16 = .ok (.aload_n 0, 1) := by decide +kernel
theorem dX1_add_17 : decode cX1_add 17 = .ok (.getfield 19, 3) := by decide +kernel
theorem dX1_add_20 : decode cX1_add 20 = .ok (.iload_n 1, 1) := by decide +kernel
theorem dX1_add_21 : decode cX1_add 21 = .ok (.sipush 255, 3) := by decide +kernel
theorem dX1_add_24 : decode cX1_add 24 = .ok (.iand, 1) := by decide +kernel
theorem dX1_add_25 : decode cX1_add 25 = .ok (.iastore, 1) := by decide +kernel
theorem dX1_add_26 : decode cX1_add 26 = .ok (.aload_n 0, 1) := by decide +kernel
theorem dX1_add_27 : decode cX1_add 27 = .ok (.dup, 1) := by decide +kernel
theorem dX1_add_28 : decode cX1_add 28 = .ok (.getfield 19, 3) := by decide +kernel
theorem dX1_add_31 : decode cX1_add 31 = .ok (.iconst 1, 1) := by decide +kernel
theorem dX1_add_32 : decode cX1_add 32 = .ok (.iadd, 1) := by decide +kernel
theorem dX1_add_33 : decode cX1_add 33 = .ok (.putfield 19, 3) := by decide +kernel
theorem dX1_add_36 : decode cX1_add 36 = .ok (.return_, 1) := by decide +kernel
theorem dX1_addNumber_0 : decode cX1_addNumber 0 = .ok (.aload_n 0, 1) := by decide +kernel
theorem dX1_addNumber_1 : decode cX1_addNumber 1 = .ok (.iload_n 1, 1) := by decide +kernel
theorem dX1_addNumber_2 : decode cX1_addNumber 2 = .ok (.bipush 24, 2) := by decide +kernel
theorem dX1_addNumber_4 : decode cX1_addNumber 4 = .ok (.iushr, 1) := by decide +kernel
theorem dX1_addNumber_5 : decode cX1_addNumber 5 = .ok (.invokevirtual 23, 3) := by decide +kernel
theorem dX1_addNumber_8 : decode cX1_addNumber 8 = .ok (.aload_n 0, 1) := by decide +kernel
theorem dX1_addNumber_9 : decode cX1_addNumber 9 = .ok (.iload_n 1, 1) := by decide +kernel
theorem dX1_addNumber_10 : decode cX1_addNumber 10 = .ok (.bipush 16, 2) := by decide +kernel
theorem dX1_addNumber_12 : decode cX1_addNumber 12 = .ok (.iushr, 1) := by decide +kernel
theorem dX1_addNumber_13 : decode cX1_addNumber 13 = .ok (.invokevirtual 23, 3) := by decide +kernel
theorem dX1_addNumber_16 : decode cX1_addNumber 16 = .ok (.aload_n 0, 1) := by decide +kernel
theorem dX1_addNumber_17 : decode cX1_addNumber 17 = .ok (.iload_n 1, 1) := by decide +kernel
theorem dX1_addNumber_18 : decode cX1_addNumber 18 = .ok (.bipush 8, 2) := by decide +kernel
theorem dX1_addNumber_20 : decode cX1_addNumber 20 = .ok (.iushr, 1) := by decide +kernel
theorem dX1_addNumber_21 : decode cX1_addNumber 21 = .ok (.invokevirtual 23, 3) := by decide +kernel
theorem dX1_addNumber_24 : decode cX1_addNumber 24 = .ok (.aload_n 0, 1) := by decide +kernel
theorem dX1_addNumber_25 : decode cX1_addNumber 25 = .ok (.iload_n 1, 1) := by decide +kernel
theorem dX1_addNumber_26 : decode cX1_addNumber 26 = .ok (.invokevirtual 23, 3) := by decide +kernel
theorem dX1_addNumber_29 : decode cX1_addNumber 29 = .ok (.return_, 1) := by decide +kernel
theorem dX1_addRow_0 : decode cX1_addRow 0 = .ok (.iload_n 2, 1) := by decide +kernel
theorem dX1_addRow_1 : decode cX1_addRow 1 = .ok (.istore 4, 2) := by decide +kernel
theorem dX1_addRow_3 : decode cX1_addRow 3 = .ok (.iload 4, 2) := by decide +kernel
theorem dX1_addRow_5 : decode cX1_addRow 5 = .ok (.iload_n 2, 1) := by decide +kernel
theorem dX1_addRow_6 : decode cX1_addRow 6 = .ok (.iload_n 3, 1) := by decide +kernel
theorem dX1_addRow_7 : decode cX1_addRow 7 = .ok (.iadd, 1) := by decide +kernel
theorem dX1_addRow_8 : decode cX1_addRow 8 = .ok (.if_icmp .ge 24, 3) := by decide +kernel
theorem dX1_addRow_11 : decode cX1_addRow 11 = .ok (.iload 4, 2) := by decide +kernel
theorem dX1_addRow_13 : decode cX1_addRow 13 = .ok (.aload_n 1, 1) := by decide +kernel
theorem dX1_addRow_14 : decode cX1_addRow 14 = .ok (.arraylength, 1) := by decide +kernel
theorem dX1_addRow_15 : decode cX1_addRow 15 = .ok (.if_icmp .ge 17, 3) := by decide +kernel
theorem dX1_addRow_18 : decode cX1_addRow 18 = .ok (.aload_n 0, 1) := by decide +kernel
theorem dX1_addRow_19 : decode cX1_addRow 19 = .ok (.aload_n 1, 1) := by decide +kernel
theorem dX1_addRow_20 : decode cX1_addRow 20 = .ok (.iload 4, 2) := by decide +kernel
theorem dX1_addRow_22 : decode cX1_addRow 22 = .ok (.iaload, 1) := by decide +kernel
theorem dX1_addRow_23 : decode cX1_addRow 23 = .ok (.invokevirtual 23, 3) := by decide +kernel
theorem dX1_addRow_26 : decode cX1_addRow 26 = .ok (.iinc 4 1, 3) := by decide +kernel
theorem dX1_addRow_29 : decode cX1_addRow 29 = .ok (.goto (-26), 3) := by decide +kernel
theorem dX1_addRow_32 : decode cX1_addRow 32 = .ok (.return_, 1) := by decide +kernel
theorem dX1_byteAt_0 : decode cX1_byteAt 0 = .ok (.iload_n 1, 1) := by decide +kernel
theorem dX1_byteAt_1 : decode cX1_byteAt 1 = .ok (.ifCond .lt 20, 3) := by decide +kernel
theorem dX1_byteAt_4 : decode cX1_byteAt 4 = .ok (.iload_n 1, 1) := by decide +kernel
theorem dX1_byteAt_5 : decode cX1_byteAt 5 = .ok (.aload_n 0, 1) := by decide +kernel
theorem dX1_byteAt_6 : decode cX1_byteAt 6 = .ok (.getfield 19, 3) := by decide +kernel
theorem dX1_byteAt_9 : decode cX1_byteAt 9 = .ok (.if_icmp .ge 12, 3) := by decide +kernel
theorem dX1_byteAt_12 : decode cX1_byteAt 12 = .ok (.aload_n 0, 1) := by decide +kernel
theorem dX1_byteAt_13 : decode cX1_byteAt 13 = .ok (.getfield 13, 3) := by decide +kernel
theorem dX1_byteAt_16 : decode cX1_byteAt 16 = .ok (.iload_n 1, 1) := by decide +kernel
theorem dX1_byteAt_17 : decode cX1_byteAt 17 = .ok (.iaload, 1) := by decide +kernel
theorem dX1_byteAt_18 : decode cX1_byteAt 18 = .ok (.goto 4, 3) := by decide +kernel
theorem dX1_byteAt_21 : decode cX1_byteAt 21 = .ok (.iconst (-1), 1) := by decide +kernel
theorem dX1_byteAt_22 : decode cX1_byteAt 22 = .ok (.ireturn, 1) := by decide +kernel
theorem dX2_init_0 : decode cX2_init 0 = .ok (.aload_n 0, 1) := by decide +kernel
theorem dX2_init_1 : decode cX2_init 1 = .ok (.invokespecial 3, 3) := by decide +kernel
theorem dX2_init_4 : decode cX2_init 4 = .ok (.aload_n 0, 1) := by decide +kernel
theorem dX2_init_5 : decode cX2_init 5 = .ok (.bipush 40, 2) := by decide +kernel
theorem dX2_init_7 : decode cX2_init 7 = .ok (.newarray .int, 2) := by decide +kernel
theorem dX2_init_9 : decode cX2_init 9 = .ok (.putfield 9, 3) := by decide +kernel
theorem dX2_init_12 : decode cX2_init 12 = .ok (.aload_n 0, 1) := by decide +kernel
theorem dX2_init_13 : decode cX2_init 13 = .ok (.bipush 40, 2) := by decide +kernel
theorem dX2_init_15 : decode cX2_init 15 = .ok (.newarray .int, 2) := by decide +kernel
theorem dX2_init_17 : decode cX2_init 17 = .ok (.putfield 15, 3) := by decide +kernel
theorem dX2_init_20 : decode cX2_init 20 = .ok (.aload_n 0, 1) := by decide +kernel
theorem dX2_init_21 : decode cX2_init 21 = .ok (.bipush 64, 2) := by decide +kernel
theorem dX2_init_23 : decode cX2_init 23 = .ok (.newarray .int, 2) := by decide +kernel
theorem dX2_init_25 : decode cX2_init 25 = .ok (.putfield 18, 3) := by decide +kernel
theorem dX2_init_28 : decode cX2_init 28 = .ok (.aload_n 0, 1) := by decide +kernel
theorem dX2_init_29 : decode cX2_init 29 = .ok (.aload_n 1, 1) := by decide +kernel
theorem dX2_init_30 : decode cX2_init 30 = .ok (.putfield 21, 3) := by decide +kernel
theorem dX2_init_33 : decode cX2_init 33 = .ok (.aload_n 0, 1) := by decide +kernel
theorem dX2_init_34 : decode cX2_init 34 = .ok (.aload_n 2, 1) := by decide +kernel
theorem dX2_init_35 : decode cX2_init 35 = .ok (.putfield 25, 3) := by decide +kernel
theorem dX2_init_38 : decode cX2_init 38 = .ok (.return_, 1) := by decide +kernel
theorem dX2_addBlock_0 : decode cX2_addBlock 0 = .ok (.aload_n 0, 1) := by decide +kernel
theorem dX2_addBlock_1 : decode cX2_addBlock 1 = .ok (.getfield 29, 3) := by decide +kernel
theorem dX2_addBlock_4 : decode cX2_addBlock 4 = .ok (.bipush 40, 2) := by decide +kernel
theorem dX2_addBlock_6 : decode cX2_addBlock 6 = .ok (.if_icmp .ge 33, 3) := by decide +kernel
theorem dX2_addBlock_9 : decode cX2_addBlock 9 = .ok (.aload_n 0, 1) := by decide +kernel
theorem dX2_addBlock_10 : decode cX2_addBlock 10 = .ok (.getfield 9, 3) := by decide +kernel
theorem dX2_addBlock_13 : decode cX2_addBlock 13 = .ok (.aload_n 0, 1) := by decide +kernel
theorem dX2_addBlock_14 : decode cX2_addBlock 14 = .ok (.getfield 29, 3) := by decide +kernel
theorem dX2_addBlock_17 : decode cX2_addBlock 17 = .ok (.iload_n 1, 1) := by decide +kernel
theorem dX2_addBlock_18 : decode cX2_addBlock 18 = .ok (.iastore, 1) := by decide +kernel
theorem dX2_addBlock_19 : decode cX2_addBlock 19 = .ok (.aload_n 0, 1) := by decide +kernel
theorem dX2_addBlock_20 : decode cX2_addBlock 20 = .ok (.getfield 15, 3) := by decide +kernel
theorem dX2_addBlock_23 : decode cX2_addBlock 23 = .ok (.aload_n 0, 1) := by decide +kernel
theorem dX2_addBlock_24 : decode cX2_addBlock 24 = .ok (.getfield 29, 3) := by decide +kernel
theorem dX2_addBlock_27 : decode cX2_addBlock 27 = .ok (.iload_n 2, 1) := by decide +kernel
theorem dX2_addBlock_28 : decode cX2_addBlock 28 = .ok (.iastore, 1) := by decide +kernel
theorem dX2_addBlock_29 : decode cX2_addBlock 29 = .ok (.aload_n 0, 1) := by decide +kernel
theorem dX2_addBlock_30 : decode cX2_addBlock 30 = .ok (.dup, 1) := by decide +kernel
theorem dX2_addBlock_31 : decode cX2_addBlock 31 = .ok (.getfield 29, 3) := by decide +kernel
theorem dX2_addBlock_34 : decode cX2_addBlock 34 = .ok (.iconst 1, 1) := by decide +kernel
theorem dX2_addBlock_35 : decode cX2_addBlock 35 = .ok (.iadd, 1) := by decide +kernel
theorem dX2_addBlock_36 : decode cX2_addBlock 36 = .ok (.putfield 29, 3) := by decide +kernel
theorem dX2_addBlock_39 : decode cX2_addBlock 39 = .ok (.return_, 1) := by decide +kernel
theorem dX2_take_0 : decode cX2_take 0 = .ok (.aload_n 0, 1) := by decide +kernel
theorem dX2_take_1 : decode cX2_take 1 = .ok (.iconst 0, 1) := by decide +kernel
theorem dX2_take_2 : decode cX2_take 2 = .ok (.putfield 29, 3) := by decide +kernel
theorem dX2_take_5 : decode cX2_take 5 = .ok (.getstatic 33, 3) := by decide +kernel
theorem dX2_take_8 : decode cX2_take 8 = .ok (.astore_n 3, 1) := by decide +kernel
theorem dX2_take_9 : decode cX2_take 9 = .ok (.aload_n 3, 1) := by decide +kernel
theorem dX2_take_10 : decode cX2_take 10 = .ok (.arraylength, 1) := by decide +kernel
theorem dX2_take_11 : decode cX2_take 11 = .ok (.istore 4, 2) := by decide +kernel
theorem dX2_take_13 : decode cX2_take 13 = .ok (.iconst 0, 1) := by decide +kernel
theorem dX2_take_14 : decode cX2_take 14 = .ok (.istore 5, 2) := by decide +kernel
theorem dX2_take_16 : decode cX2_take 16 = .ok (.iload 5, 2) := by decide +kernel
theorem dX2_take_18 : decode cX2_take 18 = .ok (.iload 4, 2) := by decide +kernel
theorem dX2_take_20 : decode cX2_take 20 = .ok (.if_icmp .ge 74, 3) := by decide +kernel
theorem dX2_take_23 : decode cX2_take 23 = .ok (.aload_n 3, 1) := by decide +kernel
theorem dX2_take_24 : decode cX2_take 24 = .ok (.iload 5, 2) := by decide +kernel
theorem dX2_take_26 : decode cX2_take 26 = .ok (.iaload, 1) := by decide +kernel
theorem dX2_take_27 : decode cX2_take 27 = .ok (.istore 6, 2) := by decide +kernel
theorem dX2_take_29 : decode cX2_take 29 = .ok (.iload 6, 2) := by decide +kernel
theorem dX2_take_31 : decode cX2_take 31 = .ok (.invokestatic 36, 3) := by decide +kernel
theorem dX2_take_34 : decode cX2_take 34 = .ok (.istore 7, 2) := by decide +kernel
theorem dX2_take_36 : decode cX2_take 36 = .ok (.iconst 0, 1) := by decide +kernel
theorem dX2_take_37 : decode cX2_take 37 = .ok (.istore 8, 2) := by decide +kernel
theorem dX2_take_39 : decode cX2_take 39 = .ok (.iload 8, 2) := by decide +kernel
theorem dX2_take_41 : decode cX2_take 41 = .ok (.iload 7, 2) := by decide +kernel
theorem dX2_take_43 : decode cX2_take 43 = .ok (.if_icmp .ge 45, 3) := by decide +kernel
theorem dX2_take_46 : decode cX2_take 46 = .ok (.aload_n 0, 1) := by decide +kernel
theorem dX2_take_47 : decode cX2_take 47 = .ok (.getfield 29, 3) := by decide +kernel
theorem dX2_take_50 : decode cX2_take 50 = .ok (.iload_n 2, 1) := by decide +kernel
theorem dX2_take_51 : decode cX2_take 51 = .ok (.if_icmp .ge 37, 3) := by decide +kernel
theorem dX2_take_54 : decode cX2_take 54 = .ok (.aload_n 1, 1) := by decide +kernel
theorem dX2_take_55 : decode cX2_take 55 = .ok (.iload 6, 2) := by decide +kernel
theorem dX2_take_57 : decode cX2_take 57 = .ok (.iload 8, 2) := by decide +kernel
theorem dX2_take_59 : decode cX2_take 59 = .ok (.invokevirtual 42, 3) := by decide +kernel
theorem dX2_take_62 : decode cX2_take 62 = .ok (.ifCond .eq 20, 3) := by decide +kernel
theorem dX2_take_65 : decode cX2_take 65 = .ok (.aload_n 1, 1) := by decide +kernel
theorem dX2_take_66 : decode cX2_take 66 = .ok (.iload 6, 2) := by decide +kernel
theorem dX2_take_68 : decode cX2_take 68 = .ok (.iload 8, 2) := by decide +kernel
theorem dX2_take_70 : decode cX2_take 70 = .ok (.iconst 0, 1) := by decide +kernel
theorem dX2_take_71 : decode cX2_take 71 = .ok (.invokevirtual 48, 3) := by decide +kernel
theorem dX2_take_74 : decode cX2_take 74 = .ok (.aload_n 0, 1) := by decide +kernel
theorem dX2_take_75 : decode cX2_take 75 = .ok (.iload 6, 2) := by decide +kernel
theorem dX2_take_77 : decode cX2_take 77 = .ok (.iload 8, 2) := by decide +kernel
theorem dX2_take_79 : decode cX2_take 79 = .ok (.invokevirtual 52, 3) := by decide +kernel
theorem dX2_take_82 : decode cX2_take 82 = .ok (.iinc 8 1, 3) := by decide +kernel
theorem dX2_take_85 : decode cX2_take 85 = .ok (.goto (-46), 3) := by decide +kernel
theorem dX2_take_88 : decode cX2_take 88 = .ok (.iinc 5 1, 3) := by decide +kernel
theorem dX2_take_91 : decode cX2_take 91 = .ok (.goto (-75), 3) := by decide +kernel
theorem dX2_take_94 : decode cX2_take 94 = .ok (.aload_n 0, 1) := by decide +kernel
theorem dX2_take_95 : decode cX2_take 95 = .ok (.getfield 29, 3) := by decide +kernel
theorem dX2_take_98 : decode cX2_take 98 = .ok (.iload_n 2, 1) := by decide +kernel
theorem dX2_take_99 : decode cX2_take 99 = .ok (.if_icmp .ne 7, 3) := by decide +kernel
theorem dX2_take_102 : decode cX2_take 102 = .ok (.iconst 1, 1) := by decide +kernel
theorem dX2_take_103 : decode cX2_take 103 = .ok (.goto 4, 3) := by decide +kernel
theorem dX2_take_106 : decode cX2_take 106 = .ok (.iconst 0, 1) := by decide +kernel
theorem dX2_take_107 : decode cX2_take 107 = .ok (.ireturn, 1) := by decide +kernel
theorem dX2_release_0 : decode cX2_release 0 = .ok (.iconst 0, 1) := by decide +kernel
theorem dX2_release_1 : decode cX2_release 1 = .ok (.istore_n 2, 1) := by decide +kernel
theorem dX2_release_2 : decode cX2_release 2 = .ok (.iload_n 2, 1) := by decide +kernel
theorem dX2_release_3 : decode cX2_release 3 = .ok (.aload_n 0, 1) := by decide +kernel
theorem dX2_release_4 : decode cX2_release 4 = .ok (.getfield 29, 3) := by decide +kernel
theorem dX2_release_7 : decode cX2_release 7 = .ok (.if_icmp .ge 37, 3) := by decide +kernel
theorem dX2_release_10 : decode cX2_release 10 = .ok (.aload_n 0, 1) := by decide +kernel
theorem dX2_release_11 : decode cX2_release 11 = .ok (.getfield 9, 3) := by decide +kernel
theorem dX2_release_14 : decode cX2_release 14 = .ok (.iload_n 2, 1) := by decide +kernel
theorem dX2_release_15 : decode cX2_release 15 = .ok (.iaload, 1) := by decide +kernel
theorem dX2_release_16 : decode cX2_release 16 = .ok (.bipush 9, 2) := by decide +kernel
theorem dX2_release_18 : decode cX2_release 18 = .ok (.if_icmp .eq 20, 3) := by decide +kernel
theorem dX2_release_21 : decode cX2_release 21 = .ok (.aload_n 1, 1) := by decide +kernel
theorem dX2_release_22 : decode cX2_release 22 = .ok (.aload_n 0, 1) := by decide +kernel
theorem dX2_release_23 : decode cX2_release 23 = .ok (.getfield 9, 3) := by decide +kernel
theorem dX2_release_26 : decode cX2_release 26 = .ok (.iload_n 2, 1) := by decide +kernel
theorem dX2_release_27 : decode cX2_release 27 = .ok (.iaload, 1) := by decide +kernel
theorem dX2_release_28 : decode cX2_release 28 = .ok (.aload_n 0, 1) := by decide +kernel
theorem dX2_release_29 : decode cX2_release 29 = .ok (.getfield 15, 3) := by decide +kernel
theorem dX2_release_32 : decode cX2_release 32 = .ok (.iload_n 2, 1) := by decide +kernel
theorem dX2_release_33 : decode cX2_release 33 = .ok (.iaload, 1) := by decide +kernel
theorem dX2_release_34 : decode cX2_release 34 = .ok (.iconst 1, 1) := by decide +kernel
theorem dX2_release_35 : decode cX2_release 35 = .ok (.invokevirtual 48, 3) := by decide +kernel
theorem dX2_release_38 : decode cX2_release 38 = .ok (.iinc 2 1, 3) := by decide +kernel
theorem dX2_release_41 : decode cX2_release 41 = .ok (.goto (-39), 3) := by decide +kernel
theorem dX2_release_44 : decode cX2_release 44 = .ok (.return_, 1) := by decide +kernel
theorem dX2_store_0 : decode cX2_store 0 = .ok (.iconst 0, 1) := by decide +kernel
theorem dX2_store_1 : decode cX2_store 1 = .ok (.istore_n 2, 1) := by decide +kernel
theorem dX2_store_2 : decode cX2_store 2 = .ok (.iconst 0, 1) := by decide +kernel
theorem dX2_store_3 : decode cX2_store 3 = .ok (.istore_n 3, 1) := by decide +kernel
theorem dX2_store_4 : decode cX2_store 4 = .ok (.iload_n 3, 1) := by decide +kernel
theorem dX2_store_5 : decode cX2_store 5 = .ok (.aload_n 0, 1) := by decide +kernel
theorem dX2_store_6 : decode cX2_store 6 = .ok (.getfield 29, 3) := by decide +kernel
theorem dX2_store_9 : decode cX2_store 9 = .ok (.if_icmp .ge 43, 3) := by decide +kernel
theorem dX2_store_12 : decode cX2_store 12 = .ok (.iload_n 2, 1) := by decide +kernel
theorem dX2_store_13 : decode cX2_store 13 = .ok (.ifCond .ne 39, 3) := by decide +kernel
theorem dX2_store_16 : decode cX2_store 16 = .ok (.aload_n 0, 1) := by decide +kernel
theorem dX2_store_17 : decode cX2_store 17 = .ok (.aload_n 1, 1) := by decide +kernel
theorem dX2_store_18 : decode cX2_store 18 = .ok (.iload_n 3, 1) := by decide +kernel
theorem dX2_store_19 : decode cX2_store 19 = .ok (.invokevirtual 56, 3) := by decide +kernel
theorem dX2_store_22 : decode cX2_store 22 = .ok (.aload_n 0, 1) := by decide +kernel
theorem dX2_store_23 : decode cX2_store 23 = .ok (.getfield 21, 3) := by decide +kernel
theorem dX2_store_26 : decode cX2_store 26 = .ok (.aload_n 0, 1) := by decide +kernel
theorem dX2_store_27 : decode cX2_store 27 = .ok (.getfield 9, 3) := by decide +kernel
theorem dX2_store_30 : decode cX2_store 30 = .ok (.iload_n 3, 1) := by decide +kernel
theorem dX2_store_31 : decode cX2_store 31 = .ok (.iaload, 1) := by decide +kernel
theorem dX2_store_32 : decode cX2_store 32 = .ok (.aload_n 0, 1) := by decide +kernel
theorem dX2_store_33 : decode cX2_store 33 = .ok (.getfield 15, 3) := by decide +kernel
theorem dX2_store_36 : decode cX2_store 36 = .ok (.iload_n 3, 1) := by decide +kernel
theorem dX2_store_37 : decode cX2_store 37 = .ok (.iaload, 1) := by decide +kernel
theorem dX2_store_38 : decode cX2_store 38 = .ok (.aload_n 0, 1) := by decide +kernel
theorem dX2_store_39 : decode cX2_store 39 = .ok (.getfield 18, 3) := by decide +kernel
theorem dX2_store_42 : decode cX2_store 42 = .ok (.invokevirtual 60, 3) := by decide +kernel
theorem dX2_store_45 : decode cX2_store 45 = .ok (.istore_n 2, 1) := by decide +kernel
theorem dX2_store_46 : decode cX2_store 46 = .ok (.iinc 3 1, 3) := by decide +kernel
theorem dX2_store_49 : decode cX2_store 49 = .ok (.goto (-45), 3) := by decide +kernel
theorem dX2_store_52 : decode cX2_store 52 = .ok (.iload_n 2, 1) := by decide +kernel
theorem dX2_store_53 : decode cX2_store 53 = .ok (.ireturn, 1) := by decide +kernel
theorem dX2_fillBlock_0 : decode cX2_fillBlock 0 = .ok (.bipush 62, 2) := by decide +kernel
theorem dX2_fillBlock_2 : decode cX2_fillBlock 2 = .ok (.iload_n 2, 1) := by decide +kernel
theorem dX2_fillBlock_3 : decode cX2_fillBlock 3 = .ok (.imul, 1) := by decide +kernel
theorem dX2_fillBlock_4 : decode cX2_fillBlock 4 = .ok (.istore_n 3, 1) := by decide +kernel
theorem dX2_fillBlock_5 : decode cX2_fillBlock 5 = .ok (.iload_n 2, 1) := by decide +kernel
theorem dX2_fillBlock_6 : decode cX2_fillBlock 6 = .ok (.iconst 1, 1) := by decide +kernel
theorem dX2_fillBlock_7 : decode cX2_fillBlock 7 = .ok (.iadd, 1) := by decide +kernel
theorem dX2_fillBlock_8 : decode cX2_fillBlock 8 = .ok (.aload_n 0, 1) := by decide +kernel
theorem dX2_fillBlock_9 : decode cX2_fillBlock 9 = .ok (.getfield 29, 3) := by decide +kernel
theorem dX2_fillBlock_12 : decode cX2_fillBlock 12 = .ok (.if_icmp .lt 7, 3) := by decide +kernel
theorem dX2_fillBlock_15 : decode cX2_fillBlock 15 = .ok (.iconst 1, 1) := by decide +kernel
theorem dX2_fillBlock_16 : decode cX2_fillBlock 16 = .ok (.goto 4, 3) := by decide +kernel
theorem dX2_fillBlock_19 : decode cX2_fillBlock 19 = .ok (.iconst 0, 1) := by decide +kernel
theorem dX2_fillBlock_20 : decode cX2_fillBlock 20 = .ok (.istore 4, 2) := by decide +kernel
theorem dX2_fillBlock_22 : decode cX2_fillBlock 22 = .ok (.aload_n 0, 1) := by decide +kernel
theorem dX2_fillBlock_23 : decode cX2_fillBlock 23 = .ok (.getfield 18, 3) := by decide +kernel
theorem dX2_fillBlock_26 : decode cX2_fillBlock 26 = .ok (.iconst 0, 1) := by decide +kernel
theorem dX2_fillBlock_27 : decode cX2_fillBlock 27 = .ok (.iload 4, 2) := by decide +kernel
theorem dX2_fillBlock_29 : decode cX2_fillBlock 29 = .ok (.ifCond .eq 7, 3) := by decide +kernel
theorem dX2_fillBlock_32 : decode cX2_fillBlock 32 = .ok (.iconst 0, 1) := by decide +kernel
theorem dX2_fillBlock_33 : decode cX2_fillBlock 33 = .ok (.goto 11, 3) := by decide +kernel
theorem dX2_fillBlock_36 : decode cX2_fillBlock 36 = .ok (.aload_n 0, 1) := by decide +kernel
theorem dX2_fillBlock_37 : decode cX2_fillBlock 37 = .ok (.getfield 9, 3) := by decide +kernel
theorem dX2_fillBlock_40 : decode cX2_fillBlock 40 = .ok (.iload_n 2, 1) := by decide +kernel
theorem dX2_fillBlock_41 : decode cX2_fillBlock 41 = .ok (.iconst 1, 1) := by decide +kernel
theorem dX2_fillBlock_42 : decode cX2_fillBlock 42 = .ok (.iadd, 1) := by decide +kernel
theorem dX2_fillBlock_43 : decode cX2_fillBlock 43 = .ok (.iaload, 1) := by decide +kernel
theorem dX2_fillBlock_44 : decode cX2_fillBlock 44 = .ok (.iastore, 1) := by decide +kernel
theorem dX2_fillBlock_45 : decode cX2_fillBlock 45 = .ok (.aload_n 0, 1) := by decide +kernel
theorem dX2_fillBlock_46 : decode cX2_fillBlock 46 = .ok (.getfield 18, 3) := by decide +kernel
theorem dX2_fillBlock_49 : decode cX2_fillBlock 49 = .ok (.iconst 1, 1) := by decide +kernel
theorem dX2_fillBlock_50 : decode cX2_fillBlock 50 = .ok (.iload 4, 2) := by decide +kernel
theorem dX2_fillBlock_52 : decode cX2_fillBlock 52 = .ok (.ifCond .eq 12, 3) := by decide +kernel
theorem dX2_fillBlock_55 : decode cX2_fillBlock 55 = .ok (.aload_n 1, 1) := by decide +kernel
theorem dX2_fillBlock_56 : decode cX2_fillBlock 56 = .ok (.getfield 64, 3) := by decide +kernel
theorem dX2_fillBlock_59 : decode cX2_fillBlock 59 = .ok (.iload_n 3, 1) := by decide +kernel
theorem dX2_fillBlock_60 : decode cX2_fillBlock 60 = .ok (.isub, 1) := by decide +kernel
theorem dX2_fillBlock_61 : decode cX2_fillBlock 61 = .ok (.goto 11, 3) := by decide +kernel
theorem dX2_fillBlock_64 : decode cX2_fillBlock 64 = .ok (.aload_n 0, 1) := by decide +kernel
theorem dX2_fillBlock_65 : decode cX2_fillBlock 65 = .ok (.getfield 15, 3) := by decide +kernel
theorem dX2_fillBlock_68 : decode cX2_fillBlock 68 = .ok (.iload_n 2, 1) := by decide +kernel
theorem dX2_fillBlock_69 : decode cX2_fillBlock 69 = .ok (.iconst 1, 1) := by decide +kernel
theorem dX2_fillBlock_70 : decode cX2_fillBlock 70 = .ok (.iadd, 1) := by decide +kernel
theorem dX2_fillBlock_71 : decode cX2_fillBlock 71 = .ok (.iaload, 1) := by decide +kernel
theorem dX2_fillBlock_72 : decode cX2_fillBlock 72 = .ok (.iastore, 1) := by decide +kernel
theorem dX2_fillBlock_73 : decode cX2_fillBlock 73 = .ok (.iconst 0, 1) := by decide +kernel
theorem dX2_fillBlock_74 : decode cX2_fillBlock 74 = .ok (.istore 5, 2) := by decide +kernel
theorem dX2_fillBlock_76 : decode cX2_fillBlock 76 = .ok (.iload 5, 2) := by decide +kernel
theorem dX2_fillBlock_78 : decode cX2_fillBlock 78 = .ok (.bipush 62, 2) := by decide +kernel
theorem dX2_fillBlock_80 : decode cX2_fillBlock 80 = .ok (.if_icmp .ge 30, 3) := by decide +kernel
theorem dX2_fillBlock_83 : decode cX2_fillBlock 83 = .ok (.aload_n 0, 1) := by decide +kernel
theorem dX2_fillBlock_84 : decode cX2_fillBlock 84 = .ok (.getfield 18, 3) := by decide +kernel
theorem dX2_fillBlock_87 : decode cX2_fillBlock 87 = .ok (.iload 5, 2) := by decide +kernel
theorem dX2_fillBlock_89 : decode cX2_fillBlock 89 = .ok (.iconst 2, 1) := by decide +kernel
theorem dX2_fillBlock_90 : decode cX2_fillBlock 90 = .ok (.iadd, 1) := by decide +kernel
theorem dX2_fillBlock_91 : decode cX2_fillBlock 91 = .ok (.iconst 0, 1) := by decide +kernel
theorem dX2_fillBlock_92 : decode cX2_fillBlock 92 = .ok (.aload_n 1, 1) := by decide +kernel
theorem dX2_fillBlock_93 : decode cX2_fillBlock 93 = .ok (.iload_n 3, 1) := by decide +kernel
theorem dX2_fillBlock_94 : decode cX2_fillBlock 94 = .ok (.iload 5, 2) := by decide +kernel
theorem dX2_fillBlock_96 : decode cX2_fillBlock 96 = .ok (.iadd, 1) := by decide +kernel
theorem dX2_fillBlock_97 : decode cX2_fillBlock 97 = .ok (.invokevirtual 67, 3) := by decide +kernel
theorem dX2_fillBlock_100 : decode cX2_fillBlock 100 = .ok (.invokestatic 70, 3) := by decide +kernel
theorem dX2_fillBlock_103 : decode cX2_fillBlock 103 = .ok (.iastore, 1) := by decide +kernel
theorem dX2_fillBlock_104 : decode cX2_fillBlock 104 = .ok (.iinc 5 1, 3) := by decide +kernel
theorem dX2_fillBlock_107 : decode cX2_fillBlock 107 = .ok (.goto (-31), 3) := by decide +kernel
theorem dX2_fillBlock_110 : decode cX2_fillBlock 110 = .ok (.return_, 1) := by decide +kernel
theorem dX2_follow_0 : decode cX2_follow 0 = .ok (.aload_n 0, 1) := by decide +kernel
theorem dX2_follow_1 : decode cX2_follow 1 = .ok (.iconst 0, 1) := by decide +kernel
theorem dX2_follow_2 : decode cX2_follow 2 = .ok (.putfield 29, 3) := by decide +kernel
theorem dX2_follow_5 : decode cX2_follow 5 = .ok (.aload_n 1, 1) := by decide +kernel
theorem dX2_follow_6 : decode cX2_follow 6 = .ok (.getfield 76, 3) := by decide +kernel
theorem dX2_follow_9 : decode cX2_follow 9 = .ok (.iconst (-1), 1) := by decide +kernel
theorem dX2_follow_10 : decode cX2_follow 10 = .ok (.if_icmp .ne 15, 3) := by decide +kernel
theorem dX2_follow_13 : decode cX2_follow 13 = .ok (.aload_n 0, 1) := by decide +kernel
theorem dX2_follow_14 : decode cX2_follow 14 = .ok (.getfield 25, 3) := by decide +kernel
theorem dX2_follow_17 : decode cX2_follow 17 = .ok (.bipush 62, 2) := by decide +kernel
theorem dX2_follow_19 : decode cX2_follow 19 = .ok (.iconst 0, 1) := by decide +kernel
theorem dX2_follow_20 : decode cX2_follow 20 = .ok (.iconst 0, 1) := by decide +kernel
theorem dX2_follow_21 : decode cX2_follow 21 = .ok (.invokevirtual 81, 3) := by decide +kernel
theorem dX2_follow_24 : decode cX2_follow 24 = .ok (.ireturn, 1) := by decide +kernel
theorem dX2_follow_25 : decode cX2_follow 25 = .ok (.aload_n 1, 1) := by decide +kernel
theorem dX2_follow_26 : decode cX2_follow 26 = .ok (.getfield 87, 3) := by decide +kernel
theorem dX2_follow_29 : decode cX2_follow 29 = .ok (.aload_n 1, 1) := by decide +kernel
theorem dX2_follow_30 : decode cX2_follow 30 = .ok (.getfield 76, 3) := by decide +kernel
theorem dX2_follow_33 : decode cX2_follow 33 = .ok (.iconst 1, 1) := by decide +kernel
theorem dX2_follow_34 : decode cX2_follow 34 = .ok (.iadd, 1) := by decide +kernel
theorem dX2_follow_35 : decode cX2_follow 35 = .ok (.iaload, 1) := by decide +kernel
theorem dX2_follow_36 : decode cX2_follow 36 = .ok (.istore_n 3, 1) := by decide +kernel
theorem dX2_follow_37 : decode cX2_follow 37 = .ok (.aload_n 1, 1) := by decide +kernel
theorem dX2_follow_38 : decode cX2_follow 38 = .ok (.getfield 87, 3) := by decide +kernel
theorem dX2_follow_41 : decode cX2_follow 41 = .ok (.aload_n 1, 1) := by decide +kernel
theorem dX2_follow_42 : decode cX2_follow 42 = .ok (.getfield 76, 3) := by decide +kernel
theorem dX2_follow_45 : decode cX2_follow 45 = .ok (.iconst 2, 1) := by decide +kernel
theorem dX2_follow_46 : decode cX2_follow 46 = .ok (.iadd, 1) := by decide +kernel
theorem dX2_follow_47 : decode cX2_follow 47 = .ok (.iaload, 1) := by decide +kernel
theorem dX2_follow_48 : decode cX2_follow 48 = .ok (.istore 4, 2) := by decide +kernel
theorem dX2_follow_50 : decode cX2_follow 50 = .ok (.iload_n 3, 1) := by decide +kernel
theorem dX2_follow_51 : decode cX2_follow 51 = .ok (.iload 4, 2) := by decide +kernel
theorem dX2_follow_53 : decode cX2_follow 53 = .ok (.invokestatic 88, 3) := by decide +kernel
theorem dX2_follow_56 : decode cX2_follow 56 = .ok (.ifCond .ne 21, 3) := by decide +kernel
theorem dX2_follow_59 : decode cX2_follow 59 = .ok (.aload_n 0, 1) := by decide +kernel
theorem dX2_follow_60 : decode cX2_follow 60 = .ok (.getfield 25, 3) := by decide +kernel
theorem dX2_follow_63 : decode cX2_follow 63 = .ok (.bipush 66, 2) := by decide +kernel
theorem dX2_follow_65 : decode cX2_follow 65 = .ok (.aload_n 1, 1) := by decide +kernel
theorem dX2_follow_66 : decode cX2_follow 66 = .ok (.getfield 91, 3) := by decide +kernel
theorem dX2_follow_69 : decode cX2_follow 69 = .ok (.aload_n 1, 1) := by decide +kernel
theorem dX2_follow_70 : decode cX2_follow 70 = .ok (.getfield 94, 3) := by decide +kernel
theorem dX2_follow_73 : decode cX2_follow 73 = .ok (.invokevirtual 81, 3) := by decide +kernel
theorem dX2_follow_76 : decode cX2_follow 76 = .ok (.ireturn, 1) := by decide +kernel
theorem dX2_follow_77 : decode cX2_follow 77 = .ok (.iconst 0, 1) := by decide +kernel
theorem dX2_follow_78 : decode cX2_follow 78 = .ok (.istore 5, 2) := by decide +kernel
theorem dX2_follow_80 : decode cX2_follow 80 = .ok (.iload 5, 2) := by decide +kernel
theorem dX2_follow_82 : decode cX2_follow 82 = .ok (.bipush 40, 2) := by decide +kernel
theorem dX2_follow_84 : decode cX2_follow 84 = .ok (.if_icmp .ge 152, 3) := by decide +kernel
theorem dX2_follow_87 : decode cX2_follow 87 = .ok (.aload_n 0, 1) := by decide +kernel
theorem dX2_follow_88 : decode cX2_follow 88 = .ok (.getfield 21, 3) := by decide +kernel
theorem dX2_follow_91 : decode cX2_follow 91 = .ok (.iload_n 3, 1) := by decide +kernel
theorem dX2_follow_92 : decode cX2_follow 92 = .ok (.iload 4, 2) := by decide +kernel
theorem dX2_follow_94 : decode cX2_follow 94 = .ok (.aload_n 0, 1) := by decide +kernel
theorem dX2_follow_95 : decode cX2_follow 95 = .ok (.getfield 18, 3) := by decide +kernel
theorem dX2_follow_98 : decode cX2_follow 98 = .ok (.invokevirtual 97, 3) := by decide +kernel
theorem dX2_follow_101 : decode cX2_follow 101 = .ok (.istore 6, 2) := by decide +kernel
theorem dX2_follow_103 : decode cX2_follow 103 = .ok (.iload 6, 2) := by decide +kernel
theorem dX2_follow_105 : decode cX2_follow 105 = .ok (.ifCond .eq 6, 3) := by decide +kernel
theorem dX2_follow_108 : decode cX2_follow 108 = .ok (.iload 6, 2) := by decide +kernel
theorem dX2_follow_110 : decode cX2_follow 110 = .ok (.ireturn, 1) := by decide +kernel
theorem dX2_follow_111 : decode cX2_follow 111 = .ok (.aload_n 0, 1) := by decide +kernel
theorem dX2_follow_112 : decode cX2_follow 112 = .ok (.iload_n 3, 1) := by decide +kernel
theorem dX2_follow_113 : decode cX2_follow 113 = .ok (.iload 4, 2) := by decide +kernel
theorem dX2_follow_115 : decode cX2_follow 115 = .ok (.invokevirtual 52, 3) := by decide +kernel
theorem dX2_follow_118 : decode cX2_follow 118 = .ok (.aload_n 0, 1) := by decide +kernel
theorem dX2_follow_119 : decode cX2_follow 119 = .ok (.getfield 18, 3) := by decide +kernel
theorem dX2_follow_122 : decode cX2_follow 122 = .ok (.iconst 0, 1) := by decide +kernel
theorem dX2_follow_123 : decode cX2_follow 123 = .ok (.iaload, 1) := by decide +kernel
theorem dX2_follow_124 : decode cX2_follow 124 = .ok (.ifCond .ne 7, 3) := by decide +kernel
theorem dX2_follow_127 : decode cX2_follow 127 = .ok (.iconst 1, 1) := by decide +kernel
theorem dX2_follow_128 : decode cX2_follow 128 = .ok (.goto 4, 3) := by decide +kernel
theorem dX2_follow_131 : decode cX2_follow 131 = .ok (.iconst 0, 1) := by decide +kernel
theorem dX2_follow_132 : decode cX2_follow 132 = .ok (.istore 7, 2) := by decide +kernel
theorem dX2_follow_134 : decode cX2_follow 134 = .ok (.iload 7, 2) := by decide +kernel
theorem dX2_follow_136 : decode cX2_follow 136 = .ok (.ifCond .eq 17, 3) := by decide +kernel
theorem dX2_follow_139 : decode cX2_follow 139 = .ok (.aload_n 0, 1) := by decide +kernel
theorem dX2_follow_140 : decode cX2_follow 140 = .ok (.getfield 18, 3) := by decide +kernel
theorem dX2_follow_143 : decode cX2_follow 143 = .ok (.iconst 1, 1) := by decide +kernel
theorem dX2_follow_144 : decode cX2_follow 144 = .ok (.iaload, 1) := by decide +kernel
theorem dX2_follow_145 : decode cX2_follow 145 = .ok (.bipush 62, 2) := by decide +kernel
theorem dX2_follow_147 : decode cX2_follow 147 = .ok (.if_icmp .le 27, 3) := by decide +kernel
theorem dX2_follow_150 : decode cX2_follow 150 = .ok (.goto 86, 3) := by decide +kernel
theorem dX2_follow_153 : decode cX2_follow 153 = .ok (.aload_n 0, 1) := by decide +kernel
theorem dX2_follow_154 : decode cX2_follow 154 = .ok (.getfield 18, 3) := by decide +kernel
theorem dX2_follow_157 : decode cX2_follow 157 = .ok (.iconst 0, 1) := by decide +kernel
theorem dX2_follow_158 : decode cX2_follow 158 = .ok (.iaload, 1) := by decide +kernel
theorem dX2_follow_159 : decode cX2_follow 159 = .ok (.aload_n 0, 1) := by decide +kernel
theorem dX2_follow_160 : decode cX2_follow 160 = .ok (.getfield 18, 3) := by decide +kernel
theorem dX2_follow_163 : decode cX2_follow 163 = .ok (.iconst 1, 1) := by decide +kernel
theorem dX2_follow_164 : decode cX2_follow 164 = .ok (.iaload, 1) := by decide +kernel
theorem dX2_follow_165 : decode cX2_follow 165 = .ok (.invokestatic 88, 3) := by decide +kernel
theorem dX2_follow_168 : decode cX2_follow 168 = .ok (.ifCond .ne 6, 3) := by decide +kernel
theorem dX2_follow_171 : decode cX2_follow 171 = .ok (.goto 65, 3) := by decide +kernel
theorem dX2_follow_174 : decode cX2_follow 174 = .ok (.aload_n 2, 1) := by decide +kernel
theorem dX2_follow_175 : decode cX2_follow 175 = .ok (.aload_n 0, 1) := by decide +kernel
theorem dX2_follow_176 : decode cX2_follow 176 = .ok (.getfield 18, 3) := by decide +kernel
theorem dX2_follow_179 : decode cX2_follow 179 = .ok (.iconst 2, 1) := by decide +kernel
theorem dX2_follow_180 : decode cX2_follow 180 = .ok (.iload 7, 2) := by decide +kernel
theorem dX2_follow_182 : decode cX2_follow 182 = .ok (.ifCond .eq 12, 3) := by decide +kernel
theorem dX2_follow_185 : decode cX2_follow 185 = .ok (.aload_n 0, 1) := by decide +kernel
theorem dX2_follow_186 : decode cX2_follow 186 = .ok (.getfield 18, 3) := by decide +kernel
theorem dX2_follow_189 : decode cX2_follow 189 = .ok (.iconst 1, 1) := by decide +kernel
theorem dX2_follow_190 : decode cX2_follow 190 = .ok (.iaload, 1) := by decide +kernel
theorem dX2_follow_191 : decode cX2_follow 191 = .ok (.goto 5, 3) := by decide +kernel
theorem dX2_follow_194 : decode cX2_follow 194 = .ok (.bipush 62, 2) := by decide +kernel
theorem dX2_follow_196 : decode cX2_follow 196 = .ok (.invokevirtual 100, 3) := by decide +kernel
theorem dX2_follow_199 : decode cX2_follow 199 = .ok (.iload 7, 2) := by decide +kernel
theorem dX2_follow_201 : decode cX2_follow 201 = .ok (.ifCond .eq 5, 3) := by decide +kernel
theorem dX2_follow_204 : decode cX2_follow 204 = .ok (.iconst 0, 1) := by decide +kernel
theorem dX2_follow_205 : decode cX2_follow 205 = .ok (.ireturn, 1) := by decide +kernel
theorem dX2_follow_206 : decode cX2_follow 206 = .ok (.iload 5, 2) := by decide +kernel
theorem dX2_follow_208 : decode cX2_follow 208 = .ok (.iconst 1, 1) := by decide +kernel
theorem dX2_follow_209 : decode cX2_follow 209 = .ok (.iadd, 1) := by decide +kernel
theorem dX2_follow_210 : decode cX2_follow 210 = .ok (.bipush 40, 2) := by decide +kernel
theorem dX2_follow_212 : decode cX2_follow 212 = .ok (.if_icmp .ge 18, 3) := by decide +kernel
theorem dX2_follow_215 : decode cX2_follow 215 = .ok (.aload_n 0, 1) := by decide +kernel
theorem dX2_follow_216 : decode cX2_follow 216 = .ok (.getfield 18, 3) := by decide +kernel
theorem dX2_follow_219 : decode cX2_follow 219 = .ok (.iconst 0, 1) := by decide +kernel
theorem dX2_follow_220 : decode cX2_follow 220 = .ok (.iaload, 1) := by decide +kernel
theorem dX2_follow_221 : decode cX2_follow 221 = .ok (.istore_n 3, 1) := by decide +kernel
theorem dX2_follow_222 : decode cX2_follow 222 = .ok (.aload_n 0, 1) := by decide +kernel
theorem dX2_follow_223 : decode cX2_follow 223 = .ok (.getfield 18, 3) := by decide +kernel
theorem dX2_follow_226 : decode cX2_follow 226 = .ok (.iconst 1, 1) := by decide +kernel
theorem dX2_follow_227 : decode cX2_follow 227 = .ok (.iaload, 1) := by decide +kernel
theorem dX2_follow_228 : decode cX2_follow 228 = .ok (.istore 4, 2) := by decide +kernel
theorem dX2_follow_230 : decode cX2_follow 230 = .ok (.iinc 5 1, 3) := by decide +kernel
theorem dX2_follow_233 : decode cX2_follow 233 = .ok (.goto (-153), 3) := by decide +kernel
theorem dX2_follow_236 : decode cX2_follow 236 = .ok (.aload_n 0, 1) := by decide +kernel
theorem dX2_follow_237 : decode cX2_follow 237 = .ok (.getfield 25, 3) := by decide +kernel
theorem dX2_follow_240 : decode cX2_follow 240 = .ok (.bipush 66, 2) := by decide +kernel
theorem dX2_follow_242 : decode cX2_follow 242 = .ok (.iload_n 3, 1) := by decide +kernel
theorem dX2_follow_243 : decode cX2_follow 243 = .ok (.iload 4, 2) := by decide +kernel
theorem dX2_follow_245 : decode cX2_follow 245 = .ok (.invokevirtual 81, 3) := by decide +kernel
theorem dX2_follow_248 : decode cX2_follow 248 = .ok (.ireturn, 1) := by decide +kernel
theorem dX3_init_0 : decode cX3_init 0 = .ok (.aload_n 0, 1) := by decide +kernel
theorem dX3_init_1 : decode cX3_init 1 = .ok (.invokespecial 3, 3) := by decide +kernel
theorem dX3_init_4 : decode cX3_init 4 = .ok (.aload_n 0, 1) := by decide +kernel
theorem dX3_init_5 : decode cX3_init 5 = .ok (.bipush 64, 2) := by decide +kernel
theorem dX3_init_7 : decode cX3_init 7 = .ok (.newarray .int, 2) := by decide +kernel
theorem dX3_init_9 : decode cX3_init 9 = .ok (.putfield 9, 3) := by decide +kernel
theorem dX3_init_12 : decode cX3_init 12 = .ok (.aload_n 0, 1) := by decide +kernel
theorem dX3_init_13 : decode cX3_init 13 = .ok (.bipush 64, 2) := by decide +kernel
theorem dX3_init_15 : decode cX3_init 15 = .ok (.newarray .int, 2) := by decide +kernel
theorem dX3_init_17 : decode cX3_init 17 = .ok (.putfield 15, 3) := by decide +kernel
theorem dX3_init_20 : decode cX3_init 20 = .ok (.aload_n 0, 1) := by decide +kernel
theorem dX3_init_21 : decode cX3_init 21 = .ok (.aload_n 1, 1) := by decide +kernel
theorem dX3_init_22 : decode cX3_init 22 = .ok (.putfield 18, 3) := by decide +kernel
theorem dX3_init_25 : decode cX3_init 25 = .ok (.aload_n 0, 1) := by decide +kernel
theorem dX3_init_26 : decode cX3_init 26 = .ok (.aload_n 2, 1) := by decide +kernel
theorem dX3_init_27 : decode cX3_init 27 = .ok (.putfield 22, 3) := by decide +kernel
theorem dX3_init_30 : decode cX3_init 30 = .ok (.aload_n 0, 1) := by decide +kernel
theorem dX3_init_31 : decode cX3_init 31 = .ok (.iconst (-1), 1) := by decide +kernel
theorem dX3_init_32 : decode cX3_init 32 = .ok (.putfield 26, 3) := by decide +kernel
theorem dX3_init_35 : decode cX3_init 35 = .ok (.aload_n 0, 1) := by decide +kernel
theorem dX3_init_36 : decode cX3_init 36 = .ok (.iconst (-1), 1) := by decide +kernel
theorem dX3_init_37 : decode cX3_init 37 = .ok (.putfield 30, 3) := by decide +kernel
theorem dX3_init_40 : decode cX3_init 40 = .ok (.return_, 1) := by decide +kernel
theorem dX3_begin_0 : decode cX3_begin 0 = .ok (.aload_n 0, 1) := by decide +kernel
theorem dX3_begin_1 : decode cX3_begin 1 = .ok (.iconst (-1), 1) := by decide +kernel
theorem dX3_begin_2 : decode cX3_begin 2 = .ok (.putfield 26, 3) := by decide +kernel
theorem dX3_begin_5 : decode cX3_begin 5 = .ok (.aload_n 0, 1) := by decide +kernel
theorem dX3_begin_6 : decode cX3_begin 6 = .ok (.iconst (-1), 1) := by decide +kernel
theorem dX3_begin_7 : decode cX3_begin 7 = .ok (.putfield 30, 3) := by decide +kernel
theorem dX3_begin_10 : decode cX3_begin 10 = .ok (.aload_n 0, 1) := by decide +kernel
theorem dX3_begin_11 : decode cX3_begin 11 = .ok (.iconst 0, 1) := by decide +kernel
theorem dX3_begin_12 : decode cX3_begin 12 = .ok (.putfield 33, 3) := by decide +kernel
theorem dX3_begin_15 : decode cX3_begin 15 = .ok (.aload_n 0, 1) := by decide +kernel
theorem dX3_begin_16 : decode cX3_begin 16 = .ok (.iconst 1, 1) := by decide +kernel
theorem dX3_begin_17 : decode cX3_begin 17 = .ok (.putfield 37, 3) := by decide +kernel
theorem dX3_begin_20 : decode cX3_begin 20 = .ok (.aload_n 0, 1) := by decide +kernel
theorem dX3_begin_21 : decode cX3_begin 21 = .ok (.bipush 9, 2) := by decide +kernel
theorem dX3_begin_23 : decode cX3_begin 23 = .ok (.putfield 40, 3) := by decide +kernel
theorem dX3_begin_26 : decode cX3_begin 26 = .ok (.aload_n 0, 1) := by decide +kernel
theorem dX3_begin_27 : decode cX3_begin 27 = .ok (.iconst 1, 1) := by decide +kernel
theorem dX3_begin_28 : decode cX3_begin 28 = .ok (.putfield 43, 3) := by decide +kernel
theorem dX3_begin_31 : decode cX3_begin 31 = .ok (.aload_n 0, 1) := by decide +kernel
theorem dX3_begin_32 : decode cX3_begin 32 = .ok (.getfield 18, 3) := by decide +kernel
theorem dX3_begin_35 : decode cX3_begin 35 = .ok (.aload_n 0, 1) := by decide +kernel
theorem dX3_begin_36 : decode cX3_begin 36 = .ok (.getfield 40, 3) := by decide +kernel
theorem dX3_begin_39 : decode cX3_begin 39 = .ok (.aload_n 0, 1) := by decide +kernel
theorem dX3_begin_40 : decode cX3_begin 40 = .ok (.getfield 43, 3) := by decide +kernel
theorem dX3_begin_43 : decode cX3_begin 43 = .ok (.aload_n 0, 1) := by decide +kernel
theorem dX3_begin_44 : decode cX3_begin 44 = .ok (.getfield 9, 3) := by decide +kernel
theorem dX3_begin_47 : decode cX3_begin 47 = .ok (.invokevirtual 46, 3) := by decide +kernel
theorem dX3_begin_50 : decode cX3_begin 50 = .ok (.ireturn, 1) := by decide +kernel
theorem dX3_isLast_0 : decode cX3_isLast 0 = .ok (.aload_n 0, 1) := by decide +kernel
theorem dX3_isLast_1 : decode cX3_isLast 1 = .ok (.getfield 9, 3) := by decide +kernel
theorem dX3_isLast_4 : decode cX3_isLast 4 = .ok (.iconst 0, 1) := by decide +kernel
theorem dX3_isLast_5 : decode cX3_isLast 5 = .ok (.iaload, 1) := by decide +kernel
theorem dX3_isLast_6 : decode cX3_isLast 6 = .ok (.ifCond .ne 16, 3) := by decide +kernel
theorem dX3_isLast_9 : decode cX3_isLast 9 = .ok (.aload_n 0, 1) := by decide +kernel
theorem dX3_isLast_10 : decode cX3_isLast 10 = .ok (.getfield 9, 3) := by decide +kernel
theorem dX3_isLast_13 : decode cX3_isLast 13 = .ok (.iconst 1, 1) := by decide +kernel
theorem dX3_isLast_14 : decode cX3_isLast 14 = .ok (.iaload, 1) := by decide +kernel
theorem dX3_isLast_15 : decode cX3_isLast 15 = .ok (.ifCond .ne 7, 3) := by decide +kernel
theorem dX3_isLast_18 : decode cX3_isLast 18 = .ok (.iconst 1, 1) := by decide +kernel
theorem dX3_isLast_19 : decode cX3_isLast 19 = .ok (.goto 4, 3) := by decide +kernel
theorem dX3_isLast_22 : decode cX3_isLast 22 = .ok (.iconst 0, 1) := by decide +kernel
theorem dX3_isLast_23 : decode cX3_isLast 23 = .ok (.ireturn, 1) := by decide +kernel
theorem dX3_step_0 : decode cX3_step 0 = .ok (.aload_n 0, 1) := by decide +kernel
theorem dX3_step_1 : decode cX3_step 1 = .ok (.getfield 37, 3) := by decide +kernel
theorem dX3_step_4 : decode cX3_step 4 = .ok (.bipush 7, 2) := by decide +kernel
theorem dX3_step_6 : decode cX3_step 6 = .ok (.if_icmp .ge 21, 3) := by decide +kernel
theorem dX3_step_9 : decode cX3_step 9 = .ok (.aload_n 0, 1) := by decide +kernel
theorem dX3_step_10 : decode cX3_step 10 = .ok (.getfield 9, 3) := by decide +kernel
theorem dX3_step_13 : decode cX3_step 13 = .ok (.iconst 0, 1) := by decide +kernel
theorem dX3_step_14 : decode cX3_step 14 = .ok (.iaload, 1) := by decide +kernel
theorem dX3_step_15 : decode cX3_step 15 = .ok (.aload_n 0, 1) := by decide +kernel
theorem dX3_step_16 : decode cX3_step 16 = .ok (.getfield 9, 3) := by decide +kernel
theorem dX3_step_19 : decode cX3_step 19 = .ok (.iconst 1, 1) := by decide +kernel
theorem dX3_step_20 : decode cX3_step 20 = .ok (.iaload, 1) := by decide +kernel
theorem dX3_step_21 : decode cX3_step 21 = .ok (.invokestatic 52, 3) := by decide +kernel
theorem dX3_step_24 : decode cX3_step 24 = .ok (.ifCond .ne 21, 3) := by decide +kernel
theorem dX3_step_27 : decode cX3_step 27 = .ok (.aload_n 0, 1) := by decide +kernel
theorem dX3_step_28 : decode cX3_step 28 = .ok (.getfield 22, 3) := by decide +kernel
theorem dX3_step_31 : decode cX3_step 31 = .ok (.bipush 66, 2) := by decide +kernel
theorem dX3_step_33 : decode cX3_step 33 = .ok (.aload_n 0, 1) := by decide +kernel
theorem dX3_step_34 : decode cX3_step 34 = .ok (.getfield 40, 3) := by decide +kernel
theorem dX3_step_37 : decode cX3_step 37 = .ok (.aload_n 0, 1) := by decide +kernel
theorem dX3_step_38 : decode cX3_step 38 = .ok (.getfield 43, 3) := by decide +kernel
theorem dX3_step_41 : decode cX3_step 41 = .ok (.invokevirtual 56, 3) := by decide +kernel
theorem dX3_step_44 : decode cX3_step 44 = .ok (.ireturn, 1) := by decide +kernel
theorem dX3_step_45 : decode cX3_step 45 = .ok (.aload_n 0, 1) := by decide +kernel
theorem dX3_step_46 : decode cX3_step 46 = .ok (.dup, 1) := by decide +kernel
theorem dX3_step_47 : decode cX3_step 47 = .ok (.getfield 37, 3) := by decide +kernel
theorem dX3_step_50 : decode cX3_step 50 = .ok (.iconst 1, 1) := by decide +kernel
theorem dX3_step_51 : decode cX3_step 51 = .ok (.iadd, 1) := by decide +kernel
theorem dX3_step_52 : decode cX3_step 52 = .ok (.putfield 37, 3) := by decide +kernel
theorem dX3_step_55 : decode cX3_step 55 = .ok (.aload_n 0, 1) := by decide +kernel
theorem dX3_step_56 : decode cX3_step 56 = .ok (.aload_n 0, 1) := by decide +kernel
theorem dX3_step_57 : decode cX3_step 57 = .ok (.getfield 9, 3) := by decide +kernel
theorem dX3_step_60 : decode cX3_step 60 = .ok (.iconst 0, 1) := by decide +kernel
theorem dX3_step_61 : decode cX3_step 61 = .ok (.iaload, 1) := by decide +kernel
theorem dX3_step_62 : decode cX3_step 62 = .ok (.putfield 40, 3) := by decide +kernel
theorem dX3_step_65 : decode cX3_step 65 = .ok (.aload_n 0, 1) := by decide +kernel
theorem dX3_step_66 : decode cX3_step 66 = .ok (.aload_n 0, 1) := by decide +kernel
theorem dX3_step_67 : decode cX3_step 67 = .ok (.getfield 9, 3) := by decide +kernel
theorem dX3_step_70 : decode cX3_step 70 = .ok (.iconst 1, 1) := by decide +kernel
theorem dX3_step_71 : decode cX3_step 71 = .ok (.iaload, 1) := by decide +kernel
theorem dX3_step_72 : decode cX3_step 72 = .ok (.putfield 43, 3) := by decide +kernel
theorem dX3_step_75 : decode cX3_step 75 = .ok (.aload_n 0, 1) := by decide +kernel
theorem dX3_step_76 : decode cX3_step 76 = .ok (.getfield 18, 3) := by decide +kernel
theorem dX3_step_79 : decode cX3_step 79 = .ok (.aload_n 0, 1) := by decide +kernel
theorem dX3_step_80 : decode cX3_step 80 = .ok (.getfield 40, 3) := by decide +kernel
theorem dX3_step_83 : decode cX3_step 83 = .ok (.aload_n 0, 1) := by decide +kernel
theorem dX3_step_84 : decode cX3_step 84 = .ok (.getfield 43, 3) := by decide +kernel
theorem dX3_step_87 : decode cX3_step 87 = .ok (.aload_n 0, 1) := by decide +kernel
theorem dX3_step_88 : decode cX3_step 88 = .ok (.getfield 9, 3) := by decide +kernel
theorem dX3_step_91 : decode cX3_step 91 = .ok (.invokevirtual 46, 3) := by decide +kernel
theorem dX3_step_94 : decode cX3_step 94 = .ok (.ireturn, 1) := by decide +kernel
theorem dX3_findEntry_0 : decode cX3_findEntry 0 = .ok (.iconst 2, 1) := by decide +kernel
theorem dX3_findEntry_1 : decode cX3_findEntry 1 = .ok (.istore_n 3, 1) := by decide +kernel
theorem dX3_findEntry_2 : decode cX3_findEntry 2 = .ok (.iload_n 3, 1) := by decide +kernel
theorem dX3_findEntry_3 : decode cX3_findEntry 3 = .ok (.bipush 62, 2) := by decide +kernel
theorem dX3_findEntry_5 : decode cX3_findEntry 5 = .ok (.if_icmp .ge 48, 3) := by decide +kernel
theorem dX3_findEntry_8 : decode cX3_findEntry 8 = .ok (.aload_n 0, 1) := by decide +kernel
theorem dX3_findEntry_9 : decode cX3_findEntry 9 = .ok (.getfield 9, 3) := by decide +kernel
theorem dX3_findEntry_12 : decode cX3_findEntry 12 = .ok (.iload_n 3, 1) := by decide +kernel
theorem dX3_findEntry_13 : decode cX3_findEntry 13 = .ok (.iaload, 1) := by decide +kernel
theorem dX3_findEntry_14 : decode cX3_findEntry 14 = .ok (.ifCond .ne 11, 3) := by decide +kernel
theorem dX3_findEntry_17 : decode cX3_findEntry 17 = .ok (.aload_n 0, 1) := by decide +kernel
theorem dX3_findEntry_18 : decode cX3_findEntry 18 = .ok (.iload_n 3, 1) := by decide +kernel
theorem dX3_findEntry_19 : decode cX3_findEntry 19 = .ok (.invokevirtual 62, 3) := by decide +kernel
theorem dX3_findEntry_22 : decode cX3_findEntry 22 = .ok (.goto 25, 3) := by decide +kernel
theorem dX3_findEntry_25 : decode cX3_findEntry 25 = .ok (.aload_n 0, 1) := by decide +kernel
theorem dX3_findEntry_26 : decode cX3_findEntry 26 = .ok (.getfield 9, 3) := by decide +kernel
theorem dX3_findEntry_29 : decode cX3_findEntry 29 = .ok (.iload_n 3, 1) := by decide +kernel
theorem dX3_findEntry_30 : decode cX3_findEntry 30 = .ok (.iconst 4, 1) := by decide +kernel
theorem dX3_findEntry_31 : decode cX3_findEntry 31 = .ok (.iadd, 1) := by decide +kernel
theorem dX3_findEntry_32 : decode cX3_findEntry 32 = .ok (.iload_n 1, 1) := by decide +kernel
theorem dX3_findEntry_33 : decode cX3_findEntry 33 = .ok (.iload_n 2, 1) := by decide +kernel
theorem dX3_findEntry_34 : decode cX3_findEntry 34 = .ok (.invokestatic 66, 3) := by decide +kernel
theorem dX3_findEntry_37 : decode cX3_findEntry 37 = .ok (.ifCond .eq 10, 3) := by decide +kernel
theorem dX3_findEntry_40 : decode cX3_findEntry 40 = .ok (.aload_n 0, 1) := by decide +kernel
theorem dX3_findEntry_41 : decode cX3_findEntry 41 = .ok (.iload_n 3, 1) := by decide +kernel
theorem dX3_findEntry_42 : decode cX3_findEntry 42 = .ok (.putfield 26, 3) := by decide +kernel
theorem dX3_findEntry_45 : decode cX3_findEntry 45 = .ok (.iconst 1, 1) := by decide +kernel
theorem dX3_findEntry_46 : decode cX3_findEntry 46 = .ok (.ireturn, 1) := by decide +kernel
theorem dX3_findEntry_47 : decode cX3_findEntry 47 = .ok (.iinc 3 12, 3) := by decide +kernel
theorem dX3_findEntry_50 : decode cX3_findEntry 50 = .ok (.goto (-48), 3) := by decide +kernel
theorem dX3_findEntry_53 : decode cX3_findEntry 53 = .ok (.iconst 0, 1) := by decide +kernel
theorem dX3_findEntry_54 : decode cX3_findEntry 54 = .ok (.ireturn, 1) := by decide +kernel
theorem dX3_keepRoom_0 : decode cX3_keepRoom 0 = .ok (.aload_n 0, 1) := by decide +kernel
theorem dX3_keepRoom_1 : decode cX3_keepRoom 1 = .ok (.getfield 30, 3) := by decide +kernel
theorem dX3_keepRoom_4 : decode cX3_keepRoom 4 = .ok (.iconst (-1), 1) := by decide +kernel
theorem dX3_keepRoom_5 : decode cX3_keepRoom 5 = .ok (.if_icmp .ne 39, 3) := by decide +kernel
theorem dX3_keepRoom_8 : decode cX3_keepRoom 8 = .ok (.aload_n 0, 1) := by decide +kernel
theorem dX3_keepRoom_9 : decode cX3_keepRoom 9 = .ok (.iload_n 1, 1) := by decide +kernel
theorem dX3_keepRoom_10 : decode cX3_keepRoom 10 = .ok (.putfield 30, 3) := by decide +kernel
theorem dX3_keepRoom_13 : decode cX3_keepRoom 13 = .ok (.aload_n 0, 1) := by decide +kernel
theorem dX3_keepRoom_14 : decode cX3_keepRoom 14 = .ok (.aload_n 0, 1) := by decide +kernel
theorem dX3_keepRoom_15 : decode cX3_keepRoom 15 = .ok (.getfield 40, 3) := by decide +kernel
theorem dX3_keepRoom_18 : decode cX3_keepRoom 18 = .ok (.putfield 70, 3) := by decide +kernel
theorem dX3_keepRoom_21 : decode cX3_keepRoom 21 = .ok (.aload_n 0, 1) := by decide +kernel
theorem dX3_keepRoom_22 : decode cX3_keepRoom 22 = .ok (.aload_n 0, 1) := by decide +kernel
theorem dX3_keepRoom_23 : decode cX3_keepRoom 23 = .ok (.getfield 43, 3) := by decide +kernel
theorem dX3_keepRoom_26 : decode cX3_keepRoom 26 = .ok (.putfield 73, 3) := by decide +kernel
theorem dX3_keepRoom_29 : decode cX3_keepRoom 29 = .ok (.aload_n 0, 1) := by decide +kernel
theorem dX3_keepRoom_30 : decode cX3_keepRoom 30 = .ok (.getfield 9, 3) := by decide +kernel
theorem dX3_keepRoom_33 : decode cX3_keepRoom 33 = .ok (.iconst 0, 1) := by decide +kernel
theorem dX3_keepRoom_34 : decode cX3_keepRoom 34 = .ok (.aload_n 0, 1) := by decide +kernel
theorem dX3_keepRoom_35 : decode cX3_keepRoom 35 = .ok (.getfield 15, 3) := by decide +kernel
theorem dX3_keepRoom_38 : decode cX3_keepRoom 38 = .ok (.iconst 0, 1) := by decide +kernel
theorem dX3_keepRoom_39 : decode cX3_keepRoom 39 = .ok (.bipush 64, 2) := by decide +kernel
theorem dX3_keepRoom_41 : decode cX3_keepRoom 41 = .ok (.invokestatic 76, 3) := by decide +kernel
end
section
theorem dX3_keepRoom_44 : decode cX3_keepRoom 44 = .ok (.return_, 1) := by decide +kernel
theorem dX3_addEntries_0 : decode cX3_addEntries 0 = .ok (.iconst 2, 1) := by decide +kernel
theorem dX3_addEntries_1 : decode cX3_addEntries 1 = .ok (.istore_n 2, 1) := by decide +kernel
theorem dX3_addEntries_2 : decode cX3_addEntries 2 = .ok (.iload_n 2, 1) := by decide +kernel
theorem dX3_addEntries_3 : decode cX3_addEntries 3 = .ok (.bipush 62, 2) := by decide +kernel
theorem dX3_addEntries_5 : decode cX3_addEntries 5 = .ok (.if_icmp .ge 53, 3) := by decide +kernel
theorem dX3_addEntries_8 : decode cX3_addEntries 8 = .ok (.aload_n 0, 1) := by decide +kernel
theorem dX3_addEntries_9 : decode cX3_addEntries 9 = .ok (.getfield 9, 3) := by decide +kernel
theorem dX3_addEntries_12 : decode cX3_addEntries 12 = .ok (.iload_n 2, 1) := by decide +kernel
theorem dX3_addEntries_13 : decode cX3_addEntries 13 = .ok (.iaload, 1) := by decide +kernel
theorem dX3_addEntries_14 : decode cX3_addEntries 14 = .ok (.ifCond .eq 38, 3) := by decide +kernel
theorem dX3_addEntries_17 : decode cX3_addEntries 17 = .ok (.aload_n 1, 1) := by decide +kernel
theorem dX3_addEntries_18 : decode cX3_addEntries 18 = .ok (.aload_n 0, 1) := by decide +kernel
theorem dX3_addEntries_19 : decode cX3_addEntries 19 = .ok (.getfield 9, 3) := by decide +kernel
theorem dX3_addEntries_22 : decode cX3_addEntries 22 = .ok (.iload_n 2, 1) := by decide +kernel
theorem dX3_addEntries_23 : decode cX3_addEntries 23 = .ok (.iaload, 1) := by decide +kernel
theorem dX3_addEntries_24 : decode cX3_addEntries 24 = .ok (.invokevirtual 82, 3) := by decide +kernel
theorem dX3_addEntries_27 : decode cX3_addEntries 27 = .ok (.aload_n 1, 1) := by decide +kernel
theorem dX3_addEntries_28 : decode cX3_addEntries 28 = .ok (.aload_n 0, 1) := by decide +kernel
theorem dX3_addEntries_29 : decode cX3_addEntries 29 = .ok (.getfield 9, 3) := by decide +kernel
theorem dX3_addEntries_32 : decode cX3_addEntries 32 = .ok (.iload_n 2, 1) := by decide +kernel
theorem dX3_addEntries_33 : decode cX3_addEntries 33 = .ok (.iconst 3, 1) := by decide +kernel
theorem dX3_addEntries_34 : decode cX3_addEntries 34 = .ok (.iadd, 1) := by decide +kernel
theorem dX3_addEntries_35 : decode cX3_addEntries 35 = .ok (.iaload, 1) := by decide +kernel
theorem dX3_addEntries_36 : decode cX3_addEntries 36 = .ok (.invokevirtual 82, 3) := by decide +kernel
theorem dX3_addEntries_39 : decode cX3_addEntries 39 = .ok (.aload_n 1, 1) := by decide +kernel
theorem dX3_addEntries_40 : decode cX3_addEntries 40 = .ok (.aload_n 0, 1) := by decide +kernel
theorem dX3_addEntries_41 : decode cX3_addEntries 41 = .ok (.getfield 9, 3) := by decide +kernel
theorem dX3_addEntries_44 : decode cX3_addEntries 44 = .ok (.iload_n 2, 1) := by decide +kernel
theorem dX3_addEntries_45 : decode cX3_addEntries 45 = .ok (.iconst 4, 1) := by decide +kernel
theorem dX3_addEntries_46 : decode cX3_addEntries 46 = .ok (.iadd, 1) := by decide +kernel
theorem dX3_addEntries_47 : decode cX3_addEntries 47 = .ok (.bipush 8, 2) := by decide +kernel
theorem dX3_addEntries_49 : decode cX3_addEntries 49 = .ok (.invokevirtual 87, 3) := by decide +kernel
theorem dX3_addEntries_52 : decode cX3_addEntries 52 = .ok (.iinc 2 12, 3) := by decide +kernel
theorem dX3_addEntries_55 : decode cX3_addEntries 55 = .ok (.goto (-53), 3) := by decide +kernel
theorem dX3_addEntries_58 : decode cX3_addEntries 58 = .ok (.return_, 1) := by decide +kernel
theorem dX3_takeEntry_0 : decode cX3_takeEntry 0 = .ok (.aload_n 0, 1) := by decide +kernel
theorem dX3_takeEntry_1 : decode cX3_takeEntry 1 = .ok (.getfield 30, 3) := by decide +kernel
theorem dX3_takeEntry_4 : decode cX3_takeEntry 4 = .ok (.iconst (-1), 1) := by decide +kernel
theorem dX3_takeEntry_5 : decode cX3_takeEntry 5 = .ok (.if_icmp .eq 5, 3) := by decide +kernel
theorem dX3_takeEntry_8 : decode cX3_takeEntry 8 = .ok (.iconst 1, 1) := by decide +kernel
theorem dX3_takeEntry_9 : decode cX3_takeEntry 9 = .ok (.ireturn, 1) := by decide +kernel
theorem dX3_takeEntry_10 : decode cX3_takeEntry 10 = .ok (.aload_n 1, 1) := by decide +kernel
theorem dX3_takeEntry_11 : decode cX3_takeEntry 11 = .ok (.bipush 9, 2) := by decide +kernel
theorem dX3_takeEntry_13 : decode cX3_takeEntry 13 = .ok (.invokevirtual 91, 3) := by decide +kernel
theorem dX3_takeEntry_16 : decode cX3_takeEntry 16 = .ok (.istore_n 2, 1) := by decide +kernel
theorem dX3_takeEntry_17 : decode cX3_takeEntry 17 = .ok (.iload_n 2, 1) := by decide +kernel
theorem dX3_takeEntry_18 : decode cX3_takeEntry 18 = .ok (.iconst (-1), 1) := by decide +kernel
theorem dX3_takeEntry_19 : decode cX3_takeEntry 19 = .ok (.if_icmp .eq 12, 3) := by decide +kernel
theorem dX3_takeEntry_22 : decode cX3_takeEntry 22 = .ok (.aload_n 0, 1) := by decide +kernel
theorem dX3_takeEntry_23 : decode cX3_takeEntry 23 = .ok (.getfield 37, 3) := by decide +kernel
theorem dX3_takeEntry_26 : decode cX3_takeEntry 26 = .ok (.bipush 7, 2) := by decide +kernel
theorem dX3_takeEntry_28 : decode cX3_takeEntry 28 = .ok (.if_icmp .lt 5, 3) := by decide +kernel
theorem dX3_takeEntry_31 : decode cX3_takeEntry 31 = .ok (.iconst 0, 1) := by decide +kernel
theorem dX3_takeEntry_32 : decode cX3_takeEntry 32 = .ok (.ireturn, 1) := by decide +kernel
theorem dX3_takeEntry_33 : decode cX3_takeEntry 33 = .ok (.aload_n 1, 1) := by decide +kernel
theorem dX3_takeEntry_34 : decode cX3_takeEntry 34 = .ok (.bipush 9, 2) := by decide +kernel
theorem dX3_takeEntry_36 : decode cX3_takeEntry 36 = .ok (.iload_n 2, 1) := by decide +kernel
theorem dX3_takeEntry_37 : decode cX3_takeEntry 37 = .ok (.iconst 0, 1) := by decide +kernel
theorem dX3_takeEntry_38 : decode cX3_takeEntry 38 = .ok (.invokevirtual 97, 3) := by decide +kernel
theorem dX3_takeEntry_41 : decode cX3_takeEntry 41 = .ok (.aload_n 0, 1) := by decide +kernel
theorem dX3_takeEntry_42 : decode cX3_takeEntry 42 = .ok (.iconst 1, 1) := by decide +kernel
theorem dX3_takeEntry_43 : decode cX3_takeEntry 43 = .ok (.putfield 33, 3) := by decide +kernel
theorem dX3_takeEntry_46 : decode cX3_takeEntry 46 = .ok (.aload_n 0, 1) := by decide +kernel
theorem dX3_takeEntry_47 : decode cX3_takeEntry 47 = .ok (.iconst 2, 1) := by decide +kernel
theorem dX3_takeEntry_48 : decode cX3_takeEntry 48 = .ok (.putfield 30, 3) := by decide +kernel
theorem dX3_takeEntry_51 : decode cX3_takeEntry 51 = .ok (.aload_n 0, 1) := by decide +kernel
theorem dX3_takeEntry_52 : decode cX3_takeEntry 52 = .ok (.bipush 9, 2) := by decide +kernel
theorem dX3_takeEntry_54 : decode cX3_takeEntry 54 = .ok (.putfield 70, 3) := by decide +kernel
theorem dX3_takeEntry_57 : decode cX3_takeEntry 57 = .ok (.aload_n 0, 1) := by decide +kernel
theorem dX3_takeEntry_58 : decode cX3_takeEntry 58 = .ok (.iload_n 2, 1) := by decide +kernel
theorem dX3_takeEntry_59 : decode cX3_takeEntry 59 = .ok (.putfield 73, 3) := by decide +kernel
theorem dX3_takeEntry_62 : decode cX3_takeEntry 62 = .ok (.aload_n 0, 1) := by decide +kernel
theorem dX3_takeEntry_63 : decode cX3_takeEntry 63 = .ok (.getfield 15, 3) := by decide +kernel
theorem dX3_takeEntry_66 : decode cX3_takeEntry 66 = .ok (.iconst 0, 1) := by decide +kernel
theorem dX3_takeEntry_67 : decode cX3_takeEntry 67 = .ok (.bipush 64, 2) := by decide +kernel
theorem dX3_takeEntry_69 : decode cX3_takeEntry 69 = .ok (.invokestatic 101, 3) := by decide +kernel
theorem dX3_takeEntry_72 : decode cX3_takeEntry 72 = .ok (.iconst 1, 1) := by decide +kernel
theorem dX3_takeEntry_73 : decode cX3_takeEntry 73 = .ok (.ireturn, 1) := by decide +kernel
theorem dX3_storeLink_0 : decode cX3_storeLink 0 = .ok (.aload_n 0, 1) := by decide +kernel
theorem dX3_storeLink_1 : decode cX3_storeLink 1 = .ok (.getfield 9, 3) := by decide +kernel
theorem dX3_storeLink_4 : decode cX3_storeLink 4 = .ok (.iconst 0, 1) := by decide +kernel
theorem dX3_storeLink_5 : decode cX3_storeLink 5 = .ok (.aload_n 0, 1) := by decide +kernel
theorem dX3_storeLink_6 : decode cX3_storeLink 6 = .ok (.getfield 70, 3) := by decide +kernel
theorem dX3_storeLink_9 : decode cX3_storeLink 9 = .ok (.iastore, 1) := by decide +kernel
theorem dX3_storeLink_10 : decode cX3_storeLink 10 = .ok (.aload_n 0, 1) := by decide +kernel
theorem dX3_storeLink_11 : decode cX3_storeLink 11 = .ok (.getfield 9, 3) := by decide +kernel
theorem dX3_storeLink_14 : decode cX3_storeLink 14 = .ok (.iconst 1, 1) := by decide +kernel
theorem dX3_storeLink_15 : decode cX3_storeLink 15 = .ok (.aload_n 0, 1) := by decide +kernel
theorem dX3_storeLink_16 : decode cX3_storeLink 16 = .ok (.getfield 73, 3) := by decide +kernel
theorem dX3_storeLink_19 : decode cX3_storeLink 19 = .ok (.iastore, 1) := by decide +kernel
theorem dX3_storeLink_20 : decode cX3_storeLink 20 = .ok (.aload_n 0, 1) := by decide +kernel
theorem dX3_storeLink_21 : decode cX3_storeLink 21 = .ok (.getfield 18, 3) := by decide +kernel
theorem dX3_storeLink_24 : decode cX3_storeLink 24 = .ok (.aload_n 0, 1) := by decide +kernel
theorem dX3_storeLink_25 : decode cX3_storeLink 25 = .ok (.getfield 40, 3) := by decide +kernel
theorem dX3_storeLink_28 : decode cX3_storeLink 28 = .ok (.aload_n 0, 1) := by decide +kernel
theorem dX3_storeLink_29 : decode cX3_storeLink 29 = .ok (.getfield 43, 3) := by decide +kernel
theorem dX3_storeLink_32 : decode cX3_storeLink 32 = .ok (.aload_n 0, 1) := by decide +kernel
theorem dX3_storeLink_33 : decode cX3_storeLink 33 = .ok (.getfield 9, 3) := by decide +kernel
theorem dX3_storeLink_36 : decode cX3_storeLink 36 = .ok (.invokevirtual 104, 3) := by decide +kernel
theorem dX3_storeLink_39 : decode cX3_storeLink 39 = .ok (.ireturn, 1) := by decide +kernel
theorem dX3_storeWithoutEntry_0 : decode cX3_storeWithoutEntry 0 = .ok (.aload_n 0, 1) := by decide +kernel
theorem dX3_storeWithoutEntry_1 : decode cX3_storeWithoutEntry 1 = .ok (.getfield 26, 3) := by decide +kernel
theorem dX3_storeWithoutEntry_4 : decode cX3_storeWithoutEntry 4 = .ok (.iconst (-1), 1) := by decide +kernel
theorem dX3_storeWithoutEntry_5 : decode cX3_storeWithoutEntry 5 = .ok (.if_icmp .eq 16, 3) := by decide +kernel
theorem dX3_storeWithoutEntry_8 : decode cX3_storeWithoutEntry 8 = .ok (.aload_n 0, 1) := by decide +kernel
theorem dX3_storeWithoutEntry_9 : decode cX3_storeWithoutEntry 9 = .ok (.getfield 9, 3) := by decide +kernel
theorem dX3_storeWithoutEntry_12 : decode cX3_storeWithoutEntry 12 = .ok (.aload_n 0, 1) := by decide +kernel
theorem dX3_storeWithoutEntry_13 : decode cX3_storeWithoutEntry 13 = .ok (.getfield 26, 3) := by decide +kernel
theorem dX3_storeWithoutEntry_16 : decode cX3_storeWithoutEntry 16 = .ok (.bipush 12, 2) := by decide +kernel
theorem dX3_storeWithoutEntry_18 : decode cX3_storeWithoutEntry 18 = .ok (.invokestatic 101, 3) := by decide +kernel
theorem dX3_storeWithoutEntry_21 : decode cX3_storeWithoutEntry 21 = .ok (.aload_n 0, 1) := by decide +kernel
theorem dX3_storeWithoutEntry_22 : decode cX3_storeWithoutEntry 22 = .ok (.getfield 18, 3) := by decide +kernel
theorem dX3_storeWithoutEntry_25 : decode cX3_storeWithoutEntry 25 = .ok (.aload_n 0, 1) := by decide +kernel
theorem dX3_storeWithoutEntry_26 : decode cX3_storeWithoutEntry 26 = .ok (.getfield 40, 3) := by decide +kernel
theorem dX3_storeWithoutEntry_29 : decode cX3_storeWithoutEntry 29 = .ok (.aload_n 0, 1) := by decide +kernel
theorem dX3_storeWithoutEntry_30 : decode cX3_storeWithoutEntry 30 = .ok (.getfield 43, 3) := by decide +kernel
theorem dX3_storeWithoutEntry_33 : decode cX3_storeWithoutEntry 33 = .ok (.aload_n 0, 1) := by decide +kernel
theorem dX3_storeWithoutEntry_34 : decode cX3_storeWithoutEntry 34 = .ok (.getfield 9, 3) := by decide +kernel
theorem dX3_storeWithoutEntry_37 : decode cX3_storeWithoutEntry 37 = .ok (.invokevirtual 104, 3) := by decide +kernel
theorem dX3_storeWithoutEntry_40 : decode cX3_storeWithoutEntry 40 = .ok (.ireturn, 1) := by decide +kernel
theorem dX4_init_0 : decode cX4_init 0 = .ok (.aload_n 0, 1) := by decide +kernel
theorem dX4_init_1 : decode cX4_init 1 = .ok (.invokespecial 3, 3) := by decide +kernel
theorem dX4_init_4 : decode cX4_init 4 = .ok (.aload_n 0, 1) := by decide +kernel
theorem dX4_init_5 : decode cX4_init 5 = .ok (.bipush 64, 2) := by decide +kernel
theorem dX4_init_7 : decode cX4_init 7 = .ok (.newarray .int, 2) := by decide +kernel
theorem dX4_init_9 : decode cX4_init 9 = .ok (.putfield 9, 3) := by decide +kernel
theorem dX4_init_12 : decode cX4_init 12 = .ok (.return_, 1) := by decide +kernel
theorem dX4_fillNew_0 : decode cX4_fillNew 0 = .ok (.aload_n 0, 1) := by decide +kernel
theorem dX4_fillNew_1 : decode cX4_fillNew 1 = .ok (.getfield 9, 3) := by decide +kernel
theorem dX4_fillNew_4 : decode cX4_fillNew 4 = .ok (.iconst 0, 1) := by decide +kernel
theorem dX4_fillNew_5 : decode cX4_fillNew 5 = .ok (.bipush 64, 2) := by decide +kernel
theorem dX4_fillNew_7 : decode cX4_fillNew 7 = .ok (.invokestatic 15, 3) := by decide +kernel
theorem dX4_fillNew_10 : decode cX4_fillNew 10 = .ok (.aload_n 0, 1) := by decide +kernel
theorem dX4_fillNew_11 : decode cX4_fillNew 11 = .ok (.getfield 9, 3) := by decide +kernel
theorem dX4_fillNew_14 : decode cX4_fillNew 14 = .ok (.iconst 0, 1) := by decide +kernel
theorem dX4_fillNew_15 : decode cX4_fillNew 15 = .ok (.bipush 9, 2) := by decide +kernel
theorem dX4_fillNew_17 : decode cX4_fillNew 17 = .ok (.iastore, 1) := by decide +kernel
theorem dX4_fillNew_18 : decode cX4_fillNew 18 = .ok (.aload_n 0, 1) := by decide +kernel
theorem dX4_fillNew_19 : decode cX4_fillNew 19 = .ok (.getfield 9, 3) := by decide +kernel
theorem dX4_fillNew_22 : decode cX4_fillNew 22 = .ok (.iconst 1, 1) := by decide +kernel
theorem dX4_fillNew_23 : decode cX4_fillNew 23 = .ok (.iconst 1, 1) := by decide +kernel
theorem dX4_fillNew_24 : decode cX4_fillNew 24 = .ok (.iastore, 1) := by decide +kernel
theorem dX4_fillNew_25 : decode cX4_fillNew 25 = .ok (.iconst 1, 1) := by decide +kernel
theorem dX4_fillNew_26 : decode cX4_fillNew 26 = .ok (.istore 4, 2) := by decide +kernel
theorem dX4_fillNew_28 : decode cX4_fillNew 28 = .ok (.iload 4, 2) := by decide +kernel
theorem dX4_fillNew_30 : decode cX4_fillNew 30 = .ok (.bipush 16, 2) := by decide +kernel
theorem dX4_fillNew_32 : decode cX4_fillNew 32 = .ok (.if_icmp .gt 41, 3) := by decide +kernel
theorem dX4_fillNew_35 : decode cX4_fillNew 35 = .ok (.iload 4, 2) := by decide +kernel
theorem dX4_fillNew_37 : decode cX4_fillNew 37 = .ok (.invokestatic 19, 3) := by decide +kernel
theorem dX4_fillNew_40 : decode cX4_fillNew 40 = .ok (.istore 5, 2) := by decide +kernel
theorem dX4_fillNew_42 : decode cX4_fillNew 42 = .ok (.iconst 0, 1) := by decide +kernel
theorem dX4_fillNew_43 : decode cX4_fillNew 43 = .ok (.istore 6, 2) := by decide +kernel
theorem dX4_fillNew_45 : decode cX4_fillNew 45 = .ok (.iload 6, 2) := by decide +kernel
theorem dX4_fillNew_47 : decode cX4_fillNew 47 = .ok (.iload 5, 2) := by decide +kernel
theorem dX4_fillNew_49 : decode cX4_fillNew 49 = .ok (.if_icmp .ge 18, 3) := by decide +kernel
theorem dX4_fillNew_52 : decode cX4_fillNew 52 = .ok (.aload_n 0, 1) := by decide +kernel
theorem dX4_fillNew_53 : decode cX4_fillNew 53 = .ok (.iload 4, 2) := by decide +kernel
theorem dX4_fillNew_55 : decode cX4_fillNew 55 = .ok (.iload 6, 2) := by decide +kernel
theorem dX4_fillNew_57 : decode cX4_fillNew 57 = .ok (.iconst 1, 1) := by decide +kernel
theorem dX4_fillNew_58 : decode cX4_fillNew 58 = .ok (.invokevirtual 25, 3) := by decide +kernel
theorem dX4_fillNew_61 : decode cX4_fillNew 61 = .ok (.iinc 6 1, 3) := by decide +kernel
theorem dX4_fillNew_64 : decode cX4_fillNew 64 = .ok (.goto (-19), 3) := by decide +kernel
theorem dX4_fillNew_67 : decode cX4_fillNew 67 = .ok (.iinc 4 1, 3) := by decide +kernel
theorem dX4_fillNew_70 : decode cX4_fillNew 70 = .ok (.goto (-42), 3) := by decide +kernel
theorem dX4_fillNew_73 : decode cX4_fillNew 73 = .ok (.aload_n 0, 1) := by decide +kernel
theorem dX4_fillNew_74 : decode cX4_fillNew 74 = .ok (.bipush 9, 2) := by decide +kernel
theorem dX4_fillNew_76 : decode cX4_fillNew 76 = .ok (.iconst 0, 1) := by decide +kernel
theorem dX4_fillNew_77 : decode cX4_fillNew 77 = .ok (.iconst 0, 1) := by decide +kernel
theorem dX4_fillNew_78 : decode cX4_fillNew 78 = .ok (.invokevirtual 25, 3) := by decide +kernel
theorem dX4_fillNew_81 : decode cX4_fillNew 81 = .ok (.aload_n 0, 1) := by decide +kernel
theorem dX4_fillNew_82 : decode cX4_fillNew 82 = .ok (.bipush 9, 2) := by decide +kernel
theorem dX4_fillNew_84 : decode cX4_fillNew 84 = .ok (.iconst 1, 1) := by decide +kernel
theorem dX4_fillNew_85 : decode cX4_fillNew 85 = .ok (.iconst 0, 1) := by decide +kernel
theorem dX4_fillNew_86 : decode cX4_fillNew 86 = .ok (.invokevirtual 25, 3) := by decide +kernel
theorem dX4_fillNew_89 : decode cX4_fillNew 89 = .ok (.aload_n 0, 1) := by decide +kernel
theorem dX4_fillNew_90 : decode cX4_fillNew 90 = .ok (.getfield 9, 3) := by decide +kernel
theorem dX4_fillNew_93 : decode cX4_fillNew 93 = .ok (.bipush 40, 2) := by decide +kernel
theorem dX4_fillNew_95 : decode cX4_fillNew 95 = .ok (.iload_n 2, 1) := by decide +kernel
theorem dX4_fillNew_96 : decode cX4_fillNew 96 = .ok (.iload_n 3, 1) := by decide +kernel
theorem dX4_fillNew_97 : decode cX4_fillNew 97 = .ok (.invokestatic 29, 3) := by decide +kernel
theorem dX4_fillNew_100 : decode cX4_fillNew 100 = .ok (.aload_n 0, 1) := by decide +kernel
theorem dX4_fillNew_101 : decode cX4_fillNew 101 = .ok (.getfield 9, 3) := by decide +kernel
theorem dX4_fillNew_104 : decode cX4_fillNew 104 = .ok (.bipush 48, 2) := by decide +kernel
theorem dX4_fillNew_106 : decode cX4_fillNew 106 = .ok (.iload_n 1, 1) := by decide +kernel
theorem dX4_fillNew_107 : decode cX4_fillNew 107 = .ok (.bipush 8, 2) := by decide +kernel
theorem dX4_fillNew_109 : decode cX4_fillNew 109 = .ok (.ishr, 1) := by decide +kernel
theorem dX4_fillNew_110 : decode cX4_fillNew 110 = .ok (.sipush 255, 3) := by decide +kernel
theorem dX4_fillNew_113 : decode cX4_fillNew 113 = .ok (.iand, 1) := by decide +kernel
theorem dX4_fillNew_114 : decode cX4_fillNew 114 = .ok (.iastore, 1) := by decide +kernel
theorem dX4_fillNew_115 : decode cX4_fillNew 115 = .ok (.aload_n 0, 1) := by decide +kernel
theorem dX4_fillNew_116 : decode cX4_fillNew 116 = .ok (.getfield 9, 3) := by decide +kernel
theorem dX4_fillNew_119 : decode cX4_fillNew 119 = .ok (.bipush 49, 2) := by decide +kernel
theorem dX4_fillNew_121 : decode cX4_fillNew 121 = .ok (.iload_n 1, 1) := by decide +kernel
theorem dX4_fillNew_122 : decode cX4_fillNew 122 = .ok (.sipush 255, 3) := by decide +kernel
theorem dX4_fillNew_125 : decode cX4_fillNew 125 = .ok (.iand, 1) := by decide +kernel
theorem dX4_fillNew_126 : decode cX4_fillNew 126 = .ok (.iastore, 1) := by decide +kernel
theorem dX4_fillNew_127 : decode cX4_fillNew 127 = .ok (.return_, 1) := by decide +kernel
theorem dX4_isFree_0 : decode cX4_isFree 0 = .ok (.iload_n 1, 1) := by decide +kernel
theorem dX4_isFree_1 : decode cX4_isFree 1 = .ok (.iload_n 2, 1) := by decide +kernel
theorem dX4_isFree_2 : decode cX4_isFree 2 = .ok (.invokestatic 33, 3) := by decide +kernel
theorem dX4_isFree_5 : decode cX4_isFree 5 = .ok (.ifCond .eq 31, 3) := by decide +kernel
theorem dX4_isFree_8 : decode cX4_isFree 8 = .ok (.aload_n 0, 1) := by decide +kernel
theorem dX4_isFree_9 : decode cX4_isFree 9 = .ok (.getfield 9, 3) := by decide +kernel
theorem dX4_isFree_12 : decode cX4_isFree 12 = .ok (.iconst 2, 1) := by decide +kernel
theorem dX4_isFree_13 : decode cX4_isFree 13 = .ok (.iload_n 1, 1) := by decide +kernel
theorem dX4_isFree_14 : decode cX4_isFree 14 = .ok (.imul, 1) := by decide +kernel
theorem dX4_isFree_15 : decode cX4_isFree 15 = .ok (.iload_n 2, 1) := by decide +kernel
theorem dX4_isFree_16 : decode cX4_isFree 16 = .ok (.bipush 8, 2) := by decide +kernel
theorem dX4_isFree_18 : decode cX4_isFree 18 = .ok (.idiv, 1) := by decide +kernel
theorem dX4_isFree_19 : decode cX4_isFree 19 = .ok (.iadd, 1) := by decide +kernel
theorem dX4_isFree_20 : decode cX4_isFree 20 = .ok (.iaload, 1) := by decide +kernel
theorem dX4_isFree_21 : decode cX4_isFree 21 = .ok (.iload_n 2, 1) := by decide +kernel
theorem dX4_isFree_22 : decode cX4_isFree 22 = .ok (.bipush 8, 2) := by decide +kernel
theorem dX4_isFree_24 : decode cX4_isFree 24 = .ok (.irem, 1) := by decide +kernel
theorem dX4_isFree_25 : decode cX4_isFree 25 = .ok (.ishr, 1) := by decide +kernel
theorem dX4_isFree_26 : decode cX4_isFree 26 = .ok (.iconst 1, 1) := by decide +kernel
theorem dX4_isFree_27 : decode cX4_isFree 27 = .ok (.iand, 1) := by decide +kernel
theorem dX4_isFree_28 : decode cX4_isFree 28 = .ok (.iconst 1, 1) := by decide +kernel
theorem dX4_isFree_29 : decode cX4_isFree 29 = .ok (.if_icmp .ne 7, 3) := by decide +kernel
theorem dX4_isFree_32 : decode cX4_isFree 32 = .ok (.iconst 1, 1) := by decide +kernel
theorem dX4_isFree_33 : decode cX4_isFree 33 = .ok (.goto 4, 3) := by decide +kernel
theorem dX4_isFree_36 : decode cX4_isFree 36 = .ok (.iconst 0, 1) := by decide +kernel
theorem dX4_isFree_37 : decode cX4_isFree 37 = .ok (.ireturn, 1) := by decide +kernel
theorem dX4_setFree_0 : decode cX4_setFree 0 = .ok (.iload_n 1, 1) := by decide +kernel
theorem dX4_setFree_1 : decode cX4_setFree 1 = .ok (.iload_n 2, 1) := by decide +kernel
theorem dX4_setFree_2 : decode cX4_setFree 2 = .ok (.invokestatic 33, 3) := by decide +kernel
theorem dX4_setFree_5 : decode cX4_setFree 5 = .ok (.ifCond .eq 57, 3) := by decide +kernel
theorem dX4_setFree_8 : decode cX4_setFree 8 = .ok (.iconst 2, 1) := by decide +kernel
theorem dX4_setFree_9 : decode cX4_setFree 9 = .ok (.iload_n 1, 1) := by decide +kernel
theorem dX4_setFree_10 : decode cX4_setFree 10 = .ok (.imul, 1) := by decide +kernel
theorem dX4_setFree_11 : decode cX4_setFree 11 = .ok (.iload_n 2, 1) := by decide +kernel
theorem dX4_setFree_12 : decode cX4_setFree 12 = .ok (.bipush 8, 2) := by decide +kernel
theorem dX4_setFree_14 : decode cX4_setFree 14 = .ok (.idiv, 1) := by decide +kernel
theorem dX4_setFree_15 : decode cX4_setFree 15 = .ok (.iadd, 1) := by decide +kernel
theorem dX4_setFree_16 : decode cX4_setFree 16 = .ok (.istore 4, 2) := by decide +kernel
theorem dX4_setFree_18 : decode cX4_setFree 18 = .ok (.iconst 1, 1) := by decide +kernel
theorem dX4_setFree_19 : decode cX4_setFree 19 = .ok (.iload_n 2, 1) := by decide +kernel
theorem dX4_setFree_20 : decode cX4_setFree 20 = .ok (.bipush 8, 2) := by decide +kernel
theorem dX4_setFree_22 : decode cX4_setFree 22 = .ok (.irem, 1) := by decide +kernel
theorem dX4_setFree_23 : decode cX4_setFree 23 = .ok (.ishl, 1) := by decide +kernel
theorem dX4_setFree_24 : decode cX4_setFree 24 = .ok (.istore 5, 2) := by decide +kernel
theorem dX4_setFree_26 : decode cX4_setFree 26 = .ok (.aload_n 0, 1) := by decide +kernel
theorem dX4_setFree_27 : decode cX4_setFree 27 = .ok (.getfield 9, 3) := by decide +kernel
theorem dX4_setFree_30 : decode cX4_setFree 30 = .ok (.iload 4, 2) := by decide +kernel
theorem dX4_setFree_32 : decode cX4_setFree 32 = .ok (.iload_n 3, 1) := by decide +kernel
theorem dX4_setFree_33 : decode cX4_setFree 33 = .ok (.ifCond .eq 16, 3) := by decide +kernel
theorem dX4_setFree_36 : decode cX4_setFree 36 = .ok (.aload_n 0, 1) := by decide +kernel
theorem dX4_setFree_37 : decode cX4_setFree 37 = .ok (.getfield 9, 3) := by decide +kernel
theorem dX4_setFree_40 : decode cX4_setFree 40 = .ok (.iload 4, 2) := by decide +kernel
theorem dX4_setFree_42 : decode cX4_setFree 42 = .ok (.iaload, 1) := by decide +kernel
theorem dX4_setFree_43 : decode cX4_setFree 43 = .ok (.iload 5, 2) := by decide +kernel
theorem dX4_setFree_45 : decode cX4_setFree 45 = .ok (.ior, 1) := by decide +kernel
theorem dX4_setFree_46 : decode cX4_setFree 46 = .ok (.goto 15, 3) := by decide +kernel
theorem dX4_setFree_49 : decode cX4_setFree 49 = .ok (.aload_n 0, 1) := by decide +kernel
theorem dX4_setFree_50 : decode cX4_setFree 50 = .ok (.getfield 9, 3) := by decide +kernel
theorem dX4_setFree_53 : decode cX4_setFree 53 = .ok (.iload 4, 2) := by decide +kernel
theorem dX4_setFree_55 : decode cX4_setFree 55 = .ok (.iaload, 1) := by decide +kernel
theorem dX4_setFree_56 : decode cX4_setFree 56 = .ok (.iload 5, 2) := by decide +kernel
theorem dX4_setFree_58 : decode cX4_setFree 58 = .ok (.iconst (-1), 1) := by decide +kernel
theorem dX4_setFree_59 : decode cX4_setFree 59 = .ok (.ixor, 1) := by decide +kernel
theorem dX4_setFree_60 : decode cX4_setFree 60 = .ok (.iand, 1) := by decide +kernel
theorem dX4_setFree_61 : decode cX4_setFree 61 = .ok (.iastore, 1) := by decide +kernel
theorem dX4_setFree_62 : decode cX4_setFree 62 = .ok (.return_, 1) := by decide +kernel
theorem dX4_leastFree_0 : decode cX4_leastFree 0 = .ok (.iload_n 1, 1) := by decide +kernel
theorem dX4_leastFree_1 : decode cX4_leastFree 1 = .ok (.invokestatic 19, 3) := by decide +kernel
theorem dX4_leastFree_4 : decode cX4_leastFree 4 = .ok (.istore_n 2, 1) := by decide +kernel
theorem dX4_leastFree_5 : decode cX4_leastFree 5 = .ok (.iconst 0, 1) := by decide +kernel
theorem dX4_leastFree_6 : decode cX4_leastFree 6 = .ok (.istore_n 3, 1) := by decide +kernel
theorem dX4_leastFree_7 : decode cX4_leastFree 7 = .ok (.iload_n 3, 1) := by decide +kernel
theorem dX4_leastFree_8 : decode cX4_leastFree 8 = .ok (.iload_n 2, 1) := by decide +kernel
theorem dX4_leastFree_9 : decode cX4_leastFree 9 = .ok (.if_icmp .ge 20, 3) := by decide +kernel
theorem dX4_leastFree_12 : decode cX4_leastFree 12 = .ok (.aload_n 0, 1) := by decide +kernel
theorem dX4_leastFree_13 : decode cX4_leastFree 13 = .ok (.iload_n 1, 1) := by decide +kernel
theorem dX4_leastFree_14 : decode cX4_leastFree 14 = .ok (.iload_n 3, 1) := by decide +kernel
theorem dX4_leastFree_15 : decode cX4_leastFree 15 = .ok (.invokevirtual 37, 3) := by decide +kernel
theorem dX4_leastFree_18 : decode cX4_leastFree 18 = .ok (.ifCond .eq 5, 3) := by decide +kernel
theorem dX4_leastFree_21 : decode cX4_leastFree 21 = .ok (.iload_n 3, 1) := by decide +kernel
theorem dX4_leastFree_22 : decode cX4_leastFree 22 = .ok (.ireturn, 1) := by decide +kernel
theorem dX4_leastFree_23 : decode cX4_leastFree 23 = .ok (.iinc 3 1, 3) := by decide +kernel
theorem dX4_leastFree_26 : decode cX4_leastFree 26 = .ok (.goto (-19), 3) := by decide +kernel
theorem dX4_leastFree_29 : decode cX4_leastFree 29 = .ok (.iconst (-1), 1) := by decide +kernel
theorem dX4_leastFree_30 : decode cX4_leastFree 30 = .ok (.ireturn, 1) := by decide +kernel
theorem dX4_freeBlocks_0 : decode cX4_freeBlocks 0 = .ok (.iconst 0, 1) := by decide +kernel
theorem dX4_freeBlocks_1 : decode cX4_freeBlocks 1 = .ok (.istore_n 1, 1) := by decide +kernel
theorem dX4_freeBlocks_2 : decode cX4_freeBlocks 2 = .ok (.getstatic 40, 3) := by decide +kernel
theorem dX4_freeBlocks_5 : decode cX4_freeBlocks 5 = .ok (.astore_n 2, 1) := by decide +kernel
theorem dX4_freeBlocks_6 : decode cX4_freeBlocks 6 = .ok (.aload_n 2, 1) := by decide +kernel
theorem dX4_freeBlocks_7 : decode cX4_freeBlocks 7 = .ok (.arraylength, 1) := by decide +kernel
theorem dX4_freeBlocks_8 : decode cX4_freeBlocks 8 = .ok (.istore_n 3, 1) := by decide +kernel
theorem dX4_freeBlocks_9 : decode cX4_freeBlocks 9 = .ok (.iconst 0, 1) := by decide +kernel
theorem dX4_freeBlocks_10 : decode cX4_freeBlocks 10 = .ok (.istore 4, 2) := by decide +kernel
theorem dX4_freeBlocks_12 : decode cX4_freeBlocks 12 = .ok (.iload 4, 2) := by decide +kernel
theorem dX4_freeBlocks_14 : decode cX4_freeBlocks 14 = .ok (.iload_n 3, 1) := by decide +kernel
theorem dX4_freeBlocks_15 : decode cX4_freeBlocks 15 = .ok (.if_icmp .ge 57, 3) := by decide +kernel
theorem dX4_freeBlocks_18 : decode cX4_freeBlocks 18 = .ok (.aload_n 2, 1) := by decide +kernel
theorem dX4_freeBlocks_19 : decode cX4_freeBlocks 19 = .ok (.iload 4, 2) := by decide +kernel
theorem dX4_freeBlocks_21 : decode cX4_freeBlocks 21 = .ok (.iaload, 1) := by decide +kernel
theorem dX4_freeBlocks_22 : decode cX4_freeBlocks 22 = .ok (.istore 5, 2) := by decide +kernel
theorem dX4_freeBlocks_24 : decode cX4_freeBlocks 24 = .ok (.iload 5, 2) := by decide +kernel
theorem dX4_freeBlocks_26 : decode cX4_freeBlocks 26 = .ok (.invokestatic 19, 3) := by decide +kernel
theorem dX4_freeBlocks_29 : decode cX4_freeBlocks 29 = .ok (.istore 6, 2) := by decide +kernel
theorem dX4_freeBlocks_31 : decode cX4_freeBlocks 31 = .ok (.iconst 0, 1) := by decide +kernel
theorem dX4_freeBlocks_32 : decode cX4_freeBlocks 32 = .ok (.istore 7, 2) := by decide +kernel
theorem dX4_freeBlocks_34 : decode cX4_freeBlocks 34 = .ok (.iload 7, 2) := by decide +kernel
theorem dX4_freeBlocks_36 : decode cX4_freeBlocks 36 = .ok (.iload 6, 2) := by decide +kernel
theorem dX4_freeBlocks_38 : decode cX4_freeBlocks 38 = .ok (.if_icmp .ge 28, 3) := by decide +kernel
theorem dX4_freeBlocks_41 : decode cX4_freeBlocks 41 = .ok (.iload_n 1, 1) := by decide +kernel
theorem dX4_freeBlocks_42 : decode cX4_freeBlocks 42 = .ok (.aload_n 0, 1) := by decide +kernel
theorem dX4_freeBlocks_43 : decode cX4_freeBlocks 43 = .ok (.iload 5, 2) := by decide +kernel
theorem dX4_freeBlocks_45 : decode cX4_freeBlocks 45 = .ok (.iload 7, 2) := by decide +kernel
theorem dX4_freeBlocks_47 : decode cX4_freeBlocks 47 = .ok (.invokevirtual 37, 3) := by decide +kernel
theorem dX4_freeBlocks_50 : decode cX4_freeBlocks 50 = .ok (.ifCond .eq 7, 3) := by decide +kernel
theorem dX4_freeBlocks_53 : decode cX4_freeBlocks 53 = .ok (.iconst 1, 1) := by decide +kernel
theorem dX4_freeBlocks_54 : decode cX4_freeBlocks 54 = .ok (.goto 4, 3) := by decide +kernel
theorem dX4_freeBlocks_57 : decode cX4_freeBlocks 57 = .ok (.iconst 0, 1) := by decide +kernel
theorem dX4_freeBlocks_58 : decode cX4_freeBlocks 58 = .ok (.iadd, 1) := by decide +kernel
theorem dX4_freeBlocks_59 : decode cX4_freeBlocks 59 = .ok (.istore_n 1, 1) := by decide +kernel
theorem dX4_freeBlocks_60 : decode cX4_freeBlocks 60 = .ok (.iinc 7 1, 3) := by decide +kernel
theorem dX4_freeBlocks_63 : decode cX4_freeBlocks 63 = .ok (.goto (-29), 3) := by decide +kernel
theorem dX4_freeBlocks_66 : decode cX4_freeBlocks 66 = .ok (.iinc 4 1, 3) := by decide +kernel
theorem dX4_freeBlocks_69 : decode cX4_freeBlocks 69 = .ok (.goto (-57), 3) := by decide +kernel
theorem dX4_freeBlocks_72 : decode cX4_freeBlocks 72 = .ok (.iload_n 1, 1) := by decide +kernel
theorem dX4_freeBlocks_73 : decode cX4_freeBlocks 73 = .ok (.ireturn, 1) := by decide +kernel
theorem dX5_init_0 : decode cX5_init 0 = .ok (.aload_n 0, 1) := by decide +kernel
theorem dX5_init_1 : decode cX5_init 1 = .ok (.invokespecial 3, 3) := by decide +kernel
theorem dX5_init_4 : decode cX5_init 4 = .ok (.iconst 3, 1) := by decide +kernel
theorem dX5_init_5 : decode cX5_init 5 = .ok (.iload_n 1, 1) := by decide +kernel
theorem dX5_init_6 : decode cX5_init 6 = .ok (.invokestatic 9, 3) := by decide +kernel
theorem dX5_init_9 : decode cX5_init 9 = .ok (.istore_n 2, 1) := by decide +kernel
theorem dX5_init_10 : decode cX5_init 10 = .ok (.aload_n 0, 1) := by decide +kernel
theorem dX5_init_11 : decode cX5_init 11 = .ok (.iload_n 2, 1) := by decide +kernel
theorem dX5_init_12 : decode cX5_init 12 = .ok (.newarray .int, 2) := by decide +kernel
theorem dX5_init_14 : decode cX5_init 14 = .ok (.putfield 15, 3) := by decide +kernel
theorem dX5_init_17 : decode cX5_init 17 = .ok (.aload_n 0, 1) := by decide +kernel
theorem dX5_init_18 : decode cX5_init 18 = .ok (.bipush 8, 2) := by decide +kernel
theorem dX5_init_20 : decode cX5_init 20 = .ok (.iload_n 2, 1) := by decide +kernel
theorem dX5_init_21 : decode cX5_init 21 = .ok (.imul, 1) := by decide +kernel
theorem dX5_init_22 : decode cX5_init 22 = .ok (.putfield 21, 3) := by decide +kernel
theorem dX5_init_25 : decode cX5_init 25 = .ok (.aload_n 0, 1) := by decide +kernel
theorem dX5_init_26 : decode cX5_init 26 = .ok (.aload_n 0, 1) := by decide +kernel
theorem dX5_init_27 : decode cX5_init 27 = .ok (.getfield 21, 3) := by decide +kernel
theorem dX5_init_30 : decode cX5_init 30 = .ok (.bipush 11, 2) := by decide +kernel
theorem dX5_init_32 : decode cX5_init 32 = .ok (.idiv, 1) := by decide +kernel
theorem dX5_init_33 : decode cX5_init 33 = .ok (.newarray .int, 2) := by decide +kernel
theorem dX5_init_35 : decode cX5_init 35 = .ok (.putfield 25, 3) := by decide +kernel
theorem dX5_init_38 : decode cX5_init 38 = .ok (.return_, 1) := by decide +kernel
theorem dX5_sizeOf_0 : decode cX5_sizeOf 0 = .ok (.iload_n 0, 1) := by decide +kernel
theorem dX5_sizeOf_1 : decode cX5_sizeOf 1 = .ok (.bipush 8, 2) := by decide +kernel
theorem dX5_sizeOf_3 : decode cX5_sizeOf 3 = .ok (.if_icmp .gt 9, 3) := by decide +kernel
theorem dX5_sizeOf_6 : decode cX5_sizeOf 6 = .ok (.sipush 1060, 3) := by decide +kernel
theorem dX5_sizeOf_9 : decode cX5_sizeOf 9 = .ok (.goto 18, 3) := by decide +kernel
theorem dX5_sizeOf_12 : decode cX5_sizeOf 12 = .ok (.iload_n 0, 1) := by decide +kernel
theorem dX5_sizeOf_13 : decode cX5_sizeOf 13 = .ok (.bipush 12, 2) := by decide +kernel
theorem dX5_sizeOf_15 : decode cX5_sizeOf 15 = .ok (.if_icmp .gt 9, 3) := by decide +kernel
theorem dX5_sizeOf_18 : decode cX5_sizeOf 18 = .ok (.sipush 940, 3) := by decide +kernel
theorem dX5_sizeOf_21 : decode cX5_sizeOf 21 = .ok (.goto 6, 3) := by decide +kernel
theorem dX5_sizeOf_24 : decode cX5_sizeOf 24 = .ok (.sipush 830, 3) := by decide +kernel
theorem dX5_sizeOf_27 : decode cX5_sizeOf 27 = .ok (.ireturn, 1) := by decide +kernel
theorem dX5_hasByte_0 : decode cX5_hasByte 0 = .ok (.iload_n 1, 1) := by decide +kernel
theorem dX5_hasByte_1 : decode cX5_hasByte 1 = .ok (.ifCond .lt 16, 3) := by decide +kernel
theorem dX5_hasByte_4 : decode cX5_hasByte 4 = .ok (.iload_n 1, 1) := by decide +kernel
theorem dX5_hasByte_5 : decode cX5_hasByte 5 = .ok (.aload_n 0, 1) := by decide +kernel
theorem dX5_hasByte_6 : decode cX5_hasByte 6 = .ok (.getfield 15, 3) := by decide +kernel
theorem dX5_hasByte_9 : decode cX5_hasByte 9 = .ok (.arraylength, 1) := by decide +kernel
theorem dX5_hasByte_10 : decode cX5_hasByte 10 = .ok (.if_icmp .ge 7, 3) := by decide +kernel
theorem dX5_hasByte_13 : decode cX5_hasByte 13 = .ok (.iconst 1, 1) := by decide +kernel
theorem dX5_hasByte_14 : decode cX5_hasByte 14 = .ok (.goto 4, 3) := by decide +kernel
theorem dX5_hasByte_17 : decode cX5_hasByte 17 = .ok (.iconst 0, 1) := by decide +kernel
theorem dX5_hasByte_18 : decode cX5_hasByte 18 = .ok (.ireturn, 1) := by decide +kernel
theorem dX5_byteAt_0 : decode cX5_byteAt 0 = .ok (.aload_n 0, 1) := by decide +kernel
theorem dX5_byteAt_1 : decode cX5_byteAt 1 = .ok (.iload_n 1, 1) := by decide +kernel
theorem dX5_byteAt_2 : decode cX5_byteAt 2 = .ok (.invokevirtual 28, 3) := by decide +kernel
theorem dX5_byteAt_5 : decode cX5_byteAt 5 = .ok (.ifCond .eq 12, 3) := by decide +kernel
theorem dX5_byteAt_8 : decode cX5_byteAt 8 = .ok (.aload_n 0, 1) := by decide +kernel
theorem dX5_byteAt_9 : decode cX5_byteAt 9 = .ok (.getfield 15, 3) := by decide +kernel
theorem dX5_byteAt_12 : decode cX5_byteAt 12 = .ok (.iload_n 1, 1) := by decide +kernel
theorem dX5_byteAt_13 : decode cX5_byteAt 13 = .ok (.iaload, 1) := by decide +kernel
theorem dX5_byteAt_14 : decode cX5_byteAt 14 = .ok (.goto 4, 3) := by decide +kernel
theorem dX5_byteAt_17 : decode cX5_byteAt 17 = .ok (.iconst 0, 1) := by decide +kernel
theorem dX5_byteAt_18 : decode cX5_byteAt 18 = .ok (.ireturn, 1) := by decide +kernel
theorem dX5_startOf_0 : decode cX5_startOf 0 = .ok (.iload_n 1, 1) := by decide +kernel
theorem dX5_startOf_1 : decode cX5_startOf 1 = .ok (.ifCond .lt 20, 3) := by decide +kernel
theorem dX5_startOf_4 : decode cX5_startOf 4 = .ok (.iload_n 1, 1) := by decide +kernel
theorem dX5_startOf_5 : decode cX5_startOf 5 = .ok (.aload_n 0, 1) := by decide +kernel
theorem dX5_startOf_6 : decode cX5_startOf 6 = .ok (.getfield 32, 3) := by decide +kernel
theorem dX5_startOf_9 : decode cX5_startOf 9 = .ok (.if_icmp .ge 12, 3) := by decide +kernel
theorem dX5_startOf_12 : decode cX5_startOf 12 = .ok (.aload_n 0, 1) := by decide +kernel
theorem dX5_startOf_13 : decode cX5_startOf 13 = .ok (.getfield 25, 3) := by decide +kernel
theorem dX5_startOf_16 : decode cX5_startOf 16 = .ok (.iload_n 1, 1) := by decide +kernel
theorem dX5_startOf_17 : decode cX5_startOf 17 = .ok (.iaload, 1) := by decide +kernel
theorem dX5_startOf_18 : decode cX5_startOf 18 = .ok (.goto 4, 3) := by decide +kernel
theorem dX5_startOf_21 : decode cX5_startOf 21 = .ok (.iconst 0, 1) := by decide +kernel
theorem dX5_startOf_22 : decode cX5_startOf 22 = .ok (.ireturn, 1) := by decide +kernel
theorem dX5_putBits_0 : decode cX5_putBits 0 = .ok (.iload_n 1, 1) := by decide +kernel
theorem dX5_putBits_1 : decode cX5_putBits 1 = .ok (.aload_n 0, 1) := by decide +kernel
theorem dX5_putBits_2 : decode cX5_putBits 2 = .ok (.getfield 21, 3) := by decide +kernel
theorem dX5_putBits_5 : decode cX5_putBits 5 = .ok (.irem, 1) := by decide +kernel
theorem dX5_putBits_6 : decode cX5_putBits 6 = .ok (.istore 4, 2) := by decide +kernel
theorem dX5_putBits_8 : decode cX5_putBits 8 = .ok (.iload 4, 2) := by decide +kernel
theorem dX5_putBits_10 : decode cX5_putBits 10 = .ok (.bipush 8, 2) := by decide +kernel
theorem dX5_putBits_12 : decode cX5_putBits 12 = .ok (.idiv, 1) := by decide +kernel
theorem dX5_putBits_13 : decode cX5_putBits 13 = .ok (.istore 5, 2) := by decide +kernel
theorem dX5_putBits_15 : decode cX5_putBits 15 = .ok (.iload 5, 2) := by decide +kernel
theorem dX5_putBits_17 : decode cX5_putBits 17 = .ok (.iconst 1, 1) := by decide +kernel
theorem dX5_putBits_18 : decode cX5_putBits 18 = .ok (.iadd, 1) := by decide +kernel
theorem dX5_putBits_19 : decode cX5_putBits 19 = .ok (.aload_n 0, 1) := by decide +kernel
theorem dX5_putBits_20 : decode cX5_putBits 20 = .ok (.getfield 15, 3) := by decide +kernel
theorem dX5_putBits_23 : decode cX5_putBits 23 = .ok (.arraylength, 1) := by decide +kernel
theorem dX5_putBits_24 : decode cX5_putBits 24 = .ok (.irem, 1) := by decide +kernel
theorem dX5_putBits_25 : decode cX5_putBits 25 = .ok (.istore 6, 2) := by decide +kernel
theorem dX5_putBits_27 : decode cX5_putBits 27 = .ok (.iload 5, 2) := by decide +kernel
theorem dX5_putBits_29 : decode cX5_putBits 29 = .ok (.iconst 2, 1) := by decide +kernel
theorem dX5_putBits_30 : decode cX5_putBits 30 = .ok (.iadd, 1) := by decide +kernel
theorem dX5_putBits_31 : decode cX5_putBits 31 = .ok (.aload_n 0, 1) := by decide +kernel
theorem dX5_putBits_32 : decode cX5_putBits 32 = .ok (.getfield 15, 3) := by decide +kernel
theorem dX5_putBits_35 : decode cX5_putBits 35 = .ok (.arraylength, 1) := by decide +kernel
theorem dX5_putBits_36 : decode cX5_putBits 36 = .ok (.irem, 1) := by decide +kernel
theorem dX5_putBits_37 : decode cX5_putBits 37 = .ok (.istore 7, 2) := by decide +kernel
theorem dX5_putBits_39 : decode cX5_putBits 39 = .ok (.bipush 24, 2) := by decide +kernel
theorem dX5_putBits_41 : decode cX5_putBits 41 = .ok (.iload 4, 2) := by decide +kernel
theorem dX5_putBits_43 : decode cX5_putBits 43 = .ok (.bipush 8, 2) := by decide +kernel
theorem dX5_putBits_45 : decode cX5_putBits 45 = .ok (.irem, 1) := by decide +kernel
theorem dX5_putBits_46 : decode cX5_putBits 46 = .ok (.isub, 1) := by decide +kernel
theorem dX5_putBits_47 : decode cX5_putBits 47 = .ok (.iload_n 2, 1) := by decide +kernel
theorem dX5_putBits_48 : decode cX5_putBits 48 = .ok (.isub, 1) := by decide +kernel
theorem dX5_putBits_49 : decode cX5_putBits 49 = .ok (.istore 8, 2) := by decide +kernel
theorem dX5_putBits_51 : decode cX5_putBits 51 = .ok (.iconst 1, 1) := by decide +kernel
theorem dX5_putBits_52 : decode cX5_putBits 52 = .ok (.iload_n 2, 1) := by decide +kernel
theorem dX5_putBits_53 : decode cX5_putBits 53 = .ok (.ishl, 1) := by decide +kernel
theorem dX5_putBits_54 : decode cX5_putBits 54 = .ok (.iconst 1, 1) := by decide +kernel
theorem dX5_putBits_55 : decode cX5_putBits 55 = .ok (.isub, 1) := by decide +kernel
theorem dX5_putBits_56 : decode cX5_putBits 56 = .ok (.iload 8, 2) := by decide +kernel
theorem dX5_putBits_58 : decode cX5_putBits 58 = .ok (.ishl, 1) := by decide +kernel
theorem dX5_putBits_59 : decode cX5_putBits 59 = .ok (.istore 9, 2) := by decide +kernel
theorem dX5_putBits_61 : decode cX5_putBits 61 = .ok (.aload_n 0, 1) := by decide +kernel
theorem dX5_putBits_62 : decode cX5_putBits 62 = .ok (.getfield 15, 3) := by decide +kernel
theorem dX5_putBits_65 : decode cX5_putBits 65 = .ok (.iload 5, 2) := by decide +kernel
theorem dX5_putBits_67 : decode cX5_putBits 67 = .ok (.iaload, 1) := by decide +kernel
theorem dX5_putBits_68 : decode cX5_putBits 68 = .ok (.bipush 16, 2) := by decide +kernel
theorem dX5_putBits_70 : decode cX5_putBits 70 = .ok (.ishl, 1) := by decide +kernel
theorem dX5_putBits_71 : decode cX5_putBits 71 = .ok (.aload_n 0, 1) := by decide +kernel
theorem dX5_putBits_72 : decode cX5_putBits 72 = .ok (.getfield 15, 3) := by decide +kernel
theorem dX5_putBits_75 : decode cX5_putBits 75 = .ok (.iload 6, 2) := by decide +kernel
theorem dX5_putBits_77 : decode cX5_putBits 77 = .ok (.iaload, 1) := by decide +kernel
theorem dX5_putBits_78 : decode cX5_putBits 78 = .ok (.bipush 8, 2) := by decide +kernel
theorem dX5_putBits_80 : decode cX5_putBits 80 = .ok (.ishl, 1) := by decide +kernel
theorem dX5_putBits_81 : decode cX5_putBits 81 = .ok (.ior, 1) := by decide +kernel
theorem dX5_putBits_82 : decode cX5_putBits 82 = .ok (.aload_n 0, 1) := by decide +kernel
theorem dX5_putBits_83 : decode cX5_putBits 83 = .ok (.getfield 15, 3) := by decide +kernel
theorem dX5_putBits_86 : decode cX5_putBits 86 = .ok (.iload 7, 2) := by decide +kernel
theorem dX5_putBits_88 : decode cX5_putBits 88 = .ok (.iaload, 1) := by decide +kernel
theorem dX5_putBits_89 : decode cX5_putBits 89 = .ok (.ior, 1) := by decide +kernel
theorem dX5_putBits_90 : decode cX5_putBits 90 = .ok (.iload 9, 2) := by decide +kernel
theorem dX5_putBits_92 : decode cX5_putBits 92 = .ok (.iconst (-1), 1) := by decide +kernel
theorem dX5_putBits_93 : decode cX5_putBits 93 = .ok (.ixor, 1) := by decide +kernel
theorem dX5_putBits_94 : decode cX5_putBits 94 = .ok (.iand, 1) := by decide +kernel
theorem dX5_putBits_95 : decode cX5_putBits 95 = .ok (.iload_n 3, 1) := by decide +kernel
theorem dX5_putBits_96 : decode cX5_putBits 96 = .ok (.iload 8, 2) := by decide +kernel
theorem dX5_putBits_98 : decode cX5_putBits 98 = .ok (.ishl, 1) := by decide +kernel
theorem dX5_putBits_99 : decode cX5_putBits 99 = .ok (.iload 9, 2) := by decide +kernel
theorem dX5_putBits_101 : decode cX5_putBits 101 = .ok (.iand, 1) := by decide +kernel
theorem dX5_putBits_102 : decode cX5_putBits 102 = .ok (.ior, 1) := by decide +kernel
theorem dX5_putBits_103 : decode cX5_putBits 103 = .ok (.istore 10, 2) := by decide +kernel
theorem dX5_putBits_105 : decode cX5_putBits 105 = .ok (.aload_n 0, 1) := by decide +kernel
theorem dX5_putBits_106 : decode cX5_putBits 106 = .ok (.getfield 15, 3) := by decide +kernel
theorem dX5_putBits_109 : decode cX5_putBits 109 = .ok (.iload 5, 2) := by decide +kernel
theorem dX5_putBits_111 : decode cX5_putBits 111 = .ok (.iload 10, 2) := by decide +kernel
theorem dX5_putBits_113 : decode cX5_putBits 113 = .ok (.bipush 16, 2) := by decide +kernel
theorem dX5_putBits_115 : decode cX5_putBits 115 = .ok (.ishr, 1) := by decide +kernel
theorem dX5_putBits_116 : decode cX5_putBits 116 = .ok (.sipush 255, 3) := by decide +kernel
theorem dX5_putBits_119 : decode cX5_putBits 119 = .ok (.iand, 1) := by decide +kernel
theorem dX5_putBits_120 : decode cX5_putBits 120 = .ok (.iastore, 1) := by decide +kernel
theorem dX5_putBits_121 : decode cX5_putBits 121 = .ok (.aload_n 0, 1) := by decide +kernel
theorem dX5_putBits_122 : decode cX5_putBits 122 = .ok (.getfield 15, 3) := by decide +kernel
theorem dX5_putBits_125 : decode cX5_putBits 125 = .ok (.iload 6, 2) := by decide +kernel
theorem dX5_putBits_127 : decode cX5_putBits 127 = .ok (.iload 10, 2) := by decide +kernel
theorem dX5_putBits_129 : decode cX5_putBits 129 = .ok (.bipush 8, 2) := by decide +kernel
theorem dX5_putBits_131 : decode cX5_putBits 131 = .ok (.ishr, 1) := by decide +kernel
theorem dX5_putBits_132 : decode cX5_putBits 132 = .ok (.sipush 255, 3) := by decide +kernel
theorem dX5_putBits_135 : decode cX5_putBits 135 = .ok (.iand, 1) := by decide +kernel
theorem dX5_putBits_136 : decode cX5_putBits 136 = .ok (.iastore, 1) := by decide +kernel
theorem dX5_putBits_137 : decode cX5_putBits 137 = .ok (.aload_n 0, 1) := by decide +kernel
theorem dX5_putBits_138 : decode cX5_putBits 138 = .ok (.getfield 15, 3) := by decide +kernel
theorem dX5_putBits_141 : decode cX5_putBits 141 = .ok (.iload 7, 2) := by decide +kernel
theorem dX5_putBits_143 : decode cX5_putBits 143 = .ok (.iload 10, 2) := by decide +kernel
theorem dX5_putBits_145 : decode cX5_putBits 145 = .ok (.sipush 255, 3) := by decide +kernel
theorem dX5_putBits_148 : decode cX5_putBits 148 = .ok (.iand, 1) := by decide +kernel
theorem dX5_putBits_149 : decode cX5_putBits 149 = .ok (.iastore, 1) := by decide +kernel
theorem dX5_putBits_150 : decode cX5_putBits 150 = .ok (.aload_n 0, 1) := by decide +kernel
theorem dX5_putBits_151 : decode cX5_putBits 151 = .ok (.iconst 0, 1) := by decide +kernel
theorem dX5_putBits_152 : decode cX5_putBits 152 = .ok (.putfield 35, 3) := by decide +kernel
theorem dX5_putBits_155 : decode cX5_putBits 155 = .ok (.return_, 1) := by decide +kernel
theorem dX5_putCoded_0 : decode cX5_putCoded 0 = .ok (.aload_n 0, 1) := by decide +kernel
theorem dX5_putCoded_1 : decode cX5_putCoded 1 = .ok (.iload_n 1, 1) := by decide +kernel
theorem dX5_putCoded_2 : decode cX5_putCoded 2 = .ok (.bipush 10, 2) := by decide +kernel
theorem dX5_putCoded_4 : decode cX5_putCoded 4 = .ok (.getstatic 39, 3) := by decide +kernel
theorem dX5_putCoded_7 : decode cX5_putCoded 7 = .ok (.iload_n 2, 1) := by decide +kernel
theorem dX5_putCoded_8 : decode cX5_putCoded 8 = .ok (.iconst 4, 1) := by decide +kernel
theorem dX5_putCoded_9 : decode cX5_putCoded 9 = .ok (.ishr, 1) := by decide +kernel
theorem dX5_putCoded_10 : decode cX5_putCoded 10 = .ok (.bipush 15, 2) := by decide +kernel
theorem dX5_putCoded_12 : decode cX5_putCoded 12 = .ok (.iand, 1) := by decide +kernel
theorem dX5_putCoded_13 : decode cX5_putCoded 13 = .ok (.iaload, 1) := by decide +kernel
theorem dX5_putCoded_14 : decode cX5_putCoded 14 = .ok (.iconst 5, 1) := by decide +kernel
theorem dX5_putCoded_15 : decode cX5_putCoded 15 = .ok (.ishl, 1) := by decide +kernel
theorem dX5_putCoded_16 : decode cX5_putCoded 16 = .ok (.getstatic 39, 3) := by decide +kernel
theorem dX5_putCoded_19 : decode cX5_putCoded 19 = .ok (.iload_n 2, 1) := by decide +kernel
theorem dX5_putCoded_20 : decode cX5_putCoded 20 = .ok (.bipush 15, 2) := by decide +kernel
theorem dX5_putCoded_22 : decode cX5_putCoded 22 = .ok (.iand, 1) := by decide +kernel
theorem dX5_putCoded_23 : decode cX5_putCoded 23 = .ok (.iaload, 1) := by decide +kernel
theorem dX5_putCoded_24 : decode cX5_putCoded 24 = .ok (.ior, 1) := by decide +kernel
theorem dX5_putCoded_25 : decode cX5_putCoded 25 = .ok (.invokevirtual 42, 3) := by decide +kernel
theorem dX5_putCoded_28 : decode cX5_putCoded 28 = .ok (.return_, 1) := by decide +kernel
theorem dX5_putSync_0 : decode cX5_putSync 0 = .ok (.iconst 0, 1) := by decide +kernel
theorem dX5_putSync_1 : decode cX5_putSync 1 = .ok (.istore_n 2, 1) := by decide +kernel
theorem dX5_putSync_2 : decode cX5_putSync 2 = .ok (.iload_n 2, 1) := by decide +kernel
theorem dX5_putSync_3 : decode cX5_putSync 3 = .ok (.iconst 5, 1) := by decide +kernel
theorem dX5_putSync_4 : decode cX5_putSync 4 = .ok (.if_icmp .ge 24, 3) := by decide +kernel
theorem dX5_putSync_7 : decode cX5_putSync 7 = .ok (.aload_n 0, 1) := by decide +kernel
theorem dX5_putSync_8 : decode cX5_putSync 8 = .ok (.iload_n 1, 1) := by decide +kernel
theorem dX5_putSync_9 : decode cX5_putSync 9 = .ok (.bipush 8, 2) := by decide +kernel
theorem dX5_putSync_11 : decode cX5_putSync 11 = .ok (.iload_n 2, 1) := by decide +kernel
theorem dX5_putSync_12 : decode cX5_putSync 12 = .ok (.imul, 1) := by decide +kernel
theorem dX5_putSync_13 : decode cX5_putSync 13 = .ok (.iadd, 1) := by decide +kernel
theorem dX5_putSync_14 : decode cX5_putSync 14 = .ok (.bipush 8, 2) := by decide +kernel
theorem dX5_putSync_16 : decode cX5_putSync 16 = .ok (.sipush 255, 3) := by decide +kernel
theorem dX5_putSync_19 : decode cX5_putSync 19 = .ok (.invokevirtual 42, 3) := by decide +kernel
theorem dX5_putSync_22 : decode cX5_putSync 22 = .ok (.iinc 2 1, 3) := by decide +kernel
theorem dX5_putSync_25 : decode cX5_putSync 25 = .ok (.goto (-23), 3) := by decide +kernel
theorem dX5_putSync_28 : decode cX5_putSync 28 = .ok (.return_, 1) := by decide +kernel
theorem dX5_codedAt_0 : decode cX5_codedAt 0 = .ok (.iload_n 1, 1) := by decide +kernel
theorem dX5_codedAt_1 : decode cX5_codedAt 1 = .ok (.aload_n 0, 1) := by decide +kernel
theorem dX5_codedAt_2 : decode cX5_codedAt 2 = .ok (.getfield 21, 3) := by decide +kernel
theorem dX5_codedAt_5 : decode cX5_codedAt 5 = .ok (.irem, 1) := by decide +kernel
theorem dX5_codedAt_6 : decode cX5_codedAt 6 = .ok (.istore_n 2, 1) := by decide +kernel
theorem dX5_codedAt_7 : decode cX5_codedAt 7 = .ok (.iload_n 2, 1) := by decide +kernel
theorem dX5_codedAt_8 : decode cX5_codedAt 8 = .ok (.bipush 8, 2) := by decide +kernel
theorem dX5_codedAt_10 : decode cX5_codedAt 10 = .ok (.idiv, 1) := by decide +kernel
theorem dX5_codedAt_11 : decode cX5_codedAt 11 = .ok (.istore_n 3, 1) := by decide +kernel
theorem dX5_codedAt_12 : decode cX5_codedAt 12 = .ok (.iload_n 3, 1) := by decide +kernel
theorem dX5_codedAt_13 : decode cX5_codedAt 13 = .ok (.iconst 1, 1) := by decide +kernel
theorem dX5_codedAt_14 : decode cX5_codedAt 14 = .ok (.iadd, 1) := by decide +kernel
theorem dX5_codedAt_15 : decode cX5_codedAt 15 = .ok (.aload_n 0, 1) := by decide +kernel
theorem dX5_codedAt_16 : decode cX5_codedAt 16 = .ok (.getfield 15, 3) := by decide +kernel
theorem dX5_codedAt_19 : decode cX5_codedAt 19 = .ok (.arraylength, 1) := by decide +kernel
theorem dX5_codedAt_20 : decode cX5_codedAt 20 = .ok (.irem, 1) := by decide +kernel
theorem dX5_codedAt_21 : decode cX5_codedAt 21 = .ok (.istore 4, 2) := by decide +kernel
theorem dX5_codedAt_23 : decode cX5_codedAt 23 = .ok (.iload_n 3, 1) := by decide +kernel
theorem dX5_codedAt_24 : decode cX5_codedAt 24 = .ok (.iconst 2, 1) := by decide +kernel
theorem dX5_codedAt_25 : decode cX5_codedAt 25 = .ok (.iadd, 1) := by decide +kernel
theorem dX5_codedAt_26 : decode cX5_codedAt 26 = .ok (.aload_n 0, 1) := by decide +kernel
theorem dX5_codedAt_27 : decode cX5_codedAt 27 = .ok (.getfield 15, 3) := by decide +kernel
theorem dX5_codedAt_30 : decode cX5_codedAt 30 = .ok (.arraylength, 1) := by decide +kernel
theorem dX5_codedAt_31 : decode cX5_codedAt 31 = .ok (.irem, 1) := by decide +kernel
theorem dX5_codedAt_32 : decode cX5_codedAt 32 = .ok (.istore 5, 2) := by decide +kernel
theorem dX5_codedAt_34 : decode cX5_codedAt 34 = .ok (.aload_n 0, 1) := by decide +kernel
theorem dX5_codedAt_35 : decode cX5_codedAt 35 = .ok (.getfield 15, 3) := by decide +kernel
theorem dX5_codedAt_38 : decode cX5_codedAt 38 = .ok (.iload_n 3, 1) := by decide +kernel
theorem dX5_codedAt_39 : decode cX5_codedAt 39 = .ok (.iaload, 1) := by decide +kernel
theorem dX5_codedAt_40 : decode cX5_codedAt 40 = .ok (.bipush 16, 2) := by decide +kernel
theorem dX5_codedAt_42 : decode cX5_codedAt 42 = .ok (.ishl, 1) := by decide +kernel
theorem dX5_codedAt_43 : decode cX5_codedAt 43 = .ok (.aload_n 0, 1) := by decide +kernel
theorem dX5_codedAt_44 : decode cX5_codedAt 44 = .ok (.getfield 15, 3) := by decide +kernel
theorem dX5_codedAt_47 : decode cX5_codedAt 47 = .ok (.iload 4, 2) := by decide +kernel
theorem dX5_codedAt_49 : decode cX5_codedAt 49 = .ok (.iaload, 1) := by decide +kernel
theorem dX5_codedAt_50 : decode cX5_codedAt 50 = .ok (.bipush 8, 2) := by decide +kernel
theorem dX5_codedAt_52 : decode cX5_codedAt 52 = .ok (.ishl, 1) := by decide +kernel
theorem dX5_codedAt_53 : decode cX5_codedAt 53 = .ok (.ior, 1) := by decide +kernel
theorem dX5_codedAt_54 : decode cX5_codedAt 54 = .ok (.aload_n 0, 1) := by decide +kernel
theorem dX5_codedAt_55 : decode cX5_codedAt 55 = .ok (.getfield 15, 3) := by decide +kernel
theorem dX5_codedAt_58 : decode cX5_codedAt 58 = .ok (.iload 5, 2) := by decide +kernel
theorem dX5_codedAt_60 : decode cX5_codedAt 60 = .ok (.iaload, 1) := by decide +kernel
theorem dX5_codedAt_61 : decode cX5_codedAt 61 = .ok (.ior, 1) := by decide +kernel
theorem dX5_codedAt_62 : decode cX5_codedAt 62 = .ok (.istore 6, 2) := by decide +kernel
theorem dX5_codedAt_64 : decode cX5_codedAt 64 = .ok (.iload 6, 2) := by decide +kernel
theorem dX5_codedAt_66 : decode cX5_codedAt 66 = .ok (.bipush 14, 2) := by decide +kernel
theorem dX5_codedAt_68 : decode cX5_codedAt 68 = .ok (.iload_n 2, 1) := by decide +kernel
theorem dX5_codedAt_69 : decode cX5_codedAt 69 = .ok (.bipush 8, 2) := by decide +kernel
theorem dX5_codedAt_71 : decode cX5_codedAt 71 = .ok (.irem, 1) := by decide +kernel
theorem dX5_codedAt_72 : decode cX5_codedAt 72 = .ok (.isub, 1) := by decide +kernel
theorem dX5_codedAt_73 : decode cX5_codedAt 73 = .ok (.ishr, 1) := by decide +kernel
theorem dX5_codedAt_74 : decode cX5_codedAt 74 = .ok (.sipush 1023, 3) := by decide +kernel
theorem dX5_codedAt_77 : decode cX5_codedAt 77 = .ok (.iand, 1) := by decide +kernel
theorem dX5_codedAt_78 : decode cX5_codedAt 78 = .ok (.istore 7, 2) := by decide +kernel
theorem dX5_codedAt_80 : decode cX5_codedAt 80 = .ok (.getstatic 46, 3) := by decide +kernel
theorem dX5_codedAt_83 : decode cX5_codedAt 83 = .ok (.iload 7, 2) := by decide +kernel
theorem dX5_codedAt_85 : decode cX5_codedAt 85 = .ok (.iconst 5, 1) := by decide +kernel
theorem dX5_codedAt_86 : decode cX5_codedAt 86 = .ok (.ishr, 1) := by decide +kernel
theorem dX5_codedAt_87 : decode cX5_codedAt 87 = .ok (.iaload, 1) := by decide +kernel
theorem dX5_codedAt_88 : decode cX5_codedAt 88 = .ok (.istore 8, 2) := by decide +kernel
theorem dX5_codedAt_90 : decode cX5_codedAt 90 = .ok (.getstatic 46, 3) := by decide +kernel
theorem dX5_codedAt_93 : decode cX5_codedAt 93 = .ok (.iload 7, 2) := by decide +kernel
theorem dX5_codedAt_95 : decode cX5_codedAt 95 = .ok (.bipush 31, 2) := by decide +kernel
theorem dX5_codedAt_97 : decode cX5_codedAt 97 = .ok (.iand, 1) := by decide +kernel
theorem dX5_codedAt_98 : decode cX5_codedAt 98 = .ok (.iaload, 1) := by decide +kernel
theorem dX5_codedAt_99 : decode cX5_codedAt 99 = .ok (.istore 9, 2) := by decide +kernel
theorem dX5_codedAt_101 : decode cX5_codedAt 101 = .ok (.iload 8, 2) := by decide +kernel
theorem dX5_codedAt_103 : decode cX5_codedAt 103 = .ok (.iconst (-1), 1) := by decide +kernel
theorem dX5_codedAt_104 : decode cX5_codedAt 104 = .ok (.if_icmp .eq 9, 3) := by decide +kernel
theorem dX5_codedAt_107 : decode cX5_codedAt 107 = .ok (.iload 9, 2) := by decide +kernel
theorem dX5_codedAt_109 : decode cX5_codedAt 109 = .ok (.iconst (-1), 1) := by decide +kernel
theorem dX5_codedAt_110 : decode cX5_codedAt 110 = .ok (.if_icmp .ne 7, 3) := by decide +kernel
theorem dX5_codedAt_113 : decode cX5_codedAt 113 = .ok (.iconst (-1), 1) := by decide +kernel
theorem dX5_codedAt_114 : decode cX5_codedAt 114 = .ok (.goto 10, 3) := by decide +kernel
theorem dX5_codedAt_117 : decode cX5_codedAt 117 = .ok (.iload 8, 2) := by decide +kernel
theorem dX5_codedAt_119 : decode cX5_codedAt 119 = .ok (.iconst 4, 1) := by decide +kernel
theorem dX5_codedAt_120 : decode cX5_codedAt 120 = .ok (.ishl, 1) := by decide +kernel
theorem dX5_codedAt_121 : decode cX5_codedAt 121 = .ok (.iload 9, 2) := by decide +kernel
theorem dX5_codedAt_123 : decode cX5_codedAt 123 = .ok (.ior, 1) := by decide +kernel
theorem dX5_codedAt_124 : decode cX5_codedAt 124 = .ok (.ireturn, 1) := by decide +kernel
theorem dX5_findSyncs_0 : decode cX5_findSyncs 0 = .ok (.aload_n 0, 1) := by decide +kernel
theorem dX5_findSyncs_1 : decode cX5_findSyncs 1 = .ok (.getfield 35, 3) := by decide +kernel
theorem dX5_findSyncs_4 : decode cX5_findSyncs 4 = .ok (.ifCond .eq 8, 3) := by decide +kernel
theorem dX5_findSyncs_7 : decode cX5_findSyncs 7 = .ok (.aload_n 0, 1) := by decide +kernel
theorem dX5_findSyncs_8 : decode cX5_findSyncs 8 = .ok (.getfield 32, 3) := by decide +kernel
theorem dX5_findSyncs_11 : decode cX5_findSyncs 11 = .ok (.ireturn, 1) := by decide +kernel
theorem dX5_findSyncs_12 : decode cX5_findSyncs 12 = .ok (.aload_n 0, 1) := by decide +kernel
theorem dX5_findSyncs_13 : decode cX5_findSyncs 13 = .ok (.iconst 0, 1) := by decide +kernel
theorem dX5_findSyncs_14 : decode cX5_findSyncs 14 = .ok (.putfield 32, 3) := by decide +kernel
theorem dX5_findSyncs_17 : decode cX5_findSyncs 17 = .ok (.aload_n 0, 1) := by decide +kernel
theorem dX5_findSyncs_18 : decode cX5_findSyncs 18 = .ok (.getfield 15, 3) := by decide +kernel
theorem dX5_findSyncs_21 : decode cX5_findSyncs 21 = .ok (.aload_n 0, 1) := by decide +kernel
theorem dX5_findSyncs_22 : decode cX5_findSyncs 22 = .ok (.getfield 15, 3) := by decide +kernel
theorem dX5_findSyncs_25 : decode cX5_findSyncs 25 = .ok (.arraylength, 1) := by decide +kernel
theorem dX5_findSyncs_26 : decode cX5_findSyncs 26 = .ok (.iconst 2, 1) := by decide +kernel
theorem dX5_findSyncs_27 : decode cX5_findSyncs 27 = .ok (.isub, 1) := by decide +kernel
theorem dX5_findSyncs_28 : decode cX5_findSyncs 28 = .ok (.iaload, 1) := by decide +kernel
theorem dX5_findSyncs_29 : decode cX5_findSyncs 29 = .ok (.bipush 8, 2) := by decide +kernel
theorem dX5_findSyncs_31 : decode cX5_findSyncs 31 = .ok (.ishl, 1) := by decide +kernel
theorem dX5_findSyncs_32 : decode cX5_findSyncs 32 = .ok (.aload_n 0, 1) := by decide +kernel
theorem dX5_findSyncs_33 : decode cX5_findSyncs 33 = .ok (.getfield 15, 3) := by decide +kernel
theorem dX5_findSyncs_36 : decode cX5_findSyncs 36 = .ok (.aload_n 0, 1) := by decide +kernel
theorem dX5_findSyncs_37 : decode cX5_findSyncs 37 = .ok (.getfield 15, 3) := by decide +kernel
theorem dX5_findSyncs_40 : decode cX5_findSyncs 40 = .ok (.arraylength, 1) := by decide +kernel
theorem dX5_findSyncs_41 : decode cX5_findSyncs 41 = .ok (.iconst 1, 1) := by decide +kernel
theorem dX5_findSyncs_42 : decode cX5_findSyncs 42 = .ok (.isub, 1) := by decide +kernel
theorem dX5_findSyncs_43 : decode cX5_findSyncs 43 = .ok (.iaload, 1) := by decide +kernel
theorem dX5_findSyncs_44 : decode cX5_findSyncs 44 = .ok (.ior, 1) := by decide +kernel
theorem dX5_findSyncs_45 : decode cX5_findSyncs 45 = .ok (.istore_n 1, 1) := by decide +kernel
theorem dX5_findSyncs_46 : decode cX5_findSyncs 46 = .ok (.iconst 0, 1) := by decide +kernel
theorem dX5_findSyncs_47 : decode cX5_findSyncs 47 = .ok (.istore_n 2, 1) := by decide +kernel
theorem dX5_findSyncs_48 : decode cX5_findSyncs 48 = .ok (.iload_n 2, 1) := by decide +kernel
theorem dX5_findSyncs_49 : decode cX5_findSyncs 49 = .ok (.bipush 16, 2) := by decide +kernel
theorem dX5_findSyncs_51 : decode cX5_findSyncs 51 = .ok (.if_icmp .ge 18, 3) := by decide +kernel
theorem dX5_findSyncs_54 : decode cX5_findSyncs 54 = .ok (.iload_n 1, 1) := by decide +kernel
theorem dX5_findSyncs_55 : decode cX5_findSyncs 55 = .ok (.iload_n 2, 1) := by decide +kernel
theorem dX5_findSyncs_56 : decode cX5_findSyncs 56 = .ok (.ishr, 1) := by decide +kernel
theorem dX5_findSyncs_57 : decode cX5_findSyncs 57 = .ok (.iconst 1, 1) := by decide +kernel
theorem dX5_findSyncs_58 : decode cX5_findSyncs 58 = .ok (.iand, 1) := by decide +kernel
theorem dX5_findSyncs_59 : decode cX5_findSyncs 59 = .ok (.iconst 1, 1) := by decide +kernel
theorem dX5_findSyncs_60 : decode cX5_findSyncs 60 = .ok (.if_icmp .ne 9, 3) := by decide +kernel
theorem dX5_findSyncs_63 : decode cX5_findSyncs 63 = .ok (.iinc 2 1, 3) := by decide +kernel
theorem dX5_findSyncs_66 : decode cX5_findSyncs 66 = .ok (.goto (-18), 3) := by decide +kernel
theorem dX5_findSyncs_69 : decode cX5_findSyncs 69 = .ok (.iconst 0, 1) := by decide +kernel
theorem dX5_findSyncs_70 : decode cX5_findSyncs 70 = .ok (.istore_n 3, 1) := by decide +kernel
theorem dX5_findSyncs_71 : decode cX5_findSyncs 71 = .ok (.iload_n 3, 1) := by decide +kernel
theorem dX5_findSyncs_72 : decode cX5_findSyncs 72 = .ok (.aload_n 0, 1) := by decide +kernel
theorem dX5_findSyncs_73 : decode cX5_findSyncs 73 = .ok (.getfield 15, 3) := by decide +kernel
theorem dX5_findSyncs_76 : decode cX5_findSyncs 76 = .ok (.arraylength, 1) := by decide +kernel
theorem dX5_findSyncs_77 : decode cX5_findSyncs 77 = .ok (.if_icmp .ge 130, 3) := by decide +kernel
theorem dX5_findSyncs_80 : decode cX5_findSyncs 80 = .ok (.aload_n 0, 1) := by decide +kernel
theorem dX5_findSyncs_81 : decode cX5_findSyncs 81 = .ok (.getfield 15, 3) := by decide +kernel
theorem dX5_findSyncs_84 : decode cX5_findSyncs 84 = .ok (.iload_n 3, 1) := by decide +kernel
theorem dX5_findSyncs_85 : decode cX5_findSyncs 85 = .ok (.iaload, 1) := by decide +kernel
theorem dX5_findSyncs_86 : decode cX5_findSyncs 86 = .ok (.istore 4, 2) := by decide +kernel
theorem dX5_findSyncs_88 : decode cX5_findSyncs 88 = .ok (.iload 4, 2) := by decide +kernel
theorem dX5_findSyncs_90 : decode cX5_findSyncs 90 = .ok (.sipush 255, 3) := by decide +kernel
theorem dX5_findSyncs_93 : decode cX5_findSyncs 93 = .ok (.if_icmp .ne 9, 3) := by decide +kernel
theorem dX5_findSyncs_96 : decode cX5_findSyncs 96 = .ok (.iinc 2 8, 3) := by decide +kernel
theorem dX5_findSyncs_99 : decode cX5_findSyncs 99 = .ok (.goto 102, 3) := by decide +kernel
theorem dX5_findSyncs_102 : decode cX5_findSyncs 102 = .ok (.iconst 0, 1) := by decide +kernel
theorem dX5_findSyncs_103 : decode cX5_findSyncs 103 = .ok (.istore 5, 2) := by decide +kernel
theorem dX5_findSyncs_105 : decode cX5_findSyncs 105 = .ok (.iload 5, 2) := by decide +kernel
theorem dX5_findSyncs_107 : decode cX5_findSyncs 107 = .ok (.bipush 8, 2) := by decide +kernel
theorem dX5_findSyncs_109 : decode cX5_findSyncs 109 = .ok (.if_icmp .ge 21, 3) := by decide +kernel
theorem dX5_findSyncs_112 : decode cX5_findSyncs 112 = .ok (.iload 4, 2) := by decide +kernel
theorem dX5_findSyncs_114 : decode cX5_findSyncs 114 = .ok (.iload 5, 2) := by decide +kernel
theorem dX5_findSyncs_116 : decode cX5_findSyncs 116 = .ok (.ishl, 1) := by decide +kernel
theorem dX5_findSyncs_117 : decode cX5_findSyncs 117 = .ok (.sipush 128, 3) := by decide +kernel
theorem dX5_findSyncs_120 : decode cX5_findSyncs 120 = .ok (.iand, 1) := by decide +kernel
theorem dX5_findSyncs_121 : decode cX5_findSyncs 121 = .ok (.ifCond .eq 9, 3) := by decide +kernel
theorem dX5_findSyncs_124 : decode cX5_findSyncs 124 = .ok (.iinc 5 1, 3) := by decide +kernel
theorem dX5_findSyncs_127 : decode cX5_findSyncs 127 = .ok (.goto (-22), 3) := by decide +kernel
theorem dX5_findSyncs_130 : decode cX5_findSyncs 130 = .ok (.iload_n 2, 1) := by decide +kernel
theorem dX5_findSyncs_131 : decode cX5_findSyncs 131 = .ok (.iload 5, 2) := by decide +kernel
theorem dX5_findSyncs_133 : decode cX5_findSyncs 133 = .ok (.iadd, 1) := by decide +kernel
theorem dX5_findSyncs_134 : decode cX5_findSyncs 134 = .ok (.bipush 10, 2) := by decide +kernel
theorem dX5_findSyncs_136 : decode cX5_findSyncs 136 = .ok (.if_icmp .lt 41, 3) := by decide +kernel
theorem dX5_findSyncs_139 : decode cX5_findSyncs 139 = .ok (.aload_n 0, 1) := by decide +kernel
theorem dX5_findSyncs_140 : decode cX5_findSyncs 140 = .ok (.getfield 32, 3) := by decide +kernel
theorem dX5_findSyncs_143 : decode cX5_findSyncs 143 = .ok (.aload_n 0, 1) := by decide +kernel
theorem dX5_findSyncs_144 : decode cX5_findSyncs 144 = .ok (.getfield 25, 3) := by decide +kernel
theorem dX5_findSyncs_147 : decode cX5_findSyncs 147 = .ok (.arraylength, 1) := by decide +kernel
theorem dX5_findSyncs_148 : decode cX5_findSyncs 148 = .ok (.if_icmp .ge 29, 3) := by decide +kernel
theorem dX5_findSyncs_151 : decode cX5_findSyncs 151 = .ok (.aload_n 0, 1) := by decide +kernel
theorem dX5_findSyncs_152 : decode cX5_findSyncs 152 = .ok (.getfield 25, 3) := by decide +kernel
theorem dX5_findSyncs_155 : decode cX5_findSyncs 155 = .ok (.aload_n 0, 1) := by decide +kernel
theorem dX5_findSyncs_156 : decode cX5_findSyncs 156 = .ok (.getfield 32, 3) := by decide +kernel
theorem dX5_findSyncs_159 : decode cX5_findSyncs 159 = .ok (.bipush 8, 2) := by decide +kernel
theorem dX5_findSyncs_161 : decode cX5_findSyncs 161 = .ok (.iload_n 3, 1) := by decide +kernel
theorem dX5_findSyncs_162 : decode cX5_findSyncs 162 = .ok (.imul, 1) := by decide +kernel
theorem dX5_findSyncs_163 : decode cX5_findSyncs 163 = .ok (.iload 5, 2) := by decide +kernel
theorem dX5_findSyncs_165 : decode cX5_findSyncs 165 = .ok (.iadd, 1) := by decide +kernel
theorem dX5_findSyncs_166 : decode cX5_findSyncs 166 = .ok (.iastore, 1) := by decide +kernel
theorem dX5_findSyncs_167 : decode cX5_findSyncs 167 = .ok (.aload_n 0, 1) := by decide +kernel
theorem dX5_findSyncs_168 : decode cX5_findSyncs 168 = .ok (.dup, 1) := by decide +kernel
theorem dX5_findSyncs_169 : decode cX5_findSyncs 169 = .ok (.getfield 32, 3) := by decide +kernel
theorem dX5_findSyncs_172 : decode cX5_findSyncs 172 = .ok (.iconst 1, 1) := by decide +kernel
theorem dX5_findSyncs_173 : decode cX5_findSyncs 173 = .ok (.iadd, 1) := by decide +kernel
theorem dX5_findSyncs_174 : decode cX5_findSyncs 174 = .ok (.putfield 32, 3) := by decide +kernel
theorem dX5_findSyncs_177 : decode cX5_findSyncs 177 = .ok (.iconst 0, 1) := by decide +kernel
theorem dX5_findSyncs_178 : decode cX5_findSyncs 178 = .ok (.istore_n 2, 1) := by decide +kernel
theorem dX5_findSyncs_179 : decode cX5_findSyncs 179 = .ok (.iload_n 2, 1) := by decide +kernel
theorem dX5_findSyncs_180 : decode cX5_findSyncs 180 = .ok (.bipush 8, 2) := by decide +kernel
theorem dX5_findSyncs_182 : decode cX5_findSyncs 182 = .ok (.if_icmp .ge 19, 3) := by decide +kernel
theorem dX5_findSyncs_185 : decode cX5_findSyncs 185 = .ok (.iload 4, 2) := by decide +kernel
theorem dX5_findSyncs_187 : decode cX5_findSyncs 187 = .ok (.iload_n 2, 1) := by decide +kernel
theorem dX5_findSyncs_188 : decode cX5_findSyncs 188 = .ok (.ishr, 1) := by decide +kernel
theorem dX5_findSyncs_189 : decode cX5_findSyncs 189 = .ok (.iconst 1, 1) := by decide +kernel
theorem dX5_findSyncs_190 : decode cX5_findSyncs 190 = .ok (.iand, 1) := by decide +kernel
theorem dX5_findSyncs_191 : decode cX5_findSyncs 191 = .ok (.iconst 1, 1) := by decide +kernel
theorem dX5_findSyncs_192 : decode cX5_findSyncs 192 = .ok (.if_icmp .ne 9, 3) := by decide +kernel
theorem dX5_findSyncs_195 : decode cX5_findSyncs 195 = .ok (.iinc 2 1, 3) := by decide +kernel
theorem dX5_findSyncs_198 : decode cX5_findSyncs 198 = .ok (.goto (-19), 3) := by decide +kernel
theorem dX5_findSyncs_201 : decode cX5_findSyncs 201 = .ok (.iinc 3 1, 3) := by decide +kernel
theorem dX5_findSyncs_204 : decode cX5_findSyncs 204 = .ok (.goto (-133), 3) := by decide +kernel
theorem dX5_findSyncs_207 : decode cX5_findSyncs 207 = .ok (.aload_n 0, 1) := by decide +kernel
theorem dX5_findSyncs_208 : decode cX5_findSyncs 208 = .ok (.iconst 1, 1) := by decide +kernel
theorem dX5_findSyncs_209 : decode cX5_findSyncs 209 = .ok (.putfield 35, 3) := by decide +kernel
theorem dX5_findSyncs_212 : decode cX5_findSyncs 212 = .ok (.aload_n 0, 1) := by decide +kernel
theorem dX5_findSyncs_213 : decode cX5_findSyncs 213 = .ok (.getfield 32, 3) := by decide +kernel
theorem dX5_findSyncs_216 : decode cX5_findSyncs 216 = .ok (.ireturn, 1) := by decide +kernel
theorem dX5_rotate_0 : decode cX5_rotate 0 = .ok (.aload_n 0, 1) := by decide +kernel
theorem dX5_rotate_1 : decode cX5_rotate 1 = .ok (.getfield 15, 3) := by decide +kernel
theorem dX5_rotate_4 : decode cX5_rotate 4 = .ok (.arraylength, 1) := by decide +kernel
theorem dX5_rotate_5 : decode cX5_rotate 5 = .ok (.istore_n 3, 1) := by decide +kernel
theorem dX5_rotate_6 : decode cX5_rotate 6 = .ok (.aload_n 2, 1) := by decide +kernel
theorem dX5_rotate_7 : decode cX5_rotate 7 = .ok (.arraylength, 1) := by decide +kernel
theorem dX5_rotate_8 : decode cX5_rotate 8 = .ok (.iload_n 3, 1) := by decide +kernel
theorem dX5_rotate_9 : decode cX5_rotate 9 = .ok (.if_icmp .ge 4, 3) := by decide +kernel
theorem dX5_rotate_12 : decode cX5_rotate 12 = .ok (.return_, 1) := by decide +kernel
theorem dX5_rotate_13 : decode cX5_rotate 13 = .ok (.iload_n 1, 1) := by decide +kernel
theorem dX5_rotate_14 : decode cX5_rotate 14 = .ok (.aload_n 0, 1) := by decide +kernel
theorem dX5_rotate_15 : decode cX5_rotate 15 = .ok (.getfield 21, 3) := by decide +kernel
theorem dX5_rotate_18 : decode cX5_rotate 18 = .ok (.invokestatic 49, 3) := by decide +kernel
theorem dX5_rotate_21 : decode cX5_rotate 21 = .ok (.istore 4, 2) := by decide +kernel
theorem dX5_rotate_23 : decode cX5_rotate 23 = .ok (.iload_n 3, 1) := by decide +kernel
theorem dX5_rotate_24 : decode cX5_rotate 24 = .ok (.iload 4, 2) := by decide +kernel
theorem dX5_rotate_26 : decode cX5_rotate 26 = .ok (.bipush 8, 2) := by decide +kernel
theorem dX5_rotate_28 : decode cX5_rotate 28 = .ok (.idiv, 1) := by decide +kernel
theorem dX5_rotate_29 : decode cX5_rotate 29 = .ok (.isub, 1) := by decide +kernel
theorem dX5_rotate_30 : decode cX5_rotate 30 = .ok (.istore 5, 2) := by decide +kernel
theorem dX5_rotate_32 : decode cX5_rotate 32 = .ok (.iload 4, 2) := by decide +kernel
theorem dX5_rotate_34 : decode cX5_rotate 34 = .ok (.bipush 8, 2) := by decide +kernel
theorem dX5_rotate_36 : decode cX5_rotate 36 = .ok (.irem, 1) := by decide +kernel
theorem dX5_rotate_37 : decode cX5_rotate 37 = .ok (.istore 6, 2) := by decide +kernel
theorem dX5_rotate_39 : decode cX5_rotate 39 = .ok (.aload_n 0, 1) := by decide +kernel
theorem dX5_rotate_40 : decode cX5_rotate 40 = .ok (.getfield 15, 3) := by decide +kernel
theorem dX5_rotate_43 : decode cX5_rotate 43 = .ok (.iconst 0, 1) := by decide +kernel
theorem dX5_rotate_44 : decode cX5_rotate 44 = .ok (.aload_n 2, 1) := by decide +kernel
theorem dX5_rotate_45 : decode cX5_rotate 45 = .ok (.iconst 0, 1) := by decide +kernel
theorem dX5_rotate_46 : decode cX5_rotate 46 = .ok (.iload_n 3, 1) := by decide +kernel
theorem dX5_rotate_47 : decode cX5_rotate 47 = .ok (.invokestatic 52, 3) := by decide +kernel
theorem dX5_rotate_50 : decode cX5_rotate 50 = .ok (.iconst 0, 1) := by decide +kernel
theorem dX5_rotate_51 : decode cX5_rotate 51 = .ok (.istore 7, 2) := by decide +kernel
theorem dX5_rotate_53 : decode cX5_rotate 53 = .ok (.iload 7, 2) := by decide +kernel
theorem dX5_rotate_55 : decode cX5_rotate 55 = .ok (.iload_n 3, 1) := by decide +kernel
theorem dX5_rotate_56 : decode cX5_rotate 56 = .ok (.if_icmp .ge 55, 3) := by decide +kernel
theorem dX5_rotate_59 : decode cX5_rotate 59 = .ok (.aload_n 2, 1) := by decide +kernel
theorem dX5_rotate_60 : decode cX5_rotate 60 = .ok (.iload 5, 2) := by decide +kernel
theorem dX5_rotate_62 : decode cX5_rotate 62 = .ok (.iload 7, 2) := by decide +kernel
theorem dX5_rotate_64 : decode cX5_rotate 64 = .ok (.iadd, 1) := by decide +kernel
theorem dX5_rotate_65 : decode cX5_rotate 65 = .ok (.iconst 1, 1) := by decide +kernel
theorem dX5_rotate_66 : decode cX5_rotate 66 = .ok (.isub, 1) := by decide +kernel
theorem dX5_rotate_67 : decode cX5_rotate 67 = .ok (.iload_n 3, 1) := by decide +kernel
theorem dX5_rotate_68 : decode cX5_rotate 68 = .ok (.irem, 1) := by decide +kernel
theorem dX5_rotate_69 : decode cX5_rotate 69 = .ok (.iaload, 1) := by decide +kernel
theorem dX5_rotate_70 : decode cX5_rotate 70 = .ok (.istore 8, 2) := by decide +kernel
theorem dX5_rotate_72 : decode cX5_rotate 72 = .ok (.aload_n 2, 1) := by decide +kernel
theorem dX5_rotate_73 : decode cX5_rotate 73 = .ok (.iload 5, 2) := by decide +kernel
theorem dX5_rotate_75 : decode cX5_rotate 75 = .ok (.iload 7, 2) := by decide +kernel
theorem dX5_rotate_77 : decode cX5_rotate 77 = .ok (.iadd, 1) := by decide +kernel
theorem dX5_rotate_78 : decode cX5_rotate 78 = .ok (.iload_n 3, 1) := by decide +kernel
theorem dX5_rotate_79 : decode cX5_rotate 79 = .ok (.irem, 1) := by decide +kernel
theorem dX5_rotate_80 : decode cX5_rotate 80 = .ok (.iaload, 1) := by decide +kernel
theorem dX5_rotate_81 : decode cX5_rotate 81 = .ok (.istore 9, 2) := by decide +kernel
theorem dX5_rotate_83 : decode cX5_rotate 83 = .ok (.aload_n 0, 1) := by decide +kernel
theorem dX5_rotate_84 : decode cX5_rotate 84 = .ok (.getfield 15, 3) := by decide +kernel
theorem dX5_rotate_87 : decode cX5_rotate 87 = .ok (.iload 7, 2) := by decide +kernel
theorem dX5_rotate_89 : decode cX5_rotate 89 = .ok (.iload 8, 2) := by decide +kernel
theorem dX5_rotate_91 : decode cX5_rotate 91 = .ok (.bipush 8, 2) := by decide +kernel
theorem dX5_rotate_93 : decode cX5_rotate 93 = .ok (.ishl, 1) := by decide +kernel
theorem dX5_rotate_94 : decode cX5_rotate 94 = .ok (.iload 9, 2) := by decide +kernel
theorem dX5_rotate_96 : decode cX5_rotate 96 = .ok (.ior, 1) := by decide +kernel
theorem dX5_rotate_97 : decode cX5_rotate 97 = .ok (.iload 6, 2) := by decide +kernel
theorem dX5_rotate_99 : decode cX5_rotate 99 = .ok (.ishr, 1) := by decide +kernel
theorem dX5_rotate_100 : decode cX5_rotate 100 = .ok (.sipush 255, 3) := by decide +kernel
theorem dX5_rotate_103 : decode cX5_rotate 103 = .ok (.iand, 1) := by decide +kernel
theorem dX5_rotate_104 : decode cX5_rotate 104 = .ok (.iastore, 1) := by decide +kernel
theorem dX5_rotate_105 : decode cX5_rotate 105 = .ok (.iinc 7 1, 3) := by decide +kernel
theorem dX5_rotate_108 : decode cX5_rotate 108 = .ok (.goto (-55), 3) := by decide +kernel
theorem dX5_rotate_111 : decode cX5_rotate 111 = .ok (.aload_n 0, 1) := by decide +kernel
theorem dX5_rotate_112 : decode cX5_rotate 112 = .ok (.iconst 0, 1) := by decide +kernel
theorem dX5_rotate_113 : decode cX5_rotate 113 = .ok (.putfield 35, 3) := by decide +kernel
theorem dX5_rotate_116 : decode cX5_rotate 116 = .ok (.return_, 1) := by decide +kernel
theorem dX5_fillGap_0 : decode cX5_fillGap 0 = .ok (.iconst 0, 1) := by decide +kernel
theorem dX5_fillGap_1 : decode cX5_fillGap 1 = .ok (.istore_n 1, 1) := by decide +kernel
theorem dX5_fillGap_2 : decode cX5_fillGap 2 = .ok (.iload_n 1, 1) := by decide +kernel
theorem dX5_fillGap_3 : decode cX5_fillGap 3 = .ok (.aload_n 0, 1) := by decide +kernel
theorem dX5_fillGap_4 : decode cX5_fillGap 4 = .ok (.getfield 15, 3) := by decide +kernel
theorem dX5_fillGap_7 : decode cX5_fillGap 7 = .ok (.arraylength, 1) := by decide +kernel
theorem dX5_fillGap_8 : decode cX5_fillGap 8 = .ok (.if_icmp .ge 17, 3) := by decide +kernel
theorem dX5_fillGap_11 : decode cX5_fillGap 11 = .ok (.aload_n 0, 1) := by decide +kernel
theorem dX5_fillGap_12 : decode cX5_fillGap 12 = .ok (.getfield 15, 3) := by decide +kernel
theorem dX5_fillGap_15 : decode cX5_fillGap 15 = .ok (.iload_n 1, 1) := by decide +kernel
theorem dX5_fillGap_16 : decode cX5_fillGap 16 = .ok (.bipush 85, 2) := by decide +kernel
theorem dX5_fillGap_18 : decode cX5_fillGap 18 = .ok (.iastore, 1) := by decide +kernel
theorem dX5_fillGap_19 : decode cX5_fillGap 19 = .ok (.iinc 1 1, 3) := by decide +kernel
theorem dX5_fillGap_22 : decode cX5_fillGap 22 = .ok (.goto (-20), 3) := by decide +kernel
theorem dX5_fillGap_25 : decode cX5_fillGap 25 = .ok (.aload_n 0, 1) := by decide +kernel
theorem dX5_fillGap_26 : decode cX5_fillGap 26 = .ok (.iconst 0, 1) := by decide +kernel
theorem dX5_fillGap_27 : decode cX5_fillGap 27 = .ok (.putfield 35, 3) := by decide +kernel
theorem dX5_fillGap_30 : decode cX5_fillGap 30 = .ok (.return_, 1) := by decide +kernel
theorem dX5_layRing_0 : decode cX5_layRing 0 = .ok (.iload_n 2, 1) := by decide +kernel
theorem dX5_layRing_1 : decode cX5_layRing 1 = .ok (.ifCond .lt 41, 3) := by decide +kernel
theorem dX5_layRing_4 : decode cX5_layRing 4 = .ok (.iload_n 2, 1) := by decide +kernel
theorem dX5_layRing_5 : decode cX5_layRing 5 = .ok (.aload_n 1, 1) := by decide +kernel
theorem dX5_layRing_6 : decode cX5_layRing 6 = .ok (.getfield 15, 3) := by decide +kernel
theorem dX5_layRing_9 : decode cX5_layRing 9 = .ok (.arraylength, 1) := by decide +kernel
theorem dX5_layRing_10 : decode cX5_layRing 10 = .ok (.iadd, 1) := by decide +kernel
theorem dX5_layRing_11 : decode cX5_layRing 11 = .ok (.aload_n 0, 1) := by decide +kernel
theorem dX5_layRing_12 : decode cX5_layRing 12 = .ok (.getfield 15, 3) := by decide +kernel
theorem dX5_layRing_15 : decode cX5_layRing 15 = .ok (.arraylength, 1) := by decide +kernel
theorem dX5_layRing_16 : decode cX5_layRing 16 = .ok (.if_icmp .gt 26, 3) := by decide +kernel
theorem dX5_layRing_19 : decode cX5_layRing 19 = .ok (.aload_n 1, 1) := by decide +kernel
theorem dX5_layRing_20 : decode cX5_layRing 20 = .ok (.getfield 15, 3) := by decide +kernel
theorem dX5_layRing_23 : decode cX5_layRing 23 = .ok (.iconst 0, 1) := by decide +kernel
theorem dX5_layRing_24 : decode cX5_layRing 24 = .ok (.aload_n 0, 1) := by decide +kernel
theorem dX5_layRing_25 : decode cX5_layRing 25 = .ok (.getfield 15, 3) := by decide +kernel
theorem dX5_layRing_28 : decode cX5_layRing 28 = .ok (.iload_n 2, 1) := by decide +kernel
theorem dX5_layRing_29 : decode cX5_layRing 29 = .ok (.aload_n 1, 1) := by decide +kernel
theorem dX5_layRing_30 : decode cX5_layRing 30 = .ok (.getfield 15, 3) := by decide +kernel
theorem dX5_layRing_33 : decode cX5_layRing 33 = .ok (.arraylength, 1) := by decide +kernel
theorem dX5_layRing_34 : decode cX5_layRing 34 = .ok (.invokestatic 52, 3) := by decide +kernel
theorem dX5_layRing_37 : decode cX5_layRing 37 = .ok (.aload_n 0, 1) := by decide +kernel
theorem dX5_layRing_38 : decode cX5_layRing 38 = .ok (.iconst 0, 1) := by decide +kernel
theorem dX5_layRing_39 : decode cX5_layRing 39 = .ok (.putfield 35, 3) := by decide +kernel
theorem dX5_layRing_42 : decode cX5_layRing 42 = .ok (.return_, 1) := by decide +kernel
theorem dX5_putHeader_0 : decode cX5_putHeader 0 = .ok (.iload 4, 2) := by decide +kernel
theorem dX5_putHeader_2 : decode cX5_putHeader 2 = .ok (.bipush 8, 2) := by decide +kernel
theorem dX5_putHeader_4 : decode cX5_putHeader 4 = .ok (.ishr, 1) := by decide +kernel
theorem dX5_putHeader_5 : decode cX5_putHeader 5 = .ok (.sipush 255, 3) := by decide +kernel
theorem dX5_putHeader_8 : decode cX5_putHeader 8 = .ok (.iand, 1) := by decide +kernel
theorem dX5_putHeader_9 : decode cX5_putHeader 9 = .ok (.istore 5, 2) := by decide +kernel
theorem dX5_putHeader_11 : decode cX5_putHeader 11 = .ok (.iload 4, 2) := by decide +kernel
theorem dX5_putHeader_13 : decode cX5_putHeader 13 = .ok (.sipush 255, 3) := by decide +kernel
theorem dX5_putHeader_16 : decode cX5_putHeader 16 = .ok (.iand, 1) := by decide +kernel
theorem dX5_putHeader_17 : decode cX5_putHeader 17 = .ok (.istore 6, 2) := by decide +kernel
theorem dX5_putHeader_19 : decode cX5_putHeader 19 = .ok (.aload_n 0, 1) := by decide +kernel
theorem dX5_putHeader_20 : decode cX5_putHeader 20 = .ok (.iload_n 1, 1) := by decide +kernel
theorem dX5_putHeader_21 : decode cX5_putHeader 21 = .ok (.bipush 8, 2) := by decide +kernel
theorem dX5_putHeader_23 : decode cX5_putHeader 23 = .ok (.invokevirtual 58, 3) := by decide +kernel
theorem dX5_putHeader_26 : decode cX5_putHeader 26 = .ok (.aload_n 0, 1) := by decide +kernel
theorem dX5_putHeader_27 : decode cX5_putHeader 27 = .ok (.iload_n 1, 1) := by decide +kernel
theorem dX5_putHeader_28 : decode cX5_putHeader 28 = .ok (.bipush 10, 2) := by decide +kernel
theorem dX5_putHeader_30 : decode cX5_putHeader 30 = .ok (.iadd, 1) := by decide +kernel
theorem dX5_putHeader_31 : decode cX5_putHeader 31 = .ok (.iload_n 3, 1) := by decide +kernel
theorem dX5_putHeader_32 : decode cX5_putHeader 32 = .ok (.iload_n 2, 1) := by decide +kernel
theorem dX5_putHeader_33 : decode cX5_putHeader 33 = .ok (.ixor, 1) := by decide +kernel
theorem dX5_putHeader_34 : decode cX5_putHeader 34 = .ok (.iload 5, 2) := by decide +kernel
theorem dX5_putHeader_36 : decode cX5_putHeader 36 = .ok (.ixor, 1) := by decide +kernel
theorem dX5_putHeader_37 : decode cX5_putHeader 37 = .ok (.iload 6, 2) := by decide +kernel
theorem dX5_putHeader_39 : decode cX5_putHeader 39 = .ok (.ixor, 1) := by decide +kernel
theorem dX5_putHeader_40 : decode cX5_putHeader 40 = .ok (.invokevirtual 58, 3) := by decide +kernel
theorem dX5_putHeader_43 : decode cX5_putHeader 43 = .ok (.aload_n 0, 1) := by decide +kernel
theorem dX5_putHeader_44 : decode cX5_putHeader 44 = .ok (.iload_n 1, 1) := by decide +kernel
theorem dX5_putHeader_45 : decode cX5_putHeader 45 = .ok (.bipush 20, 2) := by decide +kernel
theorem dX5_putHeader_47 : decode cX5_putHeader 47 = .ok (.iadd, 1) := by decide +kernel
theorem dX5_putHeader_48 : decode cX5_putHeader 48 = .ok (.iload_n 3, 1) := by decide +kernel
theorem dX5_putHeader_49 : decode cX5_putHeader 49 = .ok (.invokevirtual 58, 3) := by decide +kernel
theorem dX5_putHeader_52 : decode cX5_putHeader 52 = .ok (.aload_n 0, 1) := by decide +kernel
theorem dX5_putHeader_53 : decode cX5_putHeader 53 = .ok (.iload_n 1, 1) := by decide +kernel
theorem dX5_putHeader_54 : decode cX5_putHeader 54 = .ok (.bipush 30, 2) := by decide +kernel
theorem dX5_putHeader_56 : decode cX5_putHeader 56 = .ok (.iadd, 1) := by decide +kernel
theorem dX5_putHeader_57 : decode cX5_putHeader 57 = .ok (.iload_n 2, 1) := by decide +kernel
theorem dX5_putHeader_58 : decode cX5_putHeader 58 = .ok (.invokevirtual 58, 3) := by decide +kernel
theorem dX5_putHeader_61 : decode cX5_putHeader 61 = .ok (.aload_n 0, 1) := by decide +kernel
theorem dX5_putHeader_62 : decode cX5_putHeader 62 = .ok (.iload_n 1, 1) := by decide +kernel
theorem dX5_putHeader_63 : decode cX5_putHeader 63 = .ok (.bipush 40, 2) := by decide +kernel
theorem dX5_putHeader_65 : decode cX5_putHeader 65 = .ok (.iadd, 1) := by decide +kernel
theorem dX5_putHeader_66 : decode cX5_putHeader 66 = .ok (.iload 5, 2) := by decide +kernel
theorem dX5_putHeader_68 : decode cX5_putHeader 68 = .ok (.invokevirtual 58, 3) := by decide +kernel
theorem dX5_putHeader_71 : decode cX5_putHeader 71 = .ok (.aload_n 0, 1) := by decide +kernel
theorem dX5_putHeader_72 : decode cX5_putHeader 72 = .ok (.iload_n 1, 1) := by decide +kernel
theorem dX5_putHeader_73 : decode cX5_putHeader 73 = .ok (.bipush 50, 2) := by decide +kernel
theorem dX5_putHeader_75 : decode cX5_putHeader 75 = .ok (.iadd, 1) := by decide +kernel
theorem dX5_putHeader_76 : decode cX5_putHeader 76 = .ok (.iload 6, 2) := by decide +kernel
theorem dX5_putHeader_78 : decode cX5_putHeader 78 = .ok (.invokevirtual 58, 3) := by decide +kernel
theorem dX5_putHeader_81 : decode cX5_putHeader 81 = .ok (.return_, 1) := by decide +kernel
theorem dX5_putData_0 : decode cX5_putData 0 = .ok (.iload_n 1, 1) := by decide +kernel
theorem dX5_putData_1 : decode cX5_putData 1 = .ok (.bipush 108, 2) := by decide +kernel
theorem dX5_putData_3 : decode cX5_putData 3 = .ok (.iadd, 1) := by decide +kernel
theorem dX5_putData_4 : decode cX5_putData 4 = .ok (.istore_n 3, 1) := by decide +kernel
theorem dX5_putData_5 : decode cX5_putData 5 = .ok (.aload_n 0, 1) := by decide +kernel
theorem dX5_putData_6 : decode cX5_putData 6 = .ok (.iload_n 3, 1) := by decide +kernel
theorem dX5_putData_7 : decode cX5_putData 7 = .ok (.invokevirtual 62, 3) := by decide +kernel
theorem dX5_putData_10 : decode cX5_putData 10 = .ok (.iinc 3 40, 3) := by decide +kernel
theorem dX5_putData_13 : decode cX5_putData 13 = .ok (.aload_n 0, 1) := by decide +kernel
theorem dX5_putData_14 : decode cX5_putData 14 = .ok (.iload_n 3, 1) := by decide +kernel
theorem dX5_putData_15 : decode cX5_putData 15 = .ok (.bipush 7, 2) := by decide +kernel
theorem dX5_putData_17 : decode cX5_putData 17 = .ok (.invokevirtual 58, 3) := by decide +kernel
theorem dX5_putData_20 : decode cX5_putData 20 = .ok (.iconst 0, 1) := by decide +kernel
theorem dX5_putData_21 : decode cX5_putData 21 = .ok (.istore 4, 2) := by decide +kernel
theorem dX5_putData_23 : decode cX5_putData 23 = .ok (.iconst 0, 1) := by decide +kernel
theorem dX5_putData_24 : decode cX5_putData 24 = .ok (.istore 5, 2) := by decide +kernel
theorem dX5_putData_26 : decode cX5_putData 26 = .ok (.iload 5, 2) := by decide +kernel
theorem dX5_putData_28 : decode cX5_putData 28 = .ok (.bipush 64, 2) := by decide +kernel
theorem dX5_putData_30 : decode cX5_putData 30 = .ok (.if_icmp .ge 37, 3) := by decide +kernel
theorem dX5_putData_33 : decode cX5_putData 33 = .ok (.iload 5, 2) := by decide +kernel
theorem dX5_putData_35 : decode cX5_putData 35 = .ok (.aload_n 2, 1) := by decide +kernel
theorem dX5_putData_36 : decode cX5_putData 36 = .ok (.arraylength, 1) := by decide +kernel
theorem dX5_putData_37 : decode cX5_putData 37 = .ok (.if_icmp .ge 30, 3) := by decide +kernel
theorem dX5_putData_40 : decode cX5_putData 40 = .ok (.iinc 3 10, 3) := by decide +kernel
theorem dX5_putData_43 : decode cX5_putData 43 = .ok (.aload_n 0, 1) := by decide +kernel
theorem dX5_putData_44 : decode cX5_putData 44 = .ok (.iload_n 3, 1) := by decide +kernel
theorem dX5_putData_45 : decode cX5_putData 45 = .ok (.aload_n 2, 1) := by decide +kernel
theorem dX5_putData_46 : decode cX5_putData 46 = .ok (.iload 5, 2) := by decide +kernel
theorem dX5_putData_48 : decode cX5_putData 48 = .ok (.iaload, 1) := by decide +kernel
theorem dX5_putData_49 : decode cX5_putData 49 = .ok (.invokevirtual 58, 3) := by decide +kernel
theorem dX5_putData_52 : decode cX5_putData 52 = .ok (.iload 4, 2) := by decide +kernel
theorem dX5_putData_54 : decode cX5_putData 54 = .ok (.aload_n 2, 1) := by decide +kernel
theorem dX5_putData_55 : decode cX5_putData 55 = .ok (.iload 5, 2) := by decide +kernel
theorem dX5_putData_57 : decode cX5_putData 57 = .ok (.iaload, 1) := by decide +kernel
theorem dX5_putData_58 : decode cX5_putData 58 = .ok (.ixor, 1) := by decide +kernel
theorem dX5_putData_59 : decode cX5_putData 59 = .ok (.istore 4, 2) := by decide +kernel
theorem dX5_putData_61 : decode cX5_putData 61 = .ok (.iinc 5 1, 3) := by decide +kernel
theorem dX5_putData_64 : decode cX5_putData 64 = .ok (.goto (-38), 3) := by decide +kernel
theorem dX5_putData_67 : decode cX5_putData 67 = .ok (.aload_n 0, 1) := by decide +kernel
theorem dX5_putData_68 : decode cX5_putData 68 = .ok (.iload_n 3, 1) := by decide +kernel
theorem dX5_putData_69 : decode cX5_putData 69 = .ok (.bipush 10, 2) := by decide +kernel
theorem dX5_putData_71 : decode cX5_putData 71 = .ok (.iadd, 1) := by decide +kernel
theorem dX5_putData_72 : decode cX5_putData 72 = .ok (.iload 4, 2) := by decide +kernel
theorem dX5_putData_74 : decode cX5_putData 74 = .ok (.invokevirtual 58, 3) := by decide +kernel
theorem dX5_putData_77 : decode cX5_putData 77 = .ok (.aload_n 0, 1) := by decide +kernel
theorem dX5_putData_78 : decode cX5_putData 78 = .ok (.iload_n 3, 1) := by decide +kernel
theorem dX5_putData_79 : decode cX5_putData 79 = .ok (.bipush 20, 2) := by decide +kernel
theorem dX5_putData_81 : decode cX5_putData 81 = .ok (.iadd, 1) := by decide +kernel
theorem dX5_putData_82 : decode cX5_putData 82 = .ok (.bipush 8, 2) := by decide +kernel
theorem dX5_putData_84 : decode cX5_putData 84 = .ok (.bipush 85, 2) := by decide +kernel
theorem dX5_putData_86 : decode cX5_putData 86 = .ok (.invokevirtual 42, 3) := by decide +kernel
theorem dX5_putData_89 : decode cX5_putData 89 = .ok (.return_, 1) := by decide +kernel
theorem dX5_takeData_0 : decode cX5_takeData 0 = .ok (.aload_n 0, 1) := by decide +kernel
theorem dX5_takeData_1 : decode cX5_takeData 1 = .ok (.iload_n 1, 1) := by decide +kernel
theorem dX5_takeData_2 : decode cX5_takeData 2 = .ok (.invokevirtual 66, 3) := by decide +kernel
theorem dX5_takeData_5 : decode cX5_takeData 5 = .ok (.bipush 7, 2) := by decide +kernel
theorem dX5_takeData_7 : decode cX5_takeData 7 = .ok (.if_icmp .eq 6, 3) := by decide +kernel
theorem dX5_takeData_10 : decode cX5_takeData 10 = .ok (.bipush 22, 2) := by decide +kernel
theorem dX5_takeData_12 : decode cX5_takeData 12 = .ok (.ireturn, 1) := by decide +kernel
theorem dX5_takeData_13 : decode cX5_takeData 13 = .ok (.iload_n 1, 1) := by decide +kernel
theorem dX5_takeData_14 : decode cX5_takeData 14 = .ok (.istore_n 3, 1) := by decide +kernel
theorem dX5_takeData_15 : decode cX5_takeData 15 = .ok (.iconst 0, 1) := by decide +kernel
theorem dX5_takeData_16 : decode cX5_takeData 16 = .ok (.istore 4, 2) := by decide +kernel
theorem dX5_takeData_18 : decode cX5_takeData 18 = .ok (.iconst 0, 1) := by decide +kernel
theorem dX5_takeData_19 : decode cX5_takeData 19 = .ok (.istore 5, 2) := by decide +kernel
theorem dX5_takeData_21 : decode cX5_takeData 21 = .ok (.iload 5, 2) := by decide +kernel
theorem dX5_takeData_23 : decode cX5_takeData 23 = .ok (.bipush 64, 2) := by decide +kernel
theorem dX5_takeData_25 : decode cX5_takeData 25 = .ok (.if_icmp .ge 48, 3) := by decide +kernel
theorem dX5_takeData_28 : decode cX5_takeData 28 = .ok (.iload 5, 2) := by decide +kernel
theorem dX5_takeData_30 : decode cX5_takeData 30 = .ok (.aload_n 2, 1) := by decide +kernel
theorem dX5_takeData_31 : decode cX5_takeData 31 = .ok (.arraylength, 1) := by decide +kernel
theorem dX5_takeData_32 : decode cX5_takeData 32 = .ok (.if_icmp .ge 41, 3) := by decide +kernel
theorem dX5_takeData_35 : decode cX5_takeData 35 = .ok (.iinc 3 10, 3) := by decide +kernel
theorem dX5_takeData_38 : decode cX5_takeData 38 = .ok (.aload_n 0, 1) := by decide +kernel
theorem dX5_takeData_39 : decode cX5_takeData 39 = .ok (.iload_n 3, 1) := by decide +kernel
theorem dX5_takeData_40 : decode cX5_takeData 40 = .ok (.invokevirtual 66, 3) := by decide +kernel
theorem dX5_takeData_43 : decode cX5_takeData 43 = .ok (.istore 6, 2) := by decide +kernel
theorem dX5_takeData_45 : decode cX5_takeData 45 = .ok (.iload 6, 2) := by decide +kernel
theorem dX5_takeData_47 : decode cX5_takeData 47 = .ok (.iconst (-1), 1) := by decide +kernel
theorem dX5_takeData_48 : decode cX5_takeData 48 = .ok (.if_icmp .ne 6, 3) := by decide +kernel
theorem dX5_takeData_51 : decode cX5_takeData 51 = .ok (.bipush 24, 2) := by decide +kernel
theorem dX5_takeData_53 : decode cX5_takeData 53 = .ok (.ireturn, 1) := by decide +kernel
theorem dX5_takeData_54 : decode cX5_takeData 54 = .ok (.aload_n 2, 1) := by decide +kernel
theorem dX5_takeData_55 : decode cX5_takeData 55 = .ok (.iload 5, 2) := by decide +kernel
theorem dX5_takeData_57 : decode cX5_takeData 57 = .ok (.iload 6, 2) := by decide +kernel
theorem dX5_takeData_59 : decode cX5_takeData 59 = .ok (.iastore, 1) := by decide +kernel
theorem dX5_takeData_60 : decode cX5_takeData 60 = .ok (.iload 4, 2) := by decide +kernel
theorem dX5_takeData_62 : decode cX5_takeData 62 = .ok (.iload 6, 2) := by decide +kernel
theorem dX5_takeData_64 : decode cX5_takeData 64 = .ok (.ixor, 1) := by decide +kernel
theorem dX5_takeData_65 : decode cX5_takeData 65 = .ok (.istore 4, 2) := by decide +kernel
theorem dX5_takeData_67 : decode cX5_takeData 67 = .ok (.iinc 5 1, 3) := by decide +kernel
theorem dX5_takeData_70 : decode cX5_takeData 70 = .ok (.goto (-49), 3) := by decide +kernel
theorem dX5_takeData_73 : decode cX5_takeData 73 = .ok (.aload_n 0, 1) := by decide +kernel
theorem dX5_takeData_74 : decode cX5_takeData 74 = .ok (.iload_n 3, 1) := by decide +kernel
theorem dX5_takeData_75 : decode cX5_takeData 75 = .ok (.bipush 10, 2) := by decide +kernel
theorem dX5_takeData_77 : decode cX5_takeData 77 = .ok (.iadd, 1) := by decide +kernel
theorem dX5_takeData_78 : decode cX5_takeData 78 = .ok (.invokevirtual 66, 3) := by decide +kernel
theorem dX5_takeData_81 : decode cX5_takeData 81 = .ok (.istore 5, 2) := by decide +kernel
theorem dX5_takeData_83 : decode cX5_takeData 83 = .ok (.iload 5, 2) := by decide +kernel
theorem dX5_takeData_85 : decode cX5_takeData 85 = .ok (.iconst (-1), 1) := by decide +kernel
theorem dX5_takeData_86 : decode cX5_takeData 86 = .ok (.if_icmp .ne 6, 3) := by decide +kernel
theorem dX5_takeData_89 : decode cX5_takeData 89 = .ok (.bipush 24, 2) := by decide +kernel
theorem dX5_takeData_91 : decode cX5_takeData 91 = .ok (.ireturn, 1) := by decide +kernel
theorem dX5_takeData_92 : decode cX5_takeData 92 = .ok (.iload 5, 2) := by decide +kernel
theorem dX5_takeData_94 : decode cX5_takeData 94 = .ok (.iload 4, 2) := by decide +kernel
theorem dX5_takeData_96 : decode cX5_takeData 96 = .ok (.if_icmp .ne 7, 3) := by decide +kernel
theorem dX5_takeData_99 : decode cX5_takeData 99 = .ok (.iconst 0, 1) := by decide +kernel
theorem dX5_takeData_100 : decode cX5_takeData 100 = .ok (.goto 5, 3) := by decide +kernel
theorem dX5_takeData_103 : decode cX5_takeData 103 = .ok (.bipush 23, 2) := by decide +kernel
theorem dX5_takeData_105 : decode cX5_takeData 105 = .ok (.ireturn, 1) := by decide +kernel
theorem dX6_init_0 : decode cX6_init 0 = .ok (.aload_n 0, 1) := by decide +kernel
theorem dX6_init_1 : decode cX6_init 1 = .ok (.invokespecial 1, 3) := by decide +kernel
theorem dX6_init_4 : decode cX6_init 4 = .ok (.return_, 1) := by decide +kernel
theorem dX6_tell_0 : decode cX6_tell 0 = .ok (.aload_n 0, 1) := by decide +kernel
theorem dX6_tell_1 : decode cX6_tell 1 = .ok (.iload_n 1, 1) := by decide +kernel
theorem dX6_tell_2 : decode cX6_tell 2 = .ok (.putfield 7, 3) := by decide +kernel
theorem dX6_tell_5 : decode cX6_tell 5 = .ok (.aload_n 0, 1) := by decide +kernel
theorem dX6_tell_6 : decode cX6_tell 6 = .ok (.iload_n 2, 1) := by decide +kernel
theorem dX6_tell_7 : decode cX6_tell 7 = .ok (.putfield 13, 3) := by decide +kernel
theorem dX6_tell_10 : decode cX6_tell 10 = .ok (.aload_n 0, 1) := by decide +kernel
theorem dX6_tell_11 : decode cX6_tell 11 = .ok (.iload_n 3, 1) := by decide +kernel
theorem dX6_tell_12 : decode cX6_tell 12 = .ok (.putfield 16, 3) := by decide +kernel
theorem dX6_tell_15 : decode cX6_tell 15 = .ok (.iload_n 1, 1) := by decide +kernel
theorem dX6_tell_16 : decode cX6_tell 16 = .ok (.ireturn, 1) := by decide +kernel
end
section
theorem dX7_init_0 : decode cX7_init 0 = .ok (.aload_n 0, 1) := by decide +kernel
theorem dX7_init_1 : decode cX7_init 1 = .ok (.invokespecial 3, 3) := by decide +kernel
theorem dX7_init_4 : decode cX7_init 4 = .ok (.aload_n 0, 1) := by decide +kernel
theorem dX7_init_5 : decode cX7_init 5 = .ok (.new 9, 3) := by decide +kernel
theorem dX7_init_8 : decode cX7_init 8 = .ok (.dup, 1) := by decide +kernel
theorem dX7_init_9 : decode cX7_init 9 = .ok (.invokespecial 11, 3) := by decide +kernel
theorem dX7_init_12 : decode cX7_init 12 = .ok (.putfield 12, 3) := by decide +kernel
theorem dX7_init_15 : decode cX7_init 15 = .ok (.aload_n 0, 1) := by decide +kernel
theorem dX7_init_16 : decode cX7_init 16 = .ok (.new 16, 3) := by decide +kernel
theorem dX7_init_19 : decode cX7_init 19 = .ok (.dup, 1) := by decide +kernel
theorem dX7_init_20 : decode cX7_init 20 = .ok (.aload_n 0, 1) := by decide +kernel
theorem dX7_init_21 : decode cX7_init 21 = .ok (.getfield 12, 3) := by decide +kernel
theorem dX7_init_24 : decode cX7_init 24 = .ok (.invokespecial 18, 3) := by decide +kernel
theorem dX7_init_27 : decode cX7_init 27 = .ok (.putfield 21, 3) := by decide +kernel
theorem dX7_init_30 : decode cX7_init 30 = .ok (.aload_n 0, 1) := by decide +kernel
theorem dX7_init_31 : decode cX7_init 31 = .ok (.new 25, 3) := by decide +kernel
theorem dX7_init_34 : decode cX7_init 34 = .ok (.dup, 1) := by decide +kernel
theorem dX7_init_35 : decode cX7_init 35 = .ok (.invokespecial 27, 3) := by decide +kernel
theorem dX7_init_38 : decode cX7_init 38 = .ok (.putfield 28, 3) := by decide +kernel
theorem dX7_init_41 : decode cX7_init 41 = .ok (.aload_n 0, 1) := by decide +kernel
theorem dX7_init_42 : decode cX7_init 42 = .ok (.new 32, 3) := by decide +kernel
theorem dX7_init_45 : decode cX7_init 45 = .ok (.dup, 1) := by decide +kernel
theorem dX7_init_46 : decode cX7_init 46 = .ok (.aload_n 0, 1) := by decide +kernel
theorem dX7_init_47 : decode cX7_init 47 = .ok (.getfield 21, 3) := by decide +kernel
theorem dX7_init_50 : decode cX7_init 50 = .ok (.aload_n 0, 1) := by decide +kernel
theorem dX7_init_51 : decode cX7_init 51 = .ok (.getfield 12, 3) := by decide +kernel
theorem dX7_init_54 : decode cX7_init 54 = .ok (.invokespecial 34, 3) := by decide +kernel
theorem dX7_init_57 : decode cX7_init 57 = .ok (.putfield 37, 3) := by decide +kernel
theorem dX7_init_60 : decode cX7_init 60 = .ok (.aload_n 0, 1) := by decide +kernel
theorem dX7_init_61 : decode cX7_init 61 = .ok (.new 41, 3) := by decide +kernel
theorem dX7_init_64 : decode cX7_init 64 = .ok (.dup, 1) := by decide +kernel
theorem dX7_init_65 : decode cX7_init 65 = .ok (.aload_n 0, 1) := by decide +kernel
theorem dX7_init_66 : decode cX7_init 66 = .ok (.getfield 21, 3) := by decide +kernel
theorem dX7_init_69 : decode cX7_init 69 = .ok (.aload_n 0, 1) := by decide +kernel
theorem dX7_init_70 : decode cX7_init 70 = .ok (.getfield 12, 3) := by decide +kernel
theorem dX7_init_73 : decode cX7_init 73 = .ok (.invokespecial 43, 3) := by decide +kernel
theorem dX7_init_76 : decode cX7_init 76 = .ok (.putfield 44, 3) := by decide +kernel
theorem dX7_init_79 : decode cX7_init 79 = .ok (.aload_n 0, 1) := by decide +kernel
theorem dX7_init_80 : decode cX7_init 80 = .ok (.new 48, 3) := by decide +kernel
theorem dX7_init_83 : decode cX7_init 83 = .ok (.dup, 1) := by decide +kernel
theorem dX7_init_84 : decode cX7_init 84 = .ok (.sipush 2480, 3) := by decide +kernel
theorem dX7_init_87 : decode cX7_init 87 = .ok (.invokespecial 50, 3) := by decide +kernel
theorem dX7_init_90 : decode cX7_init 90 = .ok (.putfield 53, 3) := by decide +kernel
theorem dX7_init_93 : decode cX7_init 93 = .ok (.aload_n 0, 1) := by decide +kernel
theorem dX7_init_94 : decode cX7_init 94 = .ok (.new 48, 3) := by decide +kernel
theorem dX7_init_97 : decode cX7_init 97 = .ok (.dup, 1) := by decide +kernel
theorem dX7_init_98 : decode cX7_init 98 = .ok (.sipush 2480, 3) := by decide +kernel
theorem dX7_init_101 : decode cX7_init 101 = .ok (.invokespecial 50, 3) := by decide +kernel
theorem dX7_init_104 : decode cX7_init 104 = .ok (.putfield 57, 3) := by decide +kernel
theorem dX7_init_107 : decode cX7_init 107 = .ok (.aload_n 0, 1) := by decide +kernel
theorem dX7_init_108 : decode cX7_init 108 = .ok (.new 48, 3) := by decide +kernel
theorem dX7_init_111 : decode cX7_init 111 = .ok (.dup, 1) := by decide +kernel
theorem dX7_init_112 : decode cX7_init 112 = .ok (.iconst 0, 1) := by decide +kernel
theorem dX7_init_113 : decode cX7_init 113 = .ok (.invokespecial 50, 3) := by decide +kernel
theorem dX7_init_116 : decode cX7_init 116 = .ok (.putfield 60, 3) := by decide +kernel
theorem dX7_init_119 : decode cX7_init 119 = .ok (.aload_n 0, 1) := by decide +kernel
theorem dX7_init_120 : decode cX7_init 120 = .ok (.bipush 64, 2) := by decide +kernel
theorem dX7_init_122 : decode cX7_init 122 = .ok (.newarray .int, 2) := by decide +kernel
theorem dX7_init_124 : decode cX7_init 124 = .ok (.putfield 63, 3) := by decide +kernel
theorem dX7_init_127 : decode cX7_init 127 = .ok (.aload_n 0, 1) := by decide +kernel
theorem dX7_init_128 : decode cX7_init 128 = .ok (.iconst 1, 1) := by decide +kernel
theorem dX7_init_129 : decode cX7_init 129 = .ok (.invokestatic 67, 3) := by decide +kernel
theorem dX7_init_132 : decode cX7_init 132 = .ok (.newarray .int, 2) := by decide +kernel
theorem dX7_init_134 : decode cX7_init 134 = .ok (.putfield 73, 3) := by decide +kernel
theorem dX7_init_137 : decode cX7_init 137 = .ok (.return_, 1) := by decide +kernel
theorem dX7_feed_0 : decode cX7_feed 0 = .ok (.aload_n 0, 1) := by decide +kernel
theorem dX7_feed_1 : decode cX7_feed 1 = .ok (.getfield 53, 3) := by decide +kernel
theorem dX7_feed_4 : decode cX7_feed 4 = .ok (.getfield 76, 3) := by decide +kernel
theorem dX7_feed_7 : decode cX7_feed 7 = .ok (.bipush 20, 2) := by decide +kernel
theorem dX7_feed_9 : decode cX7_feed 9 = .ok (.iadd, 1) := by decide +kernel
theorem dX7_feed_10 : decode cX7_feed 10 = .ok (.sipush 2480, 3) := by decide +kernel
theorem dX7_feed_13 : decode cX7_feed 13 = .ok (.if_icmp .le 5, 3) := by decide +kernel
theorem dX7_feed_16 : decode cX7_feed 16 = .ok (.iconst (-1), 1) := by decide +kernel
theorem dX7_feed_17 : decode cX7_feed 17 = .ok (.ireturn, 1) := by decide +kernel
theorem dX7_feed_18 : decode cX7_feed 18 = .ok (.aload_n 0, 1) := by decide +kernel
theorem dX7_feed_19 : decode cX7_feed 19 = .ok (.getfield 53, 3) := by decide +kernel
theorem dX7_feed_22 : decode cX7_feed 22 = .ok (.iload_n 1, 1) := by decide +kernel
theorem dX7_feed_23 : decode cX7_feed 23 = .ok (.invokevirtual 80, 3) := by decide +kernel
theorem dX7_feed_26 : decode cX7_feed 26 = .ok (.aload_n 0, 1) := by decide +kernel
theorem dX7_feed_27 : decode cX7_feed 27 = .ok (.getfield 53, 3) := by decide +kernel
theorem dX7_feed_30 : decode cX7_feed 30 = .ok (.iload_n 2, 1) := by decide +kernel
theorem dX7_feed_31 : decode cX7_feed 31 = .ok (.invokevirtual 80, 3) := by decide +kernel
theorem dX7_feed_34 : decode cX7_feed 34 = .ok (.aload_n 0, 1) := by decide +kernel
theorem dX7_feed_35 : decode cX7_feed 35 = .ok (.getfield 53, 3) := by decide +kernel
theorem dX7_feed_38 : decode cX7_feed 38 = .ok (.iload_n 3, 1) := by decide +kernel
theorem dX7_feed_39 : decode cX7_feed 39 = .ok (.invokevirtual 80, 3) := by decide +kernel
theorem dX7_feed_42 : decode cX7_feed 42 = .ok (.aload_n 0, 1) := by decide +kernel
theorem dX7_feed_43 : decode cX7_feed 43 = .ok (.getfield 53, 3) := by decide +kernel
theorem dX7_feed_46 : decode cX7_feed 46 = .ok (.iload 4, 2) := by decide +kernel
theorem dX7_feed_48 : decode cX7_feed 48 = .ok (.invokevirtual 80, 3) := by decide +kernel
theorem dX7_feed_51 : decode cX7_feed 51 = .ok (.aload_n 0, 1) := by decide +kernel
theorem dX7_feed_52 : decode cX7_feed 52 = .ok (.getfield 53, 3) := by decide +kernel
theorem dX7_feed_55 : decode cX7_feed 55 = .ok (.iload 5, 2) := by decide +kernel
theorem dX7_feed_57 : decode cX7_feed 57 = .ok (.invokevirtual 80, 3) := by decide +kernel
theorem dX7_feed_60 : decode cX7_feed 60 = .ok (.aload_n 0, 1) := by decide +kernel
theorem dX7_feed_61 : decode cX7_feed 61 = .ok (.getfield 53, 3) := by decide +kernel
theorem dX7_feed_64 : decode cX7_feed 64 = .ok (.getfield 76, 3) := by decide +kernel
theorem dX7_feed_67 : decode cX7_feed 67 = .ok (.ireturn, 1) := by decide +kernel
theorem dX7_end_0 : decode cX7_end 0 = .ok (.iload_n 1, 1) := by decide +kernel
theorem dX7_end_1 : decode cX7_end 1 = .ok (.ifCond .lt 14, 3) := by decide +kernel
theorem dX7_end_4 : decode cX7_end 4 = .ok (.iload_n 1, 1) := by decide +kernel
theorem dX7_end_5 : decode cX7_end 5 = .ok (.aload_n 0, 1) := by decide +kernel
theorem dX7_end_6 : decode cX7_end 6 = .ok (.getfield 53, 3) := by decide +kernel
theorem dX7_end_9 : decode cX7_end 9 = .ok (.getfield 76, 3) := by decide +kernel
theorem dX7_end_12 : decode cX7_end 12 = .ok (.if_icmp .le 5, 3) := by decide +kernel
theorem dX7_end_15 : decode cX7_end 15 = .ok (.iconst (-1), 1) := by decide +kernel
theorem dX7_end_16 : decode cX7_end 16 = .ok (.ireturn, 1) := by decide +kernel
theorem dX7_end_17 : decode cX7_end 17 = .ok (.aload_n 0, 1) := by decide +kernel
theorem dX7_end_18 : decode cX7_end 18 = .ok (.getfield 53, 3) := by decide +kernel
theorem dX7_end_21 : decode cX7_end 21 = .ok (.iload_n 1, 1) := by decide +kernel
theorem dX7_end_22 : decode cX7_end 22 = .ok (.putfield 76, 3) := by decide +kernel
theorem dX7_end_25 : decode cX7_end 25 = .ok (.iload_n 1, 1) := by decide +kernel
theorem dX7_end_26 : decode cX7_end 26 = .ok (.ireturn, 1) := by decide +kernel
theorem dX7_format_0 : decode cX7_format 0 = .ok (.aload_n 0, 1) := by decide +kernel
theorem dX7_format_1 : decode cX7_format 1 = .ok (.getfield 21, 3) := by decide +kernel
theorem dX7_format_4 : decode cX7_format 4 = .ok (.iload_n 1, 1) := by decide +kernel
theorem dX7_format_5 : decode cX7_format 5 = .ok (.ldc 83, 2) := by decide +kernel
theorem dX7_format_7 : decode cX7_format 7 = .ok (.iand, 1) := by decide +kernel
theorem dX7_format_8 : decode cX7_format 8 = .ok (.putfield 84, 3) := by decide +kernel
theorem dX7_format_11 : decode cX7_format 11 = .ok (.aload_n 0, 1) := by decide +kernel
theorem dX7_format_12 : decode cX7_format 12 = .ok (.getfield 21, 3) := by decide +kernel
theorem dX7_format_15 : decode cX7_format 15 = .ok (.invokevirtual 87, 3) := by decide +kernel
theorem dX7_format_18 : decode cX7_format 18 = .ok (.aload_n 0, 1) := by decide +kernel
theorem dX7_format_19 : decode cX7_format 19 = .ok (.getfield 28, 3) := by decide +kernel
theorem dX7_format_22 : decode cX7_format 22 = .ok (.aload_n 0, 1) := by decide +kernel
theorem dX7_format_23 : decode cX7_format 23 = .ok (.getfield 21, 3) := by decide +kernel
theorem dX7_format_26 : decode cX7_format 26 = .ok (.getfield 84, 3) := by decide +kernel
theorem dX7_format_29 : decode cX7_format 29 = .ok (.iload_n 2, 1) := by decide +kernel
theorem dX7_format_30 : decode cX7_format 30 = .ok (.iload_n 3, 1) := by decide +kernel
theorem dX7_format_31 : decode cX7_format 31 = .ok (.invokevirtual 90, 3) := by decide +kernel
theorem dX7_format_34 : decode cX7_format 34 = .ok (.aload_n 0, 1) := by decide +kernel
theorem dX7_format_35 : decode cX7_format 35 = .ok (.getfield 21, 3) := by decide +kernel
theorem dX7_format_38 : decode cX7_format 38 = .ok (.bipush 9, 2) := by decide +kernel
theorem dX7_format_40 : decode cX7_format 40 = .ok (.iconst 0, 1) := by decide +kernel
theorem dX7_format_41 : decode cX7_format 41 = .ok (.aload_n 0, 1) := by decide +kernel
theorem dX7_format_42 : decode cX7_format 42 = .ok (.getfield 28, 3) := by decide +kernel
theorem dX7_format_45 : decode cX7_format 45 = .ok (.getfield 94, 3) := by decide +kernel
theorem dX7_format_48 : decode cX7_format 48 = .ok (.invokevirtual 97, 3) := by decide +kernel
theorem dX7_format_51 : decode cX7_format 51 = .ok (.aload_n 0, 1) := by decide +kernel
theorem dX7_format_52 : decode cX7_format 52 = .ok (.getfield 12, 3) := by decide +kernel
theorem dX7_format_55 : decode cX7_format 55 = .ok (.iconst 0, 1) := by decide +kernel
theorem dX7_format_56 : decode cX7_format 56 = .ok (.iconst 0, 1) := by decide +kernel
theorem dX7_format_57 : decode cX7_format 57 = .ok (.iconst 0, 1) := by decide +kernel
theorem dX7_format_58 : decode cX7_format 58 = .ok (.invokevirtual 101, 3) := by decide +kernel
theorem dX7_format_61 : decode cX7_format 61 = .ok (.ireturn, 1) := by decide +kernel
theorem dX7_mount_0 : decode cX7_mount 0 = .ok (.aload_n 0, 1) := by decide +kernel
theorem dX7_mount_1 : decode cX7_mount 1 = .ok (.getfield 21, 3) := by decide +kernel
theorem dX7_mount_4 : decode cX7_mount 4 = .ok (.iload_n 1, 1) := by decide +kernel
theorem dX7_mount_5 : decode cX7_mount 5 = .ok (.ldc 83, 2) := by decide +kernel
theorem dX7_mount_7 : decode cX7_mount 7 = .ok (.iand, 1) := by decide +kernel
theorem dX7_mount_8 : decode cX7_mount 8 = .ok (.putfield 84, 3) := by decide +kernel
theorem dX7_mount_11 : decode cX7_mount 11 = .ok (.aload_n 0, 1) := by decide +kernel
theorem dX7_mount_12 : decode cX7_mount 12 = .ok (.getfield 12, 3) := by decide +kernel
theorem dX7_mount_15 : decode cX7_mount 15 = .ok (.iconst 0, 1) := by decide +kernel
theorem dX7_mount_16 : decode cX7_mount 16 = .ok (.iconst 0, 1) := by decide +kernel
theorem dX7_mount_17 : decode cX7_mount 17 = .ok (.iconst 0, 1) := by decide +kernel
theorem dX7_mount_18 : decode cX7_mount 18 = .ok (.invokevirtual 101, 3) := by decide +kernel
theorem dX7_mount_21 : decode cX7_mount 21 = .ok (.ireturn, 1) := by decide +kernel
theorem dX7_save_0 : decode cX7_save 0 = .ok (.iload_n 1, 1) := by decide +kernel
theorem dX7_save_1 : decode cX7_save 1 = .ok (.iconst 1, 1) := by decide +kernel
theorem dX7_save_2 : decode cX7_save 2 = .ok (.if_icmp .lt 17, 3) := by decide +kernel
theorem dX7_save_5 : decode cX7_save 5 = .ok (.iload_n 1, 1) := by decide +kernel
theorem dX7_save_6 : decode cX7_save 6 = .ok (.bipush 9, 2) := by decide +kernel
theorem dX7_save_8 : decode cX7_save 8 = .ok (.if_icmp .gt 11, 3) := by decide +kernel
theorem dX7_save_11 : decode cX7_save 11 = .ok (.iload_n 2, 1) := by decide +kernel
theorem dX7_save_12 : decode cX7_save 12 = .ok (.ifCond .ne 17, 3) := by decide +kernel
theorem dX7_save_15 : decode cX7_save 15 = .ok (.iload_n 3, 1) := by decide +kernel
theorem dX7_save_16 : decode cX7_save 16 = .ok (.ifCond .ne 13, 3) := by decide +kernel
theorem dX7_save_19 : decode cX7_save 19 = .ok (.aload_n 0, 1) := by decide +kernel
theorem dX7_save_20 : decode cX7_save 20 = .ok (.getfield 53, 3) := by decide +kernel
theorem dX7_save_23 : decode cX7_save 23 = .ok (.iconst 0, 1) := by decide +kernel
theorem dX7_save_24 : decode cX7_save 24 = .ok (.putfield 76, 3) := by decide +kernel
theorem dX7_save_27 : decode cX7_save 27 = .ok (.iconst (-1), 1) := by decide +kernel
theorem dX7_save_28 : decode cX7_save 28 = .ok (.ireturn, 1) := by decide +kernel
theorem dX7_save_29 : decode cX7_save 29 = .ok (.aload_n 0, 1) := by decide +kernel
theorem dX7_save_30 : decode cX7_save 30 = .ok (.iload_n 2, 1) := by decide +kernel
theorem dX7_save_31 : decode cX7_save 31 = .ok (.iload_n 3, 1) := by decide +kernel
theorem dX7_save_32 : decode cX7_save 32 = .ok (.invokevirtual 105, 3) := by decide +kernel
theorem dX7_save_35 : decode cX7_save 35 = .ok (.istore 4, 2) := by decide +kernel
theorem dX7_save_37 : decode cX7_save 37 = .ok (.iload 4, 2) := by decide +kernel
theorem dX7_save_39 : decode cX7_save 39 = .ok (.ifCond .ne 39, 3) := by decide +kernel
theorem dX7_save_42 : decode cX7_save 42 = .ok (.aload_n 0, 1) := by decide +kernel
theorem dX7_save_43 : decode cX7_save 43 = .ok (.getfield 37, 3) := by decide +kernel
theorem dX7_save_46 : decode cX7_save 46 = .ok (.getfield 109, 3) := by decide +kernel
theorem dX7_save_49 : decode cX7_save 49 = .ok (.iconst (-1), 1) := by decide +kernel
theorem dX7_save_50 : decode cX7_save 50 = .ok (.if_icmp .eq 28, 3) := by decide +kernel
theorem dX7_save_53 : decode cX7_save 53 = .ok (.aload_n 0, 1) := by decide +kernel
theorem dX7_save_54 : decode cX7_save 54 = .ok (.getfield 12, 3) := by decide +kernel
theorem dX7_save_57 : decode cX7_save 57 = .ok (.bipush 63, 2) := by decide +kernel
theorem dX7_save_59 : decode cX7_save 59 = .ok (.aload_n 0, 1) := by decide +kernel
theorem dX7_save_60 : decode cX7_save 60 = .ok (.getfield 37, 3) := by decide +kernel
theorem dX7_save_63 : decode cX7_save 63 = .ok (.getfield 112, 3) := by decide +kernel
theorem dX7_save_66 : decode cX7_save 66 = .ok (.aload_n 0, 1) := by decide +kernel
theorem dX7_save_67 : decode cX7_save 67 = .ok (.getfield 37, 3) := by decide +kernel
theorem dX7_save_70 : decode cX7_save 70 = .ok (.getfield 115, 3) := by decide +kernel
theorem dX7_save_73 : decode cX7_save 73 = .ok (.invokevirtual 101, 3) := by decide +kernel
theorem dX7_save_76 : decode cX7_save 76 = .ok (.istore 4, 2) := by decide +kernel
theorem dX7_save_78 : decode cX7_save 78 = .ok (.iload 4, 2) := by decide +kernel
theorem dX7_save_80 : decode cX7_save 80 = .ok (.ifCond .ne 23, 3) := by decide +kernel
theorem dX7_save_83 : decode cX7_save 83 = .ok (.aload_n 0, 1) := by decide +kernel
theorem dX7_save_84 : decode cX7_save 84 = .ok (.invokevirtual 118, 3) := by decide +kernel
theorem dX7_save_87 : decode cX7_save 87 = .ok (.ifCond .ne 16, 3) := by decide +kernel
theorem dX7_save_90 : decode cX7_save 90 = .ok (.aload_n 0, 1) := by decide +kernel
theorem dX7_save_91 : decode cX7_save 91 = .ok (.getfield 12, 3) := by decide +kernel
theorem dX7_save_94 : decode cX7_save 94 = .ok (.bipush 72, 2) := by decide +kernel
theorem dX7_save_96 : decode cX7_save 96 = .ok (.iconst 0, 1) := by decide +kernel
theorem dX7_save_97 : decode cX7_save 97 = .ok (.iconst 0, 1) := by decide +kernel
theorem dX7_save_98 : decode cX7_save 98 = .ok (.invokevirtual 101, 3) := by decide +kernel
theorem dX7_save_101 : decode cX7_save 101 = .ok (.istore 4, 2) := by decide +kernel
theorem dX7_save_103 : decode cX7_save 103 = .ok (.iload 4, 2) := by decide +kernel
theorem dX7_save_105 : decode cX7_save 105 = .ok (.ifCond .ne 16, 3) := by decide +kernel
theorem dX7_save_108 : decode cX7_save 108 = .ok (.aload_n 0, 1) := by decide +kernel
theorem dX7_save_109 : decode cX7_save 109 = .ok (.getfield 44, 3) := by decide +kernel
theorem dX7_save_112 : decode cX7_save 112 = .ok (.aload_n 0, 1) := by decide +kernel
theorem dX7_save_113 : decode cX7_save 113 = .ok (.getfield 53, 3) := by decide +kernel
theorem dX7_save_116 : decode cX7_save 116 = .ok (.invokevirtual 122, 3) := by decide +kernel
theorem dX7_save_119 : decode cX7_save 119 = .ok (.istore 4, 2) := by decide +kernel
theorem dX7_save_121 : decode cX7_save 121 = .ok (.iload 4, 2) := by decide +kernel
theorem dX7_save_123 : decode cX7_save 123 = .ok (.ifCond .ne 12, 3) := by decide +kernel
theorem dX7_save_126 : decode cX7_save 126 = .ok (.aload_n 0, 1) := by decide +kernel
theorem dX7_save_127 : decode cX7_save 127 = .ok (.iload_n 1, 1) := by decide +kernel
theorem dX7_save_128 : decode cX7_save 128 = .ok (.iload_n 2, 1) := by decide +kernel
theorem dX7_save_129 : decode cX7_save 129 = .ok (.iload_n 3, 1) := by decide +kernel
theorem dX7_save_130 : decode cX7_save 130 = .ok (.invokevirtual 126, 3) := by decide +kernel
theorem dX7_save_133 : decode cX7_save 133 = .ok (.istore 4, 2) := by decide +kernel
theorem dX7_save_135 : decode cX7_save 135 = .ok (.iload 4, 2) := by decide +kernel
theorem dX7_save_137 : decode cX7_save 137 = .ok (.ifCond .ne 22, 3) := by decide +kernel
theorem dX7_save_140 : decode cX7_save 140 = .ok (.aload_n 0, 1) := by decide +kernel
theorem dX7_save_141 : decode cX7_save 141 = .ok (.getfield 21, 3) := by decide +kernel
theorem dX7_save_144 : decode cX7_save 144 = .ok (.bipush 9, 2) := by decide +kernel
theorem dX7_save_146 : decode cX7_save 146 = .ok (.iconst 0, 1) := by decide +kernel
theorem dX7_save_147 : decode cX7_save 147 = .ok (.aload_n 0, 1) := by decide +kernel
theorem dX7_save_148 : decode cX7_save 148 = .ok (.getfield 28, 3) := by decide +kernel
theorem dX7_save_151 : decode cX7_save 151 = .ok (.getfield 94, 3) := by decide +kernel
theorem dX7_save_154 : decode cX7_save 154 = .ok (.invokevirtual 129, 3) := by decide +kernel
theorem dX7_save_157 : decode cX7_save 157 = .ok (.istore 4, 2) := by decide +kernel
theorem dX7_save_159 : decode cX7_save 159 = .ok (.aload_n 0, 1) := by decide +kernel
theorem dX7_save_160 : decode cX7_save 160 = .ok (.getfield 53, 3) := by decide +kernel
theorem dX7_save_163 : decode cX7_save 163 = .ok (.iconst 0, 1) := by decide +kernel
theorem dX7_save_164 : decode cX7_save 164 = .ok (.putfield 76, 3) := by decide +kernel
theorem dX7_save_167 : decode cX7_save 167 = .ok (.iload 4, 2) := by decide +kernel
theorem dX7_save_169 : decode cX7_save 169 = .ok (.ireturn, 1) := by decide +kernel
theorem dX7_load_0 : decode cX7_load 0 = .ok (.aload_n 0, 1) := by decide +kernel
theorem dX7_load_1 : decode cX7_load 1 = .ok (.getfield 57, 3) := by decide +kernel
theorem dX7_load_4 : decode cX7_load 4 = .ok (.iconst 0, 1) := by decide +kernel
theorem dX7_load_5 : decode cX7_load 5 = .ok (.putfield 76, 3) := by decide +kernel
theorem dX7_load_8 : decode cX7_load 8 = .ok (.aload_n 0, 1) := by decide +kernel
theorem dX7_load_9 : decode cX7_load 9 = .ok (.iload_n 1, 1) := by decide +kernel
theorem dX7_load_10 : decode cX7_load 10 = .ok (.iload_n 2, 1) := by decide +kernel
theorem dX7_load_11 : decode cX7_load 11 = .ok (.invokevirtual 105, 3) := by decide +kernel
theorem dX7_load_14 : decode cX7_load 14 = .ok (.istore_n 3, 1) := by decide +kernel
theorem dX7_load_15 : decode cX7_load 15 = .ok (.iload_n 3, 1) := by decide +kernel
theorem dX7_load_16 : decode cX7_load 16 = .ok (.ifCond .ne 19, 3) := by decide +kernel
theorem dX7_load_19 : decode cX7_load 19 = .ok (.aload_n 0, 1) := by decide +kernel
theorem dX7_load_20 : decode cX7_load 20 = .ok (.getfield 44, 3) := by decide +kernel
theorem dX7_load_23 : decode cX7_load 23 = .ok (.aload_n 0, 1) := by decide +kernel
theorem dX7_load_24 : decode cX7_load 24 = .ok (.getfield 37, 3) := by decide +kernel
theorem dX7_load_27 : decode cX7_load 27 = .ok (.aload_n 0, 1) := by decide +kernel
theorem dX7_load_28 : decode cX7_load 28 = .ok (.getfield 57, 3) := by decide +kernel
theorem dX7_load_31 : decode cX7_load 31 = .ok (.invokevirtual 132, 3) := by decide +kernel
theorem dX7_load_34 : decode cX7_load 34 = .ok (.istore_n 3, 1) := by decide +kernel
theorem dX7_load_35 : decode cX7_load 35 = .ok (.aload_n 0, 1) := by decide +kernel
theorem dX7_load_36 : decode cX7_load 36 = .ok (.iload_n 3, 1) := by decide +kernel
theorem dX7_load_37 : decode cX7_load 37 = .ok (.invokevirtual 136, 3) := by decide +kernel
theorem dX7_load_40 : decode cX7_load 40 = .ok (.ireturn, 1) := by decide +kernel
theorem dX7_scratch_0 : decode cX7_scratch 0 = .ok (.aload_n 0, 1) := by decide +kernel
theorem dX7_scratch_1 : decode cX7_scratch 1 = .ok (.iload_n 1, 1) := by decide +kernel
theorem dX7_scratch_2 : decode cX7_scratch 2 = .ok (.iload_n 2, 1) := by decide +kernel
theorem dX7_scratch_3 : decode cX7_scratch 3 = .ok (.invokevirtual 105, 3) := by decide +kernel
theorem dX7_scratch_6 : decode cX7_scratch 6 = .ok (.istore_n 3, 1) := by decide +kernel
theorem dX7_scratch_7 : decode cX7_scratch 7 = .ok (.iload_n 3, 1) := by decide +kernel
theorem dX7_scratch_8 : decode cX7_scratch 8 = .ok (.ifCond .ne 19, 3) := by decide +kernel
theorem dX7_scratch_11 : decode cX7_scratch 11 = .ok (.aload_n 0, 1) := by decide +kernel
theorem dX7_scratch_12 : decode cX7_scratch 12 = .ok (.getfield 44, 3) := by decide +kernel
theorem dX7_scratch_15 : decode cX7_scratch 15 = .ok (.aload_n 0, 1) := by decide +kernel
theorem dX7_scratch_16 : decode cX7_scratch 16 = .ok (.getfield 37, 3) := by decide +kernel
theorem dX7_scratch_19 : decode cX7_scratch 19 = .ok (.aload_n 0, 1) := by decide +kernel
theorem dX7_scratch_20 : decode cX7_scratch 20 = .ok (.getfield 60, 3) := by decide +kernel
theorem dX7_scratch_23 : decode cX7_scratch 23 = .ok (.invokevirtual 132, 3) := by decide +kernel
theorem dX7_scratch_26 : decode cX7_scratch 26 = .ok (.istore_n 3, 1) := by decide +kernel
theorem dX7_scratch_27 : decode cX7_scratch 27 = .ok (.iload_n 3, 1) := by decide +kernel
theorem dX7_scratch_28 : decode cX7_scratch 28 = .ok (.ifCond .ne 11, 3) := by decide +kernel
theorem dX7_scratch_31 : decode cX7_scratch 31 = .ok (.aload_n 0, 1) := by decide +kernel
theorem dX7_scratch_32 : decode cX7_scratch 32 = .ok (.getfield 37, 3) := by decide +kernel
theorem dX7_scratch_35 : decode cX7_scratch 35 = .ok (.invokevirtual 139, 3) := by decide +kernel
theorem dX7_scratch_38 : decode cX7_scratch 38 = .ok (.istore_n 3, 1) := by decide +kernel
theorem dX7_scratch_39 : decode cX7_scratch 39 = .ok (.iload_n 3, 1) := by decide +kernel
theorem dX7_scratch_40 : decode cX7_scratch 40 = .ok (.ifCond .ne 32, 3) := by decide +kernel
theorem dX7_scratch_43 : decode cX7_scratch 43 = .ok (.aload_n 0, 1) := by decide +kernel
theorem dX7_scratch_44 : decode cX7_scratch 44 = .ok (.getfield 44, 3) := by decide +kernel
theorem dX7_scratch_47 : decode cX7_scratch 47 = .ok (.aload_n 0, 1) := by decide +kernel
theorem dX7_scratch_48 : decode cX7_scratch 48 = .ok (.getfield 28, 3) := by decide +kernel
theorem dX7_scratch_51 : decode cX7_scratch 51 = .ok (.invokevirtual 143, 3) := by decide +kernel
theorem dX7_scratch_54 : decode cX7_scratch 54 = .ok (.aload_n 0, 1) := by decide +kernel
theorem dX7_scratch_55 : decode cX7_scratch 55 = .ok (.getfield 21, 3) := by decide +kernel
theorem dX7_scratch_58 : decode cX7_scratch 58 = .ok (.bipush 9, 2) := by decide +kernel
theorem dX7_scratch_60 : decode cX7_scratch 60 = .ok (.iconst 0, 1) := by decide +kernel
theorem dX7_scratch_61 : decode cX7_scratch 61 = .ok (.aload_n 0, 1) := by decide +kernel
theorem dX7_scratch_62 : decode cX7_scratch 62 = .ok (.getfield 28, 3) := by decide +kernel
theorem dX7_scratch_65 : decode cX7_scratch 65 = .ok (.getfield 94, 3) := by decide +kernel
theorem dX7_scratch_68 : decode cX7_scratch 68 = .ok (.invokevirtual 129, 3) := by decide +kernel
theorem dX7_scratch_71 : decode cX7_scratch 71 = .ok (.istore_n 3, 1) := by decide +kernel
theorem dX7_scratch_72 : decode cX7_scratch 72 = .ok (.iload_n 3, 1) := by decide +kernel
theorem dX7_scratch_73 : decode cX7_scratch 73 = .ok (.ifCond .ne 22, 3) := by decide +kernel
theorem dX7_scratch_76 : decode cX7_scratch 76 = .ok (.aload_n 0, 1) := by decide +kernel
theorem dX7_scratch_77 : decode cX7_scratch 77 = .ok (.getfield 12, 3) := by decide +kernel
theorem dX7_scratch_80 : decode cX7_scratch 80 = .ok (.iconst 1, 1) := by decide +kernel
theorem dX7_scratch_81 : decode cX7_scratch 81 = .ok (.aload_n 0, 1) := by decide +kernel
theorem dX7_scratch_82 : decode cX7_scratch 82 = .ok (.getfield 44, 3) := by decide +kernel
theorem dX7_scratch_85 : decode cX7_scratch 85 = .ok (.getfield 147, 3) := by decide +kernel
theorem dX7_scratch_88 : decode cX7_scratch 88 = .ok (.iconst 0, 1) := by decide +kernel
theorem dX7_scratch_89 : decode cX7_scratch 89 = .ok (.invokevirtual 101, 3) := by decide +kernel
theorem dX7_scratch_92 : decode cX7_scratch 92 = .ok (.goto 4, 3) := by decide +kernel
theorem dX7_scratch_95 : decode cX7_scratch 95 = .ok (.iload_n 3, 1) := by decide +kernel
theorem dX7_scratch_96 : decode cX7_scratch 96 = .ok (.ireturn, 1) := by decide +kernel
theorem dX7_list_0 : decode cX7_list 0 = .ok (.aload_n 0, 1) := by decide +kernel
theorem dX7_list_1 : decode cX7_list 1 = .ok (.getfield 57, 3) := by decide +kernel
theorem dX7_list_4 : decode cX7_list 4 = .ok (.iconst 0, 1) := by decide +kernel
theorem dX7_list_5 : decode cX7_list 5 = .ok (.putfield 76, 3) := by decide +kernel
theorem dX7_list_8 : decode cX7_list 8 = .ok (.aload_n 0, 1) := by decide +kernel
theorem dX7_list_9 : decode cX7_list 9 = .ok (.invokevirtual 148, 3) := by decide +kernel
theorem dX7_list_12 : decode cX7_list 12 = .ok (.istore_n 1, 1) := by decide +kernel
theorem dX7_list_13 : decode cX7_list 13 = .ok (.iload_n 1, 1) := by decide +kernel
theorem dX7_list_14 : decode cX7_list 14 = .ok (.ifCond .ne 11, 3) := by decide +kernel
theorem dX7_list_17 : decode cX7_list 17 = .ok (.aload_n 0, 1) := by decide +kernel
theorem dX7_list_18 : decode cX7_list 18 = .ok (.getfield 37, 3) := by decide +kernel
theorem dX7_list_21 : decode cX7_list 21 = .ok (.invokevirtual 151, 3) := by decide +kernel
theorem dX7_list_24 : decode cX7_list 24 = .ok (.istore_n 1, 1) := by decide +kernel
theorem dX7_list_25 : decode cX7_list 25 = .ok (.iconst 0, 1) := by decide +kernel
theorem dX7_list_26 : decode cX7_list 26 = .ok (.istore_n 2, 1) := by decide +kernel
theorem dX7_list_27 : decode cX7_list 27 = .ok (.iload_n 2, 1) := by decide +kernel
theorem dX7_list_28 : decode cX7_list 28 = .ok (.bipush 7, 2) := by decide +kernel
theorem dX7_list_30 : decode cX7_list 30 = .ok (.if_icmp .ge 45, 3) := by decide +kernel
theorem dX7_list_33 : decode cX7_list 33 = .ok (.iload_n 1, 1) := by decide +kernel
theorem dX7_list_34 : decode cX7_list 34 = .ok (.ifCond .ne 41, 3) := by decide +kernel
theorem dX7_list_37 : decode cX7_list 37 = .ok (.aload_n 0, 1) := by decide +kernel
theorem dX7_list_38 : decode cX7_list 38 = .ok (.getfield 37, 3) := by decide +kernel
theorem dX7_list_41 : decode cX7_list 41 = .ok (.aload_n 0, 1) := by decide +kernel
theorem dX7_list_42 : decode cX7_list 42 = .ok (.getfield 57, 3) := by decide +kernel
theorem dX7_list_45 : decode cX7_list 45 = .ok (.invokevirtual 154, 3) := by decide +kernel
theorem dX7_list_48 : decode cX7_list 48 = .ok (.aload_n 0, 1) := by decide +kernel
theorem dX7_list_49 : decode cX7_list 49 = .ok (.getfield 37, 3) := by decide +kernel
theorem dX7_list_52 : decode cX7_list 52 = .ok (.invokevirtual 158, 3) := by decide +kernel
theorem dX7_list_55 : decode cX7_list 55 = .ok (.ifCond .eq 6, 3) := by decide +kernel
theorem dX7_list_58 : decode cX7_list 58 = .ok (.goto 17, 3) := by decide +kernel
theorem dX7_list_61 : decode cX7_list 61 = .ok (.aload_n 0, 1) := by decide +kernel
theorem dX7_list_62 : decode cX7_list 62 = .ok (.getfield 37, 3) := by decide +kernel
theorem dX7_list_65 : decode cX7_list 65 = .ok (.invokevirtual 161, 3) := by decide +kernel
theorem dX7_list_68 : decode cX7_list 68 = .ok (.istore_n 1, 1) := by decide +kernel
theorem dX7_list_69 : decode cX7_list 69 = .ok (.iinc 2 1, 3) := by decide +kernel
theorem dX7_list_72 : decode cX7_list 72 = .ok (.goto (-45), 3) := by decide +kernel
theorem dX7_list_75 : decode cX7_list 75 = .ok (.aload_n 0, 1) := by decide +kernel
theorem dX7_list_76 : decode cX7_list 76 = .ok (.iload_n 1, 1) := by decide +kernel
theorem dX7_list_77 : decode cX7_list 77 = .ok (.invokevirtual 136, 3) := by decide +kernel
theorem dX7_list_80 : decode cX7_list 80 = .ok (.ireturn, 1) := by decide +kernel
theorem dX7_info_0 : decode cX7_info 0 = .ok (.aload_n 0, 1) := by decide +kernel
theorem dX7_info_1 : decode cX7_info 1 = .ok (.getfield 57, 3) := by decide +kernel
theorem dX7_info_4 : decode cX7_info 4 = .ok (.iconst 0, 1) := by decide +kernel
theorem dX7_info_5 : decode cX7_info 5 = .ok (.putfield 76, 3) := by decide +kernel
theorem dX7_info_8 : decode cX7_info 8 = .ok (.aload_n 0, 1) := by decide +kernel
theorem dX7_info_9 : decode cX7_info 9 = .ok (.invokevirtual 148, 3) := by decide +kernel
theorem dX7_info_12 : decode cX7_info 12 = .ok (.istore_n 1, 1) := by decide +kernel
theorem dX7_info_13 : decode cX7_info 13 = .ok (.iload_n 1, 1) := by decide +kernel
theorem dX7_info_14 : decode cX7_info 14 = .ok (.ifCond .ne 52, 3) := by decide +kernel
theorem dX7_info_17 : decode cX7_info 17 = .ok (.aload_n 0, 1) := by decide +kernel
theorem dX7_info_18 : decode cX7_info 18 = .ok (.getfield 57, 3) := by decide +kernel
theorem dX7_info_21 : decode cX7_info 21 = .ok (.aload_n 0, 1) := by decide +kernel
theorem dX7_info_22 : decode cX7_info 22 = .ok (.getfield 28, 3) := by decide +kernel
theorem dX7_info_25 : decode cX7_info 25 = .ok (.getfield 94, 3) := by decide +kernel
theorem dX7_info_28 : decode cX7_info 28 = .ok (.bipush 40, 2) := by decide +kernel
theorem dX7_info_30 : decode cX7_info 30 = .ok (.bipush 8, 2) := by decide +kernel
theorem dX7_info_32 : decode cX7_info 32 = .ok (.invokevirtual 164, 3) := by decide +kernel
theorem dX7_info_35 : decode cX7_info 35 = .ok (.aload_n 0, 1) := by decide +kernel
theorem dX7_info_36 : decode cX7_info 36 = .ok (.getfield 57, 3) := by decide +kernel
theorem dX7_info_39 : decode cX7_info 39 = .ok (.aload_n 0, 1) := by decide +kernel
theorem dX7_info_40 : decode cX7_info 40 = .ok (.getfield 28, 3) := by decide +kernel
theorem dX7_info_43 : decode cX7_info 43 = .ok (.getfield 94, 3) := by decide +kernel
theorem dX7_info_46 : decode cX7_info 46 = .ok (.bipush 48, 2) := by decide +kernel
theorem dX7_info_48 : decode cX7_info 48 = .ok (.iconst 2, 1) := by decide +kernel
theorem dX7_info_49 : decode cX7_info 49 = .ok (.invokevirtual 164, 3) := by decide +kernel
theorem dX7_info_52 : decode cX7_info 52 = .ok (.aload_n 0, 1) := by decide +kernel
theorem dX7_info_53 : decode cX7_info 53 = .ok (.getfield 57, 3) := by decide +kernel
theorem dX7_info_56 : decode cX7_info 56 = .ok (.aload_n 0, 1) := by decide +kernel
theorem dX7_info_57 : decode cX7_info 57 = .ok (.getfield 28, 3) := by decide +kernel
theorem dX7_info_60 : decode cX7_info 60 = .ok (.invokevirtual 168, 3) := by decide +kernel
theorem dX7_info_63 : decode cX7_info 63 = .ok (.invokevirtual 171, 3) := by decide +kernel
theorem dX7_info_66 : decode cX7_info 66 = .ok (.aload_n 0, 1) := by decide +kernel
theorem dX7_info_67 : decode cX7_info 67 = .ok (.iload_n 1, 1) := by decide +kernel
theorem dX7_info_68 : decode cX7_info 68 = .ok (.invokevirtual 136, 3) := by decide +kernel
theorem dX7_info_71 : decode cX7_info 71 = .ok (.ireturn, 1) := by decide +kernel
theorem dX7_out_0 : decode cX7_out 0 = .ok (.aload_n 0, 1) := by decide +kernel
theorem dX7_out_1 : decode cX7_out 1 = .ok (.getfield 57, 3) := by decide +kernel
theorem dX7_out_4 : decode cX7_out 4 = .ok (.iload_n 1, 1) := by decide +kernel
theorem dX7_out_5 : decode cX7_out 5 = .ok (.invokevirtual 174, 3) := by decide +kernel
theorem dX7_out_8 : decode cX7_out 8 = .ok (.ireturn, 1) := by decide +kernel
theorem dX7_status_0 : decode cX7_status 0 = .ok (.iload_n 1, 1) := by decide +kernel
theorem dX7_status_1 : decode cX7_status 1 = .ok (.tableswitch 51 0 2 #[27, 35, 43], 27) := by decide +kernel
theorem dX7_status_28 : decode cX7_status 28 = .ok (.aload_n 0, 1) := by decide +kernel
theorem dX7_status_29 : decode cX7_status 29 = .ok (.getfield 12, 3) := by decide +kernel
theorem dX7_status_32 : decode cX7_status 32 = .ok (.getfield 177, 3) := by decide +kernel
theorem dX7_status_35 : decode cX7_status 35 = .ok (.ireturn, 1) := by decide +kernel
theorem dX7_status_36 : decode cX7_status 36 = .ok (.aload_n 0, 1) := by decide +kernel
theorem dX7_status_37 : decode cX7_status 37 = .ok (.getfield 12, 3) := by decide +kernel
theorem dX7_status_40 : decode cX7_status 40 = .ok (.getfield 180, 3) := by decide +kernel
theorem dX7_status_43 : decode cX7_status 43 = .ok (.ireturn, 1) := by decide +kernel
theorem dX7_status_44 : decode cX7_status 44 = .ok (.aload_n 0, 1) := by decide +kernel
theorem dX7_status_45 : decode cX7_status 45 = .ok (.getfield 12, 3) := by decide +kernel
theorem dX7_status_48 : decode cX7_status 48 = .ok (.getfield 181, 3) := by decide +kernel
theorem dX7_status_51 : decode cX7_status 51 = .ok (.ireturn, 1) := by decide +kernel
theorem dX7_status_52 : decode cX7_status 52 = .ok (.iconst (-1), 1) := by decide +kernel
theorem dX7_status_53 : decode cX7_status 53 = .ok (.ireturn, 1) := by decide +kernel
theorem dX7_peek_0 : decode cX7_peek 0 = .ok (.aload_n 0, 1) := by decide +kernel
theorem dX7_peek_1 : decode cX7_peek 1 = .ok (.getfield 21, 3) := by decide +kernel
theorem dX7_peek_4 : decode cX7_peek 4 = .ok (.iload_n 1, 1) := by decide +kernel
theorem dX7_peek_5 : decode cX7_peek 5 = .ok (.invokevirtual 182, 3) := by decide +kernel
theorem dX7_peek_8 : decode cX7_peek 8 = .ok (.astore_n 3, 1) := by decide +kernel
theorem dX7_peek_9 : decode cX7_peek 9 = .ok (.aload_n 3, 1) := by decide +kernel
theorem dX7_peek_10 : decode cX7_peek 10 = .ok (.ifnull 11, 3) := by decide +kernel
theorem dX7_peek_13 : decode cX7_peek 13 = .ok (.aload_n 3, 1) := by decide +kernel
theorem dX7_peek_14 : decode cX7_peek 14 = .ok (.iload_n 2, 1) := by decide +kernel
theorem dX7_peek_15 : decode cX7_peek 15 = .ok (.invokevirtual 186, 3) := by decide +kernel
theorem dX7_peek_18 : decode cX7_peek 18 = .ok (.ifCond .ne 7, 3) := by decide +kernel
theorem dX7_peek_21 : decode cX7_peek 21 = .ok (.iconst (-1), 1) := by decide +kernel
theorem dX7_peek_22 : decode cX7_peek 22 = .ok (.goto 8, 3) := by decide +kernel
theorem dX7_peek_25 : decode cX7_peek 25 = .ok (.aload_n 3, 1) := by decide +kernel
theorem dX7_peek_26 : decode cX7_peek 26 = .ok (.iload_n 2, 1) := by decide +kernel
theorem dX7_peek_27 : decode cX7_peek 27 = .ok (.invokevirtual 190, 3) := by decide +kernel
theorem dX7_peek_30 : decode cX7_peek 30 = .ok (.ireturn, 1) := by decide +kernel
theorem dX7_poke_0 : decode cX7_poke 0 = .ok (.aload_n 0, 1) := by decide +kernel
theorem dX7_poke_1 : decode cX7_poke 1 = .ok (.getfield 21, 3) := by decide +kernel
theorem dX7_poke_4 : decode cX7_poke 4 = .ok (.iload_n 1, 1) := by decide +kernel
theorem dX7_poke_5 : decode cX7_poke 5 = .ok (.invokevirtual 182, 3) := by decide +kernel
theorem dX7_poke_8 : decode cX7_poke 8 = .ok (.astore 4, 2) := by decide +kernel
theorem dX7_poke_10 : decode cX7_poke 10 = .ok (.aload 4, 2) := by decide +kernel
theorem dX7_poke_12 : decode cX7_poke 12 = .ok (.ifnull 12, 3) := by decide +kernel
theorem dX7_poke_15 : decode cX7_poke 15 = .ok (.aload 4, 2) := by decide +kernel
theorem dX7_poke_17 : decode cX7_poke 17 = .ok (.iload_n 2, 1) := by decide +kernel
theorem dX7_poke_18 : decode cX7_poke 18 = .ok (.invokevirtual 186, 3) := by decide +kernel
theorem dX7_poke_21 : decode cX7_poke 21 = .ok (.ifCond .ne 5, 3) := by decide +kernel
theorem dX7_poke_24 : decode cX7_poke 24 = .ok (.iconst (-1), 1) := by decide +kernel
theorem dX7_poke_25 : decode cX7_poke 25 = .ok (.ireturn, 1) := by decide +kernel
theorem dX7_poke_26 : decode cX7_poke 26 = .ok (.aload 4, 2) := by decide +kernel
theorem dX7_poke_28 : decode cX7_poke 28 = .ok (.iload_n 2, 1) := by decide +kernel
theorem dX7_poke_29 : decode cX7_poke 29 = .ok (.invokevirtual 190, 3) := by decide +kernel
theorem dX7_poke_32 : decode cX7_poke 32 = .ok (.istore 5, 2) := by decide +kernel
theorem dX7_poke_34 : decode cX7_poke 34 = .ok (.aload 4, 2) := by decide +kernel
theorem dX7_poke_36 : decode cX7_poke 36 = .ok (.bipush 8, 2) := by decide +kernel
theorem dX7_poke_38 : decode cX7_poke 38 = .ok (.iload_n 2, 1) := by decide +kernel
theorem dX7_poke_39 : decode cX7_poke 39 = .ok (.imul, 1) := by decide +kernel
theorem dX7_poke_40 : decode cX7_poke 40 = .ok (.bipush 8, 2) := by decide +kernel
theorem dX7_poke_42 : decode cX7_poke 42 = .ok (.iload_n 3, 1) := by decide +kernel
theorem dX7_poke_43 : decode cX7_poke 43 = .ok (.invokevirtual 191, 3) := by decide +kernel
theorem dX7_poke_46 : decode cX7_poke 46 = .ok (.iload 5, 2) := by decide +kernel
theorem dX7_poke_48 : decode cX7_poke 48 = .ok (.ireturn, 1) := by decide +kernel
theorem dX7_stamp_0 : decode cX7_stamp 0 = .ok (.aload_n 0, 1) := by decide +kernel
theorem dX7_stamp_1 : decode cX7_stamp 1 = .ok (.getfield 21, 3) := by decide +kernel
theorem dX7_stamp_4 : decode cX7_stamp 4 = .ok (.iload_n 1, 1) := by decide +kernel
theorem dX7_stamp_5 : decode cX7_stamp 5 = .ok (.invokevirtual 182, 3) := by decide +kernel
theorem dX7_stamp_8 : decode cX7_stamp 8 = .ok (.astore 4, 2) := by decide +kernel
theorem dX7_stamp_10 : decode cX7_stamp 10 = .ok (.aload 4, 2) := by decide +kernel
theorem dX7_stamp_12 : decode cX7_stamp 12 = .ok (.ifnull 12, 3) := by decide +kernel
theorem dX7_stamp_15 : decode cX7_stamp 15 = .ok (.aload 4, 2) := by decide +kernel
theorem dX7_stamp_17 : decode cX7_stamp 17 = .ok (.iload_n 2, 1) := by decide +kernel
theorem dX7_stamp_18 : decode cX7_stamp 18 = .ok (.invokevirtual 186, 3) := by decide +kernel
theorem dX7_stamp_21 : decode cX7_stamp 21 = .ok (.ifCond .ne 5, 3) := by decide +kernel
theorem dX7_stamp_24 : decode cX7_stamp 24 = .ok (.iconst (-1), 1) := by decide +kernel
theorem dX7_stamp_25 : decode cX7_stamp 25 = .ok (.ireturn, 1) := by decide +kernel
theorem dX7_stamp_26 : decode cX7_stamp 26 = .ok (.aload 4, 2) := by decide +kernel
theorem dX7_stamp_28 : decode cX7_stamp 28 = .ok (.bipush 8, 2) := by decide +kernel
theorem dX7_stamp_30 : decode cX7_stamp 30 = .ok (.iload_n 2, 1) := by decide +kernel
theorem dX7_stamp_31 : decode cX7_stamp 31 = .ok (.imul, 1) := by decide +kernel
theorem dX7_stamp_32 : decode cX7_stamp 32 = .ok (.bipush 16, 2) := by decide +kernel
theorem dX7_stamp_34 : decode cX7_stamp 34 = .ok (.iload_n 3, 1) := by decide +kernel
theorem dX7_stamp_35 : decode cX7_stamp 35 = .ok (.bipush 16, 2) := by decide +kernel
theorem dX7_stamp_37 : decode cX7_stamp 37 = .ok (.iushr, 1) := by decide +kernel
theorem dX7_stamp_38 : decode cX7_stamp 38 = .ok (.invokevirtual 191, 3) := by decide +kernel
theorem dX7_stamp_41 : decode cX7_stamp 41 = .ok (.aload 4, 2) := by decide +kernel
theorem dX7_stamp_43 : decode cX7_stamp 43 = .ok (.bipush 8, 2) := by decide +kernel
theorem dX7_stamp_45 : decode cX7_stamp 45 = .ok (.iload_n 2, 1) := by decide +kernel
theorem dX7_stamp_46 : decode cX7_stamp 46 = .ok (.imul, 1) := by decide +kernel
theorem dX7_stamp_47 : decode cX7_stamp 47 = .ok (.bipush 16, 2) := by decide +kernel
theorem dX7_stamp_49 : decode cX7_stamp 49 = .ok (.iadd, 1) := by decide +kernel
theorem dX7_stamp_50 : decode cX7_stamp 50 = .ok (.bipush 16, 2) := by decide +kernel
theorem dX7_stamp_52 : decode cX7_stamp 52 = .ok (.iload_n 3, 1) := by decide +kernel
theorem dX7_stamp_53 : decode cX7_stamp 53 = .ok (.invokevirtual 191, 3) := by decide +kernel
theorem dX7_stamp_56 : decode cX7_stamp 56 = .ok (.iconst 1, 1) := by decide +kernel
theorem dX7_stamp_57 : decode cX7_stamp 57 = .ok (.ireturn, 1) := by decide +kernel
theorem dX7_turn_0 : decode cX7_turn 0 = .ok (.aload_n 0, 1) := by decide +kernel
theorem dX7_turn_1 : decode cX7_turn 1 = .ok (.getfield 21, 3) := by decide +kernel
theorem dX7_turn_4 : decode cX7_turn 4 = .ok (.iload_n 1, 1) := by decide +kernel
theorem dX7_turn_5 : decode cX7_turn 5 = .ok (.invokevirtual 182, 3) := by decide +kernel
theorem dX7_turn_8 : decode cX7_turn 8 = .ok (.astore_n 3, 1) := by decide +kernel
theorem dX7_turn_9 : decode cX7_turn 9 = .ok (.aload_n 3, 1) := by decide +kernel
theorem dX7_turn_10 : decode cX7_turn 10 = .ok (.ifnonnull 5, 3) := by decide +kernel
theorem dX7_turn_13 : decode cX7_turn 13 = .ok (.iconst (-1), 1) := by decide +kernel
theorem dX7_turn_14 : decode cX7_turn 14 = .ok (.ireturn, 1) := by decide +kernel
theorem dX7_turn_15 : decode cX7_turn 15 = .ok (.aload_n 3, 1) := by decide +kernel
theorem dX7_turn_16 : decode cX7_turn 16 = .ok (.iload_n 2, 1) := by decide +kernel
theorem dX7_turn_17 : decode cX7_turn 17 = .ok (.aload_n 0, 1) := by decide +kernel
theorem dX7_turn_18 : decode cX7_turn 18 = .ok (.getfield 73, 3) := by decide +kernel
theorem dX7_turn_21 : decode cX7_turn 21 = .ok (.invokevirtual 194, 3) := by decide +kernel
theorem dX7_turn_24 : decode cX7_turn 24 = .ok (.iconst 1, 1) := by decide +kernel
theorem dX7_turn_25 : decode cX7_turn 25 = .ok (.ireturn, 1) := by decide +kernel
theorem dX7_syncs_0 : decode cX7_syncs 0 = .ok (.aload_n 0, 1) := by decide +kernel
theorem dX7_syncs_1 : decode cX7_syncs 1 = .ok (.getfield 21, 3) := by decide +kernel
theorem dX7_syncs_4 : decode cX7_syncs 4 = .ok (.iload_n 1, 1) := by decide +kernel
theorem dX7_syncs_5 : decode cX7_syncs 5 = .ok (.invokevirtual 182, 3) := by decide +kernel
theorem dX7_syncs_8 : decode cX7_syncs 8 = .ok (.astore_n 2, 1) := by decide +kernel
theorem dX7_syncs_9 : decode cX7_syncs 9 = .ok (.aload_n 2, 1) := by decide +kernel
theorem dX7_syncs_10 : decode cX7_syncs 10 = .ok (.ifnonnull 7, 3) := by decide +kernel
theorem dX7_syncs_13 : decode cX7_syncs 13 = .ok (.iconst (-1), 1) := by decide +kernel
theorem dX7_syncs_14 : decode cX7_syncs 14 = .ok (.goto 7, 3) := by decide +kernel
theorem dX7_syncs_17 : decode cX7_syncs 17 = .ok (.aload_n 2, 1) := by decide +kernel
theorem dX7_syncs_18 : decode cX7_syncs 18 = .ok (.invokevirtual 198, 3) := by decide +kernel
theorem dX7_syncs_21 : decode cX7_syncs 21 = .ok (.ireturn, 1) := by decide +kernel
theorem dX7_read_0 : decode cX7_read 0 = .ok (.aload_n 0, 1) := by decide +kernel
theorem dX7_read_1 : decode cX7_read 1 = .ok (.getfield 57, 3) := by decide +kernel
theorem dX7_read_4 : decode cX7_read 4 = .ok (.iconst 0, 1) := by decide +kernel
theorem dX7_read_5 : decode cX7_read 5 = .ok (.putfield 76, 3) := by decide +kernel
theorem dX7_read_8 : decode cX7_read 8 = .ok (.aload_n 0, 1) := by decide +kernel
theorem dX7_read_9 : decode cX7_read 9 = .ok (.getfield 21, 3) := by decide +kernel
theorem dX7_read_12 : decode cX7_read 12 = .ok (.iload_n 1, 1) := by decide +kernel
theorem dX7_read_13 : decode cX7_read 13 = .ok (.iload_n 2, 1) := by decide +kernel
theorem dX7_read_14 : decode cX7_read 14 = .ok (.aload_n 0, 1) := by decide +kernel
theorem dX7_read_15 : decode cX7_read 15 = .ok (.getfield 63, 3) := by decide +kernel
theorem dX7_read_18 : decode cX7_read 18 = .ok (.invokevirtual 201, 3) := by decide +kernel
theorem dX7_read_21 : decode cX7_read 21 = .ok (.istore_n 3, 1) := by decide +kernel
theorem dX7_read_22 : decode cX7_read 22 = .ok (.iload_n 3, 1) := by decide +kernel
theorem dX7_read_23 : decode cX7_read 23 = .ok (.ifCond .ne 17, 3) := by decide +kernel
theorem dX7_read_26 : decode cX7_read 26 = .ok (.aload_n 0, 1) := by decide +kernel
theorem dX7_read_27 : decode cX7_read 27 = .ok (.getfield 57, 3) := by decide +kernel
theorem dX7_read_30 : decode cX7_read 30 = .ok (.aload_n 0, 1) := by decide +kernel
theorem dX7_read_31 : decode cX7_read 31 = .ok (.getfield 63, 3) := by decide +kernel
theorem dX7_read_34 : decode cX7_read 34 = .ok (.iconst 0, 1) := by decide +kernel
theorem dX7_read_35 : decode cX7_read 35 = .ok (.bipush 64, 2) := by decide +kernel
theorem dX7_read_37 : decode cX7_read 37 = .ok (.invokevirtual 164, 3) := by decide +kernel
theorem dX7_read_40 : decode cX7_read 40 = .ok (.iload_n 3, 1) := by decide +kernel
theorem dX7_read_41 : decode cX7_read 41 = .ok (.ireturn, 1) := by decide +kernel
theorem dX7_write_0 : decode cX7_write 0 = .ok (.iconst 0, 1) := by decide +kernel
theorem dX7_write_1 : decode cX7_write 1 = .ok (.istore_n 3, 1) := by decide +kernel
theorem dX7_write_2 : decode cX7_write 2 = .ok (.iload_n 3, 1) := by decide +kernel
theorem dX7_write_3 : decode cX7_write 3 = .ok (.bipush 64, 2) := by decide +kernel
theorem dX7_write_5 : decode cX7_write 5 = .ok (.if_icmp .ge 27, 3) := by decide +kernel
theorem dX7_write_8 : decode cX7_write 8 = .ok (.aload_n 0, 1) := by decide +kernel
theorem dX7_write_9 : decode cX7_write 9 = .ok (.getfield 63, 3) := by decide +kernel
theorem dX7_write_12 : decode cX7_write 12 = .ok (.iload_n 3, 1) := by decide +kernel
theorem dX7_write_13 : decode cX7_write 13 = .ok (.iconst 0, 1) := by decide +kernel
theorem dX7_write_14 : decode cX7_write 14 = .ok (.aload_n 0, 1) := by decide +kernel
theorem dX7_write_15 : decode cX7_write 15 = .ok (.getfield 53, 3) := by decide +kernel
theorem dX7_write_18 : decode cX7_write 18 = .ok (.iload_n 3, 1) := by decide +kernel
theorem dX7_write_19 : decode cX7_write 19 = .ok (.invokevirtual 174, 3) := by decide +kernel
theorem dX7_write_22 : decode cX7_write 22 = .ok (.invokestatic 204, 3) := by decide +kernel
theorem dX7_write_25 : decode cX7_write 25 = .ok (.iastore, 1) := by decide +kernel
theorem dX7_write_26 : decode cX7_write 26 = .ok (.iinc 3 1, 3) := by decide +kernel
theorem dX7_write_29 : decode cX7_write 29 = .ok (.goto (-27), 3) := by decide +kernel
theorem dX7_write_32 : decode cX7_write 32 = .ok (.aload_n 0, 1) := by decide +kernel
theorem dX7_write_33 : decode cX7_write 33 = .ok (.getfield 53, 3) := by decide +kernel
theorem dX7_write_36 : decode cX7_write 36 = .ok (.iconst 0, 1) := by decide +kernel
theorem dX7_write_37 : decode cX7_write 37 = .ok (.putfield 76, 3) := by decide +kernel
theorem dX7_write_40 : decode cX7_write 40 = .ok (.aload_n 0, 1) := by decide +kernel
theorem dX7_write_41 : decode cX7_write 41 = .ok (.getfield 21, 3) := by decide +kernel
theorem dX7_write_44 : decode cX7_write 44 = .ok (.iload_n 1, 1) := by decide +kernel
theorem dX7_write_45 : decode cX7_write 45 = .ok (.iload_n 2, 1) := by decide +kernel
theorem dX7_write_46 : decode cX7_write 46 = .ok (.aload_n 0, 1) := by decide +kernel
theorem dX7_write_47 : decode cX7_write 47 = .ok (.getfield 63, 3) := by decide +kernel
theorem dX7_write_50 : decode cX7_write 50 = .ok (.invokevirtual 209, 3) := by decide +kernel
theorem dX7_write_53 : decode cX7_write 53 = .ok (.ireturn, 1) := by decide +kernel
theorem dX7_count_0 : decode cX7_count 0 = .ok (.iload_n 1, 1) := by decide +kernel
theorem dX7_count_1 : decode cX7_count 1 = .ok (.tableswitch 63 0 3 #[31, 39, 47, 55], 31) := by decide +kernel
theorem dX7_count_32 : decode cX7_count 32 = .ok (.aload_n 0, 1) := by decide +kernel
theorem dX7_count_33 : decode cX7_count 33 = .ok (.getfield 21, 3) := by decide +kernel
theorem dX7_count_36 : decode cX7_count 36 = .ok (.getfield 212, 3) := by decide +kernel
theorem dX7_count_39 : decode cX7_count 39 = .ok (.ireturn, 1) := by decide +kernel
theorem dX7_count_40 : decode cX7_count 40 = .ok (.aload_n 0, 1) := by decide +kernel
theorem dX7_count_41 : decode cX7_count 41 = .ok (.getfield 21, 3) := by decide +kernel
theorem dX7_count_44 : decode cX7_count 44 = .ok (.getfield 215, 3) := by decide +kernel
theorem dX7_count_47 : decode cX7_count 47 = .ok (.ireturn, 1) := by decide +kernel
theorem dX7_count_48 : decode cX7_count 48 = .ok (.aload_n 0, 1) := by decide +kernel
theorem dX7_count_49 : decode cX7_count 49 = .ok (.getfield 21, 3) := by decide +kernel
theorem dX7_count_52 : decode cX7_count 52 = .ok (.getfield 218, 3) := by decide +kernel
theorem dX7_count_55 : decode cX7_count 55 = .ok (.ireturn, 1) := by decide +kernel
theorem dX7_count_56 : decode cX7_count 56 = .ok (.aload_n 0, 1) := by decide +kernel
theorem dX7_count_57 : decode cX7_count 57 = .ok (.getfield 53, 3) := by decide +kernel
theorem dX7_count_60 : decode cX7_count 60 = .ok (.getfield 76, 3) := by decide +kernel
theorem dX7_count_63 : decode cX7_count 63 = .ok (.ireturn, 1) := by decide +kernel
theorem dX7_count_64 : decode cX7_count 64 = .ok (.iconst (-1), 1) := by decide +kernel
theorem dX7_count_65 : decode cX7_count 65 = .ok (.ireturn, 1) := by decide +kernel
theorem dX7_openDisk_0 : decode cX7_openDisk 0 = .ok (.aload_n 0, 1) := by decide +kernel
theorem dX7_openDisk_1 : decode cX7_openDisk 1 = .ok (.getfield 12, 3) := by decide +kernel
theorem dX7_openDisk_4 : decode cX7_openDisk 4 = .ok (.iconst 0, 1) := by decide +kernel
theorem dX7_openDisk_5 : decode cX7_openDisk 5 = .ok (.iconst 0, 1) := by decide +kernel
theorem dX7_openDisk_6 : decode cX7_openDisk 6 = .ok (.iconst 0, 1) := by decide +kernel
theorem dX7_openDisk_7 : decode cX7_openDisk 7 = .ok (.invokevirtual 101, 3) := by decide +kernel
theorem dX7_openDisk_10 : decode cX7_openDisk 10 = .ok (.pop, 1) := by decide +kernel
theorem dX7_openDisk_11 : decode cX7_openDisk 11 = .ok (.aload_n 0, 1) := by decide +kernel
theorem dX7_openDisk_12 : decode cX7_openDisk 12 = .ok (.getfield 21, 3) := by decide +kernel
theorem dX7_openDisk_15 : decode cX7_openDisk 15 = .ok (.getfield 84, 3) := by decide +kernel
theorem dX7_openDisk_18 : decode cX7_openDisk 18 = .ok (.iconst (-1), 1) := by decide +kernel
theorem dX7_openDisk_19 : decode cX7_openDisk 19 = .ok (.if_icmp .ne 15, 3) := by decide +kernel
theorem dX7_openDisk_22 : decode cX7_openDisk 22 = .ok (.aload_n 0, 1) := by decide +kernel
theorem dX7_openDisk_23 : decode cX7_openDisk 23 = .ok (.getfield 12, 3) := by decide +kernel
theorem dX7_openDisk_26 : decode cX7_openDisk 26 = .ok (.bipush 74, 2) := by decide +kernel
theorem dX7_openDisk_28 : decode cX7_openDisk 28 = .ok (.iconst 0, 1) := by decide +kernel
theorem dX7_openDisk_29 : decode cX7_openDisk 29 = .ok (.iconst 0, 1) := by decide +kernel
theorem dX7_openDisk_30 : decode cX7_openDisk 30 = .ok (.invokevirtual 101, 3) := by decide +kernel
theorem dX7_openDisk_33 : decode cX7_openDisk 33 = .ok (.ireturn, 1) := by decide +kernel
theorem dX7_openDisk_34 : decode cX7_openDisk 34 = .ok (.aload_n 0, 1) := by decide +kernel
theorem dX7_openDisk_35 : decode cX7_openDisk 35 = .ok (.getfield 21, 3) := by decide +kernel
theorem dX7_openDisk_38 : decode cX7_openDisk 38 = .ok (.bipush 9, 2) := by decide +kernel
theorem dX7_openDisk_40 : decode cX7_openDisk 40 = .ok (.iconst 0, 1) := by decide +kernel
theorem dX7_openDisk_41 : decode cX7_openDisk 41 = .ok (.aload_n 0, 1) := by decide +kernel
theorem dX7_openDisk_42 : decode cX7_openDisk 42 = .ok (.getfield 28, 3) := by decide +kernel
theorem dX7_openDisk_45 : decode cX7_openDisk 45 = .ok (.getfield 94, 3) := by decide +kernel
theorem dX7_openDisk_48 : decode cX7_openDisk 48 = .ok (.invokevirtual 221, 3) := by decide +kernel
theorem dX7_openDisk_51 : decode cX7_openDisk 51 = .ok (.ireturn, 1) := by decide +kernel
theorem dX7_lookFor_0 : decode cX7_lookFor 0 = .ok (.aload_n 0, 1) := by decide +kernel
theorem dX7_lookFor_1 : decode cX7_lookFor 1 = .ok (.invokevirtual 148, 3) := by decide +kernel
theorem dX7_lookFor_4 : decode cX7_lookFor 4 = .ok (.istore_n 3, 1) := by decide +kernel
theorem dX7_lookFor_5 : decode cX7_lookFor 5 = .ok (.iload_n 3, 1) := by decide +kernel
theorem dX7_lookFor_6 : decode cX7_lookFor 6 = .ok (.ifCond .ne 11, 3) := by decide +kernel
theorem dX7_lookFor_9 : decode cX7_lookFor 9 = .ok (.aload_n 0, 1) := by decide +kernel
theorem dX7_lookFor_10 : decode cX7_lookFor 10 = .ok (.getfield 37, 3) := by decide +kernel
theorem dX7_lookFor_13 : decode cX7_lookFor 13 = .ok (.invokevirtual 151, 3) := by decide +kernel
theorem dX7_lookFor_16 : decode cX7_lookFor 16 = .ok (.istore_n 3, 1) := by decide +kernel
theorem dX7_lookFor_17 : decode cX7_lookFor 17 = .ok (.iconst 0, 1) := by decide +kernel
theorem dX7_lookFor_18 : decode cX7_lookFor 18 = .ok (.istore 4, 2) := by decide +kernel
theorem dX7_lookFor_20 : decode cX7_lookFor 20 = .ok (.iload 4, 2) := by decide +kernel
theorem dX7_lookFor_22 : decode cX7_lookFor 22 = .ok (.bipush 7, 2) := by decide +kernel
theorem dX7_lookFor_24 : decode cX7_lookFor 24 = .ok (.if_icmp .ge 45, 3) := by decide +kernel
theorem dX7_lookFor_27 : decode cX7_lookFor 27 = .ok (.iload_n 3, 1) := by decide +kernel
theorem dX7_lookFor_28 : decode cX7_lookFor 28 = .ok (.ifCond .ne 41, 3) := by decide +kernel
theorem dX7_lookFor_31 : decode cX7_lookFor 31 = .ok (.aload_n 0, 1) := by decide +kernel
theorem dX7_lookFor_32 : decode cX7_lookFor 32 = .ok (.getfield 37, 3) := by decide +kernel
theorem dX7_lookFor_35 : decode cX7_lookFor 35 = .ok (.iload_n 1, 1) := by decide +kernel
theorem dX7_lookFor_36 : decode cX7_lookFor 36 = .ok (.iload_n 2, 1) := by decide +kernel
theorem dX7_lookFor_37 : decode cX7_lookFor 37 = .ok (.invokevirtual 224, 3) := by decide +kernel
theorem dX7_lookFor_40 : decode cX7_lookFor 40 = .ok (.ifCond .ne 13, 3) := by decide +kernel
theorem dX7_lookFor_43 : decode cX7_lookFor 43 = .ok (.aload_n 0, 1) := by decide +kernel
theorem dX7_lookFor_44 : decode cX7_lookFor 44 = .ok (.getfield 37, 3) := by decide +kernel
theorem dX7_lookFor_47 : decode cX7_lookFor 47 = .ok (.invokevirtual 158, 3) := by decide +kernel
theorem dX7_lookFor_50 : decode cX7_lookFor 50 = .ok (.ifCond .eq 5, 3) := by decide +kernel
theorem dX7_lookFor_53 : decode cX7_lookFor 53 = .ok (.iconst 0, 1) := by decide +kernel
theorem dX7_lookFor_54 : decode cX7_lookFor 54 = .ok (.ireturn, 1) := by decide +kernel
theorem dX7_lookFor_55 : decode cX7_lookFor 55 = .ok (.aload_n 0, 1) := by decide +kernel
theorem dX7_lookFor_56 : decode cX7_lookFor 56 = .ok (.getfield 37, 3) := by decide +kernel
theorem dX7_lookFor_59 : decode cX7_lookFor 59 = .ok (.invokevirtual 161, 3) := by decide +kernel
theorem dX7_lookFor_62 : decode cX7_lookFor 62 = .ok (.istore_n 3, 1) := by decide +kernel
theorem dX7_lookFor_63 : decode cX7_lookFor 63 = .ok (.iinc 4 1, 3) := by decide +kernel
theorem dX7_lookFor_66 : decode cX7_lookFor 66 = .ok (.goto (-46), 3) := by decide +kernel
theorem dX7_lookFor_69 : decode cX7_lookFor 69 = .ok (.iload_n 3, 1) := by decide +kernel
theorem dX7_lookFor_70 : decode cX7_lookFor 70 = .ok (.ireturn, 1) := by decide +kernel
theorem dX7_outputOr_0 : decode cX7_outputOr 0 = .ok (.iload_n 1, 1) := by decide +kernel
theorem dX7_outputOr_1 : decode cX7_outputOr 1 = .ok (.ifCond .eq 13, 3) := by decide +kernel
theorem dX7_outputOr_4 : decode cX7_outputOr 4 = .ok (.aload_n 0, 1) := by decide +kernel
theorem dX7_outputOr_5 : decode cX7_outputOr 5 = .ok (.getfield 57, 3) := by decide +kernel
theorem dX7_outputOr_8 : decode cX7_outputOr 8 = .ok (.iconst 0, 1) := by decide +kernel
theorem dX7_outputOr_9 : decode cX7_outputOr 9 = .ok (.putfield 76, 3) := by decide +kernel
theorem dX7_outputOr_12 : decode cX7_outputOr 12 = .ok (.iconst (-1), 1) := by decide +kernel
theorem dX7_outputOr_13 : decode cX7_outputOr 13 = .ok (.ireturn, 1) := by decide +kernel
theorem dX7_outputOr_14 : decode cX7_outputOr 14 = .ok (.aload_n 0, 1) := by decide +kernel
theorem dX7_outputOr_15 : decode cX7_outputOr 15 = .ok (.getfield 57, 3) := by decide +kernel
theorem dX7_outputOr_18 : decode cX7_outputOr 18 = .ok (.getfield 76, 3) := by decide +kernel
theorem dX7_outputOr_21 : decode cX7_outputOr 21 = .ok (.ireturn, 1) := by decide +kernel
theorem dX7_takeRoom_0 : decode cX7_takeRoom 0 = .ok (.aload_n 0, 1) := by decide +kernel
theorem dX7_takeRoom_1 : decode cX7_takeRoom 1 = .ok (.getfield 37, 3) := by decide +kernel
theorem dX7_takeRoom_4 : decode cX7_takeRoom 4 = .ok (.aload_n 0, 1) := by decide +kernel
theorem dX7_takeRoom_5 : decode cX7_takeRoom 5 = .ok (.getfield 28, 3) := by decide +kernel
theorem dX7_takeRoom_8 : decode cX7_takeRoom 8 = .ok (.invokevirtual 228, 3) := by decide +kernel
theorem dX7_takeRoom_11 : decode cX7_takeRoom 11 = .ok (.ifCond .eq 31, 3) := by decide +kernel
theorem dX7_takeRoom_14 : decode cX7_takeRoom 14 = .ok (.aload_n 0, 1) := by decide +kernel
theorem dX7_takeRoom_15 : decode cX7_takeRoom 15 = .ok (.getfield 44, 3) := by decide +kernel
theorem dX7_takeRoom_18 : decode cX7_takeRoom 18 = .ok (.aload_n 0, 1) := by decide +kernel
theorem dX7_takeRoom_19 : decode cX7_takeRoom 19 = .ok (.getfield 28, 3) := by decide +kernel
theorem dX7_takeRoom_22 : decode cX7_takeRoom 22 = .ok (.aload_n 0, 1) := by decide +kernel
theorem dX7_takeRoom_23 : decode cX7_takeRoom 23 = .ok (.getfield 53, 3) := by decide +kernel
theorem dX7_takeRoom_26 : decode cX7_takeRoom 26 = .ok (.getfield 76, 3) := by decide +kernel
theorem dX7_takeRoom_29 : decode cX7_takeRoom 29 = .ok (.invokestatic 232, 3) := by decide +kernel
theorem dX7_takeRoom_32 : decode cX7_takeRoom 32 = .ok (.invokevirtual 235, 3) := by decide +kernel
theorem dX7_takeRoom_35 : decode cX7_takeRoom 35 = .ok (.ifCond .eq 7, 3) := by decide +kernel
theorem dX7_takeRoom_38 : decode cX7_takeRoom 38 = .ok (.iconst 1, 1) := by decide +kernel
theorem dX7_takeRoom_39 : decode cX7_takeRoom 39 = .ok (.goto 4, 3) := by decide +kernel
theorem dX7_takeRoom_42 : decode cX7_takeRoom 42 = .ok (.iconst 0, 1) := by decide +kernel
theorem dX7_takeRoom_43 : decode cX7_takeRoom 43 = .ok (.ireturn, 1) := by decide +kernel
theorem dX7_storeEntry_0 : decode cX7_storeEntry 0 = .ok (.aload_n 0, 1) := by decide +kernel
theorem dX7_storeEntry_1 : decode cX7_storeEntry 1 = .ok (.aload_n 0, 1) := by decide +kernel
theorem dX7_storeEntry_2 : decode cX7_storeEntry 2 = .ok (.getfield 37, 3) := by decide +kernel
theorem dX7_storeEntry_5 : decode cX7_storeEntry 5 = .ok (.getfield 239, 3) := by decide +kernel
theorem dX7_storeEntry_8 : decode cX7_storeEntry 8 = .ok (.aload_n 0, 1) := by decide +kernel
theorem dX7_storeEntry_9 : decode cX7_storeEntry 9 = .ok (.getfield 37, 3) := by decide +kernel
theorem dX7_storeEntry_12 : decode cX7_storeEntry 12 = .ok (.getfield 242, 3) := by decide +kernel
theorem dX7_storeEntry_15 : decode cX7_storeEntry 15 = .ok (.iload_n 1, 1) := by decide +kernel
theorem dX7_storeEntry_16 : decode cX7_storeEntry 16 = .ok (.iload_n 2, 1) := by decide +kernel
theorem dX7_storeEntry_17 : decode cX7_storeEntry 17 = .ok (.iload_n 3, 1) := by decide +kernel
theorem dX7_storeEntry_18 : decode cX7_storeEntry 18 = .ok (.invokevirtual 245, 3) := by decide +kernel
theorem dX7_storeEntry_21 : decode cX7_storeEntry 21 = .ok (.aload_n 0, 1) := by decide +kernel
theorem dX7_storeEntry_22 : decode cX7_storeEntry 22 = .ok (.getfield 21, 3) := by decide +kernel
theorem dX7_storeEntry_25 : decode cX7_storeEntry 25 = .ok (.aload_n 0, 1) := by decide +kernel
theorem dX7_storeEntry_26 : decode cX7_storeEntry 26 = .ok (.getfield 37, 3) := by decide +kernel
theorem dX7_storeEntry_29 : decode cX7_storeEntry 29 = .ok (.getfield 249, 3) := by decide +kernel
theorem dX7_storeEntry_32 : decode cX7_storeEntry 32 = .ok (.aload_n 0, 1) := by decide +kernel
theorem dX7_storeEntry_33 : decode cX7_storeEntry 33 = .ok (.getfield 37, 3) := by decide +kernel
theorem dX7_storeEntry_36 : decode cX7_storeEntry 36 = .ok (.getfield 252, 3) := by decide +kernel
theorem dX7_storeEntry_39 : decode cX7_storeEntry 39 = .ok (.aload_n 0, 1) := by decide +kernel
theorem dX7_storeEntry_40 : decode cX7_storeEntry 40 = .ok (.getfield 37, 3) := by decide +kernel
theorem dX7_storeEntry_43 : decode cX7_storeEntry 43 = .ok (.getfield 239, 3) := by decide +kernel
theorem dX7_storeEntry_46 : decode cX7_storeEntry 46 = .ok (.invokevirtual 129, 3) := by decide +kernel
theorem dX7_storeEntry_49 : decode cX7_storeEntry 49 = .ok (.istore 4, 2) := by decide +kernel
theorem dX7_storeEntry_51 : decode cX7_storeEntry 51 = .ok (.iload 4, 2) := by decide +kernel
theorem dX7_storeEntry_53 : decode cX7_storeEntry 53 = .ok (.ifCond .ne 23, 3) := by decide +kernel
theorem dX7_storeEntry_56 : decode cX7_storeEntry 56 = .ok (.aload_n 0, 1) := by decide +kernel
theorem dX7_storeEntry_57 : decode cX7_storeEntry 57 = .ok (.getfield 37, 3) := by decide +kernel
theorem dX7_storeEntry_60 : decode cX7_storeEntry 60 = .ok (.getfield 255, 3) := by decide +kernel
theorem dX7_storeEntry_63 : decode cX7_storeEntry 63 = .ok (.ifCond .eq 13, 3) := by decide +kernel
theorem dX7_storeEntry_66 : decode cX7_storeEntry 66 = .ok (.aload_n 0, 1) := by decide +kernel
theorem dX7_storeEntry_67 : decode cX7_storeEntry 67 = .ok (.getfield 37, 3) := by decide +kernel
theorem dX7_storeEntry_70 : decode cX7_storeEntry 70 = .ok (.invokevirtual 259, 3) := by decide +kernel
theorem dX7_storeEntry_73 : decode cX7_storeEntry 73 = .ok (.goto 5, 3) := by decide +kernel
theorem dX7_storeEntry_76 : decode cX7_storeEntry 76 = .ok (.iload 4, 2) := by decide +kernel
theorem dX7_storeEntry_78 : decode cX7_storeEntry 78 = .ok (.ireturn, 1) := by decide +kernel
theorem dX7_fillEntry_0 : decode cX7_fillEntry 0 = .ok (.iload_n 2, 1) := by decide +kernel
theorem dX7_fillEntry_1 : decode cX7_fillEntry 1 = .ok (.iconst 2, 1) := by decide +kernel
theorem dX7_fillEntry_2 : decode cX7_fillEntry 2 = .ok (.if_icmp .lt 12, 3) := by decide +kernel
theorem dX7_fillEntry_5 : decode cX7_fillEntry 5 = .ok (.iload_n 2, 1) := by decide +kernel
theorem dX7_fillEntry_6 : decode cX7_fillEntry 6 = .ok (.bipush 12, 2) := by decide +kernel
theorem dX7_fillEntry_8 : decode cX7_fillEntry 8 = .ok (.iadd, 1) := by decide +kernel
theorem dX7_fillEntry_9 : decode cX7_fillEntry 9 = .ok (.aload_n 1, 1) := by decide +kernel
theorem dX7_fillEntry_10 : decode cX7_fillEntry 10 = .ok (.arraylength, 1) := by decide +kernel
theorem dX7_fillEntry_11 : decode cX7_fillEntry 11 = .ok (.if_icmp .le 4, 3) := by decide +kernel
theorem dX7_fillEntry_14 : decode cX7_fillEntry 14 = .ok (.return_, 1) := by decide +kernel
theorem dX7_fillEntry_15 : decode cX7_fillEntry 15 = .ok (.aload_n 1, 1) := by decide +kernel
theorem dX7_fillEntry_16 : decode cX7_fillEntry 16 = .ok (.iload_n 2, 1) := by decide +kernel
theorem dX7_fillEntry_17 : decode cX7_fillEntry 17 = .ok (.iload_n 3, 1) := by decide +kernel
theorem dX7_fillEntry_18 : decode cX7_fillEntry 18 = .ok (.iastore, 1) := by decide +kernel
theorem dX7_fillEntry_19 : decode cX7_fillEntry 19 = .ok (.aload_n 1, 1) := by decide +kernel
theorem dX7_fillEntry_20 : decode cX7_fillEntry 20 = .ok (.iload_n 2, 1) := by decide +kernel
theorem dX7_fillEntry_21 : decode cX7_fillEntry 21 = .ok (.iconst 1, 1) := by decide +kernel
theorem dX7_fillEntry_22 : decode cX7_fillEntry 22 = .ok (.iadd, 1) := by decide +kernel
theorem dX7_fillEntry_23 : decode cX7_fillEntry 23 = .ok (.aload_n 0, 1) := by decide +kernel
theorem dX7_fillEntry_24 : decode cX7_fillEntry 24 = .ok (.getfield 44, 3) := by decide +kernel
theorem dX7_fillEntry_27 : decode cX7_fillEntry 27 = .ok (.getfield 262, 3) := by decide +kernel
theorem dX7_fillEntry_30 : decode cX7_fillEntry 30 = .ok (.iconst 0, 1) := by decide +kernel
theorem dX7_fillEntry_31 : decode cX7_fillEntry 31 = .ok (.iaload, 1) := by decide +kernel
theorem dX7_fillEntry_32 : decode cX7_fillEntry 32 = .ok (.iastore, 1) := by decide +kernel
theorem dX7_fillEntry_33 : decode cX7_fillEntry 33 = .ok (.aload_n 1, 1) := by decide +kernel
theorem dX7_fillEntry_34 : decode cX7_fillEntry 34 = .ok (.iload_n 2, 1) := by decide +kernel
theorem dX7_fillEntry_35 : decode cX7_fillEntry 35 = .ok (.iconst 2, 1) := by decide +kernel
theorem dX7_fillEntry_36 : decode cX7_fillEntry 36 = .ok (.iadd, 1) := by decide +kernel
theorem dX7_fillEntry_37 : decode cX7_fillEntry 37 = .ok (.aload_n 0, 1) := by decide +kernel
theorem dX7_fillEntry_38 : decode cX7_fillEntry 38 = .ok (.getfield 44, 3) := by decide +kernel
theorem dX7_fillEntry_41 : decode cX7_fillEntry 41 = .ok (.getfield 265, 3) := by decide +kernel
theorem dX7_fillEntry_44 : decode cX7_fillEntry 44 = .ok (.iconst 0, 1) := by decide +kernel
theorem dX7_fillEntry_45 : decode cX7_fillEntry 45 = .ok (.iaload, 1) := by decide +kernel
theorem dX7_fillEntry_46 : decode cX7_fillEntry 46 = .ok (.iastore, 1) := by decide +kernel
theorem dX7_fillEntry_47 : decode cX7_fillEntry 47 = .ok (.aload_n 1, 1) := by decide +kernel
theorem dX7_fillEntry_48 : decode cX7_fillEntry 48 = .ok (.iload_n 2, 1) := by decide +kernel
theorem dX7_fillEntry_49 : decode cX7_fillEntry 49 = .ok (.iconst 3, 1) := by decide +kernel
theorem dX7_fillEntry_50 : decode cX7_fillEntry 50 = .ok (.iadd, 1) := by decide +kernel
theorem dX7_fillEntry_51 : decode cX7_fillEntry 51 = .ok (.aload_n 0, 1) := by decide +kernel
theorem dX7_fillEntry_52 : decode cX7_fillEntry 52 = .ok (.getfield 44, 3) := by decide +kernel
theorem dX7_fillEntry_55 : decode cX7_fillEntry 55 = .ok (.getfield 147, 3) := by decide +kernel
theorem dX7_fillEntry_58 : decode cX7_fillEntry 58 = .ok (.iastore, 1) := by decide +kernel
theorem dX7_fillEntry_59 : decode cX7_fillEntry 59 = .ok (.aload_n 1, 1) := by decide +kernel
theorem dX7_fillEntry_60 : decode cX7_fillEntry 60 = .ok (.iload_n 2, 1) := by decide +kernel
theorem dX7_fillEntry_61 : decode cX7_fillEntry 61 = .ok (.iconst 4, 1) := by decide +kernel
theorem dX7_fillEntry_62 : decode cX7_fillEntry 62 = .ok (.iadd, 1) := by decide +kernel
theorem dX7_fillEntry_63 : decode cX7_fillEntry 63 = .ok (.iload 4, 2) := by decide +kernel
theorem dX7_fillEntry_65 : decode cX7_fillEntry 65 = .ok (.iload 5, 2) := by decide +kernel
theorem dX7_fillEntry_67 : decode cX7_fillEntry 67 = .ok (.invokestatic 268, 3) := by decide +kernel
theorem dX7_fillEntry_70 : decode cX7_fillEntry 70 = .ok (.return_, 1) := by decide +kernel
theorem dX7_blocksNeeded_0 : decode cX7_blocksNeeded 0 = .ok (.iconst 1, 1) := by decide +kernel
theorem dX7_blocksNeeded_1 : decode cX7_blocksNeeded 1 = .ok (.iload_n 0, 1) := by decide +kernel
theorem dX7_blocksNeeded_2 : decode cX7_blocksNeeded 2 = .ok (.bipush 62, 2) := by decide +kernel
theorem dX7_blocksNeeded_4 : decode cX7_blocksNeeded 4 = .ok (.iadd, 1) := by decide +kernel
theorem dX7_blocksNeeded_5 : decode cX7_blocksNeeded 5 = .ok (.iconst 1, 1) := by decide +kernel
theorem dX7_blocksNeeded_6 : decode cX7_blocksNeeded 6 = .ok (.isub, 1) := by decide +kernel
theorem dX7_blocksNeeded_7 : decode cX7_blocksNeeded 7 = .ok (.bipush 62, 2) := by decide +kernel
theorem dX7_blocksNeeded_9 : decode cX7_blocksNeeded 9 = .ok (.idiv, 1) := by decide +kernel
theorem dX7_blocksNeeded_10 : decode cX7_blocksNeeded 10 = .ok (.invokestatic 204, 3) := by decide +kernel
theorem dX7_blocksNeeded_13 : decode cX7_blocksNeeded 13 = .ok (.ireturn, 1) := by decide +kernel
theorem dX7_nameByte_0 : decode cX7_nameByte 0 = .ok (.iload_n 2, 1) := by decide +kernel
theorem dX7_nameByte_1 : decode cX7_nameByte 1 = .ok (.iconst 4, 1) := by decide +kernel
theorem dX7_nameByte_2 : decode cX7_nameByte 2 = .ok (.if_icmp .ge 7, 3) := by decide +kernel
theorem dX7_nameByte_5 : decode cX7_nameByte 5 = .ok (.iload_n 0, 1) := by decide +kernel
theorem dX7_nameByte_6 : decode cX7_nameByte 6 = .ok (.goto 4, 3) := by decide +kernel
theorem dX7_nameByte_9 : decode cX7_nameByte 9 = .ok (.iload_n 1, 1) := by decide +kernel
theorem dX7_nameByte_10 : decode cX7_nameByte 10 = .ok (.bipush 24, 2) := by decide +kernel
theorem dX7_nameByte_12 : decode cX7_nameByte 12 = .ok (.bipush 8, 2) := by decide +kernel
theorem dX7_nameByte_14 : decode cX7_nameByte 14 = .ok (.iload_n 2, 1) := by decide +kernel
theorem dX7_nameByte_15 : decode cX7_nameByte 15 = .ok (.iconst 4, 1) := by decide +kernel
theorem dX7_nameByte_16 : decode cX7_nameByte 16 = .ok (.irem, 1) := by decide +kernel
theorem dX7_nameByte_17 : decode cX7_nameByte 17 = .ok (.imul, 1) := by decide +kernel
theorem dX7_nameByte_18 : decode cX7_nameByte 18 = .ok (.isub, 1) := by decide +kernel
theorem dX7_nameByte_19 : decode cX7_nameByte 19 = .ok (.iushr, 1) := by decide +kernel
theorem dX7_nameByte_20 : decode cX7_nameByte 20 = .ok (.sipush 255, 3) := by decide +kernel
theorem dX7_nameByte_23 : decode cX7_nameByte 23 = .ok (.iand, 1) := by decide +kernel
theorem dX7_nameByte_24 : decode cX7_nameByte 24 = .ok (.ireturn, 1) := by decide +kernel
theorem dX7_fillName_0 : decode cX7_fillName 0 = .ok (.iconst 0, 1) := by decide +kernel
theorem dX7_fillName_1 : decode cX7_fillName 1 = .ok (.istore 4, 2) := by decide +kernel
theorem dX7_fillName_3 : decode cX7_fillName 3 = .ok (.iload 4, 2) := by decide +kernel
theorem dX7_fillName_5 : decode cX7_fillName 5 = .ok (.bipush 8, 2) := by decide +kernel
theorem dX7_fillName_7 : decode cX7_fillName 7 = .ok (.if_icmp .ge 22, 3) := by decide +kernel
theorem dX7_fillName_10 : decode cX7_fillName 10 = .ok (.aload_n 0, 1) := by decide +kernel
theorem dX7_fillName_11 : decode cX7_fillName 11 = .ok (.iload_n 1, 1) := by decide +kernel
theorem dX7_fillName_12 : decode cX7_fillName 12 = .ok (.iload 4, 2) := by decide +kernel
theorem dX7_fillName_14 : decode cX7_fillName 14 = .ok (.iadd, 1) := by decide +kernel
theorem dX7_fillName_15 : decode cX7_fillName 15 = .ok (.iload_n 2, 1) := by decide +kernel
theorem dX7_fillName_16 : decode cX7_fillName 16 = .ok (.iload_n 3, 1) := by decide +kernel
theorem dX7_fillName_17 : decode cX7_fillName 17 = .ok (.iload 4, 2) := by decide +kernel
theorem dX7_fillName_19 : decode cX7_fillName 19 = .ok (.invokestatic 272, 3) := by decide +kernel
theorem dX7_fillName_22 : decode cX7_fillName 22 = .ok (.iastore, 1) := by decide +kernel
theorem dX7_fillName_23 : decode cX7_fillName 23 = .ok (.iinc 4 1, 3) := by decide +kernel
theorem dX7_fillName_26 : decode cX7_fillName 26 = .ok (.goto (-23), 3) := by decide +kernel
theorem dX7_fillName_29 : decode cX7_fillName 29 = .ok (.return_, 1) := by decide +kernel
theorem dX7_hasName_0 : decode cX7_hasName 0 = .ok (.iconst 0, 1) := by decide +kernel
theorem dX7_hasName_1 : decode cX7_hasName 1 = .ok (.istore 4, 2) := by decide +kernel
theorem dX7_hasName_3 : decode cX7_hasName 3 = .ok (.iload 4, 2) := by decide +kernel
theorem dX7_hasName_5 : decode cX7_hasName 5 = .ok (.bipush 8, 2) := by decide +kernel
theorem dX7_hasName_7 : decode cX7_hasName 7 = .ok (.if_icmp .ge 27, 3) := by decide +kernel
theorem dX7_hasName_10 : decode cX7_hasName 10 = .ok (.aload_n 0, 1) := by decide +kernel
theorem dX7_hasName_11 : decode cX7_hasName 11 = .ok (.iload_n 1, 1) := by decide +kernel
theorem dX7_hasName_12 : decode cX7_hasName 12 = .ok (.iload 4, 2) := by decide +kernel
theorem dX7_hasName_14 : decode cX7_hasName 14 = .ok (.iadd, 1) := by decide +kernel
theorem dX7_hasName_15 : decode cX7_hasName 15 = .ok (.iaload, 1) := by decide +kernel
theorem dX7_hasName_16 : decode cX7_hasName 16 = .ok (.iload_n 2, 1) := by decide +kernel
theorem dX7_hasName_17 : decode cX7_hasName 17 = .ok (.iload_n 3, 1) := by decide +kernel
theorem dX7_hasName_18 : decode cX7_hasName 18 = .ok (.iload 4, 2) := by decide +kernel
theorem dX7_hasName_20 : decode cX7_hasName 20 = .ok (.invokestatic 272, 3) := by decide +kernel
theorem dX7_hasName_23 : decode cX7_hasName 23 = .ok (.if_icmp .eq 5, 3) := by decide +kernel
theorem dX7_hasName_26 : decode cX7_hasName 26 = .ok (.iconst 0, 1) := by decide +kernel
theorem dX7_hasName_27 : decode cX7_hasName 27 = .ok (.ireturn, 1) := by decide +kernel
theorem dX7_hasName_28 : decode cX7_hasName 28 = .ok (.iinc 4 1, 3) := by decide +kernel
theorem dX7_hasName_31 : decode cX7_hasName 31 = .ok (.goto (-28), 3) := by decide +kernel
theorem dX7_hasName_34 : decode cX7_hasName 34 = .ok (.iconst 1, 1) := by decide +kernel
theorem dX7_hasName_35 : decode cX7_hasName 35 = .ok (.ireturn, 1) := by decide +kernel
theorem dX7_clearRow_0 : decode cX7_clearRow 0 = .ok (.iload_n 1, 1) := by decide +kernel
theorem dX7_clearRow_1 : decode cX7_clearRow 1 = .ok (.istore_n 3, 1) := by decide +kernel
theorem dX7_clearRow_2 : decode cX7_clearRow 2 = .ok (.iload_n 3, 1) := by decide +kernel
theorem dX7_clearRow_3 : decode cX7_clearRow 3 = .ok (.iload_n 1, 1) := by decide +kernel
theorem dX7_clearRow_4 : decode cX7_clearRow 4 = .ok (.iload_n 2, 1) := by decide +kernel
theorem dX7_clearRow_5 : decode cX7_clearRow 5 = .ok (.iadd, 1) := by decide +kernel
theorem dX7_clearRow_6 : decode cX7_clearRow 6 = .ok (.if_icmp .ge 19, 3) := by decide +kernel
theorem dX7_clearRow_9 : decode cX7_clearRow 9 = .ok (.iload_n 3, 1) := by decide +kernel
theorem dX7_clearRow_10 : decode cX7_clearRow 10 = .ok (.aload_n 0, 1) := by decide +kernel
theorem dX7_clearRow_11 : decode cX7_clearRow 11 = .ok (.arraylength, 1) := by decide +kernel
theorem dX7_clearRow_12 : decode cX7_clearRow 12 = .ok (.if_icmp .ge 13, 3) := by decide +kernel
theorem dX7_clearRow_15 : decode cX7_clearRow 15 = .ok (.aload_n 0, 1) := by decide +kernel
theorem dX7_clearRow_16 : decode cX7_clearRow 16 = .ok (.iload_n 3, 1) := by decide +kernel
theorem dX7_clearRow_17 : decode cX7_clearRow 17 = .ok (.iconst 0, 1) := by decide +kernel
theorem dX7_clearRow_18 : decode cX7_clearRow 18 = .ok (.iastore, 1) := by decide +kernel
theorem dX7_clearRow_19 : decode cX7_clearRow 19 = .ok (.iinc 3 1, 3) := by decide +kernel
theorem dX7_clearRow_22 : decode cX7_clearRow 22 = .ok (.goto (-20), 3) := by decide +kernel
theorem dX7_clearRow_25 : decode cX7_clearRow 25 = .ok (.return_, 1) := by decide +kernel
theorem dX8_init_0 : decode cX8_init 0 = .ok (.aload_n 0, 1) := by decide +kernel
theorem dX8_init_1 : decode cX8_init 1 = .ok (.invokespecial 1, 3) := by decide +kernel
theorem dX8_init_4 : decode cX8_init 4 = .ok (.aload_n 0, 1) := by decide +kernel
theorem dX8_init_5 : decode cX8_init 5 = .ok (.ldc 7, 2) := by decide +kernel
theorem dX8_init_7 : decode cX8_init 7 = .ok (.newarray .boolean, 2) := by decide +kernel
theorem dX8_init_9 : decode cX8_init 9 = .ok (.putfield 8, 3) := by decide +kernel
theorem dX8_init_12 : decode cX8_init 12 = .ok (.aload_n 0, 1) := by decide +kernel
theorem dX8_init_13 : decode cX8_init 13 = .ok (.sipush 8480, 3) := by decide +kernel
theorem dX8_init_16 : decode cX8_init 16 = .ok (.newarray .boolean, 2) := by decide +kernel
theorem dX8_init_18 : decode cX8_init 18 = .ok (.putfield 14, 3) := by decide +kernel
theorem dX8_init_21 : decode cX8_init 21 = .ok (.aload_n 0, 1) := by decide +kernel
theorem dX8_init_22 : decode cX8_init 22 = .ok (.bipush 16, 2) := by decide +kernel
theorem dX8_init_24 : decode cX8_init 24 = .ok (.newarray .int, 2) := by decide +kernel
theorem dX8_init_26 : decode cX8_init 26 = .ok (.putfield 17, 3) := by decide +kernel
theorem dX8_init_29 : decode cX8_init 29 = .ok (.aload_n 0, 1) := by decide +kernel
theorem dX8_init_30 : decode cX8_init 30 = .ok (.bipush 32, 2) := by decide +kernel
theorem dX8_init_32 : decode cX8_init 32 = .ok (.newarray .int, 2) := by decide +kernel
theorem dX8_init_34 : decode cX8_init 34 = .ok (.putfield 21, 3) := by decide +kernel
theorem dX8_init_37 : decode cX8_init 37 = .ok (.aload_n 0, 1) := by decide +kernel
theorem dX8_init_38 : decode cX8_init 38 = .ok (.iconst (-1), 1) := by decide +kernel
theorem dX8_init_39 : decode cX8_init 39 = .ok (.putfield 24, 3) := by decide +kernel
theorem dX8_init_42 : decode cX8_init 42 = .ok (.aload_n 0, 1) := by decide +kernel
theorem dX8_init_43 : decode cX8_init 43 = .ok (.sipush 2480, 3) := by decide +kernel
theorem dX8_init_46 : decode cX8_init 46 = .ok (.newarray .int, 2) := by decide +kernel
theorem dX8_init_48 : decode cX8_init 48 = .ok (.putfield 28, 3) := by decide +kernel
theorem dX8_init_51 : decode cX8_init 51 = .ok (.aload_n 0, 1) := by decide +kernel
theorem dX8_init_52 : decode cX8_init 52 = .ok (.sipush 2480, 3) := by decide +kernel
theorem dX8_init_55 : decode cX8_init 55 = .ok (.newarray .int, 2) := by decide +kernel
theorem dX8_init_57 : decode cX8_init 57 = .ok (.putfield 31, 3) := by decide +kernel
theorem dX8_init_60 : decode cX8_init 60 = .ok (.aload_n 0, 1) := by decide +kernel
theorem dX8_init_61 : decode cX8_init 61 = .ok (.sipush 800, 3) := by decide +kernel
theorem dX8_init_64 : decode cX8_init 64 = .ok (.newarray .int, 2) := by decide +kernel
theorem dX8_init_66 : decode cX8_init 66 = .ok (.putfield 34, 3) := by decide +kernel
theorem dX8_init_69 : decode cX8_init 69 = .ok (.aload_n 0, 1) := by decide +kernel
theorem dX8_init_70 : decode cX8_init 70 = .ok (.bipush 64, 2) := by decide +kernel
theorem dX8_init_72 : decode cX8_init 72 = .ok (.newarray .int, 2) := by decide +kernel
theorem dX8_init_74 : decode cX8_init 74 = .ok (.putfield 37, 3) := by decide +kernel
theorem dX8_init_77 : decode cX8_init 77 = .ok (.aload_n 0, 1) := by decide +kernel
theorem dX8_init_78 : decode cX8_init 78 = .ok (.bipush 64, 2) := by decide +kernel
theorem dX8_init_80 : decode cX8_init 80 = .ok (.newarray .int, 2) := by decide +kernel
theorem dX8_init_82 : decode cX8_init 82 = .ok (.putfield 40, 3) := by decide +kernel
theorem dX8_init_85 : decode cX8_init 85 = .ok (.aload_n 0, 1) := by decide +kernel
theorem dX8_init_86 : decode cX8_init 86 = .ok (.sipush 448, 3) := by decide +kernel
theorem dX8_init_89 : decode cX8_init 89 = .ok (.newarray .int, 2) := by decide +kernel
theorem dX8_init_91 : decode cX8_init 91 = .ok (.putfield 43, 3) := by decide +kernel
theorem dX8_init_94 : decode cX8_init 94 = .ok (.aload_n 0, 1) := by decide +kernel
theorem dX8_init_95 : decode cX8_init 95 = .ok (.bipush 7, 2) := by decide +kernel
theorem dX8_init_97 : decode cX8_init 97 = .ok (.newarray .int, 2) := by decide +kernel
theorem dX8_init_99 : decode cX8_init 99 = .ok (.putfield 46, 3) := by decide +kernel
theorem dX8_init_102 : decode cX8_init 102 = .ok (.aload_n 0, 1) := by decide +kernel
theorem dX8_init_103 : decode cX8_init 103 = .ok (.bipush 7, 2) := by decide +kernel
theorem dX8_init_105 : decode cX8_init 105 = .ok (.newarray .int, 2) := by decide +kernel
theorem dX8_init_107 : decode cX8_init 107 = .ok (.putfield 49, 3) := by decide +kernel
theorem dX8_init_110 : decode cX8_init 110 = .ok (.aload_n 0, 1) := by decide +kernel
theorem dX8_init_111 : decode cX8_init 111 = .ok (.bipush 40, 2) := by decide +kernel
theorem dX8_init_113 : decode cX8_init 113 = .ok (.newarray .int, 2) := by decide +kernel
theorem dX8_init_115 : decode cX8_init 115 = .ok (.putfield 52, 3) := by decide +kernel
theorem dX8_init_118 : decode cX8_init 118 = .ok (.aload_n 0, 1) := by decide +kernel
theorem dX8_init_119 : decode cX8_init 119 = .ok (.bipush 40, 2) := by decide +kernel
theorem dX8_init_121 : decode cX8_init 121 = .ok (.newarray .int, 2) := by decide +kernel
theorem dX8_init_123 : decode cX8_init 123 = .ok (.putfield 55, 3) := by decide +kernel
theorem dX8_init_126 : decode cX8_init 126 = .ok (.aload_n 0, 1) := by decide +kernel
theorem dX8_init_127 : decode cX8_init 127 = .ok (.iconst 0, 1) := by decide +kernel
theorem dX8_init_128 : decode cX8_init 128 = .ok (.bipush 10, 2) := by decide +kernel
theorem dX8_init_130 : decode cX8_init 130 = .ok (.bipush 11, 2) := by decide +kernel
theorem dX8_init_132 : decode cX8_init 132 = .ok (.bipush 18, 2) := by decide +kernel
theorem dX8_init_134 : decode cX8_init 134 = .ok (.bipush 19, 2) := by decide +kernel
theorem dX8_init_136 : decode cX8_init 136 = .ok (.invokevirtual 58, 3) := by decide +kernel
theorem dX8_init_139 : decode cX8_init 139 = .ok (.aload_n 0, 1) := by decide +kernel
theorem dX8_init_140 : decode cX8_init 140 = .ok (.iconst 4, 1) := by decide +kernel
theorem dX8_init_141 : decode cX8_init 141 = .ok (.bipush 14, 2) := by decide +kernel
theorem dX8_init_143 : decode cX8_init 143 = .ok (.bipush 15, 2) := by decide +kernel
theorem dX8_init_145 : decode cX8_init 145 = .ok (.bipush 22, 2) := by decide +kernel
theorem dX8_init_147 : decode cX8_init 147 = .ok (.bipush 23, 2) := by decide +kernel
theorem dX8_init_149 : decode cX8_init 149 = .ok (.invokevirtual 58, 3) := by decide +kernel
theorem dX8_init_152 : decode cX8_init 152 = .ok (.aload_n 0, 1) := by decide +kernel
theorem dX8_init_153 : decode cX8_init 153 = .ok (.bipush 8, 2) := by decide +kernel
theorem dX8_init_155 : decode cX8_init 155 = .ok (.bipush 9, 2) := by decide +kernel
theorem dX8_init_157 : decode cX8_init 157 = .ok (.bipush 25, 2) := by decide +kernel
theorem dX8_init_159 : decode cX8_init 159 = .ok (.bipush 26, 2) := by decide +kernel
theorem dX8_init_161 : decode cX8_init 161 = .ok (.bipush 27, 2) := by decide +kernel
theorem dX8_init_163 : decode cX8_init 163 = .ok (.invokevirtual 58, 3) := by decide +kernel
theorem dX8_init_166 : decode cX8_init 166 = .ok (.aload_n 0, 1) := by decide +kernel
theorem dX8_init_167 : decode cX8_init 167 = .ok (.bipush 12, 2) := by decide +kernel
theorem dX8_init_169 : decode cX8_init 169 = .ok (.bipush 13, 2) := by decide +kernel
theorem dX8_init_171 : decode cX8_init 171 = .ok (.bipush 29, 2) := by decide +kernel
theorem dX8_init_173 : decode cX8_init 173 = .ok (.bipush 30, 2) := by decide +kernel
theorem dX8_init_175 : decode cX8_init 175 = .ok (.bipush 21, 2) := by decide +kernel
theorem dX8_init_177 : decode cX8_init 177 = .ok (.invokevirtual 58, 3) := by decide +kernel
theorem dX8_init_180 : decode cX8_init 180 = .ok (.iconst 0, 1) := by decide +kernel
theorem dX8_init_181 : decode cX8_init 181 = .ok (.istore_n 1, 1) := by decide +kernel
theorem dX8_init_182 : decode cX8_init 182 = .ok (.iload_n 1, 1) := by decide +kernel
theorem dX8_init_183 : decode cX8_init 183 = .ok (.bipush 32, 2) := by decide +kernel
theorem dX8_init_185 : decode cX8_init 185 = .ok (.if_icmp .ge 16, 3) := by decide +kernel
theorem dX8_init_188 : decode cX8_init 188 = .ok (.aload_n 0, 1) := by decide +kernel
theorem dX8_init_189 : decode cX8_init 189 = .ok (.getfield 21, 3) := by decide +kernel
theorem dX8_init_192 : decode cX8_init 192 = .ok (.iload_n 1, 1) := by decide +kernel
theorem dX8_init_193 : decode cX8_init 193 = .ok (.iconst (-1), 1) := by decide +kernel
theorem dX8_init_194 : decode cX8_init 194 = .ok (.iastore, 1) := by decide +kernel
theorem dX8_init_195 : decode cX8_init 195 = .ok (.iinc 1 1, 3) := by decide +kernel
theorem dX8_init_198 : decode cX8_init 198 = .ok (.goto (-16), 3) := by decide +kernel
theorem dX8_init_201 : decode cX8_init 201 = .ok (.iconst 0, 1) := by decide +kernel
theorem dX8_init_202 : decode cX8_init 202 = .ok (.istore_n 1, 1) := by decide +kernel
theorem dX8_init_203 : decode cX8_init 203 = .ok (.iload_n 1, 1) := by decide +kernel
theorem dX8_init_204 : decode cX8_init 204 = .ok (.bipush 16, 2) := by decide +kernel
theorem dX8_init_206 : decode cX8_init 206 = .ok (.if_icmp .ge 21, 3) := by decide +kernel
theorem dX8_init_209 : decode cX8_init 209 = .ok (.aload_n 0, 1) := by decide +kernel
theorem dX8_init_210 : decode cX8_init 210 = .ok (.getfield 21, 3) := by decide +kernel
theorem dX8_init_213 : decode cX8_init 213 = .ok (.aload_n 0, 1) := by decide +kernel
theorem dX8_init_214 : decode cX8_init 214 = .ok (.getfield 17, 3) := by decide +kernel
theorem dX8_init_217 : decode cX8_init 217 = .ok (.iload_n 1, 1) := by decide +kernel
theorem dX8_init_218 : decode cX8_init 218 = .ok (.iaload, 1) := by decide +kernel
theorem dX8_init_219 : decode cX8_init 219 = .ok (.iload_n 1, 1) := by decide +kernel
theorem dX8_init_220 : decode cX8_init 220 = .ok (.iastore, 1) := by decide +kernel
theorem dX8_init_221 : decode cX8_init 221 = .ok (.iinc 1 1, 3) := by decide +kernel
theorem dX8_init_224 : decode cX8_init 224 = .ok (.goto (-21), 3) := by decide +kernel
theorem dX8_init_227 : decode cX8_init 227 = .ok (.return_, 1) := by decide +kernel
theorem dX8_setCodes_0 : decode cX8_setCodes 0 = .ok (.aload_n 0, 1) := by decide +kernel
theorem dX8_setCodes_1 : decode cX8_setCodes 1 = .ok (.getfield 17, 3) := by decide +kernel
theorem dX8_setCodes_4 : decode cX8_setCodes 4 = .ok (.iload_n 1, 1) := by decide +kernel
theorem dX8_setCodes_5 : decode cX8_setCodes 5 = .ok (.iload_n 2, 1) := by decide +kernel
theorem dX8_setCodes_6 : decode cX8_setCodes 6 = .ok (.iastore, 1) := by decide +kernel
theorem dX8_setCodes_7 : decode cX8_setCodes 7 = .ok (.aload_n 0, 1) := by decide +kernel
theorem dX8_setCodes_8 : decode cX8_setCodes 8 = .ok (.getfield 17, 3) := by decide +kernel
theorem dX8_setCodes_11 : decode cX8_setCodes 11 = .ok (.iload_n 1, 1) := by decide +kernel
theorem dX8_setCodes_12 : decode cX8_setCodes 12 = .ok (.iconst 1, 1) := by decide +kernel
theorem dX8_setCodes_13 : decode cX8_setCodes 13 = .ok (.iadd, 1) := by decide +kernel
theorem dX8_setCodes_14 : decode cX8_setCodes 14 = .ok (.iload_n 3, 1) := by decide +kernel
theorem dX8_setCodes_15 : decode cX8_setCodes 15 = .ok (.iastore, 1) := by decide +kernel
theorem dX8_setCodes_16 : decode cX8_setCodes 16 = .ok (.aload_n 0, 1) := by decide +kernel
theorem dX8_setCodes_17 : decode cX8_setCodes 17 = .ok (.getfield 17, 3) := by decide +kernel
theorem dX8_setCodes_20 : decode cX8_setCodes 20 = .ok (.iload_n 1, 1) := by decide +kernel
theorem dX8_setCodes_21 : decode cX8_setCodes 21 = .ok (.iconst 2, 1) := by decide +kernel
theorem dX8_setCodes_22 : decode cX8_setCodes 22 = .ok (.iadd, 1) := by decide +kernel
theorem dX8_setCodes_23 : decode cX8_setCodes 23 = .ok (.iload 4, 2) := by decide +kernel
theorem dX8_setCodes_25 : decode cX8_setCodes 25 = .ok (.iastore, 1) := by decide +kernel
theorem dX8_setCodes_26 : decode cX8_setCodes 26 = .ok (.aload_n 0, 1) := by decide +kernel
theorem dX8_setCodes_27 : decode cX8_setCodes 27 = .ok (.getfield 17, 3) := by decide +kernel
theorem dX8_setCodes_30 : decode cX8_setCodes 30 = .ok (.iload_n 1, 1) := by decide +kernel
theorem dX8_setCodes_31 : decode cX8_setCodes 31 = .ok (.iconst 3, 1) := by decide +kernel
theorem dX8_setCodes_32 : decode cX8_setCodes 32 = .ok (.iadd, 1) := by decide +kernel
theorem dX8_setCodes_33 : decode cX8_setCodes 33 = .ok (.iload 5, 2) := by decide +kernel
theorem dX8_setCodes_35 : decode cX8_setCodes 35 = .ok (.iastore, 1) := by decide +kernel
theorem dX8_setCodes_36 : decode cX8_setCodes 36 = .ok (.return_, 1) := by decide +kernel
theorem dX8_isIn_0 : decode cX8_isIn 0 = .ok (.iload_n 0, 1) := by decide +kernel
theorem dX8_isIn_1 : decode cX8_isIn 1 = .ok (.iload_n 1, 1) := by decide +kernel
theorem dX8_isIn_2 : decode cX8_isIn 2 = .ok (.if_icmp .lt 12, 3) := by decide +kernel
theorem dX8_isIn_5 : decode cX8_isIn 5 = .ok (.iload_n 0, 1) := by decide +kernel
theorem dX8_isIn_6 : decode cX8_isIn 6 = .ok (.iload_n 2, 1) := by decide +kernel
theorem dX8_isIn_7 : decode cX8_isIn 7 = .ok (.if_icmp .gt 7, 3) := by decide +kernel
theorem dX8_isIn_10 : decode cX8_isIn 10 = .ok (.iconst 1, 1) := by decide +kernel
theorem dX8_isIn_11 : decode cX8_isIn 11 = .ok (.goto 4, 3) := by decide +kernel
theorem dX8_isIn_14 : decode cX8_isIn 14 = .ok (.iconst 0, 1) := by decide +kernel
theorem dX8_isIn_15 : decode cX8_isIn 15 = .ok (.ireturn, 1) := by decide +kernel
theorem dX8_bytesOf_0 : decode cX8_bytesOf 0 = .ok (.iload_n 0, 1) := by decide +kernel
theorem dX8_bytesOf_1 : decode cX8_bytesOf 1 = .ok (.bipush 9, 2) := by decide +kernel
theorem dX8_bytesOf_3 : decode cX8_bytesOf 3 = .ok (.if_icmp .ge 9, 3) := by decide +kernel
theorem dX8_bytesOf_6 : decode cX8_bytesOf 6 = .ok (.sipush 1060, 3) := by decide +kernel
theorem dX8_bytesOf_9 : decode cX8_bytesOf 9 = .ok (.goto 18, 3) := by decide +kernel
theorem dX8_bytesOf_12 : decode cX8_bytesOf 12 = .ok (.iload_n 0, 1) := by decide +kernel
theorem dX8_bytesOf_13 : decode cX8_bytesOf 13 = .ok (.bipush 13, 2) := by decide +kernel
theorem dX8_bytesOf_15 : decode cX8_bytesOf 15 = .ok (.if_icmp .ge 9, 3) := by decide +kernel
theorem dX8_bytesOf_18 : decode cX8_bytesOf 18 = .ok (.sipush 940, 3) := by decide +kernel
theorem dX8_bytesOf_21 : decode cX8_bytesOf 21 = .ok (.goto 6, 3) := by decide +kernel
theorem dX8_bytesOf_24 : decode cX8_bytesOf 24 = .ok (.sipush 830, 3) := by decide +kernel
theorem dX8_bytesOf_27 : decode cX8_bytesOf 27 = .ok (.ireturn, 1) := by decide +kernel
theorem dX8_sectorsOf_0 : decode cX8_sectorsOf 0 = .ok (.iload_n 0, 1) := by decide +kernel
theorem dX8_sectorsOf_1 : decode cX8_sectorsOf 1 = .ok (.bipush 9, 2) := by decide +kernel
theorem dX8_sectorsOf_3 : decode cX8_sectorsOf 3 = .ok (.if_icmp .ge 8, 3) := by decide +kernel
theorem dX8_sectorsOf_6 : decode cX8_sectorsOf 6 = .ok (.bipush 9, 2) := by decide +kernel
theorem dX8_sectorsOf_8 : decode cX8_sectorsOf 8 = .ok (.goto 16, 3) := by decide +kernel
end
section
theorem dX8_sectorsOf_11 : decode cX8_sectorsOf 11 = .ok (.iload_n 0, 1) := by decide +kernel
theorem dX8_sectorsOf_12 : decode cX8_sectorsOf 12 = .ok (.bipush 13, 2) := by decide +kernel
theorem dX8_sectorsOf_14 : decode cX8_sectorsOf 14 = .ok (.if_icmp .ge 8, 3) := by decide +kernel
theorem dX8_sectorsOf_17 : decode cX8_sectorsOf 17 = .ok (.bipush 8, 2) := by decide +kernel
theorem dX8_sectorsOf_19 : decode cX8_sectorsOf 19 = .ok (.goto 5, 3) := by decide +kernel
theorem dX8_sectorsOf_22 : decode cX8_sectorsOf 22 = .ok (.bipush 7, 2) := by decide +kernel
theorem dX8_sectorsOf_24 : decode cX8_sectorsOf 24 = .ok (.ireturn, 1) := by decide +kernel
theorem dX8_lengthOf_0 : decode cX8_lengthOf 0 = .ok (.bipush 8, 2) := by decide +kernel
theorem dX8_lengthOf_2 : decode cX8_lengthOf 2 = .ok (.iload_n 0, 1) := by decide +kernel
theorem dX8_lengthOf_3 : decode cX8_lengthOf 3 = .ok (.invokestatic 62, 3) := by decide +kernel
theorem dX8_lengthOf_6 : decode cX8_lengthOf 6 = .ok (.imul, 1) := by decide +kernel
theorem dX8_lengthOf_7 : decode cX8_lengthOf 7 = .ok (.ireturn, 1) := by decide +kernel
theorem dX8_startOf_0 : decode cX8_startOf 0 = .ok (.iconst 0, 1) := by decide +kernel
theorem dX8_startOf_1 : decode cX8_startOf 1 = .ok (.istore_n 1, 1) := by decide +kernel
theorem dX8_startOf_2 : decode cX8_startOf 2 = .ok (.iconst 1, 1) := by decide +kernel
theorem dX8_startOf_3 : decode cX8_startOf 3 = .ok (.istore_n 2, 1) := by decide +kernel
theorem dX8_startOf_4 : decode cX8_startOf 4 = .ok (.iload_n 2, 1) := by decide +kernel
theorem dX8_startOf_5 : decode cX8_startOf 5 = .ok (.iload_n 0, 1) := by decide +kernel
theorem dX8_startOf_6 : decode cX8_startOf 6 = .ok (.if_icmp .ge 16, 3) := by decide +kernel
theorem dX8_startOf_9 : decode cX8_startOf 9 = .ok (.iload_n 1, 1) := by decide +kernel
theorem dX8_startOf_10 : decode cX8_startOf 10 = .ok (.iload_n 2, 1) := by decide +kernel
theorem dX8_startOf_11 : decode cX8_startOf 11 = .ok (.invokestatic 66, 3) := by decide +kernel
theorem dX8_startOf_14 : decode cX8_startOf 14 = .ok (.iadd, 1) := by decide +kernel
theorem dX8_startOf_15 : decode cX8_startOf 15 = .ok (.istore_n 1, 1) := by decide +kernel
theorem dX8_startOf_16 : decode cX8_startOf 16 = .ok (.iinc 2 1, 3) := by decide +kernel
theorem dX8_startOf_19 : decode cX8_startOf 19 = .ok (.goto (-15), 3) := by decide +kernel
theorem dX8_startOf_22 : decode cX8_startOf 22 = .ok (.iload_n 1, 1) := by decide +kernel
theorem dX8_startOf_23 : decode cX8_startOf 23 = .ok (.ireturn, 1) := by decide +kernel
theorem dX8_isTrack_0 : decode cX8_isTrack 0 = .ok (.iload_n 0, 1) := by decide +kernel
theorem dX8_isTrack_1 : decode cX8_isTrack 1 = .ok (.iconst 1, 1) := by decide +kernel
theorem dX8_isTrack_2 : decode cX8_isTrack 2 = .ok (.bipush 16, 2) := by decide +kernel
theorem dX8_isTrack_4 : decode cX8_isTrack 4 = .ok (.invokestatic 69, 3) := by decide +kernel
theorem dX8_isTrack_7 : decode cX8_isTrack 7 = .ok (.ireturn, 1) := by decide +kernel
theorem dX8_isBlock_0 : decode cX8_isBlock 0 = .ok (.iload_n 0, 1) := by decide +kernel
theorem dX8_isBlock_1 : decode cX8_isBlock 1 = .ok (.invokestatic 73, 3) := by decide +kernel
theorem dX8_isBlock_4 : decode cX8_isBlock 4 = .ok (.ifCond .eq 21, 3) := by decide +kernel
theorem dX8_isBlock_7 : decode cX8_isBlock 7 = .ok (.iload_n 1, 1) := by decide +kernel
theorem dX8_isBlock_8 : decode cX8_isBlock 8 = .ok (.iconst 0, 1) := by decide +kernel
theorem dX8_isBlock_9 : decode cX8_isBlock 9 = .ok (.iload_n 0, 1) := by decide +kernel
theorem dX8_isBlock_10 : decode cX8_isBlock 10 = .ok (.invokestatic 77, 3) := by decide +kernel
theorem dX8_isBlock_13 : decode cX8_isBlock 13 = .ok (.iconst 1, 1) := by decide +kernel
theorem dX8_isBlock_14 : decode cX8_isBlock 14 = .ok (.isub, 1) := by decide +kernel
theorem dX8_isBlock_15 : decode cX8_isBlock 15 = .ok (.invokestatic 69, 3) := by decide +kernel
theorem dX8_isBlock_18 : decode cX8_isBlock 18 = .ok (.ifCond .eq 7, 3) := by decide +kernel
theorem dX8_isBlock_21 : decode cX8_isBlock 21 = .ok (.iconst 1, 1) := by decide +kernel
theorem dX8_isBlock_22 : decode cX8_isBlock 22 = .ok (.goto 4, 3) := by decide +kernel
theorem dX8_isBlock_25 : decode cX8_isBlock 25 = .ok (.iconst 0, 1) := by decide +kernel
theorem dX8_isBlock_26 : decode cX8_isBlock 26 = .ok (.ireturn, 1) := by decide +kernel
theorem dX8_isByte_0 : decode cX8_isByte 0 = .ok (.iload_n 0, 1) := by decide +kernel
theorem dX8_isByte_1 : decode cX8_isByte 1 = .ok (.invokestatic 73, 3) := by decide +kernel
theorem dX8_isByte_4 : decode cX8_isByte 4 = .ok (.ifCond .eq 21, 3) := by decide +kernel
theorem dX8_isByte_7 : decode cX8_isByte 7 = .ok (.iload_n 1, 1) := by decide +kernel
theorem dX8_isByte_8 : decode cX8_isByte 8 = .ok (.iconst 0, 1) := by decide +kernel
theorem dX8_isByte_9 : decode cX8_isByte 9 = .ok (.iload_n 0, 1) := by decide +kernel
theorem dX8_isByte_10 : decode cX8_isByte 10 = .ok (.invokestatic 62, 3) := by decide +kernel
theorem dX8_isByte_13 : decode cX8_isByte 13 = .ok (.iconst 1, 1) := by decide +kernel
theorem dX8_isByte_14 : decode cX8_isByte 14 = .ok (.isub, 1) := by decide +kernel
theorem dX8_isByte_15 : decode cX8_isByte 15 = .ok (.invokestatic 69, 3) := by decide +kernel
theorem dX8_isByte_18 : decode cX8_isByte 18 = .ok (.ifCond .eq 7, 3) := by decide +kernel
theorem dX8_isByte_21 : decode cX8_isByte 21 = .ok (.iconst 1, 1) := by decide +kernel
theorem dX8_isByte_22 : decode cX8_isByte 22 = .ok (.goto 4, 3) := by decide +kernel
theorem dX8_isByte_25 : decode cX8_isByte 25 = .ok (.iconst 0, 1) := by decide +kernel
theorem dX8_isByte_26 : decode cX8_isByte 26 = .ok (.ireturn, 1) := by decide +kernel
theorem dX8_byteAt_0 : decode cX8_byteAt 0 = .ok (.iconst 0, 1) := by decide +kernel
theorem dX8_byteAt_1 : decode cX8_byteAt 1 = .ok (.istore_n 3, 1) := by decide +kernel
theorem dX8_byteAt_2 : decode cX8_byteAt 2 = .ok (.iload_n 1, 1) := by decide +kernel
theorem dX8_byteAt_3 : decode cX8_byteAt 3 = .ok (.invokestatic 80, 3) := by decide +kernel
theorem dX8_byteAt_6 : decode cX8_byteAt 6 = .ok (.bipush 8, 2) := by decide +kernel
theorem dX8_byteAt_8 : decode cX8_byteAt 8 = .ok (.iload_n 2, 1) := by decide +kernel
theorem dX8_byteAt_9 : decode cX8_byteAt 9 = .ok (.imul, 1) := by decide +kernel
theorem dX8_byteAt_10 : decode cX8_byteAt 10 = .ok (.iadd, 1) := by decide +kernel
theorem dX8_byteAt_11 : decode cX8_byteAt 11 = .ok (.istore 4, 2) := by decide +kernel
theorem dX8_byteAt_13 : decode cX8_byteAt 13 = .ok (.iconst 0, 1) := by decide +kernel
theorem dX8_byteAt_14 : decode cX8_byteAt 14 = .ok (.istore 5, 2) := by decide +kernel
theorem dX8_byteAt_16 : decode cX8_byteAt 16 = .ok (.iload 5, 2) := by decide +kernel
theorem dX8_byteAt_18 : decode cX8_byteAt 18 = .ok (.bipush 8, 2) := by decide +kernel
theorem dX8_byteAt_20 : decode cX8_byteAt 20 = .ok (.if_icmp .ge 32, 3) := by decide +kernel
theorem dX8_byteAt_23 : decode cX8_byteAt 23 = .ok (.iconst 2, 1) := by decide +kernel
theorem dX8_byteAt_24 : decode cX8_byteAt 24 = .ok (.iload_n 3, 1) := by decide +kernel
theorem dX8_byteAt_25 : decode cX8_byteAt 25 = .ok (.imul, 1) := by decide +kernel
theorem dX8_byteAt_26 : decode cX8_byteAt 26 = .ok (.aload_n 0, 1) := by decide +kernel
theorem dX8_byteAt_27 : decode cX8_byteAt 27 = .ok (.getfield 8, 3) := by decide +kernel
theorem dX8_byteAt_30 : decode cX8_byteAt 30 = .ok (.iload 4, 2) := by decide +kernel
theorem dX8_byteAt_32 : decode cX8_byteAt 32 = .ok (.iload 5, 2) := by decide +kernel
theorem dX8_byteAt_34 : decode cX8_byteAt 34 = .ok (.iadd, 1) := by decide +kernel
theorem dX8_byteAt_35 : decode cX8_byteAt 35 = .ok (.baload, 1) := by decide +kernel
theorem dX8_byteAt_36 : decode cX8_byteAt 36 = .ok (.ifCond .eq 7, 3) := by decide +kernel
theorem dX8_byteAt_39 : decode cX8_byteAt 39 = .ok (.iconst 1, 1) := by decide +kernel
theorem dX8_byteAt_40 : decode cX8_byteAt 40 = .ok (.goto 4, 3) := by decide +kernel
theorem dX8_byteAt_43 : decode cX8_byteAt 43 = .ok (.iconst 0, 1) := by decide +kernel
theorem dX8_byteAt_44 : decode cX8_byteAt 44 = .ok (.iadd, 1) := by decide +kernel
theorem dX8_byteAt_45 : decode cX8_byteAt 45 = .ok (.istore_n 3, 1) := by decide +kernel
theorem dX8_byteAt_46 : decode cX8_byteAt 46 = .ok (.iinc 5 1, 3) := by decide +kernel
theorem dX8_byteAt_49 : decode cX8_byteAt 49 = .ok (.goto (-33), 3) := by decide +kernel
theorem dX8_byteAt_52 : decode cX8_byteAt 52 = .ok (.iload_n 3, 1) := by decide +kernel
theorem dX8_byteAt_53 : decode cX8_byteAt 53 = .ok (.ireturn, 1) := by decide +kernel
theorem dX8_setByte_0 : decode cX8_setByte 0 = .ok (.iload_n 1, 1) := by decide +kernel
theorem dX8_setByte_1 : decode cX8_setByte 1 = .ok (.invokestatic 80, 3) := by decide +kernel
theorem dX8_setByte_4 : decode cX8_setByte 4 = .ok (.bipush 8, 2) := by decide +kernel
theorem dX8_setByte_6 : decode cX8_setByte 6 = .ok (.iload_n 2, 1) := by decide +kernel
theorem dX8_setByte_7 : decode cX8_setByte 7 = .ok (.imul, 1) := by decide +kernel
theorem dX8_setByte_8 : decode cX8_setByte 8 = .ok (.iadd, 1) := by decide +kernel
theorem dX8_setByte_9 : decode cX8_setByte 9 = .ok (.istore 4, 2) := by decide +kernel
theorem dX8_setByte_11 : decode cX8_setByte 11 = .ok (.iconst 0, 1) := by decide +kernel
theorem dX8_setByte_12 : decode cX8_setByte 12 = .ok (.istore 5, 2) := by decide +kernel
theorem dX8_setByte_14 : decode cX8_setByte 14 = .ok (.iload 5, 2) := by decide +kernel
theorem dX8_setByte_16 : decode cX8_setByte 16 = .ok (.bipush 8, 2) := by decide +kernel
theorem dX8_setByte_18 : decode cX8_setByte 18 = .ok (.if_icmp .ge 37, 3) := by decide +kernel
theorem dX8_setByte_21 : decode cX8_setByte 21 = .ok (.aload_n 0, 1) := by decide +kernel
theorem dX8_setByte_22 : decode cX8_setByte 22 = .ok (.getfield 8, 3) := by decide +kernel
theorem dX8_setByte_25 : decode cX8_setByte 25 = .ok (.iload 4, 2) := by decide +kernel
theorem dX8_setByte_27 : decode cX8_setByte 27 = .ok (.iload 5, 2) := by decide +kernel
theorem dX8_setByte_29 : decode cX8_setByte 29 = .ok (.iadd, 1) := by decide +kernel
theorem dX8_setByte_30 : decode cX8_setByte 30 = .ok (.iload_n 3, 1) := by decide +kernel
theorem dX8_setByte_31 : decode cX8_setByte 31 = .ok (.bipush 7, 2) := by decide +kernel
theorem dX8_setByte_33 : decode cX8_setByte 33 = .ok (.iload 5, 2) := by decide +kernel
theorem dX8_setByte_35 : decode cX8_setByte 35 = .ok (.isub, 1) := by decide +kernel
theorem dX8_setByte_36 : decode cX8_setByte 36 = .ok (.ishr, 1) := by decide +kernel
theorem dX8_setByte_37 : decode cX8_setByte 37 = .ok (.iconst 1, 1) := by decide +kernel
theorem dX8_setByte_38 : decode cX8_setByte 38 = .ok (.iand, 1) := by decide +kernel
theorem dX8_setByte_39 : decode cX8_setByte 39 = .ok (.iconst 1, 1) := by decide +kernel
theorem dX8_setByte_40 : decode cX8_setByte 40 = .ok (.if_icmp .ne 7, 3) := by decide +kernel
theorem dX8_setByte_43 : decode cX8_setByte 43 = .ok (.iconst 1, 1) := by decide +kernel
theorem dX8_setByte_44 : decode cX8_setByte 44 = .ok (.goto 4, 3) := by decide +kernel
theorem dX8_setByte_47 : decode cX8_setByte 47 = .ok (.iconst 0, 1) := by decide +kernel
theorem dX8_setByte_48 : decode cX8_setByte 48 = .ok (.bastore, 1) := by decide +kernel
theorem dX8_setByte_49 : decode cX8_setByte 49 = .ok (.iinc 5 1, 3) := by decide +kernel
theorem dX8_setByte_52 : decode cX8_setByte 52 = .ok (.goto (-38), 3) := by decide +kernel
theorem dX8_setByte_55 : decode cX8_setByte 55 = .ok (.return_, 1) := by decide +kernel
theorem dX8_findSyncs_0 : decode cX8_findSyncs 0 = .ok (.iload_n 1, 1) := by decide +kernel
theorem dX8_findSyncs_1 : decode cX8_findSyncs 1 = .ok (.invokestatic 80, 3) := by decide +kernel
theorem dX8_findSyncs_4 : decode cX8_findSyncs 4 = .ok (.istore_n 2, 1) := by decide +kernel
theorem dX8_findSyncs_5 : decode cX8_findSyncs 5 = .ok (.iload_n 1, 1) := by decide +kernel
theorem dX8_findSyncs_6 : decode cX8_findSyncs 6 = .ok (.invokestatic 66, 3) := by decide +kernel
theorem dX8_findSyncs_9 : decode cX8_findSyncs 9 = .ok (.istore_n 3, 1) := by decide +kernel
theorem dX8_findSyncs_10 : decode cX8_findSyncs 10 = .ok (.iconst 0, 1) := by decide +kernel
theorem dX8_findSyncs_11 : decode cX8_findSyncs 11 = .ok (.istore 4, 2) := by decide +kernel
theorem dX8_findSyncs_13 : decode cX8_findSyncs 13 = .ok (.iload 4, 2) := by decide +kernel
theorem dX8_findSyncs_15 : decode cX8_findSyncs 15 = .ok (.iload_n 3, 1) := by decide +kernel
theorem dX8_findSyncs_16 : decode cX8_findSyncs 16 = .ok (.if_icmp .ge 25, 3) := by decide +kernel
theorem dX8_findSyncs_19 : decode cX8_findSyncs 19 = .ok (.aload_n 0, 1) := by decide +kernel
theorem dX8_findSyncs_20 : decode cX8_findSyncs 20 = .ok (.getfield 8, 3) := by decide +kernel
theorem dX8_findSyncs_23 : decode cX8_findSyncs 23 = .ok (.iload_n 2, 1) := by decide +kernel
theorem dX8_findSyncs_24 : decode cX8_findSyncs 24 = .ok (.iload_n 3, 1) := by decide +kernel
theorem dX8_findSyncs_25 : decode cX8_findSyncs 25 = .ok (.iadd, 1) := by decide +kernel
theorem dX8_findSyncs_26 : decode cX8_findSyncs 26 = .ok (.iconst 1, 1) := by decide +kernel
theorem dX8_findSyncs_27 : decode cX8_findSyncs 27 = .ok (.isub, 1) := by decide +kernel
theorem dX8_findSyncs_28 : decode cX8_findSyncs 28 = .ok (.iload 4, 2) := by decide +kernel
theorem dX8_findSyncs_30 : decode cX8_findSyncs 30 = .ok (.isub, 1) := by decide +kernel
theorem dX8_findSyncs_31 : decode cX8_findSyncs 31 = .ok (.baload, 1) := by decide +kernel
theorem dX8_findSyncs_32 : decode cX8_findSyncs 32 = .ok (.ifCond .eq 9, 3) := by decide +kernel
theorem dX8_findSyncs_35 : decode cX8_findSyncs 35 = .ok (.iinc 4 1, 3) := by decide +kernel
theorem dX8_findSyncs_38 : decode cX8_findSyncs 38 = .ok (.goto (-25), 3) := by decide +kernel
theorem dX8_findSyncs_41 : decode cX8_findSyncs 41 = .ok (.aload_n 0, 1) := by decide +kernel
theorem dX8_findSyncs_42 : decode cX8_findSyncs 42 = .ok (.iconst 0, 1) := by decide +kernel
theorem dX8_findSyncs_43 : decode cX8_findSyncs 43 = .ok (.putfield 83, 3) := by decide +kernel
theorem dX8_findSyncs_46 : decode cX8_findSyncs 46 = .ok (.iconst 0, 1) := by decide +kernel
theorem dX8_findSyncs_47 : decode cX8_findSyncs 47 = .ok (.istore 5, 2) := by decide +kernel
theorem dX8_findSyncs_49 : decode cX8_findSyncs 49 = .ok (.iload 5, 2) := by decide +kernel
theorem dX8_findSyncs_51 : decode cX8_findSyncs 51 = .ok (.iload_n 3, 1) := by decide +kernel
theorem dX8_findSyncs_52 : decode cX8_findSyncs 52 = .ok (.if_icmp .ge 71, 3) := by decide +kernel
theorem dX8_findSyncs_55 : decode cX8_findSyncs 55 = .ok (.aload_n 0, 1) := by decide +kernel
theorem dX8_findSyncs_56 : decode cX8_findSyncs 56 = .ok (.getfield 8, 3) := by decide +kernel
theorem dX8_findSyncs_59 : decode cX8_findSyncs 59 = .ok (.iload_n 2, 1) := by decide +kernel
theorem dX8_findSyncs_60 : decode cX8_findSyncs 60 = .ok (.iload 5, 2) := by decide +kernel
theorem dX8_findSyncs_62 : decode cX8_findSyncs 62 = .ok (.iadd, 1) := by decide +kernel
theorem dX8_findSyncs_63 : decode cX8_findSyncs 63 = .ok (.baload, 1) := by decide +kernel
theorem dX8_findSyncs_64 : decode cX8_findSyncs 64 = .ok (.ifCond .ne 31, 3) := by decide +kernel
theorem dX8_findSyncs_67 : decode cX8_findSyncs 67 = .ok (.iload 4, 2) := by decide +kernel
theorem dX8_findSyncs_69 : decode cX8_findSyncs 69 = .ok (.bipush 10, 2) := by decide +kernel
theorem dX8_findSyncs_71 : decode cX8_findSyncs 71 = .ok (.if_icmp .lt 24, 3) := by decide +kernel
theorem dX8_findSyncs_74 : decode cX8_findSyncs 74 = .ok (.aload_n 0, 1) := by decide +kernel
theorem dX8_findSyncs_75 : decode cX8_findSyncs 75 = .ok (.getfield 34, 3) := by decide +kernel
theorem dX8_findSyncs_78 : decode cX8_findSyncs 78 = .ok (.aload_n 0, 1) := by decide +kernel
theorem dX8_findSyncs_79 : decode cX8_findSyncs 79 = .ok (.getfield 83, 3) := by decide +kernel
theorem dX8_findSyncs_82 : decode cX8_findSyncs 82 = .ok (.iload 5, 2) := by decide +kernel
theorem dX8_findSyncs_84 : decode cX8_findSyncs 84 = .ok (.iastore, 1) := by decide +kernel
theorem dX8_findSyncs_85 : decode cX8_findSyncs 85 = .ok (.aload_n 0, 1) := by decide +kernel
theorem dX8_findSyncs_86 : decode cX8_findSyncs 86 = .ok (.dup, 1) := by decide +kernel
theorem dX8_findSyncs_87 : decode cX8_findSyncs 87 = .ok (.getfield 83, 3) := by decide +kernel
theorem dX8_findSyncs_90 : decode cX8_findSyncs 90 = .ok (.iconst 1, 1) := by decide +kernel
theorem dX8_findSyncs_91 : decode cX8_findSyncs 91 = .ok (.iadd, 1) := by decide +kernel
theorem dX8_findSyncs_92 : decode cX8_findSyncs 92 = .ok (.putfield 83, 3) := by decide +kernel
theorem dX8_findSyncs_95 : decode cX8_findSyncs 95 = .ok (.aload_n 0, 1) := by decide +kernel
theorem dX8_findSyncs_96 : decode cX8_findSyncs 96 = .ok (.getfield 8, 3) := by decide +kernel
theorem dX8_findSyncs_99 : decode cX8_findSyncs 99 = .ok (.iload_n 2, 1) := by decide +kernel
theorem dX8_findSyncs_100 : decode cX8_findSyncs 100 = .ok (.iload 5, 2) := by decide +kernel
theorem dX8_findSyncs_102 : decode cX8_findSyncs 102 = .ok (.iadd, 1) := by decide +kernel
theorem dX8_findSyncs_103 : decode cX8_findSyncs 103 = .ok (.baload, 1) := by decide +kernel
theorem dX8_findSyncs_104 : decode cX8_findSyncs 104 = .ok (.ifCond .eq 10, 3) := by decide +kernel
theorem dX8_findSyncs_107 : decode cX8_findSyncs 107 = .ok (.iload 4, 2) := by decide +kernel
theorem dX8_findSyncs_109 : decode cX8_findSyncs 109 = .ok (.iconst 1, 1) := by decide +kernel
theorem dX8_findSyncs_110 : decode cX8_findSyncs 110 = .ok (.iadd, 1) := by decide +kernel
theorem dX8_findSyncs_111 : decode cX8_findSyncs 111 = .ok (.goto 4, 3) := by decide +kernel
theorem dX8_findSyncs_114 : decode cX8_findSyncs 114 = .ok (.iconst 0, 1) := by decide +kernel
theorem dX8_findSyncs_115 : decode cX8_findSyncs 115 = .ok (.istore 4, 2) := by decide +kernel
theorem dX8_findSyncs_117 : decode cX8_findSyncs 117 = .ok (.iinc 5 1, 3) := by decide +kernel
theorem dX8_findSyncs_120 : decode cX8_findSyncs 120 = .ok (.goto (-71), 3) := by decide +kernel
theorem dX8_findSyncs_123 : decode cX8_findSyncs 123 = .ok (.return_, 1) := by decide +kernel
theorem dX8_decoded_0 : decode cX8_decoded 0 = .ok (.iload_n 1, 1) := by decide +kernel
theorem dX8_decoded_1 : decode cX8_decoded 1 = .ok (.invokestatic 80, 3) := by decide +kernel
theorem dX8_decoded_4 : decode cX8_decoded 4 = .ok (.istore_n 3, 1) := by decide +kernel
theorem dX8_decoded_5 : decode cX8_decoded 5 = .ok (.iload_n 1, 1) := by decide +kernel
theorem dX8_decoded_6 : decode cX8_decoded 6 = .ok (.invokestatic 66, 3) := by decide +kernel
theorem dX8_decoded_9 : decode cX8_decoded 9 = .ok (.istore 4, 2) := by decide +kernel
theorem dX8_decoded_11 : decode cX8_decoded 11 = .ok (.iconst 0, 1) := by decide +kernel
theorem dX8_decoded_12 : decode cX8_decoded 12 = .ok (.istore 5, 2) := by decide +kernel
theorem dX8_decoded_14 : decode cX8_decoded 14 = .ok (.iconst 0, 1) := by decide +kernel
theorem dX8_decoded_15 : decode cX8_decoded 15 = .ok (.istore 6, 2) := by decide +kernel
theorem dX8_decoded_17 : decode cX8_decoded 17 = .ok (.iload 6, 2) := by decide +kernel
theorem dX8_decoded_19 : decode cX8_decoded 19 = .ok (.bipush 10, 2) := by decide +kernel
theorem dX8_decoded_21 : decode cX8_decoded 21 = .ok (.if_icmp .ge 38, 3) := by decide +kernel
theorem dX8_decoded_24 : decode cX8_decoded 24 = .ok (.iconst 2, 1) := by decide +kernel
theorem dX8_decoded_25 : decode cX8_decoded 25 = .ok (.iload 5, 2) := by decide +kernel
theorem dX8_decoded_27 : decode cX8_decoded 27 = .ok (.imul, 1) := by decide +kernel
theorem dX8_decoded_28 : decode cX8_decoded 28 = .ok (.aload_n 0, 1) := by decide +kernel
theorem dX8_decoded_29 : decode cX8_decoded 29 = .ok (.getfield 8, 3) := by decide +kernel
theorem dX8_decoded_32 : decode cX8_decoded 32 = .ok (.iload_n 3, 1) := by decide +kernel
theorem dX8_decoded_33 : decode cX8_decoded 33 = .ok (.iload_n 2, 1) := by decide +kernel
theorem dX8_decoded_34 : decode cX8_decoded 34 = .ok (.iload 6, 2) := by decide +kernel
theorem dX8_decoded_36 : decode cX8_decoded 36 = .ok (.iadd, 1) := by decide +kernel
theorem dX8_decoded_37 : decode cX8_decoded 37 = .ok (.iload 4, 2) := by decide +kernel
theorem dX8_decoded_39 : decode cX8_decoded 39 = .ok (.irem, 1) := by decide +kernel
theorem dX8_decoded_40 : decode cX8_decoded 40 = .ok (.iadd, 1) := by decide +kernel
theorem dX8_decoded_41 : decode cX8_decoded 41 = .ok (.baload, 1) := by decide +kernel
theorem dX8_decoded_42 : decode cX8_decoded 42 = .ok (.ifCond .eq 7, 3) := by decide +kernel
theorem dX8_decoded_45 : decode cX8_decoded 45 = .ok (.iconst 1, 1) := by decide +kernel
theorem dX8_decoded_46 : decode cX8_decoded 46 = .ok (.goto 4, 3) := by decide +kernel
theorem dX8_decoded_49 : decode cX8_decoded 49 = .ok (.iconst 0, 1) := by decide +kernel
theorem dX8_decoded_50 : decode cX8_decoded 50 = .ok (.iadd, 1) := by decide +kernel
theorem dX8_decoded_51 : decode cX8_decoded 51 = .ok (.istore 5, 2) := by decide +kernel
theorem dX8_decoded_53 : decode cX8_decoded 53 = .ok (.iinc 6 1, 3) := by decide +kernel
theorem dX8_decoded_56 : decode cX8_decoded 56 = .ok (.goto (-39), 3) := by decide +kernel
theorem dX8_decoded_59 : decode cX8_decoded 59 = .ok (.aload_n 0, 1) := by decide +kernel
theorem dX8_decoded_60 : decode cX8_decoded 60 = .ok (.getfield 21, 3) := by decide +kernel
theorem dX8_decoded_63 : decode cX8_decoded 63 = .ok (.iload 5, 2) := by decide +kernel
theorem dX8_decoded_65 : decode cX8_decoded 65 = .ok (.iconst 5, 1) := by decide +kernel
theorem dX8_decoded_66 : decode cX8_decoded 66 = .ok (.ishr, 1) := by decide +kernel
theorem dX8_decoded_67 : decode cX8_decoded 67 = .ok (.iaload, 1) := by decide +kernel
theorem dX8_decoded_68 : decode cX8_decoded 68 = .ok (.istore 6, 2) := by decide +kernel
theorem dX8_decoded_70 : decode cX8_decoded 70 = .ok (.aload_n 0, 1) := by decide +kernel
theorem dX8_decoded_71 : decode cX8_decoded 71 = .ok (.getfield 21, 3) := by decide +kernel
theorem dX8_decoded_74 : decode cX8_decoded 74 = .ok (.iload 5, 2) := by decide +kernel
theorem dX8_decoded_76 : decode cX8_decoded 76 = .ok (.bipush 31, 2) := by decide +kernel
theorem dX8_decoded_78 : decode cX8_decoded 78 = .ok (.iand, 1) := by decide +kernel
theorem dX8_decoded_79 : decode cX8_decoded 79 = .ok (.iaload, 1) := by decide +kernel
theorem dX8_decoded_80 : decode cX8_decoded 80 = .ok (.istore 7, 2) := by decide +kernel
theorem dX8_decoded_82 : decode cX8_decoded 82 = .ok (.iload 6, 2) := by decide +kernel
theorem dX8_decoded_84 : decode cX8_decoded 84 = .ok (.ifCond .lt 8, 3) := by decide +kernel
theorem dX8_decoded_87 : decode cX8_decoded 87 = .ok (.iload 7, 2) := by decide +kernel
theorem dX8_decoded_89 : decode cX8_decoded 89 = .ok (.ifCond .ge 7, 3) := by decide +kernel
theorem dX8_decoded_92 : decode cX8_decoded 92 = .ok (.iconst (-1), 1) := by decide +kernel
theorem dX8_decoded_93 : decode cX8_decoded 93 = .ok (.goto 11, 3) := by decide +kernel
theorem dX8_decoded_96 : decode cX8_decoded 96 = .ok (.bipush 16, 2) := by decide +kernel
theorem dX8_decoded_98 : decode cX8_decoded 98 = .ok (.iload 6, 2) := by decide +kernel
theorem dX8_decoded_100 : decode cX8_decoded 100 = .ok (.imul, 1) := by decide +kernel
theorem dX8_decoded_101 : decode cX8_decoded 101 = .ok (.iload 7, 2) := by decide +kernel
theorem dX8_decoded_103 : decode cX8_decoded 103 = .ok (.iadd, 1) := by decide +kernel
theorem dX8_decoded_104 : decode cX8_decoded 104 = .ok (.ireturn, 1) := by decide +kernel
theorem dX8_putBits_0 : decode cX8_putBits 0 = .ok (.aload_n 0, 1) := by decide +kernel
theorem dX8_putBits_1 : decode cX8_putBits 1 = .ok (.getfield 86, 3) := by decide +kernel
theorem dX8_putBits_4 : decode cX8_putBits 4 = .ok (.invokestatic 80, 3) := by decide +kernel
theorem dX8_putBits_7 : decode cX8_putBits 7 = .ok (.istore_n 3, 1) := by decide +kernel
theorem dX8_putBits_8 : decode cX8_putBits 8 = .ok (.aload_n 0, 1) := by decide +kernel
theorem dX8_putBits_9 : decode cX8_putBits 9 = .ok (.getfield 86, 3) := by decide +kernel
theorem dX8_putBits_12 : decode cX8_putBits 12 = .ok (.invokestatic 66, 3) := by decide +kernel
theorem dX8_putBits_15 : decode cX8_putBits 15 = .ok (.istore 4, 2) := by decide +kernel
theorem dX8_putBits_17 : decode cX8_putBits 17 = .ok (.iload_n 2, 1) := by decide +kernel
theorem dX8_putBits_18 : decode cX8_putBits 18 = .ok (.iconst 1, 1) := by decide +kernel
theorem dX8_putBits_19 : decode cX8_putBits 19 = .ok (.isub, 1) := by decide +kernel
theorem dX8_putBits_20 : decode cX8_putBits 20 = .ok (.istore 5, 2) := by decide +kernel
theorem dX8_putBits_22 : decode cX8_putBits 22 = .ok (.iload 5, 2) := by decide +kernel
theorem dX8_putBits_24 : decode cX8_putBits 24 = .ok (.ifCond .lt 48, 3) := by decide +kernel
theorem dX8_putBits_27 : decode cX8_putBits 27 = .ok (.aload_n 0, 1) := by decide +kernel
theorem dX8_putBits_28 : decode cX8_putBits 28 = .ok (.getfield 8, 3) := by decide +kernel
theorem dX8_putBits_31 : decode cX8_putBits 31 = .ok (.iload_n 3, 1) := by decide +kernel
theorem dX8_putBits_32 : decode cX8_putBits 32 = .ok (.aload_n 0, 1) := by decide +kernel
theorem dX8_putBits_33 : decode cX8_putBits 33 = .ok (.getfield 89, 3) := by decide +kernel
theorem dX8_putBits_36 : decode cX8_putBits 36 = .ok (.iload 4, 2) := by decide +kernel
theorem dX8_putBits_38 : decode cX8_putBits 38 = .ok (.irem, 1) := by decide +kernel
theorem dX8_putBits_39 : decode cX8_putBits 39 = .ok (.iadd, 1) := by decide +kernel
theorem dX8_putBits_40 : decode cX8_putBits 40 = .ok (.iload_n 1, 1) := by decide +kernel
theorem dX8_putBits_41 : decode cX8_putBits 41 = .ok (.iload 5, 2) := by decide +kernel
theorem dX8_putBits_43 : decode cX8_putBits 43 = .ok (.ishr, 1) := by decide +kernel
theorem dX8_putBits_44 : decode cX8_putBits 44 = .ok (.iconst 1, 1) := by decide +kernel
theorem dX8_putBits_45 : decode cX8_putBits 45 = .ok (.iand, 1) := by decide +kernel
theorem dX8_putBits_46 : decode cX8_putBits 46 = .ok (.iconst 1, 1) := by decide +kernel
theorem dX8_putBits_47 : decode cX8_putBits 47 = .ok (.if_icmp .ne 7, 3) := by decide +kernel
theorem dX8_putBits_50 : decode cX8_putBits 50 = .ok (.iconst 1, 1) := by decide +kernel
theorem dX8_putBits_51 : decode cX8_putBits 51 = .ok (.goto 4, 3) := by decide +kernel
theorem dX8_putBits_54 : decode cX8_putBits 54 = .ok (.iconst 0, 1) := by decide +kernel
theorem dX8_putBits_55 : decode cX8_putBits 55 = .ok (.bastore, 1) := by decide +kernel
theorem dX8_putBits_56 : decode cX8_putBits 56 = .ok (.aload_n 0, 1) := by decide +kernel
theorem dX8_putBits_57 : decode cX8_putBits 57 = .ok (.dup, 1) := by decide +kernel
theorem dX8_putBits_58 : decode cX8_putBits 58 = .ok (.getfield 89, 3) := by decide +kernel
theorem dX8_putBits_61 : decode cX8_putBits 61 = .ok (.iconst 1, 1) := by decide +kernel
theorem dX8_putBits_62 : decode cX8_putBits 62 = .ok (.iadd, 1) := by decide +kernel
theorem dX8_putBits_63 : decode cX8_putBits 63 = .ok (.putfield 89, 3) := by decide +kernel
theorem dX8_putBits_66 : decode cX8_putBits 66 = .ok (.iinc 5 (-1), 3) := by decide +kernel
theorem dX8_putBits_69 : decode cX8_putBits 69 = .ok (.goto (-47), 3) := by decide +kernel
theorem dX8_putBits_72 : decode cX8_putBits 72 = .ok (.return_, 1) := by decide +kernel
theorem dX8_putCoded_0 : decode cX8_putCoded 0 = .ok (.aload_n 0, 1) := by decide +kernel
theorem dX8_putCoded_1 : decode cX8_putCoded 1 = .ok (.aload_n 0, 1) := by decide +kernel
theorem dX8_putCoded_2 : decode cX8_putCoded 2 = .ok (.getfield 17, 3) := by decide +kernel
theorem dX8_putCoded_5 : decode cX8_putCoded 5 = .ok (.iload_n 1, 1) := by decide +kernel
theorem dX8_putCoded_6 : decode cX8_putCoded 6 = .ok (.iconst 4, 1) := by decide +kernel
theorem dX8_putCoded_7 : decode cX8_putCoded 7 = .ok (.ishr, 1) := by decide +kernel
theorem dX8_putCoded_8 : decode cX8_putCoded 8 = .ok (.bipush 15, 2) := by decide +kernel
theorem dX8_putCoded_10 : decode cX8_putCoded 10 = .ok (.iand, 1) := by decide +kernel
theorem dX8_putCoded_11 : decode cX8_putCoded 11 = .ok (.iaload, 1) := by decide +kernel
theorem dX8_putCoded_12 : decode cX8_putCoded 12 = .ok (.iconst 5, 1) := by decide +kernel
theorem dX8_putCoded_13 : decode cX8_putCoded 13 = .ok (.invokevirtual 92, 3) := by decide +kernel
theorem dX8_putCoded_16 : decode cX8_putCoded 16 = .ok (.aload_n 0, 1) := by decide +kernel
theorem dX8_putCoded_17 : decode cX8_putCoded 17 = .ok (.aload_n 0, 1) := by decide +kernel
theorem dX8_putCoded_18 : decode cX8_putCoded 18 = .ok (.getfield 17, 3) := by decide +kernel
theorem dX8_putCoded_21 : decode cX8_putCoded 21 = .ok (.iload_n 1, 1) := by decide +kernel
theorem dX8_putCoded_22 : decode cX8_putCoded 22 = .ok (.bipush 15, 2) := by decide +kernel
theorem dX8_putCoded_24 : decode cX8_putCoded 24 = .ok (.iand, 1) := by decide +kernel
theorem dX8_putCoded_25 : decode cX8_putCoded 25 = .ok (.iaload, 1) := by decide +kernel
theorem dX8_putCoded_26 : decode cX8_putCoded 26 = .ok (.iconst 5, 1) := by decide +kernel
theorem dX8_putCoded_27 : decode cX8_putCoded 27 = .ok (.invokevirtual 92, 3) := by decide +kernel
theorem dX8_putCoded_30 : decode cX8_putCoded 30 = .ok (.return_, 1) := by decide +kernel
theorem dX8_putSync_0 : decode cX8_putSync 0 = .ok (.aload_n 0, 1) := by decide +kernel
theorem dX8_putSync_1 : decode cX8_putSync 1 = .ok (.sipush 255, 3) := by decide +kernel
theorem dX8_putSync_4 : decode cX8_putSync 4 = .ok (.bipush 8, 2) := by decide +kernel
theorem dX8_putSync_6 : decode cX8_putSync 6 = .ok (.invokevirtual 92, 3) := by decide +kernel
theorem dX8_putSync_9 : decode cX8_putSync 9 = .ok (.aload_n 0, 1) := by decide +kernel
theorem dX8_putSync_10 : decode cX8_putSync 10 = .ok (.iconst (-1), 1) := by decide +kernel
theorem dX8_putSync_11 : decode cX8_putSync 11 = .ok (.bipush 32, 2) := by decide +kernel
theorem dX8_putSync_13 : decode cX8_putSync 13 = .ok (.invokevirtual 92, 3) := by decide +kernel
theorem dX8_putSync_16 : decode cX8_putSync 16 = .ok (.return_, 1) := by decide +kernel
theorem dX8_putData_0 : decode cX8_putData 0 = .ok (.aload_n 0, 1) := by decide +kernel
theorem dX8_putData_1 : decode cX8_putData 1 = .ok (.invokevirtual 96, 3) := by decide +kernel
theorem dX8_putData_4 : decode cX8_putData 4 = .ok (.iconst 0, 1) := by decide +kernel
theorem dX8_putData_5 : decode cX8_putData 5 = .ok (.istore_n 1, 1) := by decide +kernel
theorem dX8_putData_6 : decode cX8_putData 6 = .ok (.aload_n 0, 1) := by decide +kernel
theorem dX8_putData_7 : decode cX8_putData 7 = .ok (.bipush 7, 2) := by decide +kernel
theorem dX8_putData_9 : decode cX8_putData 9 = .ok (.invokevirtual 99, 3) := by decide +kernel
theorem dX8_putData_12 : decode cX8_putData 12 = .ok (.iconst 0, 1) := by decide +kernel
theorem dX8_putData_13 : decode cX8_putData 13 = .ok (.istore_n 2, 1) := by decide +kernel
theorem dX8_putData_14 : decode cX8_putData 14 = .ok (.iload_n 2, 1) := by decide +kernel
theorem dX8_putData_15 : decode cX8_putData 15 = .ok (.bipush 64, 2) := by decide +kernel
theorem dX8_putData_17 : decode cX8_putData 17 = .ok (.if_icmp .ge 28, 3) := by decide +kernel
theorem dX8_putData_20 : decode cX8_putData 20 = .ok (.aload_n 0, 1) := by decide +kernel
theorem dX8_putData_21 : decode cX8_putData 21 = .ok (.aload_n 0, 1) := by decide +kernel
theorem dX8_putData_22 : decode cX8_putData 22 = .ok (.getfield 37, 3) := by decide +kernel
theorem dX8_putData_25 : decode cX8_putData 25 = .ok (.iload_n 2, 1) := by decide +kernel
theorem dX8_putData_26 : decode cX8_putData 26 = .ok (.iaload, 1) := by decide +kernel
theorem dX8_putData_27 : decode cX8_putData 27 = .ok (.invokevirtual 99, 3) := by decide +kernel
theorem dX8_putData_30 : decode cX8_putData 30 = .ok (.iload_n 1, 1) := by decide +kernel
theorem dX8_putData_31 : decode cX8_putData 31 = .ok (.aload_n 0, 1) := by decide +kernel
theorem dX8_putData_32 : decode cX8_putData 32 = .ok (.getfield 37, 3) := by decide +kernel
theorem dX8_putData_35 : decode cX8_putData 35 = .ok (.iload_n 2, 1) := by decide +kernel
theorem dX8_putData_36 : decode cX8_putData 36 = .ok (.iaload, 1) := by decide +kernel
theorem dX8_putData_37 : decode cX8_putData 37 = .ok (.ixor, 1) := by decide +kernel
theorem dX8_putData_38 : decode cX8_putData 38 = .ok (.istore_n 1, 1) := by decide +kernel
theorem dX8_putData_39 : decode cX8_putData 39 = .ok (.iinc 2 1, 3) := by decide +kernel
theorem dX8_putData_42 : decode cX8_putData 42 = .ok (.goto (-28), 3) := by decide +kernel
theorem dX8_putData_45 : decode cX8_putData 45 = .ok (.aload_n 0, 1) := by decide +kernel
theorem dX8_putData_46 : decode cX8_putData 46 = .ok (.iload_n 1, 1) := by decide +kernel
theorem dX8_putData_47 : decode cX8_putData 47 = .ok (.invokevirtual 99, 3) := by decide +kernel
theorem dX8_putData_50 : decode cX8_putData 50 = .ok (.return_, 1) := by decide +kernel
theorem dX8_isHeaderOf_0 : decode cX8_isHeaderOf 0 = .ok (.aload_n 0, 1) := by decide +kernel
theorem dX8_isHeaderOf_1 : decode cX8_isHeaderOf 1 = .ok (.iload_n 1, 1) := by decide +kernel
theorem dX8_isHeaderOf_2 : decode cX8_isHeaderOf 2 = .ok (.iload_n 3, 1) := by decide +kernel
theorem dX8_isHeaderOf_3 : decode cX8_isHeaderOf 3 = .ok (.invokevirtual 103, 3) := by decide +kernel
theorem dX8_isHeaderOf_6 : decode cX8_isHeaderOf 6 = .ok (.bipush 8, 2) := by decide +kernel
theorem dX8_isHeaderOf_8 : decode cX8_isHeaderOf 8 = .ok (.if_icmp .ne 7, 3) := by decide +kernel
theorem dX8_isHeaderOf_11 : decode cX8_isHeaderOf 11 = .ok (.iconst 1, 1) := by decide +kernel
theorem dX8_isHeaderOf_12 : decode cX8_isHeaderOf 12 = .ok (.goto 4, 3) := by decide +kernel
theorem dX8_isHeaderOf_15 : decode cX8_isHeaderOf 15 = .ok (.iconst 0, 1) := by decide +kernel
theorem dX8_isHeaderOf_16 : decode cX8_isHeaderOf 16 = .ok (.istore 4, 2) := by decide +kernel
theorem dX8_isHeaderOf_18 : decode cX8_isHeaderOf 18 = .ok (.iconst 1, 1) := by decide +kernel
theorem dX8_isHeaderOf_19 : decode cX8_isHeaderOf 19 = .ok (.istore 5, 2) := by decide +kernel
theorem dX8_isHeaderOf_21 : decode cX8_isHeaderOf 21 = .ok (.iload 5, 2) := by decide +kernel
theorem dX8_isHeaderOf_23 : decode cX8_isHeaderOf 23 = .ok (.bipush 6, 2) := by decide +kernel
theorem dX8_isHeaderOf_25 : decode cX8_isHeaderOf 25 = .ok (.if_icmp .ge 36, 3) := by decide +kernel
theorem dX8_isHeaderOf_28 : decode cX8_isHeaderOf 28 = .ok (.iload 4, 2) := by decide +kernel
theorem dX8_isHeaderOf_30 : decode cX8_isHeaderOf 30 = .ok (.ifCond .eq 31, 3) := by decide +kernel
theorem dX8_isHeaderOf_33 : decode cX8_isHeaderOf 33 = .ok (.aload_n 0, 1) := by decide +kernel
theorem dX8_isHeaderOf_34 : decode cX8_isHeaderOf 34 = .ok (.iload_n 1, 1) := by decide +kernel
theorem dX8_isHeaderOf_35 : decode cX8_isHeaderOf 35 = .ok (.iload_n 3, 1) := by decide +kernel
theorem dX8_isHeaderOf_36 : decode cX8_isHeaderOf 36 = .ok (.bipush 10, 2) := by decide +kernel
theorem dX8_isHeaderOf_38 : decode cX8_isHeaderOf 38 = .ok (.iload 5, 2) := by decide +kernel
theorem dX8_isHeaderOf_40 : decode cX8_isHeaderOf 40 = .ok (.imul, 1) := by decide +kernel
theorem dX8_isHeaderOf_41 : decode cX8_isHeaderOf 41 = .ok (.iadd, 1) := by decide +kernel
theorem dX8_isHeaderOf_42 : decode cX8_isHeaderOf 42 = .ok (.invokevirtual 103, 3) := by decide +kernel
theorem dX8_isHeaderOf_45 : decode cX8_isHeaderOf 45 = .ok (.ifCond .lt 7, 3) := by decide +kernel
theorem dX8_isHeaderOf_48 : decode cX8_isHeaderOf 48 = .ok (.iconst 1, 1) := by decide +kernel
theorem dX8_isHeaderOf_49 : decode cX8_isHeaderOf 49 = .ok (.goto 4, 3) := by decide +kernel
theorem dX8_isHeaderOf_52 : decode cX8_isHeaderOf 52 = .ok (.iconst 0, 1) := by decide +kernel
theorem dX8_isHeaderOf_53 : decode cX8_isHeaderOf 53 = .ok (.istore 4, 2) := by decide +kernel
theorem dX8_isHeaderOf_55 : decode cX8_isHeaderOf 55 = .ok (.iinc 5 1, 3) := by decide +kernel
theorem dX8_isHeaderOf_58 : decode cX8_isHeaderOf 58 = .ok (.goto (-37), 3) := by decide +kernel
theorem dX8_isHeaderOf_61 : decode cX8_isHeaderOf 61 = .ok (.iload 4, 2) := by decide +kernel
theorem dX8_isHeaderOf_63 : decode cX8_isHeaderOf 63 = .ok (.ifCond .eq 33, 3) := by decide +kernel
theorem dX8_isHeaderOf_66 : decode cX8_isHeaderOf 66 = .ok (.aload_n 0, 1) := by decide +kernel
theorem dX8_isHeaderOf_67 : decode cX8_isHeaderOf 67 = .ok (.iload_n 1, 1) := by decide +kernel
theorem dX8_isHeaderOf_68 : decode cX8_isHeaderOf 68 = .ok (.iload_n 3, 1) := by decide +kernel
theorem dX8_isHeaderOf_69 : decode cX8_isHeaderOf 69 = .ok (.bipush 20, 2) := by decide +kernel
theorem dX8_isHeaderOf_71 : decode cX8_isHeaderOf 71 = .ok (.iadd, 1) := by decide +kernel
theorem dX8_isHeaderOf_72 : decode cX8_isHeaderOf 72 = .ok (.invokevirtual 103, 3) := by decide +kernel
theorem dX8_isHeaderOf_75 : decode cX8_isHeaderOf 75 = .ok (.iload_n 2, 1) := by decide +kernel
theorem dX8_isHeaderOf_76 : decode cX8_isHeaderOf 76 = .ok (.if_icmp .ne 20, 3) := by decide +kernel
theorem dX8_isHeaderOf_79 : decode cX8_isHeaderOf 79 = .ok (.aload_n 0, 1) := by decide +kernel
theorem dX8_isHeaderOf_80 : decode cX8_isHeaderOf 80 = .ok (.iload_n 1, 1) := by decide +kernel
theorem dX8_isHeaderOf_81 : decode cX8_isHeaderOf 81 = .ok (.iload_n 3, 1) := by decide +kernel
theorem dX8_isHeaderOf_82 : decode cX8_isHeaderOf 82 = .ok (.bipush 30, 2) := by decide +kernel
theorem dX8_isHeaderOf_84 : decode cX8_isHeaderOf 84 = .ok (.iadd, 1) := by decide +kernel
theorem dX8_isHeaderOf_85 : decode cX8_isHeaderOf 85 = .ok (.invokevirtual 103, 3) := by decide +kernel
theorem dX8_isHeaderOf_88 : decode cX8_isHeaderOf 88 = .ok (.iload_n 1, 1) := by decide +kernel
theorem dX8_isHeaderOf_89 : decode cX8_isHeaderOf 89 = .ok (.if_icmp .ne 7, 3) := by decide +kernel
theorem dX8_isHeaderOf_92 : decode cX8_isHeaderOf 92 = .ok (.iconst 1, 1) := by decide +kernel
theorem dX8_isHeaderOf_93 : decode cX8_isHeaderOf 93 = .ok (.goto 4, 3) := by decide +kernel
theorem dX8_isHeaderOf_96 : decode cX8_isHeaderOf 96 = .ok (.iconst 0, 1) := by decide +kernel
theorem dX8_isHeaderOf_97 : decode cX8_isHeaderOf 97 = .ok (.ireturn, 1) := by decide +kernel
theorem dX8_seek_0 : decode cX8_seek 0 = .ok (.aload_n 0, 1) := by decide +kernel
theorem dX8_seek_1 : decode cX8_seek 1 = .ok (.iload_n 1, 1) := by decide +kernel
theorem dX8_seek_2 : decode cX8_seek 2 = .ok (.invokevirtual 107, 3) := by decide +kernel
theorem dX8_seek_5 : decode cX8_seek 5 = .ok (.aload_n 0, 1) := by decide +kernel
theorem dX8_seek_6 : decode cX8_seek 6 = .ok (.getfield 83, 3) := by decide +kernel
theorem dX8_seek_9 : decode cX8_seek 9 = .ok (.ifCond .ne 6, 3) := by decide +kernel
theorem dX8_seek_12 : decode cX8_seek 12 = .ok (.bipush 21, 2) := by decide +kernel
theorem dX8_seek_14 : decode cX8_seek 14 = .ok (.ireturn, 1) := by decide +kernel
theorem dX8_seek_15 : decode cX8_seek 15 = .ok (.aload_n 0, 1) := by decide +kernel
theorem dX8_seek_16 : decode cX8_seek 16 = .ok (.iconst (-1), 1) := by decide +kernel
theorem dX8_seek_17 : decode cX8_seek 17 = .ok (.putfield 110, 3) := by decide +kernel
theorem dX8_seek_20 : decode cX8_seek 20 = .ok (.iconst 0, 1) := by decide +kernel
theorem dX8_seek_21 : decode cX8_seek 21 = .ok (.istore_n 3, 1) := by decide +kernel
theorem dX8_seek_22 : decode cX8_seek 22 = .ok (.iload_n 3, 1) := by decide +kernel
theorem dX8_seek_23 : decode cX8_seek 23 = .ok (.aload_n 0, 1) := by decide +kernel
theorem dX8_seek_24 : decode cX8_seek 24 = .ok (.getfield 83, 3) := by decide +kernel
theorem dX8_seek_27 : decode cX8_seek 27 = .ok (.if_icmp .ge 40, 3) := by decide +kernel
theorem dX8_seek_30 : decode cX8_seek 30 = .ok (.aload_n 0, 1) := by decide +kernel
theorem dX8_seek_31 : decode cX8_seek 31 = .ok (.getfield 110, 3) := by decide +kernel
theorem dX8_seek_34 : decode cX8_seek 34 = .ok (.ifCond .ge 33, 3) := by decide +kernel
theorem dX8_seek_37 : decode cX8_seek 37 = .ok (.aload_n 0, 1) := by decide +kernel
theorem dX8_seek_38 : decode cX8_seek 38 = .ok (.aload_n 0, 1) := by decide +kernel
theorem dX8_seek_39 : decode cX8_seek 39 = .ok (.iload_n 1, 1) := by decide +kernel
theorem dX8_seek_40 : decode cX8_seek 40 = .ok (.iload_n 2, 1) := by decide +kernel
theorem dX8_seek_41 : decode cX8_seek 41 = .ok (.aload_n 0, 1) := by decide +kernel
theorem dX8_seek_42 : decode cX8_seek 42 = .ok (.getfield 34, 3) := by decide +kernel
theorem dX8_seek_45 : decode cX8_seek 45 = .ok (.iload_n 3, 1) := by decide +kernel
theorem dX8_seek_46 : decode cX8_seek 46 = .ok (.iaload, 1) := by decide +kernel
theorem dX8_seek_47 : decode cX8_seek 47 = .ok (.invokevirtual 113, 3) := by decide +kernel
theorem dX8_seek_50 : decode cX8_seek 50 = .ok (.ifCond .eq 7, 3) := by decide +kernel
theorem dX8_seek_53 : decode cX8_seek 53 = .ok (.iload_n 3, 1) := by decide +kernel
theorem dX8_seek_54 : decode cX8_seek 54 = .ok (.goto 4, 3) := by decide +kernel
theorem dX8_seek_57 : decode cX8_seek 57 = .ok (.iconst (-1), 1) := by decide +kernel
theorem dX8_seek_58 : decode cX8_seek 58 = .ok (.putfield 110, 3) := by decide +kernel
theorem dX8_seek_61 : decode cX8_seek 61 = .ok (.iinc 3 1, 3) := by decide +kernel
theorem dX8_seek_64 : decode cX8_seek 64 = .ok (.goto (-42), 3) := by decide +kernel
theorem dX8_seek_67 : decode cX8_seek 67 = .ok (.aload_n 0, 1) := by decide +kernel
theorem dX8_seek_68 : decode cX8_seek 68 = .ok (.getfield 110, 3) := by decide +kernel
theorem dX8_seek_71 : decode cX8_seek 71 = .ok (.ifCond .ge 6, 3) := by decide +kernel
theorem dX8_seek_74 : decode cX8_seek 74 = .ok (.bipush 20, 2) := by decide +kernel
theorem dX8_seek_76 : decode cX8_seek 76 = .ok (.ireturn, 1) := by decide +kernel
theorem dX8_seek_77 : decode cX8_seek 77 = .ok (.aload_n 0, 1) := by decide +kernel
theorem dX8_seek_78 : decode cX8_seek 78 = .ok (.getfield 34, 3) := by decide +kernel
theorem dX8_seek_81 : decode cX8_seek 81 = .ok (.aload_n 0, 1) := by decide +kernel
theorem dX8_seek_82 : decode cX8_seek 82 = .ok (.getfield 110, 3) := by decide +kernel
theorem dX8_seek_85 : decode cX8_seek 85 = .ok (.iaload, 1) := by decide +kernel
theorem dX8_seek_86 : decode cX8_seek 86 = .ok (.istore_n 3, 1) := by decide +kernel
theorem dX8_seek_87 : decode cX8_seek 87 = .ok (.aload_n 0, 1) := by decide +kernel
theorem dX8_seek_88 : decode cX8_seek 88 = .ok (.iload_n 1, 1) := by decide +kernel
theorem dX8_seek_89 : decode cX8_seek 89 = .ok (.iload_n 3, 1) := by decide +kernel
theorem dX8_seek_90 : decode cX8_seek 90 = .ok (.bipush 40, 2) := by decide +kernel
theorem dX8_seek_92 : decode cX8_seek 92 = .ok (.iadd, 1) := by decide +kernel
theorem dX8_seek_93 : decode cX8_seek 93 = .ok (.invokevirtual 103, 3) := by decide +kernel
theorem dX8_seek_96 : decode cX8_seek 96 = .ok (.istore 4, 2) := by decide +kernel
theorem dX8_seek_98 : decode cX8_seek 98 = .ok (.aload_n 0, 1) := by decide +kernel
theorem dX8_seek_99 : decode cX8_seek 99 = .ok (.iload_n 1, 1) := by decide +kernel
theorem dX8_seek_100 : decode cX8_seek 100 = .ok (.iload_n 3, 1) := by decide +kernel
theorem dX8_seek_101 : decode cX8_seek 101 = .ok (.bipush 50, 2) := by decide +kernel
theorem dX8_seek_103 : decode cX8_seek 103 = .ok (.iadd, 1) := by decide +kernel
theorem dX8_seek_104 : decode cX8_seek 104 = .ok (.invokevirtual 103, 3) := by decide +kernel
theorem dX8_seek_107 : decode cX8_seek 107 = .ok (.istore 5, 2) := by decide +kernel
theorem dX8_seek_109 : decode cX8_seek 109 = .ok (.aload_n 0, 1) := by decide +kernel
theorem dX8_seek_110 : decode cX8_seek 110 = .ok (.iload_n 1, 1) := by decide +kernel
theorem dX8_seek_111 : decode cX8_seek 111 = .ok (.iload_n 3, 1) := by decide +kernel
theorem dX8_seek_112 : decode cX8_seek 112 = .ok (.bipush 10, 2) := by decide +kernel
theorem dX8_seek_114 : decode cX8_seek 114 = .ok (.iadd, 1) := by decide +kernel
theorem dX8_seek_115 : decode cX8_seek 115 = .ok (.invokevirtual 103, 3) := by decide +kernel
theorem dX8_seek_118 : decode cX8_seek 118 = .ok (.iload_n 2, 1) := by decide +kernel
theorem dX8_seek_119 : decode cX8_seek 119 = .ok (.iload_n 1, 1) := by decide +kernel
theorem dX8_seek_120 : decode cX8_seek 120 = .ok (.ixor, 1) := by decide +kernel
theorem dX8_seek_121 : decode cX8_seek 121 = .ok (.iload 4, 2) := by decide +kernel
theorem dX8_seek_123 : decode cX8_seek 123 = .ok (.ixor, 1) := by decide +kernel
theorem dX8_seek_124 : decode cX8_seek 124 = .ok (.iload 5, 2) := by decide +kernel
theorem dX8_seek_126 : decode cX8_seek 126 = .ok (.ixor, 1) := by decide +kernel
theorem dX8_seek_127 : decode cX8_seek 127 = .ok (.if_icmp .eq 6, 3) := by decide +kernel
theorem dX8_seek_130 : decode cX8_seek 130 = .ok (.bipush 27, 2) := by decide +kernel
theorem dX8_seek_132 : decode cX8_seek 132 = .ok (.ireturn, 1) := by decide +kernel
theorem dX8_seek_133 : decode cX8_seek 133 = .ok (.sipush 256, 3) := by decide +kernel
theorem dX8_seek_136 : decode cX8_seek 136 = .ok (.iload 4, 2) := by decide +kernel
theorem dX8_seek_138 : decode cX8_seek 138 = .ok (.imul, 1) := by decide +kernel
theorem dX8_seek_139 : decode cX8_seek 139 = .ok (.iload 5, 2) := by decide +kernel
theorem dX8_seek_141 : decode cX8_seek 141 = .ok (.iadd, 1) := by decide +kernel
theorem dX8_seek_142 : decode cX8_seek 142 = .ok (.aload_n 0, 1) := by decide +kernel
theorem dX8_seek_143 : decode cX8_seek 143 = .ok (.getfield 24, 3) := by decide +kernel
theorem dX8_seek_146 : decode cX8_seek 146 = .ok (.if_icmp .ne 7, 3) := by decide +kernel
theorem dX8_seek_149 : decode cX8_seek 149 = .ok (.iconst 0, 1) := by decide +kernel
theorem dX8_seek_150 : decode cX8_seek 150 = .ok (.goto 5, 3) := by decide +kernel
theorem dX8_seek_153 : decode cX8_seek 153 = .ok (.bipush 29, 2) := by decide +kernel
theorem dX8_seek_155 : decode cX8_seek 155 = .ok (.ireturn, 1) := by decide +kernel
theorem dX8_dataOf_0 : decode cX8_dataOf 0 = .ok (.aload_n 0, 1) := by decide +kernel
theorem dX8_dataOf_1 : decode cX8_dataOf 1 = .ok (.getfield 34, 3) := by decide +kernel
theorem dX8_dataOf_4 : decode cX8_dataOf 4 = .ok (.aload_n 0, 1) := by decide +kernel
theorem dX8_dataOf_5 : decode cX8_dataOf 5 = .ok (.getfield 110, 3) := by decide +kernel
theorem dX8_dataOf_8 : decode cX8_dataOf 8 = .ok (.iconst 1, 1) := by decide +kernel
theorem dX8_dataOf_9 : decode cX8_dataOf 9 = .ok (.iadd, 1) := by decide +kernel
theorem dX8_dataOf_10 : decode cX8_dataOf 10 = .ok (.aload_n 0, 1) := by decide +kernel
theorem dX8_dataOf_11 : decode cX8_dataOf 11 = .ok (.getfield 83, 3) := by decide +kernel
theorem dX8_dataOf_14 : decode cX8_dataOf 14 = .ok (.irem, 1) := by decide +kernel
theorem dX8_dataOf_15 : decode cX8_dataOf 15 = .ok (.iaload, 1) := by decide +kernel
theorem dX8_dataOf_16 : decode cX8_dataOf 16 = .ok (.istore_n 2, 1) := by decide +kernel
theorem dX8_dataOf_17 : decode cX8_dataOf 17 = .ok (.aload_n 0, 1) := by decide +kernel
theorem dX8_dataOf_18 : decode cX8_dataOf 18 = .ok (.iload_n 1, 1) := by decide +kernel
theorem dX8_dataOf_19 : decode cX8_dataOf 19 = .ok (.iload_n 2, 1) := by decide +kernel
theorem dX8_dataOf_20 : decode cX8_dataOf 20 = .ok (.invokevirtual 103, 3) := by decide +kernel
theorem dX8_dataOf_23 : decode cX8_dataOf 23 = .ok (.bipush 7, 2) := by decide +kernel
theorem dX8_dataOf_25 : decode cX8_dataOf 25 = .ok (.if_icmp .eq 6, 3) := by decide +kernel
theorem dX8_dataOf_28 : decode cX8_dataOf 28 = .ok (.bipush 22, 2) := by decide +kernel
theorem dX8_dataOf_30 : decode cX8_dataOf 30 = .ok (.ireturn, 1) := by decide +kernel
theorem dX8_dataOf_31 : decode cX8_dataOf 31 = .ok (.iconst 0, 1) := by decide +kernel
theorem dX8_dataOf_32 : decode cX8_dataOf 32 = .ok (.istore_n 3, 1) := by decide +kernel
theorem dX8_dataOf_33 : decode cX8_dataOf 33 = .ok (.iconst 0, 1) := by decide +kernel
theorem dX8_dataOf_34 : decode cX8_dataOf 34 = .ok (.istore 4, 2) := by decide +kernel
theorem dX8_dataOf_36 : decode cX8_dataOf 36 = .ok (.iload 4, 2) := by decide +kernel
theorem dX8_dataOf_38 : decode cX8_dataOf 38 = .ok (.bipush 65, 2) := by decide +kernel
theorem dX8_dataOf_40 : decode cX8_dataOf 40 = .ok (.if_icmp .ge 54, 3) := by decide +kernel
theorem dX8_dataOf_43 : decode cX8_dataOf 43 = .ok (.aload_n 0, 1) := by decide +kernel
theorem dX8_dataOf_44 : decode cX8_dataOf 44 = .ok (.iload_n 1, 1) := by decide +kernel
theorem dX8_dataOf_45 : decode cX8_dataOf 45 = .ok (.iload_n 2, 1) := by decide +kernel
theorem dX8_dataOf_46 : decode cX8_dataOf 46 = .ok (.bipush 10, 2) := by decide +kernel
theorem dX8_dataOf_48 : decode cX8_dataOf 48 = .ok (.iload 4, 2) := by decide +kernel
theorem dX8_dataOf_50 : decode cX8_dataOf 50 = .ok (.iconst 1, 1) := by decide +kernel
theorem dX8_dataOf_51 : decode cX8_dataOf 51 = .ok (.iadd, 1) := by decide +kernel
theorem dX8_dataOf_52 : decode cX8_dataOf 52 = .ok (.imul, 1) := by decide +kernel
theorem dX8_dataOf_53 : decode cX8_dataOf 53 = .ok (.iadd, 1) := by decide +kernel
theorem dX8_dataOf_54 : decode cX8_dataOf 54 = .ok (.invokevirtual 103, 3) := by decide +kernel
theorem dX8_dataOf_57 : decode cX8_dataOf 57 = .ok (.istore 5, 2) := by decide +kernel
theorem dX8_dataOf_59 : decode cX8_dataOf 59 = .ok (.iload 5, 2) := by decide +kernel
theorem dX8_dataOf_61 : decode cX8_dataOf 61 = .ok (.ifCond .ge 6, 3) := by decide +kernel
theorem dX8_dataOf_64 : decode cX8_dataOf 64 = .ok (.bipush 24, 2) := by decide +kernel
theorem dX8_dataOf_66 : decode cX8_dataOf 66 = .ok (.ireturn, 1) := by decide +kernel
theorem dX8_dataOf_67 : decode cX8_dataOf 67 = .ok (.iload_n 3, 1) := by decide +kernel
theorem dX8_dataOf_68 : decode cX8_dataOf 68 = .ok (.iload 5, 2) := by decide +kernel
theorem dX8_dataOf_70 : decode cX8_dataOf 70 = .ok (.ixor, 1) := by decide +kernel
theorem dX8_dataOf_71 : decode cX8_dataOf 71 = .ok (.istore_n 3, 1) := by decide +kernel
theorem dX8_dataOf_72 : decode cX8_dataOf 72 = .ok (.iload 4, 2) := by decide +kernel
theorem dX8_dataOf_74 : decode cX8_dataOf 74 = .ok (.bipush 64, 2) := by decide +kernel
theorem dX8_dataOf_76 : decode cX8_dataOf 76 = .ok (.if_icmp .ge 12, 3) := by decide +kernel
theorem dX8_dataOf_79 : decode cX8_dataOf 79 = .ok (.aload_n 0, 1) := by decide +kernel
theorem dX8_dataOf_80 : decode cX8_dataOf 80 = .ok (.getfield 37, 3) := by decide +kernel
theorem dX8_dataOf_83 : decode cX8_dataOf 83 = .ok (.iload 4, 2) := by decide +kernel
theorem dX8_dataOf_85 : decode cX8_dataOf 85 = .ok (.iload 5, 2) := by decide +kernel
theorem dX8_dataOf_87 : decode cX8_dataOf 87 = .ok (.iastore, 1) := by decide +kernel
theorem dX8_dataOf_88 : decode cX8_dataOf 88 = .ok (.iinc 4 1, 3) := by decide +kernel
theorem dX8_dataOf_91 : decode cX8_dataOf 91 = .ok (.goto (-55), 3) := by decide +kernel
theorem dX8_dataOf_94 : decode cX8_dataOf 94 = .ok (.iload_n 3, 1) := by decide +kernel
theorem dX8_dataOf_95 : decode cX8_dataOf 95 = .ok (.ifCond .ne 7, 3) := by decide +kernel
theorem dX8_dataOf_98 : decode cX8_dataOf 98 = .ok (.iconst 0, 1) := by decide +kernel
theorem dX8_dataOf_99 : decode cX8_dataOf 99 = .ok (.goto 5, 3) := by decide +kernel
theorem dX8_dataOf_102 : decode cX8_dataOf 102 = .ok (.bipush 23, 2) := by decide +kernel
theorem dX8_dataOf_104 : decode cX8_dataOf 104 = .ok (.ireturn, 1) := by decide +kernel
theorem dX8_readBlock_0 : decode cX8_readBlock 0 = .ok (.aload_n 0, 1) := by decide +kernel
theorem dX8_readBlock_1 : decode cX8_readBlock 1 = .ok (.iload_n 1, 1) := by decide +kernel
theorem dX8_readBlock_2 : decode cX8_readBlock 2 = .ok (.iload_n 2, 1) := by decide +kernel
theorem dX8_readBlock_3 : decode cX8_readBlock 3 = .ok (.invokevirtual 116, 3) := by decide +kernel
theorem dX8_readBlock_6 : decode cX8_readBlock 6 = .ok (.istore_n 3, 1) := by decide +kernel
theorem dX8_readBlock_7 : decode cX8_readBlock 7 = .ok (.iload_n 3, 1) := by decide +kernel
theorem dX8_readBlock_8 : decode cX8_readBlock 8 = .ok (.ifCond .ne 11, 3) := by decide +kernel
theorem dX8_readBlock_11 : decode cX8_readBlock 11 = .ok (.aload_n 0, 1) := by decide +kernel
theorem dX8_readBlock_12 : decode cX8_readBlock 12 = .ok (.iload_n 1, 1) := by decide +kernel
theorem dX8_readBlock_13 : decode cX8_readBlock 13 = .ok (.invokevirtual 119, 3) := by decide +kernel
theorem dX8_readBlock_16 : decode cX8_readBlock 16 = .ok (.goto 4, 3) := by decide +kernel
theorem dX8_readBlock_19 : decode cX8_readBlock 19 = .ok (.iload_n 3, 1) := by decide +kernel
theorem dX8_readBlock_20 : decode cX8_readBlock 20 = .ok (.istore_n 3, 1) := by decide +kernel
theorem dX8_readBlock_21 : decode cX8_readBlock 21 = .ok (.aload_n 0, 1) := by decide +kernel
theorem dX8_readBlock_22 : decode cX8_readBlock 22 = .ok (.dup, 1) := by decide +kernel
theorem dX8_readBlock_23 : decode cX8_readBlock 23 = .ok (.getfield 122, 3) := by decide +kernel
theorem dX8_readBlock_26 : decode cX8_readBlock 26 = .ok (.iload_n 3, 1) := by decide +kernel
theorem dX8_readBlock_27 : decode cX8_readBlock 27 = .ok (.ifCond .ne 7, 3) := by decide +kernel
theorem dX8_readBlock_30 : decode cX8_readBlock 30 = .ok (.iconst 1, 1) := by decide +kernel
theorem dX8_readBlock_31 : decode cX8_readBlock 31 = .ok (.goto 4, 3) := by decide +kernel
theorem dX8_readBlock_34 : decode cX8_readBlock 34 = .ok (.iconst 0, 1) := by decide +kernel
theorem dX8_readBlock_35 : decode cX8_readBlock 35 = .ok (.iadd, 1) := by decide +kernel
theorem dX8_readBlock_36 : decode cX8_readBlock 36 = .ok (.putfield 122, 3) := by decide +kernel
theorem dX8_readBlock_39 : decode cX8_readBlock 39 = .ok (.aload_n 0, 1) := by decide +kernel
theorem dX8_readBlock_40 : decode cX8_readBlock 40 = .ok (.dup, 1) := by decide +kernel
theorem dX8_readBlock_41 : decode cX8_readBlock 41 = .ok (.getfield 125, 3) := by decide +kernel
theorem dX8_readBlock_44 : decode cX8_readBlock 44 = .ok (.iload_n 3, 1) := by decide +kernel
theorem dX8_readBlock_45 : decode cX8_readBlock 45 = .ok (.ifCond .ne 7, 3) := by decide +kernel
theorem dX8_readBlock_48 : decode cX8_readBlock 48 = .ok (.iconst 0, 1) := by decide +kernel
theorem dX8_readBlock_49 : decode cX8_readBlock 49 = .ok (.goto 4, 3) := by decide +kernel
theorem dX8_readBlock_52 : decode cX8_readBlock 52 = .ok (.iconst 1, 1) := by decide +kernel
theorem dX8_readBlock_53 : decode cX8_readBlock 53 = .ok (.iadd, 1) := by decide +kernel
theorem dX8_readBlock_54 : decode cX8_readBlock 54 = .ok (.putfield 125, 3) := by decide +kernel
theorem dX8_readBlock_57 : decode cX8_readBlock 57 = .ok (.iload_n 3, 1) := by decide +kernel
theorem dX8_readBlock_58 : decode cX8_readBlock 58 = .ok (.ireturn, 1) := by decide +kernel
theorem dX8_writeBlock_0 : decode cX8_writeBlock 0 = .ok (.aload_n 0, 1) := by decide +kernel
theorem dX8_writeBlock_1 : decode cX8_writeBlock 1 = .ok (.iload_n 1, 1) := by decide +kernel
theorem dX8_writeBlock_2 : decode cX8_writeBlock 2 = .ok (.iload_n 2, 1) := by decide +kernel
theorem dX8_writeBlock_3 : decode cX8_writeBlock 3 = .ok (.invokevirtual 116, 3) := by decide +kernel
theorem dX8_writeBlock_6 : decode cX8_writeBlock 6 = .ok (.istore_n 3, 1) := by decide +kernel
theorem dX8_writeBlock_7 : decode cX8_writeBlock 7 = .ok (.aload_n 0, 1) := by decide +kernel
theorem dX8_writeBlock_8 : decode cX8_writeBlock 8 = .ok (.dup, 1) := by decide +kernel
theorem dX8_writeBlock_9 : decode cX8_writeBlock 9 = .ok (.getfield 125, 3) := by decide +kernel
theorem dX8_writeBlock_12 : decode cX8_writeBlock 12 = .ok (.iload_n 3, 1) := by decide +kernel
theorem dX8_writeBlock_13 : decode cX8_writeBlock 13 = .ok (.ifCond .ne 7, 3) := by decide +kernel
theorem dX8_writeBlock_16 : decode cX8_writeBlock 16 = .ok (.iconst 0, 1) := by decide +kernel
theorem dX8_writeBlock_17 : decode cX8_writeBlock 17 = .ok (.goto 4, 3) := by decide +kernel
theorem dX8_writeBlock_20 : decode cX8_writeBlock 20 = .ok (.iconst 1, 1) := by decide +kernel
theorem dX8_writeBlock_21 : decode cX8_writeBlock 21 = .ok (.iadd, 1) := by decide +kernel
theorem dX8_writeBlock_22 : decode cX8_writeBlock 22 = .ok (.putfield 125, 3) := by decide +kernel
theorem dX8_writeBlock_25 : decode cX8_writeBlock 25 = .ok (.iload_n 3, 1) := by decide +kernel
theorem dX8_writeBlock_26 : decode cX8_writeBlock 26 = .ok (.ifCond .le 5, 3) := by decide +kernel
theorem dX8_writeBlock_29 : decode cX8_writeBlock 29 = .ok (.iload_n 3, 1) := by decide +kernel
theorem dX8_writeBlock_30 : decode cX8_writeBlock 30 = .ok (.ireturn, 1) := by decide +kernel
theorem dX8_writeBlock_31 : decode cX8_writeBlock 31 = .ok (.aload_n 0, 1) := by decide +kernel
theorem dX8_writeBlock_32 : decode cX8_writeBlock 32 = .ok (.iload_n 1, 1) := by decide +kernel
theorem dX8_writeBlock_33 : decode cX8_writeBlock 33 = .ok (.putfield 86, 3) := by decide +kernel
theorem dX8_writeBlock_36 : decode cX8_writeBlock 36 = .ok (.aload_n 0, 1) := by decide +kernel
theorem dX8_writeBlock_37 : decode cX8_writeBlock 37 = .ok (.aload_n 0, 1) := by decide +kernel
theorem dX8_writeBlock_38 : decode cX8_writeBlock 38 = .ok (.getfield 34, 3) := by decide +kernel
theorem dX8_writeBlock_41 : decode cX8_writeBlock 41 = .ok (.aload_n 0, 1) := by decide +kernel
theorem dX8_writeBlock_42 : decode cX8_writeBlock 42 = .ok (.getfield 110, 3) := by decide +kernel
theorem dX8_writeBlock_45 : decode cX8_writeBlock 45 = .ok (.iaload, 1) := by decide +kernel
theorem dX8_writeBlock_46 : decode cX8_writeBlock 46 = .ok (.bipush 108, 2) := by decide +kernel
theorem dX8_writeBlock_48 : decode cX8_writeBlock 48 = .ok (.iadd, 1) := by decide +kernel
theorem dX8_writeBlock_49 : decode cX8_writeBlock 49 = .ok (.putfield 89, 3) := by decide +kernel
theorem dX8_writeBlock_52 : decode cX8_writeBlock 52 = .ok (.aload_n 0, 1) := by decide +kernel
theorem dX8_writeBlock_53 : decode cX8_writeBlock 53 = .ok (.invokevirtual 128, 3) := by decide +kernel
theorem dX8_writeBlock_56 : decode cX8_writeBlock 56 = .ok (.aload_n 0, 1) := by decide +kernel
theorem dX8_writeBlock_57 : decode cX8_writeBlock 57 = .ok (.bipush 85, 2) := by decide +kernel
theorem dX8_writeBlock_59 : decode cX8_writeBlock 59 = .ok (.bipush 8, 2) := by decide +kernel
theorem dX8_writeBlock_61 : decode cX8_writeBlock 61 = .ok (.invokevirtual 92, 3) := by decide +kernel
theorem dX8_writeBlock_64 : decode cX8_writeBlock 64 = .ok (.aload_n 0, 1) := by decide +kernel
theorem dX8_writeBlock_65 : decode cX8_writeBlock 65 = .ok (.dup, 1) := by decide +kernel
theorem dX8_writeBlock_66 : decode cX8_writeBlock 66 = .ok (.getfield 131, 3) := by decide +kernel
theorem dX8_writeBlock_69 : decode cX8_writeBlock 69 = .ok (.iconst 1, 1) := by decide +kernel
theorem dX8_writeBlock_70 : decode cX8_writeBlock 70 = .ok (.iadd, 1) := by decide +kernel
theorem dX8_writeBlock_71 : decode cX8_writeBlock 71 = .ok (.putfield 131, 3) := by decide +kernel
theorem dX8_writeBlock_74 : decode cX8_writeBlock 74 = .ok (.iconst 0, 1) := by decide +kernel
theorem dX8_writeBlock_75 : decode cX8_writeBlock 75 = .ok (.ireturn, 1) := by decide +kernel
theorem dX8_ends_0 : decode cX8_ends 0 = .ok (.aload_n 0, 1) := by decide +kernel
theorem dX8_ends_1 : decode cX8_ends 1 = .ok (.iload_n 1, 1) := by decide +kernel
theorem dX8_ends_2 : decode cX8_ends 2 = .ok (.putfield 134, 3) := by decide +kernel
theorem dX8_ends_5 : decode cX8_ends 5 = .ok (.aload_n 0, 1) := by decide +kernel
theorem dX8_ends_6 : decode cX8_ends 6 = .ok (.iload_n 2, 1) := by decide +kernel
theorem dX8_ends_7 : decode cX8_ends 7 = .ok (.putfield 137, 3) := by decide +kernel
theorem dX8_ends_10 : decode cX8_ends 10 = .ok (.aload_n 0, 1) := by decide +kernel
theorem dX8_ends_11 : decode cX8_ends 11 = .ok (.iload_n 3, 1) := by decide +kernel
theorem dX8_ends_12 : decode cX8_ends 12 = .ok (.putfield 140, 3) := by decide +kernel
theorem dX8_ends_15 : decode cX8_ends 15 = .ok (.iload_n 1, 1) := by decide +kernel
theorem dX8_ends_16 : decode cX8_ends 16 = .ok (.ireturn, 1) := by decide +kernel
theorem dX8_begins_0 : decode cX8_begins 0 = .ok (.aload_n 0, 1) := by decide +kernel
theorem dX8_begins_1 : decode cX8_begins 1 = .ok (.iconst 0, 1) := by decide +kernel
theorem dX8_begins_2 : decode cX8_begins 2 = .ok (.iconst 0, 1) := by decide +kernel
theorem dX8_begins_3 : decode cX8_begins 3 = .ok (.iconst 0, 1) := by decide +kernel
theorem dX8_begins_4 : decode cX8_begins 4 = .ok (.invokevirtual 143, 3) := by decide +kernel
theorem dX8_begins_7 : decode cX8_begins 7 = .ok (.istore_n 1, 1) := by decide +kernel
theorem dX8_begins_8 : decode cX8_begins 8 = .ok (.aload_n 0, 1) := by decide +kernel
theorem dX8_begins_9 : decode cX8_begins 9 = .ok (.getfield 24, 3) := by decide +kernel
theorem dX8_begins_12 : decode cX8_begins 12 = .ok (.ifCond .ge 20, 3) := by decide +kernel
theorem dX8_begins_15 : decode cX8_begins 15 = .ok (.aload_n 0, 1) := by decide +kernel
theorem dX8_begins_16 : decode cX8_begins 16 = .ok (.bipush 74, 2) := by decide +kernel
theorem dX8_begins_18 : decode cX8_begins 18 = .ok (.iconst 0, 1) := by decide +kernel
theorem dX8_begins_19 : decode cX8_begins 19 = .ok (.iconst 0, 1) := by decide +kernel
theorem dX8_begins_20 : decode cX8_begins 20 = .ok (.invokevirtual 143, 3) := by decide +kernel
theorem dX8_begins_23 : decode cX8_begins 23 = .ok (.ifCond .ne 7, 3) := by decide +kernel
theorem dX8_begins_26 : decode cX8_begins 26 = .ok (.iconst 1, 1) := by decide +kernel
theorem dX8_begins_27 : decode cX8_begins 27 = .ok (.goto 4, 3) := by decide +kernel
theorem dX8_begins_30 : decode cX8_begins 30 = .ok (.iconst 0, 1) := by decide +kernel
theorem dX8_begins_31 : decode cX8_begins 31 = .ok (.ireturn, 1) := by decide +kernel
theorem dX8_begins_32 : decode cX8_begins 32 = .ok (.aload_n 0, 1) := by decide +kernel
theorem dX8_begins_33 : decode cX8_begins 33 = .ok (.bipush 9, 2) := by decide +kernel
theorem dX8_begins_35 : decode cX8_begins 35 = .ok (.iconst 0, 1) := by decide +kernel
theorem dX8_begins_36 : decode cX8_begins 36 = .ok (.invokevirtual 147, 3) := by decide +kernel
theorem dX8_begins_39 : decode cX8_begins 39 = .ok (.istore_n 2, 1) := by decide +kernel
theorem dX8_begins_40 : decode cX8_begins 40 = .ok (.iload_n 2, 1) := by decide +kernel
theorem dX8_begins_41 : decode cX8_begins 41 = .ok (.ifCond .le 20, 3) := by decide +kernel
theorem dX8_begins_44 : decode cX8_begins 44 = .ok (.aload_n 0, 1) := by decide +kernel
theorem dX8_begins_45 : decode cX8_begins 45 = .ok (.iload_n 2, 1) := by decide +kernel
theorem dX8_begins_46 : decode cX8_begins 46 = .ok (.bipush 9, 2) := by decide +kernel
theorem dX8_begins_48 : decode cX8_begins 48 = .ok (.iconst 0, 1) := by decide +kernel
theorem dX8_begins_49 : decode cX8_begins 49 = .ok (.invokevirtual 143, 3) := by decide +kernel
theorem dX8_begins_52 : decode cX8_begins 52 = .ok (.ifCond .ne 7, 3) := by decide +kernel
theorem dX8_begins_55 : decode cX8_begins 55 = .ok (.iconst 1, 1) := by decide +kernel
theorem dX8_begins_56 : decode cX8_begins 56 = .ok (.goto 4, 3) := by decide +kernel
theorem dX8_begins_59 : decode cX8_begins 59 = .ok (.iconst 0, 1) := by decide +kernel
theorem dX8_begins_60 : decode cX8_begins 60 = .ok (.ireturn, 1) := by decide +kernel
theorem dX8_begins_61 : decode cX8_begins 61 = .ok (.iconst 0, 1) := by decide +kernel
theorem dX8_begins_62 : decode cX8_begins 62 = .ok (.istore_n 3, 1) := by decide +kernel
theorem dX8_begins_63 : decode cX8_begins 63 = .ok (.iload_n 3, 1) := by decide +kernel
theorem dX8_begins_64 : decode cX8_begins 64 = .ok (.bipush 64, 2) := by decide +kernel
theorem dX8_begins_66 : decode cX8_begins 66 = .ok (.if_icmp .ge 21, 3) := by decide +kernel
theorem dX8_begins_69 : decode cX8_begins 69 = .ok (.aload_n 0, 1) := by decide +kernel
theorem dX8_begins_70 : decode cX8_begins 70 = .ok (.getfield 40, 3) := by decide +kernel
theorem dX8_begins_73 : decode cX8_begins 73 = .ok (.iload_n 3, 1) := by decide +kernel
theorem dX8_begins_74 : decode cX8_begins 74 = .ok (.aload_n 0, 1) := by decide +kernel
theorem dX8_begins_75 : decode cX8_begins 75 = .ok (.getfield 37, 3) := by decide +kernel
theorem dX8_begins_78 : decode cX8_begins 78 = .ok (.iload_n 3, 1) := by decide +kernel
theorem dX8_begins_79 : decode cX8_begins 79 = .ok (.iaload, 1) := by decide +kernel
theorem dX8_begins_80 : decode cX8_begins 80 = .ok (.iastore, 1) := by decide +kernel
theorem dX8_begins_81 : decode cX8_begins 81 = .ok (.iinc 3 1, 3) := by decide +kernel
theorem dX8_begins_84 : decode cX8_begins 84 = .ok (.goto (-21), 3) := by decide +kernel
theorem dX8_begins_87 : decode cX8_begins 87 = .ok (.iconst 1, 1) := by decide +kernel
theorem dX8_begins_88 : decode cX8_begins 88 = .ok (.ireturn, 1) := by decide +kernel
theorem dX8_isFree_0 : decode cX8_isFree 0 = .ok (.aload_n 0, 1) := by decide +kernel
theorem dX8_isFree_1 : decode cX8_isFree 1 = .ok (.getfield 40, 3) := by decide +kernel
theorem dX8_isFree_4 : decode cX8_isFree 4 = .ok (.iconst 2, 1) := by decide +kernel
theorem dX8_isFree_5 : decode cX8_isFree 5 = .ok (.iload_n 1, 1) := by decide +kernel
theorem dX8_isFree_6 : decode cX8_isFree 6 = .ok (.imul, 1) := by decide +kernel
theorem dX8_isFree_7 : decode cX8_isFree 7 = .ok (.iload_n 2, 1) := by decide +kernel
theorem dX8_isFree_8 : decode cX8_isFree 8 = .ok (.bipush 8, 2) := by decide +kernel
theorem dX8_isFree_10 : decode cX8_isFree 10 = .ok (.idiv, 1) := by decide +kernel
theorem dX8_isFree_11 : decode cX8_isFree 11 = .ok (.iadd, 1) := by decide +kernel
theorem dX8_isFree_12 : decode cX8_isFree 12 = .ok (.iaload, 1) := by decide +kernel
theorem dX8_isFree_13 : decode cX8_isFree 13 = .ok (.iload_n 2, 1) := by decide +kernel
theorem dX8_isFree_14 : decode cX8_isFree 14 = .ok (.bipush 8, 2) := by decide +kernel
theorem dX8_isFree_16 : decode cX8_isFree 16 = .ok (.irem, 1) := by decide +kernel
theorem dX8_isFree_17 : decode cX8_isFree 17 = .ok (.ishr, 1) := by decide +kernel
theorem dX8_isFree_18 : decode cX8_isFree 18 = .ok (.iconst 1, 1) := by decide +kernel
theorem dX8_isFree_19 : decode cX8_isFree 19 = .ok (.iand, 1) := by decide +kernel
theorem dX8_isFree_20 : decode cX8_isFree 20 = .ok (.iconst 1, 1) := by decide +kernel
theorem dX8_isFree_21 : decode cX8_isFree 21 = .ok (.if_icmp .ne 7, 3) := by decide +kernel
theorem dX8_isFree_24 : decode cX8_isFree 24 = .ok (.iconst 1, 1) := by decide +kernel
theorem dX8_isFree_25 : decode cX8_isFree 25 = .ok (.goto 4, 3) := by decide +kernel
theorem dX8_isFree_28 : decode cX8_isFree 28 = .ok (.iconst 0, 1) := by decide +kernel
theorem dX8_isFree_29 : decode cX8_isFree 29 = .ok (.ireturn, 1) := by decide +kernel
theorem dX8_setFree_0 : decode cX8_setFree 0 = .ok (.iconst 2, 1) := by decide +kernel
theorem dX8_setFree_1 : decode cX8_setFree 1 = .ok (.iload_n 1, 1) := by decide +kernel
theorem dX8_setFree_2 : decode cX8_setFree 2 = .ok (.imul, 1) := by decide +kernel
theorem dX8_setFree_3 : decode cX8_setFree 3 = .ok (.iload_n 2, 1) := by decide +kernel
theorem dX8_setFree_4 : decode cX8_setFree 4 = .ok (.bipush 8, 2) := by decide +kernel
theorem dX8_setFree_6 : decode cX8_setFree 6 = .ok (.idiv, 1) := by decide +kernel
theorem dX8_setFree_7 : decode cX8_setFree 7 = .ok (.iadd, 1) := by decide +kernel
theorem dX8_setFree_8 : decode cX8_setFree 8 = .ok (.istore 4, 2) := by decide +kernel
theorem dX8_setFree_10 : decode cX8_setFree 10 = .ok (.iconst 1, 1) := by decide +kernel
theorem dX8_setFree_11 : decode cX8_setFree 11 = .ok (.iload_n 2, 1) := by decide +kernel
theorem dX8_setFree_12 : decode cX8_setFree 12 = .ok (.bipush 8, 2) := by decide +kernel
theorem dX8_setFree_14 : decode cX8_setFree 14 = .ok (.irem, 1) := by decide +kernel
theorem dX8_setFree_15 : decode cX8_setFree 15 = .ok (.ishl, 1) := by decide +kernel
theorem dX8_setFree_16 : decode cX8_setFree 16 = .ok (.istore 5, 2) := by decide +kernel
theorem dX8_setFree_18 : decode cX8_setFree 18 = .ok (.aload_n 0, 1) := by decide +kernel
theorem dX8_setFree_19 : decode cX8_setFree 19 = .ok (.getfield 40, 3) := by decide +kernel
theorem dX8_setFree_22 : decode cX8_setFree 22 = .ok (.iload 4, 2) := by decide +kernel
theorem dX8_setFree_24 : decode cX8_setFree 24 = .ok (.iload_n 3, 1) := by decide +kernel
theorem dX8_setFree_25 : decode cX8_setFree 25 = .ok (.ifCond .eq 16, 3) := by decide +kernel
theorem dX8_setFree_28 : decode cX8_setFree 28 = .ok (.aload_n 0, 1) := by decide +kernel
theorem dX8_setFree_29 : decode cX8_setFree 29 = .ok (.getfield 40, 3) := by decide +kernel
theorem dX8_setFree_32 : decode cX8_setFree 32 = .ok (.iload 4, 2) := by decide +kernel
theorem dX8_setFree_34 : decode cX8_setFree 34 = .ok (.iaload, 1) := by decide +kernel
theorem dX8_setFree_35 : decode cX8_setFree 35 = .ok (.iload 5, 2) := by decide +kernel
theorem dX8_setFree_37 : decode cX8_setFree 37 = .ok (.ior, 1) := by decide +kernel
theorem dX8_setFree_38 : decode cX8_setFree 38 = .ok (.goto 15, 3) := by decide +kernel
theorem dX8_setFree_41 : decode cX8_setFree 41 = .ok (.aload_n 0, 1) := by decide +kernel
theorem dX8_setFree_42 : decode cX8_setFree 42 = .ok (.getfield 40, 3) := by decide +kernel
theorem dX8_setFree_45 : decode cX8_setFree 45 = .ok (.iload 4, 2) := by decide +kernel
theorem dX8_setFree_47 : decode cX8_setFree 47 = .ok (.iaload, 1) := by decide +kernel
theorem dX8_setFree_48 : decode cX8_setFree 48 = .ok (.iload 5, 2) := by decide +kernel
theorem dX8_setFree_50 : decode cX8_setFree 50 = .ok (.iconst (-1), 1) := by decide +kernel
theorem dX8_setFree_51 : decode cX8_setFree 51 = .ok (.ixor, 1) := by decide +kernel
theorem dX8_setFree_52 : decode cX8_setFree 52 = .ok (.iand, 1) := by decide +kernel
theorem dX8_setFree_53 : decode cX8_setFree 53 = .ok (.iastore, 1) := by decide +kernel
theorem dX8_setFree_54 : decode cX8_setFree 54 = .ok (.return_, 1) := by decide +kernel
theorem dX8_writeMap_0 : decode cX8_writeMap 0 = .ok (.iconst 0, 1) := by decide +kernel
theorem dX8_writeMap_1 : decode cX8_writeMap 1 = .ok (.istore_n 1, 1) := by decide +kernel
theorem dX8_writeMap_2 : decode cX8_writeMap 2 = .ok (.iload_n 1, 1) := by decide +kernel
theorem dX8_writeMap_3 : decode cX8_writeMap 3 = .ok (.bipush 64, 2) := by decide +kernel
theorem dX8_writeMap_5 : decode cX8_writeMap 5 = .ok (.if_icmp .ge 21, 3) := by decide +kernel
theorem dX8_writeMap_8 : decode cX8_writeMap 8 = .ok (.aload_n 0, 1) := by decide +kernel
theorem dX8_writeMap_9 : decode cX8_writeMap 9 = .ok (.getfield 37, 3) := by decide +kernel
theorem dX8_writeMap_12 : decode cX8_writeMap 12 = .ok (.iload_n 1, 1) := by decide +kernel
theorem dX8_writeMap_13 : decode cX8_writeMap 13 = .ok (.aload_n 0, 1) := by decide +kernel
theorem dX8_writeMap_14 : decode cX8_writeMap 14 = .ok (.getfield 40, 3) := by decide +kernel
theorem dX8_writeMap_17 : decode cX8_writeMap 17 = .ok (.iload_n 1, 1) := by decide +kernel
theorem dX8_writeMap_18 : decode cX8_writeMap 18 = .ok (.iaload, 1) := by decide +kernel
theorem dX8_writeMap_19 : decode cX8_writeMap 19 = .ok (.iastore, 1) := by decide +kernel
theorem dX8_writeMap_20 : decode cX8_writeMap 20 = .ok (.iinc 1 1, 3) := by decide +kernel
theorem dX8_writeMap_23 : decode cX8_writeMap 23 = .ok (.goto (-21), 3) := by decide +kernel
theorem dX8_writeMap_26 : decode cX8_writeMap 26 = .ok (.aload_n 0, 1) := by decide +kernel
theorem dX8_writeMap_27 : decode cX8_writeMap 27 = .ok (.bipush 9, 2) := by decide +kernel
theorem dX8_writeMap_29 : decode cX8_writeMap 29 = .ok (.iconst 0, 1) := by decide +kernel
theorem dX8_writeMap_30 : decode cX8_writeMap 30 = .ok (.invokevirtual 150, 3) := by decide +kernel
theorem dX8_writeMap_33 : decode cX8_writeMap 33 = .ok (.istore_n 1, 1) := by decide +kernel
theorem dX8_writeMap_34 : decode cX8_writeMap 34 = .ok (.iload_n 1, 1) := by decide +kernel
theorem dX8_writeMap_35 : decode cX8_writeMap 35 = .ok (.ifCond .eq 14, 3) := by decide +kernel
theorem dX8_writeMap_38 : decode cX8_writeMap 38 = .ok (.aload_n 0, 1) := by decide +kernel
theorem dX8_writeMap_39 : decode cX8_writeMap 39 = .ok (.iload_n 1, 1) := by decide +kernel
theorem dX8_writeMap_40 : decode cX8_writeMap 40 = .ok (.bipush 9, 2) := by decide +kernel
theorem dX8_writeMap_42 : decode cX8_writeMap 42 = .ok (.iconst 0, 1) := by decide +kernel
theorem dX8_writeMap_43 : decode cX8_writeMap 43 = .ok (.invokevirtual 143, 3) := by decide +kernel
theorem dX8_writeMap_46 : decode cX8_writeMap 46 = .ok (.ifCond .ne 7, 3) := by decide +kernel
theorem dX8_writeMap_49 : decode cX8_writeMap 49 = .ok (.iconst 1, 1) := by decide +kernel
theorem dX8_writeMap_50 : decode cX8_writeMap 50 = .ok (.goto 4, 3) := by decide +kernel
theorem dX8_writeMap_53 : decode cX8_writeMap 53 = .ok (.iconst 0, 1) := by decide +kernel
theorem dX8_writeMap_54 : decode cX8_writeMap 54 = .ok (.ireturn, 1) := by decide +kernel
theorem dX8_nameByte_0 : decode cX8_nameByte 0 = .ok (.iload_n 2, 1) := by decide +kernel
theorem dX8_nameByte_1 : decode cX8_nameByte 1 = .ok (.iconst 4, 1) := by decide +kernel
theorem dX8_nameByte_2 : decode cX8_nameByte 2 = .ok (.if_icmp .ge 15, 3) := by decide +kernel
theorem dX8_nameByte_5 : decode cX8_nameByte 5 = .ok (.iload_n 0, 1) := by decide +kernel
theorem dX8_nameByte_6 : decode cX8_nameByte 6 = .ok (.bipush 24, 2) := by decide +kernel
theorem dX8_nameByte_8 : decode cX8_nameByte 8 = .ok (.bipush 8, 2) := by decide +kernel
theorem dX8_nameByte_10 : decode cX8_nameByte 10 = .ok (.iload_n 2, 1) := by decide +kernel
theorem dX8_nameByte_11 : decode cX8_nameByte 11 = .ok (.imul, 1) := by decide +kernel
theorem dX8_nameByte_12 : decode cX8_nameByte 12 = .ok (.isub, 1) := by decide +kernel
theorem dX8_nameByte_13 : decode cX8_nameByte 13 = .ok (.ishr, 1) := by decide +kernel
theorem dX8_nameByte_14 : decode cX8_nameByte 14 = .ok (.goto 12, 3) := by decide +kernel
theorem dX8_nameByte_17 : decode cX8_nameByte 17 = .ok (.iload_n 1, 1) := by decide +kernel
theorem dX8_nameByte_18 : decode cX8_nameByte 18 = .ok (.bipush 56, 2) := by decide +kernel
theorem dX8_nameByte_20 : decode cX8_nameByte 20 = .ok (.bipush 8, 2) := by decide +kernel
theorem dX8_nameByte_22 : decode cX8_nameByte 22 = .ok (.iload_n 2, 1) := by decide +kernel
theorem dX8_nameByte_23 : decode cX8_nameByte 23 = .ok (.imul, 1) := by decide +kernel
theorem dX8_nameByte_24 : decode cX8_nameByte 24 = .ok (.isub, 1) := by decide +kernel
theorem dX8_nameByte_25 : decode cX8_nameByte 25 = .ok (.ishr, 1) := by decide +kernel
theorem dX8_nameByte_26 : decode cX8_nameByte 26 = .ok (.sipush 255, 3) := by decide +kernel
theorem dX8_nameByte_29 : decode cX8_nameByte 29 = .ok (.iand, 1) := by decide +kernel
theorem dX8_nameByte_30 : decode cX8_nameByte 30 = .ok (.ireturn, 1) := by decide +kernel
theorem dX8_hasName_0 : decode cX8_hasName 0 = .ok (.aload_n 0, 1) := by decide +kernel
theorem dX8_hasName_1 : decode cX8_hasName 1 = .ok (.getfield 43, 3) := by decide +kernel
theorem dX8_hasName_4 : decode cX8_hasName 4 = .ok (.iload_n 1, 1) := by decide +kernel
theorem dX8_hasName_5 : decode cX8_hasName 5 = .ok (.iaload, 1) := by decide +kernel
theorem dX8_hasName_6 : decode cX8_hasName 6 = .ok (.ifCond .eq 7, 3) := by decide +kernel
theorem dX8_hasName_9 : decode cX8_hasName 9 = .ok (.iconst 1, 1) := by decide +kernel
theorem dX8_hasName_10 : decode cX8_hasName 10 = .ok (.goto 4, 3) := by decide +kernel
theorem dX8_hasName_13 : decode cX8_hasName 13 = .ok (.iconst 0, 1) := by decide +kernel
theorem dX8_hasName_14 : decode cX8_hasName 14 = .ok (.istore 4, 2) := by decide +kernel
theorem dX8_hasName_16 : decode cX8_hasName 16 = .ok (.iconst 0, 1) := by decide +kernel
theorem dX8_hasName_17 : decode cX8_hasName 17 = .ok (.istore 5, 2) := by decide +kernel
theorem dX8_hasName_19 : decode cX8_hasName 19 = .ok (.iload 5, 2) := by decide +kernel
theorem dX8_hasName_21 : decode cX8_hasName 21 = .ok (.bipush 8, 2) := by decide +kernel
theorem dX8_hasName_23 : decode cX8_hasName 23 = .ok (.if_icmp .ge 42, 3) := by decide +kernel
theorem dX8_hasName_26 : decode cX8_hasName 26 = .ok (.iload 4, 2) := by decide +kernel
theorem dX8_hasName_28 : decode cX8_hasName 28 = .ok (.ifCond .eq 28, 3) := by decide +kernel
theorem dX8_hasName_31 : decode cX8_hasName 31 = .ok (.aload_n 0, 1) := by decide +kernel
theorem dX8_hasName_32 : decode cX8_hasName 32 = .ok (.getfield 43, 3) := by decide +kernel
theorem dX8_hasName_35 : decode cX8_hasName 35 = .ok (.iload_n 1, 1) := by decide +kernel
theorem dX8_hasName_36 : decode cX8_hasName 36 = .ok (.iconst 4, 1) := by decide +kernel
theorem dX8_hasName_37 : decode cX8_hasName 37 = .ok (.iadd, 1) := by decide +kernel
theorem dX8_hasName_38 : decode cX8_hasName 38 = .ok (.iload 5, 2) := by decide +kernel
theorem dX8_hasName_40 : decode cX8_hasName 40 = .ok (.iadd, 1) := by decide +kernel
theorem dX8_hasName_41 : decode cX8_hasName 41 = .ok (.iaload, 1) := by decide +kernel
theorem dX8_hasName_42 : decode cX8_hasName 42 = .ok (.iload_n 2, 1) := by decide +kernel
theorem dX8_hasName_43 : decode cX8_hasName 43 = .ok (.iload_n 3, 1) := by decide +kernel
theorem dX8_hasName_44 : decode cX8_hasName 44 = .ok (.iload 5, 2) := by decide +kernel
theorem dX8_hasName_46 : decode cX8_hasName 46 = .ok (.invokestatic 153, 3) := by decide +kernel
theorem dX8_hasName_49 : decode cX8_hasName 49 = .ok (.if_icmp .ne 7, 3) := by decide +kernel
theorem dX8_hasName_52 : decode cX8_hasName 52 = .ok (.iconst 1, 1) := by decide +kernel
theorem dX8_hasName_53 : decode cX8_hasName 53 = .ok (.goto 4, 3) := by decide +kernel
theorem dX8_hasName_56 : decode cX8_hasName 56 = .ok (.iconst 0, 1) := by decide +kernel
theorem dX8_hasName_57 : decode cX8_hasName 57 = .ok (.istore 4, 2) := by decide +kernel
theorem dX8_hasName_59 : decode cX8_hasName 59 = .ok (.iinc 5 1, 3) := by decide +kernel
theorem dX8_hasName_62 : decode cX8_hasName 62 = .ok (.goto (-43), 3) := by decide +kernel
theorem dX8_hasName_65 : decode cX8_hasName 65 = .ok (.iload 4, 2) := by decide +kernel
theorem dX8_hasName_67 : decode cX8_hasName 67 = .ok (.ireturn, 1) := by decide +kernel
theorem dX8_readDirectory_0 : decode cX8_readDirectory 0 = .ok (.aload_n 0, 1) := by decide +kernel
theorem dX8_readDirectory_1 : decode cX8_readDirectory 1 = .ok (.iconst 0, 1) := by decide +kernel
theorem dX8_readDirectory_2 : decode cX8_readDirectory 2 = .ok (.putfield 156, 3) := by decide +kernel
theorem dX8_readDirectory_5 : decode cX8_readDirectory 5 = .ok (.aload_n 0, 1) := by decide +kernel
theorem dX8_readDirectory_6 : decode cX8_readDirectory 6 = .ok (.iconst (-1), 1) := by decide +kernel
theorem dX8_readDirectory_7 : decode cX8_readDirectory 7 = .ok (.putfield 159, 3) := by decide +kernel
theorem dX8_readDirectory_10 : decode cX8_readDirectory 10 = .ok (.bipush 9, 2) := by decide +kernel
theorem dX8_readDirectory_12 : decode cX8_readDirectory 12 = .ok (.istore 4, 2) := by decide +kernel
theorem dX8_readDirectory_14 : decode cX8_readDirectory 14 = .ok (.iconst 1, 1) := by decide +kernel
theorem dX8_readDirectory_15 : decode cX8_readDirectory 15 = .ok (.istore 5, 2) := by decide +kernel
theorem dX8_readDirectory_17 : decode cX8_readDirectory 17 = .ok (.aload_n 0, 1) := by decide +kernel
theorem dX8_readDirectory_18 : decode cX8_readDirectory 18 = .ok (.iload 4, 2) := by decide +kernel
theorem dX8_readDirectory_20 : decode cX8_readDirectory 20 = .ok (.iload 5, 2) := by decide +kernel
theorem dX8_readDirectory_22 : decode cX8_readDirectory 22 = .ok (.invokevirtual 147, 3) := by decide +kernel
theorem dX8_readDirectory_25 : decode cX8_readDirectory 25 = .ok (.istore 6, 2) := by decide +kernel
theorem dX8_readDirectory_27 : decode cX8_readDirectory 27 = .ok (.iload 6, 2) := by decide +kernel
theorem dX8_readDirectory_29 : decode cX8_readDirectory 29 = .ok (.ifCond .le 22, 3) := by decide +kernel
theorem dX8_readDirectory_32 : decode cX8_readDirectory 32 = .ok (.aload_n 0, 1) := by decide +kernel
theorem dX8_readDirectory_33 : decode cX8_readDirectory 33 = .ok (.iload 6, 2) := by decide +kernel
theorem dX8_readDirectory_35 : decode cX8_readDirectory 35 = .ok (.iload 4, 2) := by decide +kernel
theorem dX8_readDirectory_37 : decode cX8_readDirectory 37 = .ok (.iload 5, 2) := by decide +kernel
theorem dX8_readDirectory_39 : decode cX8_readDirectory 39 = .ok (.invokevirtual 143, 3) := by decide +kernel
theorem dX8_readDirectory_42 : decode cX8_readDirectory 42 = .ok (.ifCond .ne 7, 3) := by decide +kernel
theorem dX8_readDirectory_45 : decode cX8_readDirectory 45 = .ok (.iconst 1, 1) := by decide +kernel
theorem dX8_readDirectory_46 : decode cX8_readDirectory 46 = .ok (.goto 4, 3) := by decide +kernel
theorem dX8_readDirectory_49 : decode cX8_readDirectory 49 = .ok (.iconst 0, 1) := by decide +kernel
theorem dX8_readDirectory_50 : decode cX8_readDirectory 50 = .ok (.ireturn, 1) := by decide +kernel
theorem dX8_readDirectory_51 : decode cX8_readDirectory 51 = .ok (.bipush 64, 2) := by decide +kernel
theorem dX8_readDirectory_53 : decode cX8_readDirectory 53 = .ok (.aload_n 0, 1) := by decide +kernel
theorem dX8_readDirectory_54 : decode cX8_readDirectory 54 = .ok (.getfield 156, 3) := by decide +kernel
theorem dX8_readDirectory_57 : decode cX8_readDirectory 57 = .ok (.imul, 1) := by decide +kernel
theorem dX8_readDirectory_58 : decode cX8_readDirectory 58 = .ok (.istore 7, 2) := by decide +kernel
theorem dX8_readDirectory_60 : decode cX8_readDirectory 60 = .ok (.aload_n 0, 1) := by decide +kernel
theorem dX8_readDirectory_61 : decode cX8_readDirectory 61 = .ok (.getfield 46, 3) := by decide +kernel
theorem dX8_readDirectory_64 : decode cX8_readDirectory 64 = .ok (.aload_n 0, 1) := by decide +kernel
theorem dX8_readDirectory_65 : decode cX8_readDirectory 65 = .ok (.getfield 156, 3) := by decide +kernel
theorem dX8_readDirectory_68 : decode cX8_readDirectory 68 = .ok (.iload 4, 2) := by decide +kernel
theorem dX8_readDirectory_70 : decode cX8_readDirectory 70 = .ok (.iastore, 1) := by decide +kernel
theorem dX8_readDirectory_71 : decode cX8_readDirectory 71 = .ok (.aload_n 0, 1) := by decide +kernel
theorem dX8_readDirectory_72 : decode cX8_readDirectory 72 = .ok (.getfield 49, 3) := by decide +kernel
theorem dX8_readDirectory_75 : decode cX8_readDirectory 75 = .ok (.aload_n 0, 1) := by decide +kernel
theorem dX8_readDirectory_76 : decode cX8_readDirectory 76 = .ok (.getfield 156, 3) := by decide +kernel
theorem dX8_readDirectory_79 : decode cX8_readDirectory 79 = .ok (.iload 5, 2) := by decide +kernel
theorem dX8_readDirectory_81 : decode cX8_readDirectory 81 = .ok (.iastore, 1) := by decide +kernel
theorem dX8_readDirectory_82 : decode cX8_readDirectory 82 = .ok (.aload_n 0, 1) := by decide +kernel
theorem dX8_readDirectory_83 : decode cX8_readDirectory 83 = .ok (.dup, 1) := by decide +kernel
theorem dX8_readDirectory_84 : decode cX8_readDirectory 84 = .ok (.getfield 156, 3) := by decide +kernel
theorem dX8_readDirectory_87 : decode cX8_readDirectory 87 = .ok (.iconst 1, 1) := by decide +kernel
theorem dX8_readDirectory_88 : decode cX8_readDirectory 88 = .ok (.iadd, 1) := by decide +kernel
theorem dX8_readDirectory_89 : decode cX8_readDirectory 89 = .ok (.putfield 156, 3) := by decide +kernel
theorem dX8_readDirectory_92 : decode cX8_readDirectory 92 = .ok (.iconst 0, 1) := by decide +kernel
theorem dX8_readDirectory_93 : decode cX8_readDirectory 93 = .ok (.istore 8, 2) := by decide +kernel
theorem dX8_readDirectory_95 : decode cX8_readDirectory 95 = .ok (.iload 8, 2) := by decide +kernel
theorem dX8_readDirectory_97 : decode cX8_readDirectory 97 = .ok (.bipush 64, 2) := by decide +kernel
theorem dX8_readDirectory_99 : decode cX8_readDirectory 99 = .ok (.if_icmp .ge 26, 3) := by decide +kernel
theorem dX8_readDirectory_102 : decode cX8_readDirectory 102 = .ok (.aload_n 0, 1) := by decide +kernel
theorem dX8_readDirectory_103 : decode cX8_readDirectory 103 = .ok (.getfield 43, 3) := by decide +kernel
theorem dX8_readDirectory_106 : decode cX8_readDirectory 106 = .ok (.iload 7, 2) := by decide +kernel
theorem dX8_readDirectory_108 : decode cX8_readDirectory 108 = .ok (.iload 8, 2) := by decide +kernel
theorem dX8_readDirectory_110 : decode cX8_readDirectory 110 = .ok (.iadd, 1) := by decide +kernel
theorem dX8_readDirectory_111 : decode cX8_readDirectory 111 = .ok (.aload_n 0, 1) := by decide +kernel
theorem dX8_readDirectory_112 : decode cX8_readDirectory 112 = .ok (.getfield 37, 3) := by decide +kernel
theorem dX8_readDirectory_115 : decode cX8_readDirectory 115 = .ok (.iload 8, 2) := by decide +kernel
theorem dX8_readDirectory_117 : decode cX8_readDirectory 117 = .ok (.iaload, 1) := by decide +kernel
theorem dX8_readDirectory_118 : decode cX8_readDirectory 118 = .ok (.iastore, 1) := by decide +kernel
theorem dX8_readDirectory_119 : decode cX8_readDirectory 119 = .ok (.iinc 8 1, 3) := by decide +kernel
theorem dX8_readDirectory_122 : decode cX8_readDirectory 122 = .ok (.goto (-27), 3) := by decide +kernel
theorem dX8_readDirectory_125 : decode cX8_readDirectory 125 = .ok (.iconst 2, 1) := by decide +kernel
theorem dX8_readDirectory_126 : decode cX8_readDirectory 126 = .ok (.istore 8, 2) := by decide +kernel
theorem dX8_readDirectory_128 : decode cX8_readDirectory 128 = .ok (.iload 8, 2) := by decide +kernel
theorem dX8_readDirectory_130 : decode cX8_readDirectory 130 = .ok (.bipush 62, 2) := by decide +kernel
theorem dX8_readDirectory_132 : decode cX8_readDirectory 132 = .ok (.if_icmp .ge 53, 3) := by decide +kernel
theorem dX8_readDirectory_135 : decode cX8_readDirectory 135 = .ok (.iload_n 1, 1) := by decide +kernel
theorem dX8_readDirectory_136 : decode cX8_readDirectory 136 = .ok (.ifCond .eq 49, 3) := by decide +kernel
theorem dX8_readDirectory_139 : decode cX8_readDirectory 139 = .ok (.aload_n 0, 1) := by decide +kernel
theorem dX8_readDirectory_140 : decode cX8_readDirectory 140 = .ok (.getfield 159, 3) := by decide +kernel
theorem dX8_readDirectory_143 : decode cX8_readDirectory 143 = .ok (.ifCond .ge 42, 3) := by decide +kernel
theorem dX8_readDirectory_146 : decode cX8_readDirectory 146 = .ok (.aload_n 0, 1) := by decide +kernel
theorem dX8_readDirectory_147 : decode cX8_readDirectory 147 = .ok (.iload 7, 2) := by decide +kernel
theorem dX8_readDirectory_149 : decode cX8_readDirectory 149 = .ok (.iload 8, 2) := by decide +kernel
theorem dX8_readDirectory_151 : decode cX8_readDirectory 151 = .ok (.iadd, 1) := by decide +kernel
theorem dX8_readDirectory_152 : decode cX8_readDirectory 152 = .ok (.iload_n 2, 1) := by decide +kernel
theorem dX8_readDirectory_153 : decode cX8_readDirectory 153 = .ok (.iload_n 3, 1) := by decide +kernel
theorem dX8_readDirectory_154 : decode cX8_readDirectory 154 = .ok (.invokevirtual 162, 3) := by decide +kernel
theorem dX8_readDirectory_157 : decode cX8_readDirectory 157 = .ok (.ifCond .eq 22, 3) := by decide +kernel
theorem dX8_readDirectory_160 : decode cX8_readDirectory 160 = .ok (.aload_n 0, 1) := by decide +kernel
theorem dX8_readDirectory_161 : decode cX8_readDirectory 161 = .ok (.aload_n 0, 1) := by decide +kernel
theorem dX8_readDirectory_162 : decode cX8_readDirectory 162 = .ok (.getfield 156, 3) := by decide +kernel
theorem dX8_readDirectory_165 : decode cX8_readDirectory 165 = .ok (.iconst 1, 1) := by decide +kernel
theorem dX8_readDirectory_166 : decode cX8_readDirectory 166 = .ok (.isub, 1) := by decide +kernel
theorem dX8_readDirectory_167 : decode cX8_readDirectory 167 = .ok (.putfield 159, 3) := by decide +kernel
theorem dX8_readDirectory_170 : decode cX8_readDirectory 170 = .ok (.aload_n 0, 1) := by decide +kernel
theorem dX8_readDirectory_171 : decode cX8_readDirectory 171 = .ok (.iload 7, 2) := by decide +kernel
theorem dX8_readDirectory_173 : decode cX8_readDirectory 173 = .ok (.iload 8, 2) := by decide +kernel
theorem dX8_readDirectory_175 : decode cX8_readDirectory 175 = .ok (.iadd, 1) := by decide +kernel
theorem dX8_readDirectory_176 : decode cX8_readDirectory 176 = .ok (.putfield 165, 3) := by decide +kernel
theorem dX8_readDirectory_179 : decode cX8_readDirectory 179 = .ok (.iinc 8 12, 3) := by decide +kernel
theorem dX8_readDirectory_182 : decode cX8_readDirectory 182 = .ok (.goto (-54), 3) := by decide +kernel
theorem dX8_readDirectory_185 : decode cX8_readDirectory 185 = .ok (.aload_n 0, 1) := by decide +kernel
theorem dX8_readDirectory_186 : decode cX8_readDirectory 186 = .ok (.getfield 159, 3) := by decide +kernel
theorem dX8_readDirectory_189 : decode cX8_readDirectory 189 = .ok (.ifCond .ge 21, 3) := by decide +kernel
theorem dX8_readDirectory_192 : decode cX8_readDirectory 192 = .ok (.aload_n 0, 1) := by decide +kernel
theorem dX8_readDirectory_193 : decode cX8_readDirectory 193 = .ok (.getfield 37, 3) := by decide +kernel
theorem dX8_readDirectory_196 : decode cX8_readDirectory 196 = .ok (.iconst 0, 1) := by decide +kernel
theorem dX8_readDirectory_197 : decode cX8_readDirectory 197 = .ok (.iaload, 1) := by decide +kernel
theorem dX8_readDirectory_198 : decode cX8_readDirectory 198 = .ok (.ifCond .ne 14, 3) := by decide +kernel
theorem dX8_readDirectory_201 : decode cX8_readDirectory 201 = .ok (.aload_n 0, 1) := by decide +kernel
theorem dX8_readDirectory_202 : decode cX8_readDirectory 202 = .ok (.getfield 37, 3) := by decide +kernel
theorem dX8_readDirectory_205 : decode cX8_readDirectory 205 = .ok (.iconst 1, 1) := by decide +kernel
theorem dX8_readDirectory_206 : decode cX8_readDirectory 206 = .ok (.iaload, 1) := by decide +kernel
theorem dX8_readDirectory_207 : decode cX8_readDirectory 207 = .ok (.ifCond .ne 5, 3) := by decide +kernel
theorem dX8_readDirectory_210 : decode cX8_readDirectory 210 = .ok (.iconst 1, 1) := by decide +kernel
theorem dX8_readDirectory_211 : decode cX8_readDirectory 211 = .ok (.ireturn, 1) := by decide +kernel
theorem dX8_readDirectory_212 : decode cX8_readDirectory 212 = .ok (.aload_n 0, 1) := by decide +kernel
theorem dX8_readDirectory_213 : decode cX8_readDirectory 213 = .ok (.getfield 37, 3) := by decide +kernel
theorem dX8_readDirectory_216 : decode cX8_readDirectory 216 = .ok (.iconst 0, 1) := by decide +kernel
theorem dX8_readDirectory_217 : decode cX8_readDirectory 217 = .ok (.iaload, 1) := by decide +kernel
theorem dX8_readDirectory_218 : decode cX8_readDirectory 218 = .ok (.aload_n 0, 1) := by decide +kernel
theorem dX8_readDirectory_219 : decode cX8_readDirectory 219 = .ok (.getfield 37, 3) := by decide +kernel
theorem dX8_readDirectory_222 : decode cX8_readDirectory 222 = .ok (.iconst 1, 1) := by decide +kernel
theorem dX8_readDirectory_223 : decode cX8_readDirectory 223 = .ok (.iaload, 1) := by decide +kernel
theorem dX8_readDirectory_224 : decode cX8_readDirectory 224 = .ok (.invokestatic 168, 3) := by decide +kernel
theorem dX8_readDirectory_227 : decode cX8_readDirectory 227 = .ok (.ifCond .eq 12, 3) := by decide +kernel
theorem dX8_readDirectory_230 : decode cX8_readDirectory 230 = .ok (.aload_n 0, 1) := by decide +kernel
theorem dX8_readDirectory_231 : decode cX8_readDirectory 231 = .ok (.getfield 156, 3) := by decide +kernel
theorem dX8_readDirectory_234 : decode cX8_readDirectory 234 = .ok (.bipush 7, 2) := by decide +kernel
theorem dX8_readDirectory_236 : decode cX8_readDirectory 236 = .ok (.if_icmp .ne 22, 3) := by decide +kernel
theorem dX8_readDirectory_239 : decode cX8_readDirectory 239 = .ok (.aload_n 0, 1) := by decide +kernel
theorem dX8_readDirectory_240 : decode cX8_readDirectory 240 = .ok (.bipush 66, 2) := by decide +kernel
theorem dX8_readDirectory_242 : decode cX8_readDirectory 242 = .ok (.iload 4, 2) := by decide +kernel
theorem dX8_readDirectory_244 : decode cX8_readDirectory 244 = .ok (.iload 5, 2) := by decide +kernel
theorem dX8_readDirectory_246 : decode cX8_readDirectory 246 = .ok (.invokevirtual 143, 3) := by decide +kernel
theorem dX8_readDirectory_249 : decode cX8_readDirectory 249 = .ok (.ifCond .ne 7, 3) := by decide +kernel
theorem dX8_readDirectory_252 : decode cX8_readDirectory 252 = .ok (.iconst 1, 1) := by decide +kernel
theorem dX8_readDirectory_253 : decode cX8_readDirectory 253 = .ok (.goto 4, 3) := by decide +kernel
theorem dX8_readDirectory_256 : decode cX8_readDirectory 256 = .ok (.iconst 0, 1) := by decide +kernel
theorem dX8_readDirectory_257 : decode cX8_readDirectory 257 = .ok (.ireturn, 1) := by decide +kernel
theorem dX8_readDirectory_258 : decode cX8_readDirectory 258 = .ok (.aload_n 0, 1) := by decide +kernel
theorem dX8_readDirectory_259 : decode cX8_readDirectory 259 = .ok (.getfield 37, 3) := by decide +kernel
theorem dX8_readDirectory_262 : decode cX8_readDirectory 262 = .ok (.iconst 0, 1) := by decide +kernel
theorem dX8_readDirectory_263 : decode cX8_readDirectory 263 = .ok (.iaload, 1) := by decide +kernel
theorem dX8_readDirectory_264 : decode cX8_readDirectory 264 = .ok (.istore 4, 2) := by decide +kernel
theorem dX8_readDirectory_266 : decode cX8_readDirectory 266 = .ok (.aload_n 0, 1) := by decide +kernel
theorem dX8_readDirectory_267 : decode cX8_readDirectory 267 = .ok (.getfield 37, 3) := by decide +kernel
theorem dX8_readDirectory_270 : decode cX8_readDirectory 270 = .ok (.iconst 1, 1) := by decide +kernel
theorem dX8_readDirectory_271 : decode cX8_readDirectory 271 = .ok (.iaload, 1) := by decide +kernel
theorem dX8_readDirectory_272 : decode cX8_readDirectory 272 = .ok (.istore 5, 2) := by decide +kernel
theorem dX8_readDirectory_274 : decode cX8_readDirectory 274 = .ok (.goto (-257), 3) := by decide +kernel
theorem dX8_writeDirectory_0 : decode cX8_writeDirectory 0 = .ok (.iconst 0, 1) := by decide +kernel
theorem dX8_writeDirectory_1 : decode cX8_writeDirectory 1 = .ok (.istore_n 2, 1) := by decide +kernel
theorem dX8_writeDirectory_2 : decode cX8_writeDirectory 2 = .ok (.iload_n 2, 1) := by decide +kernel
theorem dX8_writeDirectory_3 : decode cX8_writeDirectory 3 = .ok (.bipush 64, 2) := by decide +kernel
theorem dX8_writeDirectory_5 : decode cX8_writeDirectory 5 = .ok (.if_icmp .ge 26, 3) := by decide +kernel
theorem dX8_writeDirectory_8 : decode cX8_writeDirectory 8 = .ok (.aload_n 0, 1) := by decide +kernel
theorem dX8_writeDirectory_9 : decode cX8_writeDirectory 9 = .ok (.getfield 37, 3) := by decide +kernel
theorem dX8_writeDirectory_12 : decode cX8_writeDirectory 12 = .ok (.iload_n 2, 1) := by decide +kernel
theorem dX8_writeDirectory_13 : decode cX8_writeDirectory 13 = .ok (.aload_n 0, 1) := by decide +kernel
theorem dX8_writeDirectory_14 : decode cX8_writeDirectory 14 = .ok (.getfield 43, 3) := by decide +kernel
theorem dX8_writeDirectory_17 : decode cX8_writeDirectory 17 = .ok (.bipush 64, 2) := by decide +kernel
theorem dX8_writeDirectory_19 : decode cX8_writeDirectory 19 = .ok (.iload_n 1, 1) := by decide +kernel
theorem dX8_writeDirectory_20 : decode cX8_writeDirectory 20 = .ok (.imul, 1) := by decide +kernel
theorem dX8_writeDirectory_21 : decode cX8_writeDirectory 21 = .ok (.iload_n 2, 1) := by decide +kernel
theorem dX8_writeDirectory_22 : decode cX8_writeDirectory 22 = .ok (.iadd, 1) := by decide +kernel
theorem dX8_writeDirectory_23 : decode cX8_writeDirectory 23 = .ok (.iaload, 1) := by decide +kernel
theorem dX8_writeDirectory_24 : decode cX8_writeDirectory 24 = .ok (.iastore, 1) := by decide +kernel
end
section
theorem dX8_writeDirectory_25 : decode cX8_writeDirectory 25 = .ok (.iinc 2 1, 3) := by decide +kernel
theorem dX8_writeDirectory_28 : decode cX8_writeDirectory 28 = .ok (.goto (-26), 3) := by decide +kernel
theorem dX8_writeDirectory_31 : decode cX8_writeDirectory 31 = .ok (.aload_n 0, 1) := by decide +kernel
theorem dX8_writeDirectory_32 : decode cX8_writeDirectory 32 = .ok (.aload_n 0, 1) := by decide +kernel
theorem dX8_writeDirectory_33 : decode cX8_writeDirectory 33 = .ok (.getfield 46, 3) := by decide +kernel
theorem dX8_writeDirectory_36 : decode cX8_writeDirectory 36 = .ok (.iload_n 1, 1) := by decide +kernel
theorem dX8_writeDirectory_37 : decode cX8_writeDirectory 37 = .ok (.iaload, 1) := by decide +kernel
theorem dX8_writeDirectory_38 : decode cX8_writeDirectory 38 = .ok (.aload_n 0, 1) := by decide +kernel
theorem dX8_writeDirectory_39 : decode cX8_writeDirectory 39 = .ok (.getfield 49, 3) := by decide +kernel
theorem dX8_writeDirectory_42 : decode cX8_writeDirectory 42 = .ok (.iload_n 1, 1) := by decide +kernel
theorem dX8_writeDirectory_43 : decode cX8_writeDirectory 43 = .ok (.iaload, 1) := by decide +kernel
theorem dX8_writeDirectory_44 : decode cX8_writeDirectory 44 = .ok (.invokevirtual 150, 3) := by decide +kernel
theorem dX8_writeDirectory_47 : decode cX8_writeDirectory 47 = .ok (.istore_n 2, 1) := by decide +kernel
theorem dX8_writeDirectory_48 : decode cX8_writeDirectory 48 = .ok (.iload_n 2, 1) := by decide +kernel
theorem dX8_writeDirectory_49 : decode cX8_writeDirectory 49 = .ok (.ifCond .eq 23, 3) := by decide +kernel
theorem dX8_writeDirectory_52 : decode cX8_writeDirectory 52 = .ok (.aload_n 0, 1) := by decide +kernel
theorem dX8_writeDirectory_53 : decode cX8_writeDirectory 53 = .ok (.iload_n 2, 1) := by decide +kernel
theorem dX8_writeDirectory_54 : decode cX8_writeDirectory 54 = .ok (.aload_n 0, 1) := by decide +kernel
theorem dX8_writeDirectory_55 : decode cX8_writeDirectory 55 = .ok (.getfield 46, 3) := by decide +kernel
theorem dX8_writeDirectory_58 : decode cX8_writeDirectory 58 = .ok (.iload_n 1, 1) := by decide +kernel
theorem dX8_writeDirectory_59 : decode cX8_writeDirectory 59 = .ok (.iaload, 1) := by decide +kernel
theorem dX8_writeDirectory_60 : decode cX8_writeDirectory 60 = .ok (.aload_n 0, 1) := by decide +kernel
theorem dX8_writeDirectory_61 : decode cX8_writeDirectory 61 = .ok (.getfield 49, 3) := by decide +kernel
theorem dX8_writeDirectory_64 : decode cX8_writeDirectory 64 = .ok (.iload_n 1, 1) := by decide +kernel
theorem dX8_writeDirectory_65 : decode cX8_writeDirectory 65 = .ok (.iaload, 1) := by decide +kernel
theorem dX8_writeDirectory_66 : decode cX8_writeDirectory 66 = .ok (.invokevirtual 143, 3) := by decide +kernel
theorem dX8_writeDirectory_69 : decode cX8_writeDirectory 69 = .ok (.ifCond .ne 7, 3) := by decide +kernel
theorem dX8_writeDirectory_72 : decode cX8_writeDirectory 72 = .ok (.iconst 1, 1) := by decide +kernel
theorem dX8_writeDirectory_73 : decode cX8_writeDirectory 73 = .ok (.goto 4, 3) := by decide +kernel
theorem dX8_writeDirectory_76 : decode cX8_writeDirectory 76 = .ok (.iconst 0, 1) := by decide +kernel
theorem dX8_writeDirectory_77 : decode cX8_writeDirectory 77 = .ok (.ireturn, 1) := by decide +kernel
theorem dX8_feed_0 : decode cX8_feed 0 = .ok (.aload_n 0, 1) := by decide +kernel
theorem dX8_feed_1 : decode cX8_feed 1 = .ok (.getfield 172, 3) := by decide +kernel
theorem dX8_feed_4 : decode cX8_feed 4 = .ok (.bipush 20, 2) := by decide +kernel
theorem dX8_feed_6 : decode cX8_feed 6 = .ok (.iadd, 1) := by decide +kernel
theorem dX8_feed_7 : decode cX8_feed 7 = .ok (.sipush 2480, 3) := by decide +kernel
theorem dX8_feed_10 : decode cX8_feed 10 = .ok (.if_icmp .le 5, 3) := by decide +kernel
theorem dX8_feed_13 : decode cX8_feed 13 = .ok (.iconst (-1), 1) := by decide +kernel
theorem dX8_feed_14 : decode cX8_feed 14 = .ok (.ireturn, 1) := by decide +kernel
theorem dX8_feed_15 : decode cX8_feed 15 = .ok (.iconst 0, 1) := by decide +kernel
theorem dX8_feed_16 : decode cX8_feed 16 = .ok (.istore 6, 2) := by decide +kernel
theorem dX8_feed_18 : decode cX8_feed 18 = .ok (.iload 6, 2) := by decide +kernel
theorem dX8_feed_20 : decode cX8_feed 20 = .ok (.bipush 20, 2) := by decide +kernel
theorem dX8_feed_22 : decode cX8_feed 22 = .ok (.if_icmp .ge 93, 3) := by decide +kernel
theorem dX8_feed_25 : decode cX8_feed 25 = .ok (.iload 6, 2) := by decide +kernel
theorem dX8_feed_27 : decode cX8_feed 27 = .ok (.iconst 4, 1) := by decide +kernel
theorem dX8_feed_28 : decode cX8_feed 28 = .ok (.if_icmp .ge 7, 3) := by decide +kernel
theorem dX8_feed_31 : decode cX8_feed 31 = .ok (.iload_n 1, 1) := by decide +kernel
theorem dX8_feed_32 : decode cX8_feed 32 = .ok (.goto 39, 3) := by decide +kernel
theorem dX8_feed_35 : decode cX8_feed 35 = .ok (.iload 6, 2) := by decide +kernel
theorem dX8_feed_37 : decode cX8_feed 37 = .ok (.bipush 8, 2) := by decide +kernel
theorem dX8_feed_39 : decode cX8_feed 39 = .ok (.if_icmp .ge 7, 3) := by decide +kernel
theorem dX8_feed_42 : decode cX8_feed 42 = .ok (.iload_n 2, 1) := by decide +kernel
theorem dX8_feed_43 : decode cX8_feed 43 = .ok (.goto 28, 3) := by decide +kernel
theorem dX8_feed_46 : decode cX8_feed 46 = .ok (.iload 6, 2) := by decide +kernel
theorem dX8_feed_48 : decode cX8_feed 48 = .ok (.bipush 12, 2) := by decide +kernel
theorem dX8_feed_50 : decode cX8_feed 50 = .ok (.if_icmp .ge 7, 3) := by decide +kernel
theorem dX8_feed_53 : decode cX8_feed 53 = .ok (.iload_n 3, 1) := by decide +kernel
theorem dX8_feed_54 : decode cX8_feed 54 = .ok (.goto 17, 3) := by decide +kernel
theorem dX8_feed_57 : decode cX8_feed 57 = .ok (.iload 6, 2) := by decide +kernel
theorem dX8_feed_59 : decode cX8_feed 59 = .ok (.bipush 16, 2) := by decide +kernel
theorem dX8_feed_61 : decode cX8_feed 61 = .ok (.if_icmp .ge 8, 3) := by decide +kernel
theorem dX8_feed_64 : decode cX8_feed 64 = .ok (.iload 4, 2) := by decide +kernel
theorem dX8_feed_66 : decode cX8_feed 66 = .ok (.goto 5, 3) := by decide +kernel
theorem dX8_feed_69 : decode cX8_feed 69 = .ok (.iload 5, 2) := by decide +kernel
theorem dX8_feed_71 : decode cX8_feed 71 = .ok (.istore 7, 2) := by decide +kernel
theorem dX8_feed_73 : decode cX8_feed 73 = .ok (.aload_n 0, 1) := by decide +kernel
theorem dX8_feed_74 : decode cX8_feed 74 = .ok (.getfield 28, 3) := by decide +kernel
theorem dX8_feed_77 : decode cX8_feed 77 = .ok (.aload_n 0, 1) := by decide +kernel
theorem dX8_feed_78 : decode cX8_feed 78 = .ok (.getfield 172, 3) := by decide +kernel
theorem dX8_feed_81 : decode cX8_feed 81 = .ok (.iload 7, 2) := by decide +kernel
theorem dX8_feed_83 : decode cX8_feed 83 = .ok (.bipush 24, 2) := by decide +kernel
theorem dX8_feed_85 : decode cX8_feed 85 = .ok (.bipush 8, 2) := by decide +kernel
theorem dX8_feed_87 : decode cX8_feed 87 = .ok (.iload 6, 2) := by decide +kernel
theorem dX8_feed_89 : decode cX8_feed 89 = .ok (.iconst 4, 1) := by decide +kernel
theorem dX8_feed_90 : decode cX8_feed 90 = .ok (.irem, 1) := by decide +kernel
theorem dX8_feed_91 : decode cX8_feed 91 = .ok (.imul, 1) := by decide +kernel
theorem dX8_feed_92 : decode cX8_feed 92 = .ok (.isub, 1) := by decide +kernel
theorem dX8_feed_93 : decode cX8_feed 93 = .ok (.ishr, 1) := by decide +kernel
theorem dX8_feed_94 : decode cX8_feed 94 = .ok (.sipush 255, 3) := by decide +kernel
theorem dX8_feed_97 : decode cX8_feed 97 = .ok (.iand, 1) := by decide +kernel
theorem dX8_feed_98 : decode cX8_feed 98 = .ok (.iastore, 1) := by decide +kernel
theorem dX8_feed_99 : decode cX8_feed 99 = .ok (.aload_n 0, 1) := by decide +kernel
theorem dX8_feed_100 : decode cX8_feed 100 = .ok (.dup, 1) := by decide +kernel
theorem dX8_feed_101 : decode cX8_feed 101 = .ok (.getfield 172, 3) := by decide +kernel
theorem dX8_feed_104 : decode cX8_feed 104 = .ok (.iconst 1, 1) := by decide +kernel
theorem dX8_feed_105 : decode cX8_feed 105 = .ok (.iadd, 1) := by decide +kernel
theorem dX8_feed_106 : decode cX8_feed 106 = .ok (.putfield 172, 3) := by decide +kernel
theorem dX8_feed_109 : decode cX8_feed 109 = .ok (.iinc 6 1, 3) := by decide +kernel
theorem dX8_feed_112 : decode cX8_feed 112 = .ok (.goto (-94), 3) := by decide +kernel
theorem dX8_feed_115 : decode cX8_feed 115 = .ok (.aload_n 0, 1) := by decide +kernel
theorem dX8_feed_116 : decode cX8_feed 116 = .ok (.getfield 172, 3) := by decide +kernel
theorem dX8_feed_119 : decode cX8_feed 119 = .ok (.ireturn, 1) := by decide +kernel
theorem dX8_end_0 : decode cX8_end 0 = .ok (.iload_n 1, 1) := by decide +kernel
theorem dX8_end_1 : decode cX8_end 1 = .ok (.iconst 0, 1) := by decide +kernel
theorem dX8_end_2 : decode cX8_end 2 = .ok (.aload_n 0, 1) := by decide +kernel
theorem dX8_end_3 : decode cX8_end 3 = .ok (.getfield 172, 3) := by decide +kernel
theorem dX8_end_6 : decode cX8_end 6 = .ok (.invokestatic 69, 3) := by decide +kernel
theorem dX8_end_9 : decode cX8_end 9 = .ok (.ifCond .ne 5, 3) := by decide +kernel
theorem dX8_end_12 : decode cX8_end 12 = .ok (.iconst (-1), 1) := by decide +kernel
theorem dX8_end_13 : decode cX8_end 13 = .ok (.ireturn, 1) := by decide +kernel
theorem dX8_end_14 : decode cX8_end 14 = .ok (.aload_n 0, 1) := by decide +kernel
theorem dX8_end_15 : decode cX8_end 15 = .ok (.iload_n 1, 1) := by decide +kernel
theorem dX8_end_16 : decode cX8_end 16 = .ok (.putfield 172, 3) := by decide +kernel
theorem dX8_end_19 : decode cX8_end 19 = .ok (.iload_n 1, 1) := by decide +kernel
theorem dX8_end_20 : decode cX8_end 20 = .ok (.ireturn, 1) := by decide +kernel
theorem dX8_format_0 : decode cX8_format 0 = .ok (.aload_n 0, 1) := by decide +kernel
theorem dX8_format_1 : decode cX8_format 1 = .ok (.iload_n 1, 1) := by decide +kernel
theorem dX8_format_2 : decode cX8_format 2 = .ok (.ldc 175, 2) := by decide +kernel
theorem dX8_format_4 : decode cX8_format 4 = .ok (.iand, 1) := by decide +kernel
theorem dX8_format_5 : decode cX8_format 5 = .ok (.putfield 24, 3) := by decide +kernel
theorem dX8_format_8 : decode cX8_format 8 = .ok (.iconst 0, 1) := by decide +kernel
theorem dX8_format_9 : decode cX8_format 9 = .ok (.istore 4, 2) := by decide +kernel
theorem dX8_format_11 : decode cX8_format 11 = .ok (.iload 4, 2) := by decide +kernel
theorem dX8_format_13 : decode cX8_format 13 = .ok (.bipush 64, 2) := by decide +kernel
theorem dX8_format_15 : decode cX8_format 15 = .ok (.if_icmp .ge 17, 3) := by decide +kernel
theorem dX8_format_18 : decode cX8_format 18 = .ok (.aload_n 0, 1) := by decide +kernel
theorem dX8_format_19 : decode cX8_format 19 = .ok (.getfield 40, 3) := by decide +kernel
theorem dX8_format_22 : decode cX8_format 22 = .ok (.iload 4, 2) := by decide +kernel
theorem dX8_format_24 : decode cX8_format 24 = .ok (.iconst 0, 1) := by decide +kernel
theorem dX8_format_25 : decode cX8_format 25 = .ok (.iastore, 1) := by decide +kernel
theorem dX8_format_26 : decode cX8_format 26 = .ok (.iinc 4 1, 3) := by decide +kernel
theorem dX8_format_29 : decode cX8_format 29 = .ok (.goto (-18), 3) := by decide +kernel
theorem dX8_format_32 : decode cX8_format 32 = .ok (.aload_n 0, 1) := by decide +kernel
theorem dX8_format_33 : decode cX8_format 33 = .ok (.getfield 40, 3) := by decide +kernel
theorem dX8_format_36 : decode cX8_format 36 = .ok (.iconst 0, 1) := by decide +kernel
theorem dX8_format_37 : decode cX8_format 37 = .ok (.bipush 9, 2) := by decide +kernel
theorem dX8_format_39 : decode cX8_format 39 = .ok (.iastore, 1) := by decide +kernel
theorem dX8_format_40 : decode cX8_format 40 = .ok (.aload_n 0, 1) := by decide +kernel
theorem dX8_format_41 : decode cX8_format 41 = .ok (.getfield 40, 3) := by decide +kernel
theorem dX8_format_44 : decode cX8_format 44 = .ok (.iconst 1, 1) := by decide +kernel
theorem dX8_format_45 : decode cX8_format 45 = .ok (.iconst 1, 1) := by decide +kernel
theorem dX8_format_46 : decode cX8_format 46 = .ok (.iastore, 1) := by decide +kernel
theorem dX8_format_47 : decode cX8_format 47 = .ok (.iconst 1, 1) := by decide +kernel
theorem dX8_format_48 : decode cX8_format 48 = .ok (.istore 4, 2) := by decide +kernel
theorem dX8_format_50 : decode cX8_format 50 = .ok (.iload 4, 2) := by decide +kernel
theorem dX8_format_52 : decode cX8_format 52 = .ok (.bipush 16, 2) := by decide +kernel
theorem dX8_format_54 : decode cX8_format 54 = .ok (.if_icmp .gt 54, 3) := by decide +kernel
theorem dX8_format_57 : decode cX8_format 57 = .ok (.iconst 0, 1) := by decide +kernel
theorem dX8_format_58 : decode cX8_format 58 = .ok (.istore 5, 2) := by decide +kernel
theorem dX8_format_60 : decode cX8_format 60 = .ok (.iload 5, 2) := by decide +kernel
theorem dX8_format_62 : decode cX8_format 62 = .ok (.iload 4, 2) := by decide +kernel
theorem dX8_format_64 : decode cX8_format 64 = .ok (.invokestatic 77, 3) := by decide +kernel
theorem dX8_format_67 : decode cX8_format 67 = .ok (.if_icmp .ge 35, 3) := by decide +kernel
theorem dX8_format_70 : decode cX8_format 70 = .ok (.aload_n 0, 1) := by decide +kernel
theorem dX8_format_71 : decode cX8_format 71 = .ok (.iload 4, 2) := by decide +kernel
theorem dX8_format_73 : decode cX8_format 73 = .ok (.iload 5, 2) := by decide +kernel
theorem dX8_format_75 : decode cX8_format 75 = .ok (.iload 4, 2) := by decide +kernel
theorem dX8_format_77 : decode cX8_format 77 = .ok (.bipush 9, 2) := by decide +kernel
theorem dX8_format_79 : decode cX8_format 79 = .ok (.if_icmp .ne 9, 3) := by decide +kernel
theorem dX8_format_82 : decode cX8_format 82 = .ok (.iload 5, 2) := by decide +kernel
theorem dX8_format_84 : decode cX8_format 84 = .ok (.iconst 1, 1) := by decide +kernel
theorem dX8_format_85 : decode cX8_format 85 = .ok (.if_icmp .le 7, 3) := by decide +kernel
theorem dX8_format_88 : decode cX8_format 88 = .ok (.iconst 1, 1) := by decide +kernel
theorem dX8_format_89 : decode cX8_format 89 = .ok (.goto 4, 3) := by decide +kernel
theorem dX8_format_92 : decode cX8_format 92 = .ok (.iconst 0, 1) := by decide +kernel
theorem dX8_format_93 : decode cX8_format 93 = .ok (.invokevirtual 176, 3) := by decide +kernel
theorem dX8_format_96 : decode cX8_format 96 = .ok (.iinc 5 1, 3) := by decide +kernel
theorem dX8_format_99 : decode cX8_format 99 = .ok (.goto (-39), 3) := by decide +kernel
theorem dX8_format_102 : decode cX8_format 102 = .ok (.iinc 4 1, 3) := by decide +kernel
theorem dX8_format_105 : decode cX8_format 105 = .ok (.goto (-55), 3) := by decide +kernel
theorem dX8_format_108 : decode cX8_format 108 = .ok (.iconst 0, 1) := by decide +kernel
theorem dX8_format_109 : decode cX8_format 109 = .ok (.istore 4, 2) := by decide +kernel
theorem dX8_format_111 : decode cX8_format 111 = .ok (.iload 4, 2) := by decide +kernel
theorem dX8_format_113 : decode cX8_format 113 = .ok (.bipush 8, 2) := by decide +kernel
theorem dX8_format_115 : decode cX8_format 115 = .ok (.if_icmp .ge 26, 3) := by decide +kernel
theorem dX8_format_118 : decode cX8_format 118 = .ok (.aload_n 0, 1) := by decide +kernel
theorem dX8_format_119 : decode cX8_format 119 = .ok (.getfield 40, 3) := by decide +kernel
theorem dX8_format_122 : decode cX8_format 122 = .ok (.bipush 40, 2) := by decide +kernel
theorem dX8_format_124 : decode cX8_format 124 = .ok (.iload 4, 2) := by decide +kernel
theorem dX8_format_126 : decode cX8_format 126 = .ok (.iadd, 1) := by decide +kernel
theorem dX8_format_127 : decode cX8_format 127 = .ok (.iload_n 2, 1) := by decide +kernel
theorem dX8_format_128 : decode cX8_format 128 = .ok (.iload_n 3, 1) := by decide +kernel
theorem dX8_format_129 : decode cX8_format 129 = .ok (.iload 4, 2) := by decide +kernel
theorem dX8_format_131 : decode cX8_format 131 = .ok (.invokestatic 153, 3) := by decide +kernel
theorem dX8_format_134 : decode cX8_format 134 = .ok (.iastore, 1) := by decide +kernel
theorem dX8_format_135 : decode cX8_format 135 = .ok (.iinc 4 1, 3) := by decide +kernel
theorem dX8_format_138 : decode cX8_format 138 = .ok (.goto (-27), 3) := by decide +kernel
theorem dX8_format_141 : decode cX8_format 141 = .ok (.aload_n 0, 1) := by decide +kernel
theorem dX8_format_142 : decode cX8_format 142 = .ok (.getfield 40, 3) := by decide +kernel
theorem dX8_format_145 : decode cX8_format 145 = .ok (.bipush 48, 2) := by decide +kernel
theorem dX8_format_147 : decode cX8_format 147 = .ok (.aload_n 0, 1) := by decide +kernel
theorem dX8_format_148 : decode cX8_format 148 = .ok (.getfield 24, 3) := by decide +kernel
theorem dX8_format_151 : decode cX8_format 151 = .ok (.bipush 8, 2) := by decide +kernel
theorem dX8_format_153 : decode cX8_format 153 = .ok (.ishr, 1) := by decide +kernel
theorem dX8_format_154 : decode cX8_format 154 = .ok (.iastore, 1) := by decide +kernel
theorem dX8_format_155 : decode cX8_format 155 = .ok (.aload_n 0, 1) := by decide +kernel
theorem dX8_format_156 : decode cX8_format 156 = .ok (.getfield 40, 3) := by decide +kernel
theorem dX8_format_159 : decode cX8_format 159 = .ok (.bipush 49, 2) := by decide +kernel
theorem dX8_format_161 : decode cX8_format 161 = .ok (.aload_n 0, 1) := by decide +kernel
theorem dX8_format_162 : decode cX8_format 162 = .ok (.getfield 24, 3) := by decide +kernel
theorem dX8_format_165 : decode cX8_format 165 = .ok (.sipush 255, 3) := by decide +kernel
theorem dX8_format_168 : decode cX8_format 168 = .ok (.iand, 1) := by decide +kernel
theorem dX8_format_169 : decode cX8_format 169 = .ok (.iastore, 1) := by decide +kernel
theorem dX8_format_170 : decode cX8_format 170 = .ok (.iconst 1, 1) := by decide +kernel
theorem dX8_format_171 : decode cX8_format 171 = .ok (.istore 4, 2) := by decide +kernel
theorem dX8_format_173 : decode cX8_format 173 = .ok (.iload 4, 2) := by decide +kernel
theorem dX8_format_175 : decode cX8_format 175 = .ok (.bipush 16, 2) := by decide +kernel
theorem dX8_format_177 : decode cX8_format 177 = .ok (.if_icmp .gt 231, 3) := by decide +kernel
theorem dX8_format_180 : decode cX8_format 180 = .ok (.aload_n 0, 1) := by decide +kernel
theorem dX8_format_181 : decode cX8_format 181 = .ok (.iload 4, 2) := by decide +kernel
theorem dX8_format_183 : decode cX8_format 183 = .ok (.putfield 86, 3) := by decide +kernel
theorem dX8_format_186 : decode cX8_format 186 = .ok (.aload_n 0, 1) := by decide +kernel
theorem dX8_format_187 : decode cX8_format 187 = .ok (.iconst 0, 1) := by decide +kernel
theorem dX8_format_188 : decode cX8_format 188 = .ok (.putfield 89, 3) := by decide +kernel
theorem dX8_format_191 : decode cX8_format 191 = .ok (.iconst 0, 1) := by decide +kernel
theorem dX8_format_192 : decode cX8_format 192 = .ok (.istore 5, 2) := by decide +kernel
theorem dX8_format_194 : decode cX8_format 194 = .ok (.iload 5, 2) := by decide +kernel
theorem dX8_format_196 : decode cX8_format 196 = .ok (.iload 4, 2) := by decide +kernel
theorem dX8_format_198 : decode cX8_format 198 = .ok (.invokestatic 77, 3) := by decide +kernel
theorem dX8_format_201 : decode cX8_format 201 = .ok (.if_icmp .ge 178, 3) := by decide +kernel
theorem dX8_format_204 : decode cX8_format 204 = .ok (.aload_n 0, 1) := by decide +kernel
theorem dX8_format_205 : decode cX8_format 205 = .ok (.invokevirtual 96, 3) := by decide +kernel
theorem dX8_format_208 : decode cX8_format 208 = .ok (.aload_n 0, 1) := by decide +kernel
theorem dX8_format_209 : decode cX8_format 209 = .ok (.bipush 8, 2) := by decide +kernel
theorem dX8_format_211 : decode cX8_format 211 = .ok (.invokevirtual 99, 3) := by decide +kernel
theorem dX8_format_214 : decode cX8_format 214 = .ok (.aload_n 0, 1) := by decide +kernel
theorem dX8_format_215 : decode cX8_format 215 = .ok (.iload 5, 2) := by decide +kernel
theorem dX8_format_217 : decode cX8_format 217 = .ok (.iload 4, 2) := by decide +kernel
theorem dX8_format_219 : decode cX8_format 219 = .ok (.ixor, 1) := by decide +kernel
theorem dX8_format_220 : decode cX8_format 220 = .ok (.aload_n 0, 1) := by decide +kernel
theorem dX8_format_221 : decode cX8_format 221 = .ok (.getfield 24, 3) := by decide +kernel
theorem dX8_format_224 : decode cX8_format 224 = .ok (.bipush 8, 2) := by decide +kernel
theorem dX8_format_226 : decode cX8_format 226 = .ok (.ishr, 1) := by decide +kernel
theorem dX8_format_227 : decode cX8_format 227 = .ok (.ixor, 1) := by decide +kernel
theorem dX8_format_228 : decode cX8_format 228 = .ok (.aload_n 0, 1) := by decide +kernel
theorem dX8_format_229 : decode cX8_format 229 = .ok (.getfield 24, 3) := by decide +kernel
theorem dX8_format_232 : decode cX8_format 232 = .ok (.sipush 255, 3) := by decide +kernel
theorem dX8_format_235 : decode cX8_format 235 = .ok (.iand, 1) := by decide +kernel
theorem dX8_format_236 : decode cX8_format 236 = .ok (.ixor, 1) := by decide +kernel
theorem dX8_format_237 : decode cX8_format 237 = .ok (.invokevirtual 99, 3) := by decide +kernel
theorem dX8_format_240 : decode cX8_format 240 = .ok (.aload_n 0, 1) := by decide +kernel
theorem dX8_format_241 : decode cX8_format 241 = .ok (.iload 5, 2) := by decide +kernel
theorem dX8_format_243 : decode cX8_format 243 = .ok (.invokevirtual 99, 3) := by decide +kernel
theorem dX8_format_246 : decode cX8_format 246 = .ok (.aload_n 0, 1) := by decide +kernel
theorem dX8_format_247 : decode cX8_format 247 = .ok (.iload 4, 2) := by decide +kernel
theorem dX8_format_249 : decode cX8_format 249 = .ok (.invokevirtual 99, 3) := by decide +kernel
theorem dX8_format_252 : decode cX8_format 252 = .ok (.aload_n 0, 1) := by decide +kernel
theorem dX8_format_253 : decode cX8_format 253 = .ok (.aload_n 0, 1) := by decide +kernel
theorem dX8_format_254 : decode cX8_format 254 = .ok (.getfield 24, 3) := by decide +kernel
theorem dX8_format_257 : decode cX8_format 257 = .ok (.bipush 8, 2) := by decide +kernel
theorem dX8_format_259 : decode cX8_format 259 = .ok (.ishr, 1) := by decide +kernel
theorem dX8_format_260 : decode cX8_format 260 = .ok (.invokevirtual 99, 3) := by decide +kernel
theorem dX8_format_263 : decode cX8_format 263 = .ok (.aload_n 0, 1) := by decide +kernel
theorem dX8_format_264 : decode cX8_format 264 = .ok (.aload_n 0, 1) := by decide +kernel
theorem dX8_format_265 : decode cX8_format 265 = .ok (.getfield 24, 3) := by decide +kernel
theorem dX8_format_268 : decode cX8_format 268 = .ok (.sipush 255, 3) := by decide +kernel
theorem dX8_format_271 : decode cX8_format 271 = .ok (.iand, 1) := by decide +kernel
theorem dX8_format_272 : decode cX8_format 272 = .ok (.invokevirtual 99, 3) := by decide +kernel
theorem dX8_format_275 : decode cX8_format 275 = .ok (.iconst 0, 1) := by decide +kernel
theorem dX8_format_276 : decode cX8_format 276 = .ok (.istore 6, 2) := by decide +kernel
theorem dX8_format_278 : decode cX8_format 278 = .ok (.iload 6, 2) := by decide +kernel
theorem dX8_format_280 : decode cX8_format 280 = .ok (.bipush 6, 2) := by decide +kernel
theorem dX8_format_282 : decode cX8_format 282 = .ok (.if_icmp .ge 17, 3) := by decide +kernel
theorem dX8_format_285 : decode cX8_format 285 = .ok (.aload_n 0, 1) := by decide +kernel
theorem dX8_format_286 : decode cX8_format 286 = .ok (.bipush 85, 2) := by decide +kernel
theorem dX8_format_288 : decode cX8_format 288 = .ok (.bipush 8, 2) := by decide +kernel
theorem dX8_format_290 : decode cX8_format 290 = .ok (.invokevirtual 92, 3) := by decide +kernel
theorem dX8_format_293 : decode cX8_format 293 = .ok (.iinc 6 1, 3) := by decide +kernel
theorem dX8_format_296 : decode cX8_format 296 = .ok (.goto (-18), 3) := by decide +kernel
theorem dX8_format_299 : decode cX8_format 299 = .ok (.iconst 0, 1) := by decide +kernel
theorem dX8_format_300 : decode cX8_format 300 = .ok (.istore 6, 2) := by decide +kernel
theorem dX8_format_302 : decode cX8_format 302 = .ok (.iload 6, 2) := by decide +kernel
theorem dX8_format_304 : decode cX8_format 304 = .ok (.bipush 64, 2) := by decide +kernel
theorem dX8_format_306 : decode cX8_format 306 = .ok (.if_icmp .ge 39, 3) := by decide +kernel
theorem dX8_format_309 : decode cX8_format 309 = .ok (.aload_n 0, 1) := by decide +kernel
theorem dX8_format_310 : decode cX8_format 310 = .ok (.getfield 37, 3) := by decide +kernel
theorem dX8_format_313 : decode cX8_format 313 = .ok (.iload 6, 2) := by decide +kernel
theorem dX8_format_315 : decode cX8_format 315 = .ok (.iload 4, 2) := by decide +kernel
theorem dX8_format_317 : decode cX8_format 317 = .ok (.bipush 9, 2) := by decide +kernel
theorem dX8_format_319 : decode cX8_format 319 = .ok (.if_icmp .ne 18, 3) := by decide +kernel
theorem dX8_format_322 : decode cX8_format 322 = .ok (.iload 5, 2) := by decide +kernel
theorem dX8_format_324 : decode cX8_format 324 = .ok (.ifCond .ne 13, 3) := by decide +kernel
theorem dX8_format_327 : decode cX8_format 327 = .ok (.aload_n 0, 1) := by decide +kernel
theorem dX8_format_328 : decode cX8_format 328 = .ok (.getfield 40, 3) := by decide +kernel
theorem dX8_format_331 : decode cX8_format 331 = .ok (.iload 6, 2) := by decide +kernel
theorem dX8_format_333 : decode cX8_format 333 = .ok (.iaload, 1) := by decide +kernel
theorem dX8_format_334 : decode cX8_format 334 = .ok (.goto 4, 3) := by decide +kernel
theorem dX8_format_337 : decode cX8_format 337 = .ok (.iconst 0, 1) := by decide +kernel
theorem dX8_format_338 : decode cX8_format 338 = .ok (.iastore, 1) := by decide +kernel
theorem dX8_format_339 : decode cX8_format 339 = .ok (.iinc 6 1, 3) := by decide +kernel
theorem dX8_format_342 : decode cX8_format 342 = .ok (.goto (-40), 3) := by decide +kernel
theorem dX8_format_345 : decode cX8_format 345 = .ok (.aload_n 0, 1) := by decide +kernel
theorem dX8_format_346 : decode cX8_format 346 = .ok (.invokevirtual 128, 3) := by decide +kernel
theorem dX8_format_349 : decode cX8_format 349 = .ok (.iconst 0, 1) := by decide +kernel
theorem dX8_format_350 : decode cX8_format 350 = .ok (.istore 6, 2) := by decide +kernel
theorem dX8_format_352 : decode cX8_format 352 = .ok (.iload 6, 2) := by decide +kernel
theorem dX8_format_354 : decode cX8_format 354 = .ok (.bipush 8, 2) := by decide +kernel
theorem dX8_format_356 : decode cX8_format 356 = .ok (.if_icmp .ge 17, 3) := by decide +kernel
theorem dX8_format_359 : decode cX8_format 359 = .ok (.aload_n 0, 1) := by decide +kernel
theorem dX8_format_360 : decode cX8_format 360 = .ok (.bipush 85, 2) := by decide +kernel
theorem dX8_format_362 : decode cX8_format 362 = .ok (.bipush 8, 2) := by decide +kernel
theorem dX8_format_364 : decode cX8_format 364 = .ok (.invokevirtual 92, 3) := by decide +kernel
theorem dX8_format_367 : decode cX8_format 367 = .ok (.iinc 6 1, 3) := by decide +kernel
theorem dX8_format_370 : decode cX8_format 370 = .ok (.goto (-18), 3) := by decide +kernel
theorem dX8_format_373 : decode cX8_format 373 = .ok (.iinc 5 1, 3) := by decide +kernel
theorem dX8_format_376 : decode cX8_format 376 = .ok (.goto (-182), 3) := by decide +kernel
theorem dX8_format_379 : decode cX8_format 379 = .ok (.aload_n 0, 1) := by decide +kernel
theorem dX8_format_380 : decode cX8_format 380 = .ok (.getfield 89, 3) := by decide +kernel
theorem dX8_format_383 : decode cX8_format 383 = .ok (.iload 4, 2) := by decide +kernel
theorem dX8_format_385 : decode cX8_format 385 = .ok (.invokestatic 66, 3) := by decide +kernel
theorem dX8_format_388 : decode cX8_format 388 = .ok (.if_icmp .ge 14, 3) := by decide +kernel
theorem dX8_format_391 : decode cX8_format 391 = .ok (.aload_n 0, 1) := by decide +kernel
theorem dX8_format_392 : decode cX8_format 392 = .ok (.bipush 85, 2) := by decide +kernel
theorem dX8_format_394 : decode cX8_format 394 = .ok (.bipush 8, 2) := by decide +kernel
theorem dX8_format_396 : decode cX8_format 396 = .ok (.invokevirtual 92, 3) := by decide +kernel
theorem dX8_format_399 : decode cX8_format 399 = .ok (.goto (-20), 3) := by decide +kernel
theorem dX8_format_402 : decode cX8_format 402 = .ok (.iinc 4 1, 3) := by decide +kernel
theorem dX8_format_405 : decode cX8_format 405 = .ok (.goto (-232), 3) := by decide +kernel
theorem dX8_format_408 : decode cX8_format 408 = .ok (.aload_n 0, 1) := by decide +kernel
theorem dX8_format_409 : decode cX8_format 409 = .ok (.iconst 0, 1) := by decide +kernel
theorem dX8_format_410 : decode cX8_format 410 = .ok (.iconst 0, 1) := by decide +kernel
theorem dX8_format_411 : decode cX8_format 411 = .ok (.iconst 0, 1) := by decide +kernel
theorem dX8_format_412 : decode cX8_format 412 = .ok (.invokevirtual 143, 3) := by decide +kernel
theorem dX8_format_415 : decode cX8_format 415 = .ok (.ireturn, 1) := by decide +kernel
theorem dX8_mount_0 : decode cX8_mount 0 = .ok (.aload_n 0, 1) := by decide +kernel
theorem dX8_mount_1 : decode cX8_mount 1 = .ok (.iload_n 1, 1) := by decide +kernel
theorem dX8_mount_2 : decode cX8_mount 2 = .ok (.ldc 175, 2) := by decide +kernel
theorem dX8_mount_4 : decode cX8_mount 4 = .ok (.iand, 1) := by decide +kernel
theorem dX8_mount_5 : decode cX8_mount 5 = .ok (.putfield 24, 3) := by decide +kernel
theorem dX8_mount_8 : decode cX8_mount 8 = .ok (.aload_n 0, 1) := by decide +kernel
theorem dX8_mount_9 : decode cX8_mount 9 = .ok (.iconst 0, 1) := by decide +kernel
theorem dX8_mount_10 : decode cX8_mount 10 = .ok (.iconst 0, 1) := by decide +kernel
theorem dX8_mount_11 : decode cX8_mount 11 = .ok (.iconst 0, 1) := by decide +kernel
theorem dX8_mount_12 : decode cX8_mount 12 = .ok (.invokevirtual 143, 3) := by decide +kernel
theorem dX8_mount_15 : decode cX8_mount 15 = .ok (.ireturn, 1) := by decide +kernel
theorem dX8_takes_0 : decode cX8_takes 0 = .ok (.aload_n 0, 1) := by decide +kernel
theorem dX8_takes_1 : decode cX8_takes 1 = .ok (.iconst 0, 1) := by decide +kernel
theorem dX8_takes_2 : decode cX8_takes 2 = .ok (.putfield 180, 3) := by decide +kernel
theorem dX8_takes_5 : decode cX8_takes 5 = .ok (.iconst 0, 1) := by decide +kernel
theorem dX8_takes_6 : decode cX8_takes 6 = .ok (.istore_n 2, 1) := by decide +kernel
theorem dX8_takes_7 : decode cX8_takes 7 = .ok (.iload_n 2, 1) := by decide +kernel
theorem dX8_takes_8 : decode cX8_takes 8 = .ok (.bipush 16, 2) := by decide +kernel
theorem dX8_takes_10 : decode cX8_takes 10 = .ok (.if_icmp .ge 102, 3) := by decide +kernel
theorem dX8_takes_13 : decode cX8_takes 13 = .ok (.iload_n 2, 1) := by decide +kernel
theorem dX8_takes_14 : decode cX8_takes 14 = .ok (.bipush 8, 2) := by decide +kernel
theorem dX8_takes_16 : decode cX8_takes 16 = .ok (.if_icmp .ge 10, 3) := by decide +kernel
theorem dX8_takes_19 : decode cX8_takes 19 = .ok (.bipush 8, 2) := by decide +kernel
theorem dX8_takes_21 : decode cX8_takes 21 = .ok (.iload_n 2, 1) := by decide +kernel
theorem dX8_takes_22 : decode cX8_takes 22 = .ok (.isub, 1) := by decide +kernel
theorem dX8_takes_23 : decode cX8_takes 23 = .ok (.goto 6, 3) := by decide +kernel
theorem dX8_takes_26 : decode cX8_takes 26 = .ok (.iload_n 2, 1) := by decide +kernel
theorem dX8_takes_27 : decode cX8_takes 27 = .ok (.iconst 1, 1) := by decide +kernel
theorem dX8_takes_28 : decode cX8_takes 28 = .ok (.iadd, 1) := by decide +kernel
theorem dX8_takes_29 : decode cX8_takes 29 = .ok (.istore_n 3, 1) := by decide +kernel
theorem dX8_takes_30 : decode cX8_takes 30 = .ok (.iconst 0, 1) := by decide +kernel
theorem dX8_takes_31 : decode cX8_takes 31 = .ok (.istore 4, 2) := by decide +kernel
theorem dX8_takes_33 : decode cX8_takes 33 = .ok (.iload 4, 2) := by decide +kernel
theorem dX8_takes_35 : decode cX8_takes 35 = .ok (.iload_n 3, 1) := by decide +kernel
theorem dX8_takes_36 : decode cX8_takes 36 = .ok (.invokestatic 77, 3) := by decide +kernel
theorem dX8_takes_39 : decode cX8_takes 39 = .ok (.if_icmp .ge 67, 3) := by decide +kernel
theorem dX8_takes_42 : decode cX8_takes 42 = .ok (.iload_n 3, 1) := by decide +kernel
theorem dX8_takes_43 : decode cX8_takes 43 = .ok (.bipush 9, 2) := by decide +kernel
theorem dX8_takes_45 : decode cX8_takes 45 = .ok (.if_icmp .eq 61, 3) := by decide +kernel
theorem dX8_takes_48 : decode cX8_takes 48 = .ok (.aload_n 0, 1) := by decide +kernel
theorem dX8_takes_49 : decode cX8_takes 49 = .ok (.getfield 180, 3) := by decide +kernel
theorem dX8_takes_52 : decode cX8_takes 52 = .ok (.iload_n 1, 1) := by decide +kernel
theorem dX8_takes_53 : decode cX8_takes 53 = .ok (.if_icmp .ge 53, 3) := by decide +kernel
theorem dX8_takes_56 : decode cX8_takes 56 = .ok (.aload_n 0, 1) := by decide +kernel
theorem dX8_takes_57 : decode cX8_takes 57 = .ok (.iload_n 3, 1) := by decide +kernel
theorem dX8_takes_58 : decode cX8_takes 58 = .ok (.iload 4, 2) := by decide +kernel
theorem dX8_takes_60 : decode cX8_takes 60 = .ok (.invokevirtual 183, 3) := by decide +kernel
theorem dX8_takes_63 : decode cX8_takes 63 = .ok (.ifCond .ne 6, 3) := by decide +kernel
theorem dX8_takes_66 : decode cX8_takes 66 = .ok (.goto 34, 3) := by decide +kernel
theorem dX8_takes_69 : decode cX8_takes 69 = .ok (.aload_n 0, 1) := by decide +kernel
theorem dX8_takes_70 : decode cX8_takes 70 = .ok (.getfield 52, 3) := by decide +kernel
theorem dX8_takes_73 : decode cX8_takes 73 = .ok (.aload_n 0, 1) := by decide +kernel
theorem dX8_takes_74 : decode cX8_takes 74 = .ok (.getfield 180, 3) := by decide +kernel
theorem dX8_takes_77 : decode cX8_takes 77 = .ok (.iload_n 3, 1) := by decide +kernel
theorem dX8_takes_78 : decode cX8_takes 78 = .ok (.iastore, 1) := by decide +kernel
theorem dX8_takes_79 : decode cX8_takes 79 = .ok (.aload_n 0, 1) := by decide +kernel
theorem dX8_takes_80 : decode cX8_takes 80 = .ok (.getfield 55, 3) := by decide +kernel
theorem dX8_takes_83 : decode cX8_takes 83 = .ok (.aload_n 0, 1) := by decide +kernel
theorem dX8_takes_84 : decode cX8_takes 84 = .ok (.getfield 180, 3) := by decide +kernel
theorem dX8_takes_87 : decode cX8_takes 87 = .ok (.iload 4, 2) := by decide +kernel
theorem dX8_takes_89 : decode cX8_takes 89 = .ok (.iastore, 1) := by decide +kernel
theorem dX8_takes_90 : decode cX8_takes 90 = .ok (.aload_n 0, 1) := by decide +kernel
theorem dX8_takes_91 : decode cX8_takes 91 = .ok (.dup, 1) := by decide +kernel
theorem dX8_takes_92 : decode cX8_takes 92 = .ok (.getfield 180, 3) := by decide +kernel
theorem dX8_takes_95 : decode cX8_takes 95 = .ok (.iconst 1, 1) := by decide +kernel
theorem dX8_takes_96 : decode cX8_takes 96 = .ok (.iadd, 1) := by decide +kernel
theorem dX8_takes_97 : decode cX8_takes 97 = .ok (.putfield 180, 3) := by decide +kernel
theorem dX8_takes_100 : decode cX8_takes 100 = .ok (.iinc 4 1, 3) := by decide +kernel
theorem dX8_takes_103 : decode cX8_takes 103 = .ok (.goto (-70), 3) := by decide +kernel
theorem dX8_takes_106 : decode cX8_takes 106 = .ok (.iinc 2 1, 3) := by decide +kernel
theorem dX8_takes_109 : decode cX8_takes 109 = .ok (.goto (-102), 3) := by decide +kernel
theorem dX8_takes_112 : decode cX8_takes 112 = .ok (.aload_n 0, 1) := by decide +kernel
theorem dX8_takes_113 : decode cX8_takes 113 = .ok (.getfield 180, 3) := by decide +kernel
theorem dX8_takes_116 : decode cX8_takes 116 = .ok (.iload_n 1, 1) := by decide +kernel
theorem dX8_takes_117 : decode cX8_takes 117 = .ok (.if_icmp .ne 7, 3) := by decide +kernel
theorem dX8_takes_120 : decode cX8_takes 120 = .ok (.iconst 1, 1) := by decide +kernel
theorem dX8_takes_121 : decode cX8_takes 121 = .ok (.goto 4, 3) := by decide +kernel
theorem dX8_takes_124 : decode cX8_takes 124 = .ok (.iconst 0, 1) := by decide +kernel
theorem dX8_takes_125 : decode cX8_takes 125 = .ok (.ireturn, 1) := by decide +kernel
theorem dX8_writeFile_0 : decode cX8_writeFile 0 = .ok (.iconst 0, 1) := by decide +kernel
theorem dX8_writeFile_1 : decode cX8_writeFile 1 = .ok (.istore_n 2, 1) := by decide +kernel
theorem dX8_writeFile_2 : decode cX8_writeFile 2 = .ok (.iload_n 2, 1) := by decide +kernel
theorem dX8_writeFile_3 : decode cX8_writeFile 3 = .ok (.aload_n 0, 1) := by decide +kernel
theorem dX8_writeFile_4 : decode cX8_writeFile 4 = .ok (.getfield 180, 3) := by decide +kernel
theorem dX8_writeFile_7 : decode cX8_writeFile 7 = .ok (.if_icmp .ge 176, 3) := by decide +kernel
theorem dX8_writeFile_10 : decode cX8_writeFile 10 = .ok (.iload_n 2, 1) := by decide +kernel
theorem dX8_writeFile_11 : decode cX8_writeFile 11 = .ok (.iconst 1, 1) := by decide +kernel
theorem dX8_writeFile_12 : decode cX8_writeFile 12 = .ok (.iadd, 1) := by decide +kernel
theorem dX8_writeFile_13 : decode cX8_writeFile 13 = .ok (.aload_n 0, 1) := by decide +kernel
theorem dX8_writeFile_14 : decode cX8_writeFile 14 = .ok (.getfield 180, 3) := by decide +kernel
theorem dX8_writeFile_17 : decode cX8_writeFile 17 = .ok (.if_icmp .ne 7, 3) := by decide +kernel
theorem dX8_writeFile_20 : decode cX8_writeFile 20 = .ok (.iconst 1, 1) := by decide +kernel
theorem dX8_writeFile_21 : decode cX8_writeFile 21 = .ok (.goto 4, 3) := by decide +kernel
theorem dX8_writeFile_24 : decode cX8_writeFile 24 = .ok (.iconst 0, 1) := by decide +kernel
theorem dX8_writeFile_25 : decode cX8_writeFile 25 = .ok (.istore_n 3, 1) := by decide +kernel
theorem dX8_writeFile_26 : decode cX8_writeFile 26 = .ok (.iload_n 1, 1) := by decide +kernel
theorem dX8_writeFile_27 : decode cX8_writeFile 27 = .ok (.bipush 62, 2) := by decide +kernel
theorem dX8_writeFile_29 : decode cX8_writeFile 29 = .ok (.iload_n 2, 1) := by decide +kernel
theorem dX8_writeFile_30 : decode cX8_writeFile 30 = .ok (.imul, 1) := by decide +kernel
theorem dX8_writeFile_31 : decode cX8_writeFile 31 = .ok (.isub, 1) := by decide +kernel
theorem dX8_writeFile_32 : decode cX8_writeFile 32 = .ok (.istore 4, 2) := by decide +kernel
theorem dX8_writeFile_34 : decode cX8_writeFile 34 = .ok (.aload_n 0, 1) := by decide +kernel
theorem dX8_writeFile_35 : decode cX8_writeFile 35 = .ok (.getfield 37, 3) := by decide +kernel
theorem dX8_writeFile_38 : decode cX8_writeFile 38 = .ok (.iconst 0, 1) := by decide +kernel
theorem dX8_writeFile_39 : decode cX8_writeFile 39 = .ok (.iload_n 3, 1) := by decide +kernel
theorem dX8_writeFile_40 : decode cX8_writeFile 40 = .ok (.ifCond .eq 7, 3) := by decide +kernel
theorem dX8_writeFile_43 : decode cX8_writeFile 43 = .ok (.iconst 0, 1) := by decide +kernel
theorem dX8_writeFile_44 : decode cX8_writeFile 44 = .ok (.goto 11, 3) := by decide +kernel
theorem dX8_writeFile_47 : decode cX8_writeFile 47 = .ok (.aload_n 0, 1) := by decide +kernel
theorem dX8_writeFile_48 : decode cX8_writeFile 48 = .ok (.getfield 52, 3) := by decide +kernel
theorem dX8_writeFile_51 : decode cX8_writeFile 51 = .ok (.iload_n 2, 1) := by decide +kernel
theorem dX8_writeFile_52 : decode cX8_writeFile 52 = .ok (.iconst 1, 1) := by decide +kernel
theorem dX8_writeFile_53 : decode cX8_writeFile 53 = .ok (.iadd, 1) := by decide +kernel
theorem dX8_writeFile_54 : decode cX8_writeFile 54 = .ok (.iaload, 1) := by decide +kernel
theorem dX8_writeFile_55 : decode cX8_writeFile 55 = .ok (.iastore, 1) := by decide +kernel
theorem dX8_writeFile_56 : decode cX8_writeFile 56 = .ok (.aload_n 0, 1) := by decide +kernel
theorem dX8_writeFile_57 : decode cX8_writeFile 57 = .ok (.getfield 37, 3) := by decide +kernel
theorem dX8_writeFile_60 : decode cX8_writeFile 60 = .ok (.iconst 1, 1) := by decide +kernel
theorem dX8_writeFile_61 : decode cX8_writeFile 61 = .ok (.iload_n 3, 1) := by decide +kernel
theorem dX8_writeFile_62 : decode cX8_writeFile 62 = .ok (.ifCond .eq 8, 3) := by decide +kernel
theorem dX8_writeFile_65 : decode cX8_writeFile 65 = .ok (.iload 4, 2) := by decide +kernel
theorem dX8_writeFile_67 : decode cX8_writeFile 67 = .ok (.goto 11, 3) := by decide +kernel
theorem dX8_writeFile_70 : decode cX8_writeFile 70 = .ok (.aload_n 0, 1) := by decide +kernel
theorem dX8_writeFile_71 : decode cX8_writeFile 71 = .ok (.getfield 55, 3) := by decide +kernel
theorem dX8_writeFile_74 : decode cX8_writeFile 74 = .ok (.iload_n 2, 1) := by decide +kernel
theorem dX8_writeFile_75 : decode cX8_writeFile 75 = .ok (.iconst 1, 1) := by decide +kernel
theorem dX8_writeFile_76 : decode cX8_writeFile 76 = .ok (.iadd, 1) := by decide +kernel
theorem dX8_writeFile_77 : decode cX8_writeFile 77 = .ok (.iaload, 1) := by decide +kernel
theorem dX8_writeFile_78 : decode cX8_writeFile 78 = .ok (.iastore, 1) := by decide +kernel
theorem dX8_writeFile_79 : decode cX8_writeFile 79 = .ok (.iconst 0, 1) := by decide +kernel
theorem dX8_writeFile_80 : decode cX8_writeFile 80 = .ok (.istore 5, 2) := by decide +kernel
theorem dX8_writeFile_82 : decode cX8_writeFile 82 = .ok (.iload 5, 2) := by decide +kernel
theorem dX8_writeFile_84 : decode cX8_writeFile 84 = .ok (.bipush 62, 2) := by decide +kernel
theorem dX8_writeFile_86 : decode cX8_writeFile 86 = .ok (.if_icmp .ge 41, 3) := by decide +kernel
theorem dX8_writeFile_89 : decode cX8_writeFile 89 = .ok (.aload_n 0, 1) := by decide +kernel
theorem dX8_writeFile_90 : decode cX8_writeFile 90 = .ok (.getfield 37, 3) := by decide +kernel
theorem dX8_writeFile_93 : decode cX8_writeFile 93 = .ok (.iconst 2, 1) := by decide +kernel
theorem dX8_writeFile_94 : decode cX8_writeFile 94 = .ok (.iload 5, 2) := by decide +kernel
theorem dX8_writeFile_96 : decode cX8_writeFile 96 = .ok (.iadd, 1) := by decide +kernel
theorem dX8_writeFile_97 : decode cX8_writeFile 97 = .ok (.iload 5, 2) := by decide +kernel
theorem dX8_writeFile_99 : decode cX8_writeFile 99 = .ok (.iload 4, 2) := by decide +kernel
theorem dX8_writeFile_101 : decode cX8_writeFile 101 = .ok (.if_icmp .ge 18, 3) := by decide +kernel
theorem dX8_writeFile_104 : decode cX8_writeFile 104 = .ok (.aload_n 0, 1) := by decide +kernel
theorem dX8_writeFile_105 : decode cX8_writeFile 105 = .ok (.getfield 28, 3) := by decide +kernel
theorem dX8_writeFile_108 : decode cX8_writeFile 108 = .ok (.bipush 62, 2) := by decide +kernel
theorem dX8_writeFile_110 : decode cX8_writeFile 110 = .ok (.iload_n 2, 1) := by decide +kernel
theorem dX8_writeFile_111 : decode cX8_writeFile 111 = .ok (.imul, 1) := by decide +kernel
theorem dX8_writeFile_112 : decode cX8_writeFile 112 = .ok (.iload 5, 2) := by decide +kernel
theorem dX8_writeFile_114 : decode cX8_writeFile 114 = .ok (.iadd, 1) := by decide +kernel
theorem dX8_writeFile_115 : decode cX8_writeFile 115 = .ok (.iaload, 1) := by decide +kernel
theorem dX8_writeFile_116 : decode cX8_writeFile 116 = .ok (.goto 4, 3) := by decide +kernel
theorem dX8_writeFile_119 : decode cX8_writeFile 119 = .ok (.iconst 0, 1) := by decide +kernel
theorem dX8_writeFile_120 : decode cX8_writeFile 120 = .ok (.iastore, 1) := by decide +kernel
theorem dX8_writeFile_121 : decode cX8_writeFile 121 = .ok (.iinc 5 1, 3) := by decide +kernel
theorem dX8_writeFile_124 : decode cX8_writeFile 124 = .ok (.goto (-42), 3) := by decide +kernel
theorem dX8_writeFile_127 : decode cX8_writeFile 127 = .ok (.aload_n 0, 1) := by decide +kernel
theorem dX8_writeFile_128 : decode cX8_writeFile 128 = .ok (.aload_n 0, 1) := by decide +kernel
theorem dX8_writeFile_129 : decode cX8_writeFile 129 = .ok (.getfield 52, 3) := by decide +kernel
theorem dX8_writeFile_132 : decode cX8_writeFile 132 = .ok (.iload_n 2, 1) := by decide +kernel
theorem dX8_writeFile_133 : decode cX8_writeFile 133 = .ok (.iaload, 1) := by decide +kernel
theorem dX8_writeFile_134 : decode cX8_writeFile 134 = .ok (.aload_n 0, 1) := by decide +kernel
theorem dX8_writeFile_135 : decode cX8_writeFile 135 = .ok (.getfield 55, 3) := by decide +kernel
theorem dX8_writeFile_138 : decode cX8_writeFile 138 = .ok (.iload_n 2, 1) := by decide +kernel
theorem dX8_writeFile_139 : decode cX8_writeFile 139 = .ok (.iaload, 1) := by decide +kernel
theorem dX8_writeFile_140 : decode cX8_writeFile 140 = .ok (.invokevirtual 150, 3) := by decide +kernel
theorem dX8_writeFile_143 : decode cX8_writeFile 143 = .ok (.istore 5, 2) := by decide +kernel
theorem dX8_writeFile_145 : decode cX8_writeFile 145 = .ok (.iload 5, 2) := by decide +kernel
theorem dX8_writeFile_147 : decode cX8_writeFile 147 = .ok (.ifCond .le 30, 3) := by decide +kernel
theorem dX8_writeFile_150 : decode cX8_writeFile 150 = .ok (.aload_n 0, 1) := by decide +kernel
theorem dX8_writeFile_151 : decode cX8_writeFile 151 = .ok (.iload 5, 2) := by decide +kernel
theorem dX8_writeFile_153 : decode cX8_writeFile 153 = .ok (.aload_n 0, 1) := by decide +kernel
theorem dX8_writeFile_154 : decode cX8_writeFile 154 = .ok (.getfield 52, 3) := by decide +kernel
theorem dX8_writeFile_157 : decode cX8_writeFile 157 = .ok (.iload_n 2, 1) := by decide +kernel
theorem dX8_writeFile_158 : decode cX8_writeFile 158 = .ok (.iaload, 1) := by decide +kernel
theorem dX8_writeFile_159 : decode cX8_writeFile 159 = .ok (.aload_n 0, 1) := by decide +kernel
theorem dX8_writeFile_160 : decode cX8_writeFile 160 = .ok (.getfield 55, 3) := by decide +kernel
theorem dX8_writeFile_163 : decode cX8_writeFile 163 = .ok (.iload_n 2, 1) := by decide +kernel
theorem dX8_writeFile_164 : decode cX8_writeFile 164 = .ok (.iaload, 1) := by decide +kernel
theorem dX8_writeFile_165 : decode cX8_writeFile 165 = .ok (.invokevirtual 143, 3) := by decide +kernel
theorem dX8_writeFile_168 : decode cX8_writeFile 168 = .ok (.ifCond .ne 7, 3) := by decide +kernel
theorem dX8_writeFile_171 : decode cX8_writeFile 171 = .ok (.iconst 1, 1) := by decide +kernel
theorem dX8_writeFile_172 : decode cX8_writeFile 172 = .ok (.goto 4, 3) := by decide +kernel
theorem dX8_writeFile_175 : decode cX8_writeFile 175 = .ok (.iconst 0, 1) := by decide +kernel
theorem dX8_writeFile_176 : decode cX8_writeFile 176 = .ok (.ireturn, 1) := by decide +kernel
theorem dX8_writeFile_177 : decode cX8_writeFile 177 = .ok (.iinc 2 1, 3) := by decide +kernel
theorem dX8_writeFile_180 : decode cX8_writeFile 180 = .ok (.goto (-178), 3) := by decide +kernel
theorem dX8_writeFile_183 : decode cX8_writeFile 183 = .ok (.iconst 1, 1) := by decide +kernel
theorem dX8_writeFile_184 : decode cX8_writeFile 184 = .ok (.ireturn, 1) := by decide +kernel
theorem dX8_emptyEntry_0 : decode cX8_emptyEntry 0 = .ok (.iconst 0, 1) := by decide +kernel
theorem dX8_emptyEntry_1 : decode cX8_emptyEntry 1 = .ok (.istore_n 1, 1) := by decide +kernel
theorem dX8_emptyEntry_2 : decode cX8_emptyEntry 2 = .ok (.iload_n 1, 1) := by decide +kernel
theorem dX8_emptyEntry_3 : decode cX8_emptyEntry 3 = .ok (.aload_n 0, 1) := by decide +kernel
theorem dX8_emptyEntry_4 : decode cX8_emptyEntry 4 = .ok (.getfield 156, 3) := by decide +kernel
theorem dX8_emptyEntry_7 : decode cX8_emptyEntry 7 = .ok (.if_icmp .ge 44, 3) := by decide +kernel
theorem dX8_emptyEntry_10 : decode cX8_emptyEntry 10 = .ok (.iconst 2, 1) := by decide +kernel
theorem dX8_emptyEntry_11 : decode cX8_emptyEntry 11 = .ok (.istore_n 2, 1) := by decide +kernel
theorem dX8_emptyEntry_12 : decode cX8_emptyEntry 12 = .ok (.iload_n 2, 1) := by decide +kernel
theorem dX8_emptyEntry_13 : decode cX8_emptyEntry 13 = .ok (.bipush 62, 2) := by decide +kernel
theorem dX8_emptyEntry_15 : decode cX8_emptyEntry 15 = .ok (.if_icmp .ge 30, 3) := by decide +kernel
theorem dX8_emptyEntry_18 : decode cX8_emptyEntry 18 = .ok (.aload_n 0, 1) := by decide +kernel
theorem dX8_emptyEntry_19 : decode cX8_emptyEntry 19 = .ok (.getfield 43, 3) := by decide +kernel
theorem dX8_emptyEntry_22 : decode cX8_emptyEntry 22 = .ok (.bipush 64, 2) := by decide +kernel
theorem dX8_emptyEntry_24 : decode cX8_emptyEntry 24 = .ok (.iload_n 1, 1) := by decide +kernel
theorem dX8_emptyEntry_25 : decode cX8_emptyEntry 25 = .ok (.imul, 1) := by decide +kernel
theorem dX8_emptyEntry_26 : decode cX8_emptyEntry 26 = .ok (.iload_n 2, 1) := by decide +kernel
theorem dX8_emptyEntry_27 : decode cX8_emptyEntry 27 = .ok (.iadd, 1) := by decide +kernel
theorem dX8_emptyEntry_28 : decode cX8_emptyEntry 28 = .ok (.iaload, 1) := by decide +kernel
theorem dX8_emptyEntry_29 : decode cX8_emptyEntry 29 = .ok (.ifCond .ne 10, 3) := by decide +kernel
theorem dX8_emptyEntry_32 : decode cX8_emptyEntry 32 = .ok (.bipush 64, 2) := by decide +kernel
theorem dX8_emptyEntry_34 : decode cX8_emptyEntry 34 = .ok (.iload_n 1, 1) := by decide +kernel
theorem dX8_emptyEntry_35 : decode cX8_emptyEntry 35 = .ok (.imul, 1) := by decide +kernel
theorem dX8_emptyEntry_36 : decode cX8_emptyEntry 36 = .ok (.iload_n 2, 1) := by decide +kernel
theorem dX8_emptyEntry_37 : decode cX8_emptyEntry 37 = .ok (.iadd, 1) := by decide +kernel
theorem dX8_emptyEntry_38 : decode cX8_emptyEntry 38 = .ok (.ireturn, 1) := by decide +kernel
theorem dX8_emptyEntry_39 : decode cX8_emptyEntry 39 = .ok (.iinc 2 12, 3) := by decide +kernel
theorem dX8_emptyEntry_42 : decode cX8_emptyEntry 42 = .ok (.goto (-30), 3) := by decide +kernel
theorem dX8_emptyEntry_45 : decode cX8_emptyEntry 45 = .ok (.iinc 1 1, 3) := by decide +kernel
theorem dX8_emptyEntry_48 : decode cX8_emptyEntry 48 = .ok (.goto (-46), 3) := by decide +kernel
theorem dX8_emptyEntry_51 : decode cX8_emptyEntry 51 = .ok (.iconst (-1), 1) := by decide +kernel
theorem dX8_emptyEntry_52 : decode cX8_emptyEntry 52 = .ok (.ireturn, 1) := by decide +kernel
theorem dX8_freeOfDirectory_0 : decode cX8_freeOfDirectory 0 = .ok (.iconst (-1), 1) := by decide +kernel
theorem dX8_freeOfDirectory_1 : decode cX8_freeOfDirectory 1 = .ok (.istore_n 1, 1) := by decide +kernel
theorem dX8_freeOfDirectory_2 : decode cX8_freeOfDirectory 2 = .ok (.bipush 9, 2) := by decide +kernel
theorem dX8_freeOfDirectory_4 : decode cX8_freeOfDirectory 4 = .ok (.invokestatic 77, 3) := by decide +kernel
theorem dX8_freeOfDirectory_7 : decode cX8_freeOfDirectory 7 = .ok (.iconst 1, 1) := by decide +kernel
theorem dX8_freeOfDirectory_8 : decode cX8_freeOfDirectory 8 = .ok (.isub, 1) := by decide +kernel
theorem dX8_freeOfDirectory_9 : decode cX8_freeOfDirectory 9 = .ok (.istore_n 2, 1) := by decide +kernel
theorem dX8_freeOfDirectory_10 : decode cX8_freeOfDirectory 10 = .ok (.iload_n 2, 1) := by decide +kernel
theorem dX8_freeOfDirectory_11 : decode cX8_freeOfDirectory 11 = .ok (.ifCond .lt 25, 3) := by decide +kernel
theorem dX8_freeOfDirectory_14 : decode cX8_freeOfDirectory 14 = .ok (.aload_n 0, 1) := by decide +kernel
theorem dX8_freeOfDirectory_15 : decode cX8_freeOfDirectory 15 = .ok (.bipush 9, 2) := by decide +kernel
theorem dX8_freeOfDirectory_17 : decode cX8_freeOfDirectory 17 = .ok (.iload_n 2, 1) := by decide +kernel
theorem dX8_freeOfDirectory_18 : decode cX8_freeOfDirectory 18 = .ok (.invokevirtual 183, 3) := by decide +kernel
theorem dX8_freeOfDirectory_21 : decode cX8_freeOfDirectory 21 = .ok (.ifCond .eq 7, 3) := by decide +kernel
theorem dX8_freeOfDirectory_24 : decode cX8_freeOfDirectory 24 = .ok (.iload_n 2, 1) := by decide +kernel
theorem dX8_freeOfDirectory_25 : decode cX8_freeOfDirectory 25 = .ok (.goto 4, 3) := by decide +kernel
theorem dX8_freeOfDirectory_28 : decode cX8_freeOfDirectory 28 = .ok (.iload_n 1, 1) := by decide +kernel
theorem dX8_freeOfDirectory_29 : decode cX8_freeOfDirectory 29 = .ok (.istore_n 1, 1) := by decide +kernel
theorem dX8_freeOfDirectory_30 : decode cX8_freeOfDirectory 30 = .ok (.iinc 2 (-1), 3) := by decide +kernel
theorem dX8_freeOfDirectory_33 : decode cX8_freeOfDirectory 33 = .ok (.goto (-23), 3) := by decide +kernel
theorem dX8_freeOfDirectory_36 : decode cX8_freeOfDirectory 36 = .ok (.iload_n 1, 1) := by decide +kernel
theorem dX8_freeOfDirectory_37 : decode cX8_freeOfDirectory 37 = .ok (.ireturn, 1) := by decide +kernel
theorem dX8_saves_0 : decode cX8_saves 0 = .ok (.aload_n 0, 1) := by decide +kernel
theorem dX8_saves_1 : decode cX8_saves 1 = .ok (.invokevirtual 186, 3) := by decide +kernel
theorem dX8_saves_4 : decode cX8_saves 4 = .ok (.ifCond .eq 13, 3) := by decide +kernel
theorem dX8_saves_7 : decode cX8_saves 7 = .ok (.aload_n 0, 1) := by decide +kernel
theorem dX8_saves_8 : decode cX8_saves 8 = .ok (.iconst 1, 1) := by decide +kernel
theorem dX8_saves_9 : decode cX8_saves 9 = .ok (.iload_n 2, 1) := by decide +kernel
theorem dX8_saves_10 : decode cX8_saves 10 = .ok (.iload_n 3, 1) := by decide +kernel
theorem dX8_saves_11 : decode cX8_saves 11 = .ok (.invokevirtual 190, 3) := by decide +kernel
theorem dX8_saves_14 : decode cX8_saves 14 = .ok (.ifCond .ne 5, 3) := by decide +kernel
theorem dX8_saves_17 : decode cX8_saves 17 = .ok (.iconst 0, 1) := by decide +kernel
theorem dX8_saves_18 : decode cX8_saves 18 = .ok (.ireturn, 1) := by decide +kernel
theorem dX8_saves_19 : decode cX8_saves 19 = .ok (.aload_n 0, 1) := by decide +kernel
theorem dX8_saves_20 : decode cX8_saves 20 = .ok (.getfield 159, 3) := by decide +kernel
theorem dX8_saves_23 : decode cX8_saves 23 = .ok (.ifCond .lt 36, 3) := by decide +kernel
theorem dX8_saves_26 : decode cX8_saves 26 = .ok (.aload_n 0, 1) := by decide +kernel
theorem dX8_saves_27 : decode cX8_saves 27 = .ok (.bipush 63, 2) := by decide +kernel
theorem dX8_saves_29 : decode cX8_saves 29 = .ok (.aload_n 0, 1) := by decide +kernel
theorem dX8_saves_30 : decode cX8_saves 30 = .ok (.getfield 46, 3) := by decide +kernel
theorem dX8_saves_33 : decode cX8_saves 33 = .ok (.aload_n 0, 1) := by decide +kernel
theorem dX8_saves_34 : decode cX8_saves 34 = .ok (.getfield 159, 3) := by decide +kernel
theorem dX8_saves_37 : decode cX8_saves 37 = .ok (.iaload, 1) := by decide +kernel
theorem dX8_saves_38 : decode cX8_saves 38 = .ok (.aload_n 0, 1) := by decide +kernel
theorem dX8_saves_39 : decode cX8_saves 39 = .ok (.getfield 49, 3) := by decide +kernel
theorem dX8_saves_42 : decode cX8_saves 42 = .ok (.aload_n 0, 1) := by decide +kernel
theorem dX8_saves_43 : decode cX8_saves 43 = .ok (.getfield 159, 3) := by decide +kernel
theorem dX8_saves_46 : decode cX8_saves 46 = .ok (.iaload, 1) := by decide +kernel
theorem dX8_saves_47 : decode cX8_saves 47 = .ok (.invokevirtual 143, 3) := by decide +kernel
theorem dX8_saves_50 : decode cX8_saves 50 = .ok (.ifCond .ne 7, 3) := by decide +kernel
theorem dX8_saves_53 : decode cX8_saves 53 = .ok (.iconst 1, 1) := by decide +kernel
theorem dX8_saves_54 : decode cX8_saves 54 = .ok (.goto 4, 3) := by decide +kernel
theorem dX8_saves_57 : decode cX8_saves 57 = .ok (.iconst 0, 1) := by decide +kernel
theorem dX8_saves_58 : decode cX8_saves 58 = .ok (.ireturn, 1) := by decide +kernel
theorem dX8_saves_59 : decode cX8_saves 59 = .ok (.aload_n 0, 1) := by decide +kernel
theorem dX8_saves_60 : decode cX8_saves 60 = .ok (.invokevirtual 194, 3) := by decide +kernel
theorem dX8_saves_63 : decode cX8_saves 63 = .ok (.istore 5, 2) := by decide +kernel
theorem dX8_saves_65 : decode cX8_saves 65 = .ok (.iload 5, 2) := by decide +kernel
theorem dX8_saves_67 : decode cX8_saves 67 = .ok (.ifCond .ge 7, 3) := by decide +kernel
theorem dX8_saves_70 : decode cX8_saves 70 = .ok (.iconst 1, 1) := by decide +kernel
theorem dX8_saves_71 : decode cX8_saves 71 = .ok (.goto 4, 3) := by decide +kernel
theorem dX8_saves_74 : decode cX8_saves 74 = .ok (.iconst 0, 1) := by decide +kernel
theorem dX8_saves_75 : decode cX8_saves 75 = .ok (.istore 6, 2) := by decide +kernel
theorem dX8_saves_77 : decode cX8_saves 77 = .ok (.iload 6, 2) := by decide +kernel
theorem dX8_saves_79 : decode cX8_saves 79 = .ok (.ifCond .eq 10, 3) := by decide +kernel
theorem dX8_saves_82 : decode cX8_saves 82 = .ok (.aload_n 0, 1) := by decide +kernel
theorem dX8_saves_83 : decode cX8_saves 83 = .ok (.invokevirtual 198, 3) := by decide +kernel
theorem dX8_saves_86 : decode cX8_saves 86 = .ok (.goto 4, 3) := by decide +kernel
theorem dX8_saves_89 : decode cX8_saves 89 = .ok (.iconst 0, 1) := by decide +kernel
theorem dX8_saves_90 : decode cX8_saves 90 = .ok (.istore 7, 2) := by decide +kernel
theorem dX8_saves_92 : decode cX8_saves 92 = .ok (.iload 6, 2) := by decide +kernel
theorem dX8_saves_94 : decode cX8_saves 94 = .ok (.ifCond .eq 17, 3) := by decide +kernel
theorem dX8_saves_97 : decode cX8_saves 97 = .ok (.iload 7, 2) := by decide +kernel
theorem dX8_saves_99 : decode cX8_saves 99 = .ok (.ifCond .lt 38, 3) := by decide +kernel
theorem dX8_saves_102 : decode cX8_saves 102 = .ok (.aload_n 0, 1) := by decide +kernel
theorem dX8_saves_103 : decode cX8_saves 103 = .ok (.getfield 156, 3) := by decide +kernel
theorem dX8_saves_106 : decode cX8_saves 106 = .ok (.bipush 7, 2) := by decide +kernel
theorem dX8_saves_108 : decode cX8_saves 108 = .ok (.if_icmp .eq 29, 3) := by decide +kernel
theorem dX8_saves_111 : decode cX8_saves 111 = .ok (.aload_n 0, 1) := by decide +kernel
theorem dX8_saves_112 : decode cX8_saves 112 = .ok (.iload 4, 2) := by decide +kernel
theorem dX8_saves_114 : decode cX8_saves 114 = .ok (.ifCond .ne 7, 3) := by decide +kernel
theorem dX8_saves_117 : decode cX8_saves 117 = .ok (.iconst 1, 1) := by decide +kernel
theorem dX8_saves_118 : decode cX8_saves 118 = .ok (.goto 13, 3) := by decide +kernel
theorem dX8_saves_121 : decode cX8_saves 121 = .ok (.iload 4, 2) := by decide +kernel
theorem dX8_saves_123 : decode cX8_saves 123 = .ok (.bipush 62, 2) := by decide +kernel
theorem dX8_saves_125 : decode cX8_saves 125 = .ok (.iadd, 1) := by decide +kernel
theorem dX8_saves_126 : decode cX8_saves 126 = .ok (.iconst 1, 1) := by decide +kernel
theorem dX8_saves_127 : decode cX8_saves 127 = .ok (.isub, 1) := by decide +kernel
theorem dX8_saves_128 : decode cX8_saves 128 = .ok (.bipush 62, 2) := by decide +kernel
theorem dX8_saves_130 : decode cX8_saves 130 = .ok (.idiv, 1) := by decide +kernel
theorem dX8_saves_131 : decode cX8_saves 131 = .ok (.invokevirtual 201, 3) := by decide +kernel
theorem dX8_saves_134 : decode cX8_saves 134 = .ok (.ifCond .ne 20, 3) := by decide +kernel
theorem dX8_saves_137 : decode cX8_saves 137 = .ok (.aload_n 0, 1) := by decide +kernel
theorem dX8_saves_138 : decode cX8_saves 138 = .ok (.bipush 72, 2) := by decide +kernel
theorem dX8_saves_140 : decode cX8_saves 140 = .ok (.iconst 0, 1) := by decide +kernel
theorem dX8_saves_141 : decode cX8_saves 141 = .ok (.iconst 0, 1) := by decide +kernel
theorem dX8_saves_142 : decode cX8_saves 142 = .ok (.invokevirtual 143, 3) := by decide +kernel
theorem dX8_saves_145 : decode cX8_saves 145 = .ok (.ifCond .ne 7, 3) := by decide +kernel
theorem dX8_saves_148 : decode cX8_saves 148 = .ok (.iconst 1, 1) := by decide +kernel
theorem dX8_saves_149 : decode cX8_saves 149 = .ok (.goto 4, 3) := by decide +kernel
theorem dX8_saves_152 : decode cX8_saves 152 = .ok (.iconst 0, 1) := by decide +kernel
theorem dX8_saves_153 : decode cX8_saves 153 = .ok (.ireturn, 1) := by decide +kernel
theorem dX8_saves_154 : decode cX8_saves 154 = .ok (.aload_n 0, 1) := by decide +kernel
theorem dX8_saves_155 : decode cX8_saves 155 = .ok (.iload 4, 2) := by decide +kernel
theorem dX8_saves_157 : decode cX8_saves 157 = .ok (.invokevirtual 204, 3) := by decide +kernel
theorem dX8_saves_160 : decode cX8_saves 160 = .ok (.ifCond .ne 5, 3) := by decide +kernel
theorem dX8_saves_163 : decode cX8_saves 163 = .ok (.iconst 0, 1) := by decide +kernel
theorem dX8_saves_164 : decode cX8_saves 164 = .ok (.ireturn, 1) := by decide +kernel
theorem dX8_saves_165 : decode cX8_saves 165 = .ok (.iload 6, 2) := by decide +kernel
theorem dX8_saves_167 : decode cX8_saves 167 = .ok (.ifCond .eq 121, 3) := by decide +kernel
theorem dX8_saves_170 : decode cX8_saves 170 = .ok (.aload_n 0, 1) := by decide +kernel
theorem dX8_saves_171 : decode cX8_saves 171 = .ok (.getfield 156, 3) := by decide +kernel
theorem dX8_saves_174 : decode cX8_saves 174 = .ok (.iconst 1, 1) := by decide +kernel
theorem dX8_saves_175 : decode cX8_saves 175 = .ok (.isub, 1) := by decide +kernel
theorem dX8_saves_176 : decode cX8_saves 176 = .ok (.istore 8, 2) := by decide +kernel
theorem dX8_saves_178 : decode cX8_saves 178 = .ok (.aload_n 0, 1) := by decide +kernel
theorem dX8_saves_179 : decode cX8_saves 179 = .ok (.getfield 43, 3) := by decide +kernel
theorem dX8_saves_182 : decode cX8_saves 182 = .ok (.bipush 64, 2) := by decide +kernel
theorem dX8_saves_184 : decode cX8_saves 184 = .ok (.iload 8, 2) := by decide +kernel
theorem dX8_saves_186 : decode cX8_saves 186 = .ok (.imul, 1) := by decide +kernel
theorem dX8_saves_187 : decode cX8_saves 187 = .ok (.bipush 9, 2) := by decide +kernel
theorem dX8_saves_189 : decode cX8_saves 189 = .ok (.iastore, 1) := by decide +kernel
theorem dX8_saves_190 : decode cX8_saves 190 = .ok (.aload_n 0, 1) := by decide +kernel
theorem dX8_saves_191 : decode cX8_saves 191 = .ok (.getfield 43, 3) := by decide +kernel
theorem dX8_saves_194 : decode cX8_saves 194 = .ok (.bipush 64, 2) := by decide +kernel
theorem dX8_saves_196 : decode cX8_saves 196 = .ok (.iload 8, 2) := by decide +kernel
theorem dX8_saves_198 : decode cX8_saves 198 = .ok (.imul, 1) := by decide +kernel
theorem dX8_saves_199 : decode cX8_saves 199 = .ok (.iconst 1, 1) := by decide +kernel
theorem dX8_saves_200 : decode cX8_saves 200 = .ok (.iadd, 1) := by decide +kernel
theorem dX8_saves_201 : decode cX8_saves 201 = .ok (.iload 7, 2) := by decide +kernel
theorem dX8_saves_203 : decode cX8_saves 203 = .ok (.iastore, 1) := by decide +kernel
theorem dX8_saves_204 : decode cX8_saves 204 = .ok (.iconst 0, 1) := by decide +kernel
theorem dX8_saves_205 : decode cX8_saves 205 = .ok (.istore 9, 2) := by decide +kernel
theorem dX8_saves_207 : decode cX8_saves 207 = .ok (.iload 9, 2) := by decide +kernel
theorem dX8_saves_209 : decode cX8_saves 209 = .ok (.bipush 64, 2) := by decide +kernel
theorem dX8_saves_211 : decode cX8_saves 211 = .ok (.if_icmp .ge 25, 3) := by decide +kernel
theorem dX8_saves_214 : decode cX8_saves 214 = .ok (.aload_n 0, 1) := by decide +kernel
theorem dX8_saves_215 : decode cX8_saves 215 = .ok (.getfield 43, 3) := by decide +kernel
theorem dX8_saves_218 : decode cX8_saves 218 = .ok (.bipush 64, 2) := by decide +kernel
theorem dX8_saves_220 : decode cX8_saves 220 = .ok (.aload_n 0, 1) := by decide +kernel
theorem dX8_saves_221 : decode cX8_saves 221 = .ok (.getfield 156, 3) := by decide +kernel
theorem dX8_saves_224 : decode cX8_saves 224 = .ok (.imul, 1) := by decide +kernel
theorem dX8_saves_225 : decode cX8_saves 225 = .ok (.iload 9, 2) := by decide +kernel
theorem dX8_saves_227 : decode cX8_saves 227 = .ok (.iadd, 1) := by decide +kernel
theorem dX8_saves_228 : decode cX8_saves 228 = .ok (.iconst 0, 1) := by decide +kernel
theorem dX8_saves_229 : decode cX8_saves 229 = .ok (.iastore, 1) := by decide +kernel
theorem dX8_saves_230 : decode cX8_saves 230 = .ok (.iinc 9 1, 3) := by decide +kernel
theorem dX8_saves_233 : decode cX8_saves 233 = .ok (.goto (-26), 3) := by decide +kernel
theorem dX8_saves_236 : decode cX8_saves 236 = .ok (.aload_n 0, 1) := by decide +kernel
theorem dX8_saves_237 : decode cX8_saves 237 = .ok (.getfield 46, 3) := by decide +kernel
theorem dX8_saves_240 : decode cX8_saves 240 = .ok (.aload_n 0, 1) := by decide +kernel
theorem dX8_saves_241 : decode cX8_saves 241 = .ok (.getfield 156, 3) := by decide +kernel
theorem dX8_saves_244 : decode cX8_saves 244 = .ok (.bipush 9, 2) := by decide +kernel
theorem dX8_saves_246 : decode cX8_saves 246 = .ok (.iastore, 1) := by decide +kernel
theorem dX8_saves_247 : decode cX8_saves 247 = .ok (.aload_n 0, 1) := by decide +kernel
theorem dX8_saves_248 : decode cX8_saves 248 = .ok (.getfield 49, 3) := by decide +kernel
theorem dX8_saves_251 : decode cX8_saves 251 = .ok (.aload_n 0, 1) := by decide +kernel
theorem dX8_saves_252 : decode cX8_saves 252 = .ok (.getfield 156, 3) := by decide +kernel
theorem dX8_saves_255 : decode cX8_saves 255 = .ok (.iload 7, 2) := by decide +kernel
theorem dX8_saves_257 : decode cX8_saves 257 = .ok (.iastore, 1) := by decide +kernel
theorem dX8_saves_258 : decode cX8_saves 258 = .ok (.bipush 64, 2) := by decide +kernel
theorem dX8_saves_260 : decode cX8_saves 260 = .ok (.aload_n 0, 1) := by decide +kernel
theorem dX8_saves_261 : decode cX8_saves 261 = .ok (.getfield 156, 3) := by decide +kernel
theorem dX8_saves_264 : decode cX8_saves 264 = .ok (.imul, 1) := by decide +kernel
theorem dX8_saves_265 : decode cX8_saves 265 = .ok (.iconst 2, 1) := by decide +kernel
theorem dX8_saves_266 : decode cX8_saves 266 = .ok (.iadd, 1) := by decide +kernel
theorem dX8_saves_267 : decode cX8_saves 267 = .ok (.istore 5, 2) := by decide +kernel
theorem dX8_saves_269 : decode cX8_saves 269 = .ok (.aload_n 0, 1) := by decide +kernel
theorem dX8_saves_270 : decode cX8_saves 270 = .ok (.bipush 9, 2) := by decide +kernel
theorem dX8_saves_272 : decode cX8_saves 272 = .ok (.iload 7, 2) := by decide +kernel
theorem dX8_saves_274 : decode cX8_saves 274 = .ok (.iconst 0, 1) := by decide +kernel
theorem dX8_saves_275 : decode cX8_saves 275 = .ok (.invokevirtual 176, 3) := by decide +kernel
theorem dX8_saves_278 : decode cX8_saves 278 = .ok (.aload_n 0, 1) := by decide +kernel
theorem dX8_saves_279 : decode cX8_saves 279 = .ok (.dup, 1) := by decide +kernel
theorem dX8_saves_280 : decode cX8_saves 280 = .ok (.getfield 156, 3) := by decide +kernel
theorem dX8_saves_283 : decode cX8_saves 283 = .ok (.iconst 1, 1) := by decide +kernel
theorem dX8_saves_284 : decode cX8_saves 284 = .ok (.iadd, 1) := by decide +kernel
theorem dX8_saves_285 : decode cX8_saves 285 = .ok (.putfield 156, 3) := by decide +kernel
theorem dX8_saves_288 : decode cX8_saves 288 = .ok (.aload_n 0, 1) := by decide +kernel
theorem dX8_saves_289 : decode cX8_saves 289 = .ok (.getfield 43, 3) := by decide +kernel
theorem dX8_saves_292 : decode cX8_saves 292 = .ok (.iload 5, 2) := by decide +kernel
theorem dX8_saves_294 : decode cX8_saves 294 = .ok (.iload_n 1, 1) := by decide +kernel
theorem dX8_saves_295 : decode cX8_saves 295 = .ok (.iastore, 1) := by decide +kernel
theorem dX8_saves_296 : decode cX8_saves 296 = .ok (.aload_n 0, 1) := by decide +kernel
theorem dX8_saves_297 : decode cX8_saves 297 = .ok (.getfield 43, 3) := by decide +kernel
theorem dX8_saves_300 : decode cX8_saves 300 = .ok (.iload 5, 2) := by decide +kernel
theorem dX8_saves_302 : decode cX8_saves 302 = .ok (.iconst 1, 1) := by decide +kernel
theorem dX8_saves_303 : decode cX8_saves 303 = .ok (.iadd, 1) := by decide +kernel
theorem dX8_saves_304 : decode cX8_saves 304 = .ok (.aload_n 0, 1) := by decide +kernel
theorem dX8_saves_305 : decode cX8_saves 305 = .ok (.getfield 52, 3) := by decide +kernel
theorem dX8_saves_308 : decode cX8_saves 308 = .ok (.iconst 0, 1) := by decide +kernel
theorem dX8_saves_309 : decode cX8_saves 309 = .ok (.iaload, 1) := by decide +kernel
theorem dX8_saves_310 : decode cX8_saves 310 = .ok (.iastore, 1) := by decide +kernel
theorem dX8_saves_311 : decode cX8_saves 311 = .ok (.aload_n 0, 1) := by decide +kernel
theorem dX8_saves_312 : decode cX8_saves 312 = .ok (.getfield 43, 3) := by decide +kernel
theorem dX8_saves_315 : decode cX8_saves 315 = .ok (.iload 5, 2) := by decide +kernel
theorem dX8_saves_317 : decode cX8_saves 317 = .ok (.iconst 2, 1) := by decide +kernel
theorem dX8_saves_318 : decode cX8_saves 318 = .ok (.iadd, 1) := by decide +kernel
theorem dX8_saves_319 : decode cX8_saves 319 = .ok (.aload_n 0, 1) := by decide +kernel
theorem dX8_saves_320 : decode cX8_saves 320 = .ok (.getfield 55, 3) := by decide +kernel
theorem dX8_saves_323 : decode cX8_saves 323 = .ok (.iconst 0, 1) := by decide +kernel
theorem dX8_saves_324 : decode cX8_saves 324 = .ok (.iaload, 1) := by decide +kernel
theorem dX8_saves_325 : decode cX8_saves 325 = .ok (.iastore, 1) := by decide +kernel
theorem dX8_saves_326 : decode cX8_saves 326 = .ok (.aload_n 0, 1) := by decide +kernel
theorem dX8_saves_327 : decode cX8_saves 327 = .ok (.getfield 43, 3) := by decide +kernel
theorem dX8_saves_330 : decode cX8_saves 330 = .ok (.iload 5, 2) := by decide +kernel
theorem dX8_saves_332 : decode cX8_saves 332 = .ok (.iconst 3, 1) := by decide +kernel
theorem dX8_saves_333 : decode cX8_saves 333 = .ok (.iadd, 1) := by decide +kernel
theorem dX8_saves_334 : decode cX8_saves 334 = .ok (.aload_n 0, 1) := by decide +kernel
theorem dX8_saves_335 : decode cX8_saves 335 = .ok (.getfield 180, 3) := by decide +kernel
theorem dX8_saves_338 : decode cX8_saves 338 = .ok (.iastore, 1) := by decide +kernel
theorem dX8_saves_339 : decode cX8_saves 339 = .ok (.iconst 0, 1) := by decide +kernel
theorem dX8_saves_340 : decode cX8_saves 340 = .ok (.istore 8, 2) := by decide +kernel
theorem dX8_saves_342 : decode cX8_saves 342 = .ok (.iload 8, 2) := by decide +kernel
theorem dX8_saves_344 : decode cX8_saves 344 = .ok (.bipush 8, 2) := by decide +kernel
theorem dX8_saves_346 : decode cX8_saves 346 = .ok (.if_icmp .ge 28, 3) := by decide +kernel
theorem dX8_saves_349 : decode cX8_saves 349 = .ok (.aload_n 0, 1) := by decide +kernel
theorem dX8_saves_350 : decode cX8_saves 350 = .ok (.getfield 43, 3) := by decide +kernel
theorem dX8_saves_353 : decode cX8_saves 353 = .ok (.iload 5, 2) := by decide +kernel
theorem dX8_saves_355 : decode cX8_saves 355 = .ok (.iconst 4, 1) := by decide +kernel
theorem dX8_saves_356 : decode cX8_saves 356 = .ok (.iadd, 1) := by decide +kernel
theorem dX8_saves_357 : decode cX8_saves 357 = .ok (.iload 8, 2) := by decide +kernel
theorem dX8_saves_359 : decode cX8_saves 359 = .ok (.iadd, 1) := by decide +kernel
theorem dX8_saves_360 : decode cX8_saves 360 = .ok (.iload_n 2, 1) := by decide +kernel
theorem dX8_saves_361 : decode cX8_saves 361 = .ok (.iload_n 3, 1) := by decide +kernel
theorem dX8_saves_362 : decode cX8_saves 362 = .ok (.iload 8, 2) := by decide +kernel
theorem dX8_saves_364 : decode cX8_saves 364 = .ok (.invokestatic 153, 3) := by decide +kernel
theorem dX8_saves_367 : decode cX8_saves 367 = .ok (.iastore, 1) := by decide +kernel
theorem dX8_saves_368 : decode cX8_saves 368 = .ok (.iinc 8 1, 3) := by decide +kernel
theorem dX8_saves_371 : decode cX8_saves 371 = .ok (.goto (-29), 3) := by decide +kernel
theorem dX8_saves_374 : decode cX8_saves 374 = .ok (.aload_n 0, 1) := by decide +kernel
theorem dX8_saves_375 : decode cX8_saves 375 = .ok (.iload 5, 2) := by decide +kernel
theorem dX8_saves_377 : decode cX8_saves 377 = .ok (.bipush 64, 2) := by decide +kernel
theorem dX8_saves_379 : decode cX8_saves 379 = .ok (.idiv, 1) := by decide +kernel
theorem dX8_saves_380 : decode cX8_saves 380 = .ok (.invokevirtual 207, 3) := by decide +kernel
theorem dX8_saves_383 : decode cX8_saves 383 = .ok (.ifCond .eq 21, 3) := by decide +kernel
theorem dX8_saves_386 : decode cX8_saves 386 = .ok (.iload 6, 2) := by decide +kernel
theorem dX8_saves_388 : decode cX8_saves 388 = .ok (.ifCond .eq 18, 3) := by decide +kernel
theorem dX8_saves_391 : decode cX8_saves 391 = .ok (.aload_n 0, 1) := by decide +kernel
theorem dX8_saves_392 : decode cX8_saves 392 = .ok (.aload_n 0, 1) := by decide +kernel
theorem dX8_saves_393 : decode cX8_saves 393 = .ok (.getfield 156, 3) := by decide +kernel
theorem dX8_saves_396 : decode cX8_saves 396 = .ok (.iconst 2, 1) := by decide +kernel
theorem dX8_saves_397 : decode cX8_saves 397 = .ok (.isub, 1) := by decide +kernel
theorem dX8_saves_398 : decode cX8_saves 398 = .ok (.invokevirtual 207, 3) := by decide +kernel
theorem dX8_saves_401 : decode cX8_saves 401 = .ok (.ifCond .ne 5, 3) := by decide +kernel
theorem dX8_saves_404 : decode cX8_saves 404 = .ok (.iconst 0, 1) := by decide +kernel
theorem dX8_saves_405 : decode cX8_saves 405 = .ok (.ireturn, 1) := by decide +kernel
theorem dX8_saves_406 : decode cX8_saves 406 = .ok (.iconst 0, 1) := by decide +kernel
theorem dX8_saves_407 : decode cX8_saves 407 = .ok (.istore 8, 2) := by decide +kernel
theorem dX8_saves_409 : decode cX8_saves 409 = .ok (.iload 8, 2) := by decide +kernel
theorem dX8_saves_411 : decode cX8_saves 411 = .ok (.aload_n 0, 1) := by decide +kernel
theorem dX8_saves_412 : decode cX8_saves 412 = .ok (.getfield 180, 3) := by decide +kernel
theorem dX8_saves_415 : decode cX8_saves 415 = .ok (.if_icmp .ge 28, 3) := by decide +kernel
theorem dX8_saves_418 : decode cX8_saves 418 = .ok (.aload_n 0, 1) := by decide +kernel
theorem dX8_saves_419 : decode cX8_saves 419 = .ok (.aload_n 0, 1) := by decide +kernel
theorem dX8_saves_420 : decode cX8_saves 420 = .ok (.getfield 52, 3) := by decide +kernel
theorem dX8_saves_423 : decode cX8_saves 423 = .ok (.iload 8, 2) := by decide +kernel
theorem dX8_saves_425 : decode cX8_saves 425 = .ok (.iaload, 1) := by decide +kernel
theorem dX8_saves_426 : decode cX8_saves 426 = .ok (.aload_n 0, 1) := by decide +kernel
theorem dX8_saves_427 : decode cX8_saves 427 = .ok (.getfield 55, 3) := by decide +kernel
theorem dX8_saves_430 : decode cX8_saves 430 = .ok (.iload 8, 2) := by decide +kernel
theorem dX8_saves_432 : decode cX8_saves 432 = .ok (.iaload, 1) := by decide +kernel
theorem dX8_saves_433 : decode cX8_saves 433 = .ok (.iconst 0, 1) := by decide +kernel
theorem dX8_saves_434 : decode cX8_saves 434 = .ok (.invokevirtual 176, 3) := by decide +kernel
theorem dX8_saves_437 : decode cX8_saves 437 = .ok (.iinc 8 1, 3) := by decide +kernel
theorem dX8_saves_440 : decode cX8_saves 440 = .ok (.goto (-31), 3) := by decide +kernel
theorem dX8_saves_443 : decode cX8_saves 443 = .ok (.aload_n 0, 1) := by decide +kernel
theorem dX8_saves_444 : decode cX8_saves 444 = .ok (.invokevirtual 210, 3) := by decide +kernel
theorem dX8_saves_447 : decode cX8_saves 447 = .ok (.ireturn, 1) := by decide +kernel
theorem dX8_save_0 : decode cX8_save 0 = .ok (.aload_n 0, 1) := by decide +kernel
theorem dX8_save_1 : decode cX8_save 1 = .ok (.getfield 172, 3) := by decide +kernel
theorem dX8_save_4 : decode cX8_save 4 = .ok (.istore 4, 2) := by decide +kernel
theorem dX8_save_6 : decode cX8_save 6 = .ok (.aload_n 0, 1) := by decide +kernel
theorem dX8_save_7 : decode cX8_save 7 = .ok (.iconst 0, 1) := by decide +kernel
theorem dX8_save_8 : decode cX8_save 8 = .ok (.putfield 172, 3) := by decide +kernel
theorem dX8_save_11 : decode cX8_save 11 = .ok (.iload_n 1, 1) := by decide +kernel
theorem dX8_save_12 : decode cX8_save 12 = .ok (.iconst 1, 1) := by decide +kernel
theorem dX8_save_13 : decode cX8_save 13 = .ok (.bipush 9, 2) := by decide +kernel
theorem dX8_save_15 : decode cX8_save 15 = .ok (.invokestatic 69, 3) := by decide +kernel
theorem dX8_save_18 : decode cX8_save 18 = .ok (.ifCond .eq 11, 3) := by decide +kernel
theorem dX8_save_21 : decode cX8_save 21 = .ok (.iload_n 2, 1) := by decide +kernel
theorem dX8_save_22 : decode cX8_save 22 = .ok (.ifCond .ne 9, 3) := by decide +kernel
theorem dX8_save_25 : decode cX8_save 25 = .ok (.iload_n 3, 1) := by decide +kernel
theorem dX8_save_26 : decode cX8_save 26 = .ok (.ifCond .ne 5, 3) := by decide +kernel
theorem dX8_save_29 : decode cX8_save 29 = .ok (.iconst (-1), 1) := by decide +kernel
theorem dX8_save_30 : decode cX8_save 30 = .ok (.ireturn, 1) := by decide +kernel
theorem dX8_save_31 : decode cX8_save 31 = .ok (.aload_n 0, 1) := by decide +kernel
theorem dX8_save_32 : decode cX8_save 32 = .ok (.iload_n 1, 1) := by decide +kernel
theorem dX8_save_33 : decode cX8_save 33 = .ok (.iload_n 2, 1) := by decide +kernel
theorem dX8_save_34 : decode cX8_save 34 = .ok (.iload_n 3, 1) := by decide +kernel
theorem dX8_save_35 : decode cX8_save 35 = .ok (.iload 4, 2) := by decide +kernel
theorem dX8_save_37 : decode cX8_save 37 = .ok (.invokevirtual 213, 3) := by decide +kernel
theorem dX8_save_40 : decode cX8_save 40 = .ok (.istore 5, 2) := by decide +kernel
theorem dX8_save_42 : decode cX8_save 42 = .ok (.aload_n 0, 1) := by decide +kernel
theorem dX8_save_43 : decode cX8_save 43 = .ok (.getfield 134, 3) := by decide +kernel
theorem dX8_save_46 : decode cX8_save 46 = .ok (.ireturn, 1) := by decide +kernel
theorem dX8_readFile_0 : decode cX8_readFile 0 = .ok (.aload_n 0, 1) := by decide +kernel
theorem dX8_readFile_1 : decode cX8_readFile 1 = .ok (.invokevirtual 186, 3) := by decide +kernel
theorem dX8_readFile_4 : decode cX8_readFile 4 = .ok (.ifCond .eq 13, 3) := by decide +kernel
theorem dX8_readFile_7 : decode cX8_readFile 7 = .ok (.aload_n 0, 1) := by decide +kernel
theorem dX8_readFile_8 : decode cX8_readFile 8 = .ok (.iconst 1, 1) := by decide +kernel
theorem dX8_readFile_9 : decode cX8_readFile 9 = .ok (.iload_n 1, 1) := by decide +kernel
theorem dX8_readFile_10 : decode cX8_readFile 10 = .ok (.iload_n 2, 1) := by decide +kernel
theorem dX8_readFile_11 : decode cX8_readFile 11 = .ok (.invokevirtual 190, 3) := by decide +kernel
theorem dX8_readFile_14 : decode cX8_readFile 14 = .ok (.ifCond .ne 5, 3) := by decide +kernel
theorem dX8_readFile_17 : decode cX8_readFile 17 = .ok (.iconst 0, 1) := by decide +kernel
theorem dX8_readFile_18 : decode cX8_readFile 18 = .ok (.ireturn, 1) := by decide +kernel
theorem dX8_readFile_19 : decode cX8_readFile 19 = .ok (.aload_n 0, 1) := by decide +kernel
theorem dX8_readFile_20 : decode cX8_readFile 20 = .ok (.getfield 159, 3) := by decide +kernel
theorem dX8_readFile_23 : decode cX8_readFile 23 = .ok (.ifCond .ge 20, 3) := by decide +kernel
theorem dX8_readFile_26 : decode cX8_readFile 26 = .ok (.aload_n 0, 1) := by decide +kernel
theorem dX8_readFile_27 : decode cX8_readFile 27 = .ok (.bipush 62, 2) := by decide +kernel
theorem dX8_readFile_29 : decode cX8_readFile 29 = .ok (.iconst 0, 1) := by decide +kernel
theorem dX8_readFile_30 : decode cX8_readFile 30 = .ok (.iconst 0, 1) := by decide +kernel
theorem dX8_readFile_31 : decode cX8_readFile 31 = .ok (.invokevirtual 143, 3) := by decide +kernel
theorem dX8_readFile_34 : decode cX8_readFile 34 = .ok (.ifCond .ne 7, 3) := by decide +kernel
theorem dX8_readFile_37 : decode cX8_readFile 37 = .ok (.iconst 1, 1) := by decide +kernel
theorem dX8_readFile_38 : decode cX8_readFile 38 = .ok (.goto 4, 3) := by decide +kernel
theorem dX8_readFile_41 : decode cX8_readFile 41 = .ok (.iconst 0, 1) := by decide +kernel
theorem dX8_readFile_42 : decode cX8_readFile 42 = .ok (.ireturn, 1) := by decide +kernel
theorem dX8_readFile_43 : decode cX8_readFile 43 = .ok (.aload_n 0, 1) := by decide +kernel
theorem dX8_readFile_44 : decode cX8_readFile 44 = .ok (.getfield 46, 3) := by decide +kernel
theorem dX8_readFile_47 : decode cX8_readFile 47 = .ok (.aload_n 0, 1) := by decide +kernel
theorem dX8_readFile_48 : decode cX8_readFile 48 = .ok (.getfield 159, 3) := by decide +kernel
theorem dX8_readFile_51 : decode cX8_readFile 51 = .ok (.iaload, 1) := by decide +kernel
theorem dX8_readFile_52 : decode cX8_readFile 52 = .ok (.istore 4, 2) := by decide +kernel
theorem dX8_readFile_54 : decode cX8_readFile 54 = .ok (.aload_n 0, 1) := by decide +kernel
theorem dX8_readFile_55 : decode cX8_readFile 55 = .ok (.getfield 49, 3) := by decide +kernel
theorem dX8_readFile_58 : decode cX8_readFile 58 = .ok (.aload_n 0, 1) := by decide +kernel
theorem dX8_readFile_59 : decode cX8_readFile 59 = .ok (.getfield 159, 3) := by decide +kernel
theorem dX8_readFile_62 : decode cX8_readFile 62 = .ok (.iaload, 1) := by decide +kernel
theorem dX8_readFile_63 : decode cX8_readFile 63 = .ok (.istore 5, 2) := by decide +kernel
theorem dX8_readFile_65 : decode cX8_readFile 65 = .ok (.aload_n 0, 1) := by decide +kernel
theorem dX8_readFile_66 : decode cX8_readFile 66 = .ok (.getfield 43, 3) := by decide +kernel
theorem dX8_readFile_69 : decode cX8_readFile 69 = .ok (.aload_n 0, 1) := by decide +kernel
theorem dX8_readFile_70 : decode cX8_readFile 70 = .ok (.getfield 165, 3) := by decide +kernel
theorem dX8_readFile_73 : decode cX8_readFile 73 = .ok (.iconst 1, 1) := by decide +kernel
theorem dX8_readFile_74 : decode cX8_readFile 74 = .ok (.iadd, 1) := by decide +kernel
theorem dX8_readFile_75 : decode cX8_readFile 75 = .ok (.iaload, 1) := by decide +kernel
theorem dX8_readFile_76 : decode cX8_readFile 76 = .ok (.istore 6, 2) := by decide +kernel
theorem dX8_readFile_78 : decode cX8_readFile 78 = .ok (.aload_n 0, 1) := by decide +kernel
theorem dX8_readFile_79 : decode cX8_readFile 79 = .ok (.getfield 43, 3) := by decide +kernel
theorem dX8_readFile_82 : decode cX8_readFile 82 = .ok (.aload_n 0, 1) := by decide +kernel
theorem dX8_readFile_83 : decode cX8_readFile 83 = .ok (.getfield 165, 3) := by decide +kernel
theorem dX8_readFile_86 : decode cX8_readFile 86 = .ok (.iconst 2, 1) := by decide +kernel
theorem dX8_readFile_87 : decode cX8_readFile 87 = .ok (.iadd, 1) := by decide +kernel
theorem dX8_readFile_88 : decode cX8_readFile 88 = .ok (.iaload, 1) := by decide +kernel
theorem dX8_readFile_89 : decode cX8_readFile 89 = .ok (.istore 7, 2) := by decide +kernel
theorem dX8_readFile_91 : decode cX8_readFile 91 = .ok (.aload_n 0, 1) := by decide +kernel
theorem dX8_readFile_92 : decode cX8_readFile 92 = .ok (.iconst 0, 1) := by decide +kernel
theorem dX8_readFile_93 : decode cX8_readFile 93 = .ok (.putfield 180, 3) := by decide +kernel
theorem dX8_readFile_96 : decode cX8_readFile 96 = .ok (.iload 6, 2) := by decide +kernel
theorem dX8_readFile_98 : decode cX8_readFile 98 = .ok (.iload 7, 2) := by decide +kernel
theorem dX8_readFile_100 : decode cX8_readFile 100 = .ok (.invokestatic 168, 3) := by decide +kernel
theorem dX8_readFile_103 : decode cX8_readFile 103 = .ok (.ifCond .eq 12, 3) := by decide +kernel
theorem dX8_readFile_106 : decode cX8_readFile 106 = .ok (.aload_n 0, 1) := by decide +kernel
theorem dX8_readFile_107 : decode cX8_readFile 107 = .ok (.getfield 180, 3) := by decide +kernel
theorem dX8_readFile_110 : decode cX8_readFile 110 = .ok (.bipush 40, 2) := by decide +kernel
theorem dX8_readFile_112 : decode cX8_readFile 112 = .ok (.if_icmp .ne 22, 3) := by decide +kernel
theorem dX8_readFile_115 : decode cX8_readFile 115 = .ok (.aload_n 0, 1) := by decide +kernel
theorem dX8_readFile_116 : decode cX8_readFile 116 = .ok (.bipush 66, 2) := by decide +kernel
theorem dX8_readFile_118 : decode cX8_readFile 118 = .ok (.iload 4, 2) := by decide +kernel
theorem dX8_readFile_120 : decode cX8_readFile 120 = .ok (.iload 5, 2) := by decide +kernel
theorem dX8_readFile_122 : decode cX8_readFile 122 = .ok (.invokevirtual 143, 3) := by decide +kernel
theorem dX8_readFile_125 : decode cX8_readFile 125 = .ok (.ifCond .ne 7, 3) := by decide +kernel
theorem dX8_readFile_128 : decode cX8_readFile 128 = .ok (.iconst 1, 1) := by decide +kernel
theorem dX8_readFile_129 : decode cX8_readFile 129 = .ok (.goto 4, 3) := by decide +kernel
theorem dX8_readFile_132 : decode cX8_readFile 132 = .ok (.iconst 0, 1) := by decide +kernel
theorem dX8_readFile_133 : decode cX8_readFile 133 = .ok (.ireturn, 1) := by decide +kernel
theorem dX8_readFile_134 : decode cX8_readFile 134 = .ok (.aload_n 0, 1) := by decide +kernel
theorem dX8_readFile_135 : decode cX8_readFile 135 = .ok (.iload 6, 2) := by decide +kernel
theorem dX8_readFile_137 : decode cX8_readFile 137 = .ok (.iload 7, 2) := by decide +kernel
theorem dX8_readFile_139 : decode cX8_readFile 139 = .ok (.invokevirtual 147, 3) := by decide +kernel
theorem dX8_readFile_142 : decode cX8_readFile 142 = .ok (.istore 8, 2) := by decide +kernel
theorem dX8_readFile_144 : decode cX8_readFile 144 = .ok (.iload 8, 2) := by decide +kernel
theorem dX8_readFile_146 : decode cX8_readFile 146 = .ok (.ifCond .le 22, 3) := by decide +kernel
theorem dX8_readFile_149 : decode cX8_readFile 149 = .ok (.aload_n 0, 1) := by decide +kernel
theorem dX8_readFile_150 : decode cX8_readFile 150 = .ok (.iload 8, 2) := by decide +kernel
theorem dX8_readFile_152 : decode cX8_readFile 152 = .ok (.iload 6, 2) := by decide +kernel
theorem dX8_readFile_154 : decode cX8_readFile 154 = .ok (.iload 7, 2) := by decide +kernel
theorem dX8_readFile_156 : decode cX8_readFile 156 = .ok (.invokevirtual 143, 3) := by decide +kernel
theorem dX8_readFile_159 : decode cX8_readFile 159 = .ok (.ifCond .ne 7, 3) := by decide +kernel
theorem dX8_readFile_162 : decode cX8_readFile 162 = .ok (.iconst 1, 1) := by decide +kernel
theorem dX8_readFile_163 : decode cX8_readFile 163 = .ok (.goto 4, 3) := by decide +kernel
theorem dX8_readFile_166 : decode cX8_readFile 166 = .ok (.iconst 0, 1) := by decide +kernel
theorem dX8_readFile_167 : decode cX8_readFile 167 = .ok (.ireturn, 1) := by decide +kernel
theorem dX8_readFile_168 : decode cX8_readFile 168 = .ok (.aload_n 0, 1) := by decide +kernel
theorem dX8_readFile_169 : decode cX8_readFile 169 = .ok (.getfield 52, 3) := by decide +kernel
theorem dX8_readFile_172 : decode cX8_readFile 172 = .ok (.aload_n 0, 1) := by decide +kernel
theorem dX8_readFile_173 : decode cX8_readFile 173 = .ok (.getfield 180, 3) := by decide +kernel
theorem dX8_readFile_176 : decode cX8_readFile 176 = .ok (.iload 6, 2) := by decide +kernel
theorem dX8_readFile_178 : decode cX8_readFile 178 = .ok (.iastore, 1) := by decide +kernel
theorem dX8_readFile_179 : decode cX8_readFile 179 = .ok (.aload_n 0, 1) := by decide +kernel
theorem dX8_readFile_180 : decode cX8_readFile 180 = .ok (.getfield 55, 3) := by decide +kernel
theorem dX8_readFile_183 : decode cX8_readFile 183 = .ok (.aload_n 0, 1) := by decide +kernel
theorem dX8_readFile_184 : decode cX8_readFile 184 = .ok (.getfield 180, 3) := by decide +kernel
theorem dX8_readFile_187 : decode cX8_readFile 187 = .ok (.iload 7, 2) := by decide +kernel
theorem dX8_readFile_189 : decode cX8_readFile 189 = .ok (.iastore, 1) := by decide +kernel
theorem dX8_readFile_190 : decode cX8_readFile 190 = .ok (.aload_n 0, 1) := by decide +kernel
theorem dX8_readFile_191 : decode cX8_readFile 191 = .ok (.dup, 1) := by decide +kernel
theorem dX8_readFile_192 : decode cX8_readFile 192 = .ok (.getfield 180, 3) := by decide +kernel
theorem dX8_readFile_195 : decode cX8_readFile 195 = .ok (.iconst 1, 1) := by decide +kernel
theorem dX8_readFile_196 : decode cX8_readFile 196 = .ok (.iadd, 1) := by decide +kernel
theorem dX8_readFile_197 : decode cX8_readFile 197 = .ok (.putfield 180, 3) := by decide +kernel
theorem dX8_readFile_200 : decode cX8_readFile 200 = .ok (.aload_n 0, 1) := by decide +kernel
theorem dX8_readFile_201 : decode cX8_readFile 201 = .ok (.getfield 37, 3) := by decide +kernel
theorem dX8_readFile_204 : decode cX8_readFile 204 = .ok (.iconst 0, 1) := by decide +kernel
theorem dX8_readFile_205 : decode cX8_readFile 205 = .ok (.iaload, 1) := by decide +kernel
theorem dX8_readFile_206 : decode cX8_readFile 206 = .ok (.ifCond .ne 7, 3) := by decide +kernel
theorem dX8_readFile_209 : decode cX8_readFile 209 = .ok (.iconst 1, 1) := by decide +kernel
theorem dX8_readFile_210 : decode cX8_readFile 210 = .ok (.goto 4, 3) := by decide +kernel
theorem dX8_readFile_213 : decode cX8_readFile 213 = .ok (.iconst 0, 1) := by decide +kernel
theorem dX8_readFile_214 : decode cX8_readFile 214 = .ok (.istore 9, 2) := by decide +kernel
theorem dX8_readFile_216 : decode cX8_readFile 216 = .ok (.iload 9, 2) := by decide +kernel
theorem dX8_readFile_218 : decode cX8_readFile 218 = .ok (.ifCond .eq 33, 3) := by decide +kernel
theorem dX8_readFile_221 : decode cX8_readFile 221 = .ok (.aload_n 0, 1) := by decide +kernel
theorem dX8_readFile_222 : decode cX8_readFile 222 = .ok (.getfield 37, 3) := by decide +kernel
theorem dX8_readFile_225 : decode cX8_readFile 225 = .ok (.iconst 1, 1) := by decide +kernel
theorem dX8_readFile_226 : decode cX8_readFile 226 = .ok (.iaload, 1) := by decide +kernel
theorem dX8_readFile_227 : decode cX8_readFile 227 = .ok (.bipush 62, 2) := by decide +kernel
theorem dX8_readFile_229 : decode cX8_readFile 229 = .ok (.if_icmp .le 22, 3) := by decide +kernel
theorem dX8_readFile_232 : decode cX8_readFile 232 = .ok (.aload_n 0, 1) := by decide +kernel
theorem dX8_readFile_233 : decode cX8_readFile 233 = .ok (.bipush 66, 2) := by decide +kernel
theorem dX8_readFile_235 : decode cX8_readFile 235 = .ok (.iload 6, 2) := by decide +kernel
theorem dX8_readFile_237 : decode cX8_readFile 237 = .ok (.iload 7, 2) := by decide +kernel
theorem dX8_readFile_239 : decode cX8_readFile 239 = .ok (.invokevirtual 143, 3) := by decide +kernel
theorem dX8_readFile_242 : decode cX8_readFile 242 = .ok (.ifCond .ne 7, 3) := by decide +kernel
theorem dX8_readFile_245 : decode cX8_readFile 245 = .ok (.iconst 1, 1) := by decide +kernel
theorem dX8_readFile_246 : decode cX8_readFile 246 = .ok (.goto 4, 3) := by decide +kernel
theorem dX8_readFile_249 : decode cX8_readFile 249 = .ok (.iconst 0, 1) := by decide +kernel
theorem dX8_readFile_250 : decode cX8_readFile 250 = .ok (.ireturn, 1) := by decide +kernel
theorem dX8_readFile_251 : decode cX8_readFile 251 = .ok (.iconst 0, 1) := by decide +kernel
theorem dX8_readFile_252 : decode cX8_readFile 252 = .ok (.istore 10, 2) := by decide +kernel
theorem dX8_readFile_254 : decode cX8_readFile 254 = .ok (.iload 10, 2) := by decide +kernel
theorem dX8_readFile_256 : decode cX8_readFile 256 = .ok (.iload 9, 2) := by decide +kernel
theorem dX8_readFile_258 : decode cX8_readFile 258 = .ok (.ifCond .eq 12, 3) := by decide +kernel
theorem dX8_readFile_261 : decode cX8_readFile 261 = .ok (.aload_n 0, 1) := by decide +kernel
theorem dX8_readFile_262 : decode cX8_readFile 262 = .ok (.getfield 37, 3) := by decide +kernel
theorem dX8_readFile_265 : decode cX8_readFile 265 = .ok (.iconst 1, 1) := by decide +kernel
theorem dX8_readFile_266 : decode cX8_readFile 266 = .ok (.iaload, 1) := by decide +kernel
theorem dX8_readFile_267 : decode cX8_readFile 267 = .ok (.goto 5, 3) := by decide +kernel
theorem dX8_readFile_270 : decode cX8_readFile 270 = .ok (.bipush 62, 2) := by decide +kernel
theorem dX8_readFile_272 : decode cX8_readFile 272 = .ok (.if_icmp .ge 26, 3) := by decide +kernel
theorem dX8_readFile_275 : decode cX8_readFile 275 = .ok (.iload_n 3, 1) := by decide +kernel
theorem dX8_readFile_276 : decode cX8_readFile 276 = .ok (.ifCond .eq 22, 3) := by decide +kernel
theorem dX8_readFile_279 : decode cX8_readFile 279 = .ok (.aload_n 0, 1) := by decide +kernel
theorem dX8_readFile_280 : decode cX8_readFile 280 = .ok (.aload_n 0, 1) := by decide +kernel
theorem dX8_readFile_281 : decode cX8_readFile 281 = .ok (.getfield 37, 3) := by decide +kernel
theorem dX8_readFile_284 : decode cX8_readFile 284 = .ok (.iconst 2, 1) := by decide +kernel
theorem dX8_readFile_285 : decode cX8_readFile 285 = .ok (.iload 10, 2) := by decide +kernel
theorem dX8_readFile_287 : decode cX8_readFile 287 = .ok (.iadd, 1) := by decide +kernel
theorem dX8_readFile_288 : decode cX8_readFile 288 = .ok (.iaload, 1) := by decide +kernel
theorem dX8_readFile_289 : decode cX8_readFile 289 = .ok (.invokevirtual 217, 3) := by decide +kernel
theorem dX8_readFile_292 : decode cX8_readFile 292 = .ok (.iinc 10 1, 3) := by decide +kernel
theorem dX8_readFile_295 : decode cX8_readFile 295 = .ok (.goto (-41), 3) := by decide +kernel
theorem dX8_readFile_298 : decode cX8_readFile 298 = .ok (.iload 9, 2) := by decide +kernel
theorem dX8_readFile_300 : decode cX8_readFile 300 = .ok (.ifCond .eq 5, 3) := by decide +kernel
theorem dX8_readFile_303 : decode cX8_readFile 303 = .ok (.iconst 1, 1) := by decide +kernel
theorem dX8_readFile_304 : decode cX8_readFile 304 = .ok (.ireturn, 1) := by decide +kernel
theorem dX8_readFile_305 : decode cX8_readFile 305 = .ok (.iload 6, 2) := by decide +kernel
theorem dX8_readFile_307 : decode cX8_readFile 307 = .ok (.istore 4, 2) := by decide +kernel
theorem dX8_readFile_309 : decode cX8_readFile 309 = .ok (.iload 7, 2) := by decide +kernel
theorem dX8_readFile_311 : decode cX8_readFile 311 = .ok (.istore 5, 2) := by decide +kernel
theorem dX8_readFile_313 : decode cX8_readFile 313 = .ok (.aload_n 0, 1) := by decide +kernel
theorem dX8_readFile_314 : decode cX8_readFile 314 = .ok (.getfield 37, 3) := by decide +kernel
theorem dX8_readFile_317 : decode cX8_readFile 317 = .ok (.iconst 0, 1) := by decide +kernel
theorem dX8_readFile_318 : decode cX8_readFile 318 = .ok (.iaload, 1) := by decide +kernel
theorem dX8_readFile_319 : decode cX8_readFile 319 = .ok (.istore 6, 2) := by decide +kernel
theorem dX8_readFile_321 : decode cX8_readFile 321 = .ok (.aload_n 0, 1) := by decide +kernel
theorem dX8_readFile_322 : decode cX8_readFile 322 = .ok (.getfield 37, 3) := by decide +kernel
theorem dX8_readFile_325 : decode cX8_readFile 325 = .ok (.iconst 1, 1) := by decide +kernel
theorem dX8_readFile_326 : decode cX8_readFile 326 = .ok (.iaload, 1) := by decide +kernel
theorem dX8_readFile_327 : decode cX8_readFile 327 = .ok (.istore 7, 2) := by decide +kernel
theorem dX8_readFile_329 : decode cX8_readFile 329 = .ok (.goto (-233), 3) := by decide +kernel
theorem dX8_tell_0 : decode cX8_tell 0 = .ok (.aload_n 0, 1) := by decide +kernel
theorem dX8_tell_1 : decode cX8_tell 1 = .ok (.getfield 31, 3) := by decide +kernel
theorem dX8_tell_4 : decode cX8_tell 4 = .ok (.aload_n 0, 1) := by decide +kernel
theorem dX8_tell_5 : decode cX8_tell 5 = .ok (.getfield 220, 3) := by decide +kernel
theorem dX8_tell_8 : decode cX8_tell 8 = .ok (.iload_n 1, 1) := by decide +kernel
theorem dX8_tell_9 : decode cX8_tell 9 = .ok (.iastore, 1) := by decide +kernel
theorem dX8_tell_10 : decode cX8_tell 10 = .ok (.aload_n 0, 1) := by decide +kernel
theorem dX8_tell_11 : decode cX8_tell 11 = .ok (.dup, 1) := by decide +kernel
theorem dX8_tell_12 : decode cX8_tell 12 = .ok (.getfield 220, 3) := by decide +kernel
theorem dX8_tell_15 : decode cX8_tell 15 = .ok (.iconst 1, 1) := by decide +kernel
theorem dX8_tell_16 : decode cX8_tell 16 = .ok (.iadd, 1) := by decide +kernel
theorem dX8_tell_17 : decode cX8_tell 17 = .ok (.putfield 220, 3) := by decide +kernel
theorem dX8_tell_20 : decode cX8_tell 20 = .ok (.return_, 1) := by decide +kernel
theorem dX8_load_0 : decode cX8_load 0 = .ok (.aload_n 0, 1) := by decide +kernel
end
section
theorem dX8_load_1 : decode cX8_load 1 = .ok (.iconst 0, 1) := by decide +kernel
theorem dX8_load_2 : decode cX8_load 2 = .ok (.putfield 220, 3) := by decide +kernel
theorem dX8_load_5 : decode cX8_load 5 = .ok (.aload_n 0, 1) := by decide +kernel
theorem dX8_load_6 : decode cX8_load 6 = .ok (.iload_n 1, 1) := by decide +kernel
theorem dX8_load_7 : decode cX8_load 7 = .ok (.iload_n 2, 1) := by decide +kernel
theorem dX8_load_8 : decode cX8_load 8 = .ok (.iconst 1, 1) := by decide +kernel
theorem dX8_load_9 : decode cX8_load 9 = .ok (.invokevirtual 223, 3) := by decide +kernel
theorem dX8_load_12 : decode cX8_load 12 = .ok (.ifCond .eq 8, 3) := by decide +kernel
theorem dX8_load_15 : decode cX8_load 15 = .ok (.aload_n 0, 1) := by decide +kernel
theorem dX8_load_16 : decode cX8_load 16 = .ok (.getfield 220, 3) := by decide +kernel
theorem dX8_load_19 : decode cX8_load 19 = .ok (.ireturn, 1) := by decide +kernel
theorem dX8_load_20 : decode cX8_load 20 = .ok (.aload_n 0, 1) := by decide +kernel
theorem dX8_load_21 : decode cX8_load 21 = .ok (.iconst 0, 1) := by decide +kernel
theorem dX8_load_22 : decode cX8_load 22 = .ok (.putfield 220, 3) := by decide +kernel
theorem dX8_load_25 : decode cX8_load 25 = .ok (.iconst (-1), 1) := by decide +kernel
theorem dX8_load_26 : decode cX8_load 26 = .ok (.ireturn, 1) := by decide +kernel
theorem dX8_scratches_0 : decode cX8_scratches 0 = .ok (.aload_n 0, 1) := by decide +kernel
theorem dX8_scratches_1 : decode cX8_scratches 1 = .ok (.iload_n 1, 1) := by decide +kernel
theorem dX8_scratches_2 : decode cX8_scratches 2 = .ok (.iload_n 2, 1) := by decide +kernel
theorem dX8_scratches_3 : decode cX8_scratches 3 = .ok (.iconst 0, 1) := by decide +kernel
theorem dX8_scratches_4 : decode cX8_scratches 4 = .ok (.invokevirtual 223, 3) := by decide +kernel
theorem dX8_scratches_7 : decode cX8_scratches 7 = .ok (.ifCond .ne 5, 3) := by decide +kernel
theorem dX8_scratches_10 : decode cX8_scratches 10 = .ok (.iconst 0, 1) := by decide +kernel
theorem dX8_scratches_11 : decode cX8_scratches 11 = .ok (.ireturn, 1) := by decide +kernel
theorem dX8_scratches_12 : decode cX8_scratches 12 = .ok (.iconst 0, 1) := by decide +kernel
theorem dX8_scratches_13 : decode cX8_scratches 13 = .ok (.istore_n 3, 1) := by decide +kernel
theorem dX8_scratches_14 : decode cX8_scratches 14 = .ok (.iload_n 3, 1) := by decide +kernel
theorem dX8_scratches_15 : decode cX8_scratches 15 = .ok (.bipush 12, 2) := by decide +kernel
theorem dX8_scratches_17 : decode cX8_scratches 17 = .ok (.if_icmp .ge 21, 3) := by decide +kernel
theorem dX8_scratches_20 : decode cX8_scratches 20 = .ok (.aload_n 0, 1) := by decide +kernel
theorem dX8_scratches_21 : decode cX8_scratches 21 = .ok (.getfield 43, 3) := by decide +kernel
theorem dX8_scratches_24 : decode cX8_scratches 24 = .ok (.aload_n 0, 1) := by decide +kernel
theorem dX8_scratches_25 : decode cX8_scratches 25 = .ok (.getfield 165, 3) := by decide +kernel
theorem dX8_scratches_28 : decode cX8_scratches 28 = .ok (.iload_n 3, 1) := by decide +kernel
theorem dX8_scratches_29 : decode cX8_scratches 29 = .ok (.iadd, 1) := by decide +kernel
theorem dX8_scratches_30 : decode cX8_scratches 30 = .ok (.iconst 0, 1) := by decide +kernel
theorem dX8_scratches_31 : decode cX8_scratches 31 = .ok (.iastore, 1) := by decide +kernel
theorem dX8_scratches_32 : decode cX8_scratches 32 = .ok (.iinc 3 1, 3) := by decide +kernel
theorem dX8_scratches_35 : decode cX8_scratches 35 = .ok (.goto (-21), 3) := by decide +kernel
theorem dX8_scratches_38 : decode cX8_scratches 38 = .ok (.aload_n 0, 1) := by decide +kernel
theorem dX8_scratches_39 : decode cX8_scratches 39 = .ok (.aload_n 0, 1) := by decide +kernel
theorem dX8_scratches_40 : decode cX8_scratches 40 = .ok (.getfield 159, 3) := by decide +kernel
theorem dX8_scratches_43 : decode cX8_scratches 43 = .ok (.invokevirtual 207, 3) := by decide +kernel
theorem dX8_scratches_46 : decode cX8_scratches 46 = .ok (.ifCond .ne 5, 3) := by decide +kernel
theorem dX8_scratches_49 : decode cX8_scratches 49 = .ok (.iconst 0, 1) := by decide +kernel
theorem dX8_scratches_50 : decode cX8_scratches 50 = .ok (.ireturn, 1) := by decide +kernel
theorem dX8_scratches_51 : decode cX8_scratches 51 = .ok (.iconst 0, 1) := by decide +kernel
theorem dX8_scratches_52 : decode cX8_scratches 52 = .ok (.istore_n 3, 1) := by decide +kernel
theorem dX8_scratches_53 : decode cX8_scratches 53 = .ok (.iload_n 3, 1) := by decide +kernel
theorem dX8_scratches_54 : decode cX8_scratches 54 = .ok (.aload_n 0, 1) := by decide +kernel
theorem dX8_scratches_55 : decode cX8_scratches 55 = .ok (.getfield 180, 3) := by decide +kernel
theorem dX8_scratches_58 : decode cX8_scratches 58 = .ok (.if_icmp .ge 37, 3) := by decide +kernel
theorem dX8_scratches_61 : decode cX8_scratches 61 = .ok (.aload_n 0, 1) := by decide +kernel
theorem dX8_scratches_62 : decode cX8_scratches 62 = .ok (.getfield 52, 3) := by decide +kernel
theorem dX8_scratches_65 : decode cX8_scratches 65 = .ok (.iload_n 3, 1) := by decide +kernel
theorem dX8_scratches_66 : decode cX8_scratches 66 = .ok (.iaload, 1) := by decide +kernel
theorem dX8_scratches_67 : decode cX8_scratches 67 = .ok (.bipush 9, 2) := by decide +kernel
theorem dX8_scratches_69 : decode cX8_scratches 69 = .ok (.if_icmp .eq 20, 3) := by decide +kernel
theorem dX8_scratches_72 : decode cX8_scratches 72 = .ok (.aload_n 0, 1) := by decide +kernel
theorem dX8_scratches_73 : decode cX8_scratches 73 = .ok (.aload_n 0, 1) := by decide +kernel
theorem dX8_scratches_74 : decode cX8_scratches 74 = .ok (.getfield 52, 3) := by decide +kernel
theorem dX8_scratches_77 : decode cX8_scratches 77 = .ok (.iload_n 3, 1) := by decide +kernel
theorem dX8_scratches_78 : decode cX8_scratches 78 = .ok (.iaload, 1) := by decide +kernel
theorem dX8_scratches_79 : decode cX8_scratches 79 = .ok (.aload_n 0, 1) := by decide +kernel
theorem dX8_scratches_80 : decode cX8_scratches 80 = .ok (.getfield 55, 3) := by decide +kernel
theorem dX8_scratches_83 : decode cX8_scratches 83 = .ok (.iload_n 3, 1) := by decide +kernel
theorem dX8_scratches_84 : decode cX8_scratches 84 = .ok (.iaload, 1) := by decide +kernel
theorem dX8_scratches_85 : decode cX8_scratches 85 = .ok (.iconst 1, 1) := by decide +kernel
theorem dX8_scratches_86 : decode cX8_scratches 86 = .ok (.invokevirtual 176, 3) := by decide +kernel
theorem dX8_scratches_89 : decode cX8_scratches 89 = .ok (.iinc 3 1, 3) := by decide +kernel
theorem dX8_scratches_92 : decode cX8_scratches 92 = .ok (.goto (-39), 3) := by decide +kernel
theorem dX8_scratches_95 : decode cX8_scratches 95 = .ok (.aload_n 0, 1) := by decide +kernel
theorem dX8_scratches_96 : decode cX8_scratches 96 = .ok (.invokevirtual 210, 3) := by decide +kernel
theorem dX8_scratches_99 : decode cX8_scratches 99 = .ok (.ifCond .ne 5, 3) := by decide +kernel
theorem dX8_scratches_102 : decode cX8_scratches 102 = .ok (.iconst 0, 1) := by decide +kernel
theorem dX8_scratches_103 : decode cX8_scratches 103 = .ok (.ireturn, 1) := by decide +kernel
theorem dX8_scratches_104 : decode cX8_scratches 104 = .ok (.aload_n 0, 1) := by decide +kernel
theorem dX8_scratches_105 : decode cX8_scratches 105 = .ok (.iconst 1, 1) := by decide +kernel
theorem dX8_scratches_106 : decode cX8_scratches 106 = .ok (.aload_n 0, 1) := by decide +kernel
theorem dX8_scratches_107 : decode cX8_scratches 107 = .ok (.getfield 180, 3) := by decide +kernel
theorem dX8_scratches_110 : decode cX8_scratches 110 = .ok (.iconst 0, 1) := by decide +kernel
theorem dX8_scratches_111 : decode cX8_scratches 111 = .ok (.invokevirtual 143, 3) := by decide +kernel
theorem dX8_scratches_114 : decode cX8_scratches 114 = .ok (.istore_n 3, 1) := by decide +kernel
theorem dX8_scratches_115 : decode cX8_scratches 115 = .ok (.iconst 1, 1) := by decide +kernel
theorem dX8_scratches_116 : decode cX8_scratches 116 = .ok (.ireturn, 1) := by decide +kernel
theorem dX8_scratch_0 : decode cX8_scratch 0 = .ok (.aload_n 0, 1) := by decide +kernel
theorem dX8_scratch_1 : decode cX8_scratch 1 = .ok (.iload_n 1, 1) := by decide +kernel
theorem dX8_scratch_2 : decode cX8_scratch 2 = .ok (.iload_n 2, 1) := by decide +kernel
theorem dX8_scratch_3 : decode cX8_scratch 3 = .ok (.invokevirtual 227, 3) := by decide +kernel
theorem dX8_scratch_6 : decode cX8_scratch 6 = .ok (.istore_n 3, 1) := by decide +kernel
theorem dX8_scratch_7 : decode cX8_scratch 7 = .ok (.aload_n 0, 1) := by decide +kernel
theorem dX8_scratch_8 : decode cX8_scratch 8 = .ok (.getfield 134, 3) := by decide +kernel
theorem dX8_scratch_11 : decode cX8_scratch 11 = .ok (.ireturn, 1) := by decide +kernel
theorem dX8_list_0 : decode cX8_list 0 = .ok (.aload_n 0, 1) := by decide +kernel
theorem dX8_list_1 : decode cX8_list 1 = .ok (.iconst 0, 1) := by decide +kernel
theorem dX8_list_2 : decode cX8_list 2 = .ok (.putfield 220, 3) := by decide +kernel
theorem dX8_list_5 : decode cX8_list 5 = .ok (.aload_n 0, 1) := by decide +kernel
theorem dX8_list_6 : decode cX8_list 6 = .ok (.invokevirtual 186, 3) := by decide +kernel
theorem dX8_list_9 : decode cX8_list 9 = .ok (.ifCond .eq 13, 3) := by decide +kernel
theorem dX8_list_12 : decode cX8_list 12 = .ok (.aload_n 0, 1) := by decide +kernel
theorem dX8_list_13 : decode cX8_list 13 = .ok (.iconst 0, 1) := by decide +kernel
theorem dX8_list_14 : decode cX8_list 14 = .ok (.iconst 0, 1) := by decide +kernel
theorem dX8_list_15 : decode cX8_list 15 = .ok (.iconst 0, 1) := by decide +kernel
theorem dX8_list_16 : decode cX8_list 16 = .ok (.invokevirtual 190, 3) := by decide +kernel
theorem dX8_list_19 : decode cX8_list 19 = .ok (.ifCond .ne 5, 3) := by decide +kernel
theorem dX8_list_22 : decode cX8_list 22 = .ok (.iconst (-1), 1) := by decide +kernel
theorem dX8_list_23 : decode cX8_list 23 = .ok (.ireturn, 1) := by decide +kernel
theorem dX8_list_24 : decode cX8_list 24 = .ok (.iconst 0, 1) := by decide +kernel
theorem dX8_list_25 : decode cX8_list 25 = .ok (.istore_n 1, 1) := by decide +kernel
theorem dX8_list_26 : decode cX8_list 26 = .ok (.iload_n 1, 1) := by decide +kernel
theorem dX8_list_27 : decode cX8_list 27 = .ok (.aload_n 0, 1) := by decide +kernel
theorem dX8_list_28 : decode cX8_list 28 = .ok (.getfield 156, 3) := by decide +kernel
theorem dX8_list_31 : decode cX8_list 31 = .ok (.if_icmp .ge 95, 3) := by decide +kernel
theorem dX8_list_34 : decode cX8_list 34 = .ok (.bipush 64, 2) := by decide +kernel
theorem dX8_list_36 : decode cX8_list 36 = .ok (.iload_n 1, 1) := by decide +kernel
theorem dX8_list_37 : decode cX8_list 37 = .ok (.imul, 1) := by decide +kernel
theorem dX8_list_38 : decode cX8_list 38 = .ok (.iconst 2, 1) := by decide +kernel
theorem dX8_list_39 : decode cX8_list 39 = .ok (.iadd, 1) := by decide +kernel
theorem dX8_list_40 : decode cX8_list 40 = .ok (.istore_n 2, 1) := by decide +kernel
theorem dX8_list_41 : decode cX8_list 41 = .ok (.iload_n 2, 1) := by decide +kernel
theorem dX8_list_42 : decode cX8_list 42 = .ok (.bipush 64, 2) := by decide +kernel
theorem dX8_list_44 : decode cX8_list 44 = .ok (.iload_n 1, 1) := by decide +kernel
theorem dX8_list_45 : decode cX8_list 45 = .ok (.imul, 1) := by decide +kernel
theorem dX8_list_46 : decode cX8_list 46 = .ok (.bipush 62, 2) := by decide +kernel
theorem dX8_list_48 : decode cX8_list 48 = .ok (.iadd, 1) := by decide +kernel
theorem dX8_list_49 : decode cX8_list 49 = .ok (.if_icmp .ge 71, 3) := by decide +kernel
theorem dX8_list_52 : decode cX8_list 52 = .ok (.aload_n 0, 1) := by decide +kernel
theorem dX8_list_53 : decode cX8_list 53 = .ok (.getfield 43, 3) := by decide +kernel
theorem dX8_list_56 : decode cX8_list 56 = .ok (.iload_n 2, 1) := by decide +kernel
theorem dX8_list_57 : decode cX8_list 57 = .ok (.iaload, 1) := by decide +kernel
theorem dX8_list_58 : decode cX8_list 58 = .ok (.ifCond .ne 6, 3) := by decide +kernel
theorem dX8_list_61 : decode cX8_list 61 = .ok (.goto 53, 3) := by decide +kernel
theorem dX8_list_64 : decode cX8_list 64 = .ok (.aload_n 0, 1) := by decide +kernel
theorem dX8_list_65 : decode cX8_list 65 = .ok (.aload_n 0, 1) := by decide +kernel
theorem dX8_list_66 : decode cX8_list 66 = .ok (.getfield 43, 3) := by decide +kernel
theorem dX8_list_69 : decode cX8_list 69 = .ok (.iload_n 2, 1) := by decide +kernel
theorem dX8_list_70 : decode cX8_list 70 = .ok (.iaload, 1) := by decide +kernel
theorem dX8_list_71 : decode cX8_list 71 = .ok (.invokevirtual 217, 3) := by decide +kernel
theorem dX8_list_74 : decode cX8_list 74 = .ok (.aload_n 0, 1) := by decide +kernel
theorem dX8_list_75 : decode cX8_list 75 = .ok (.aload_n 0, 1) := by decide +kernel
theorem dX8_list_76 : decode cX8_list 76 = .ok (.getfield 43, 3) := by decide +kernel
theorem dX8_list_79 : decode cX8_list 79 = .ok (.iload_n 2, 1) := by decide +kernel
theorem dX8_list_80 : decode cX8_list 80 = .ok (.iconst 3, 1) := by decide +kernel
theorem dX8_list_81 : decode cX8_list 81 = .ok (.iadd, 1) := by decide +kernel
theorem dX8_list_82 : decode cX8_list 82 = .ok (.iaload, 1) := by decide +kernel
theorem dX8_list_83 : decode cX8_list 83 = .ok (.invokevirtual 217, 3) := by decide +kernel
theorem dX8_list_86 : decode cX8_list 86 = .ok (.iconst 0, 1) := by decide +kernel
theorem dX8_list_87 : decode cX8_list 87 = .ok (.istore_n 3, 1) := by decide +kernel
theorem dX8_list_88 : decode cX8_list 88 = .ok (.iload_n 3, 1) := by decide +kernel
theorem dX8_list_89 : decode cX8_list 89 = .ok (.bipush 8, 2) := by decide +kernel
theorem dX8_list_91 : decode cX8_list 91 = .ok (.if_icmp .ge 23, 3) := by decide +kernel
theorem dX8_list_94 : decode cX8_list 94 = .ok (.aload_n 0, 1) := by decide +kernel
theorem dX8_list_95 : decode cX8_list 95 = .ok (.aload_n 0, 1) := by decide +kernel
theorem dX8_list_96 : decode cX8_list 96 = .ok (.getfield 43, 3) := by decide +kernel
theorem dX8_list_99 : decode cX8_list 99 = .ok (.iload_n 2, 1) := by decide +kernel
theorem dX8_list_100 : decode cX8_list 100 = .ok (.iconst 4, 1) := by decide +kernel
theorem dX8_list_101 : decode cX8_list 101 = .ok (.iadd, 1) := by decide +kernel
theorem dX8_list_102 : decode cX8_list 102 = .ok (.iload_n 3, 1) := by decide +kernel
theorem dX8_list_103 : decode cX8_list 103 = .ok (.iadd, 1) := by decide +kernel
theorem dX8_list_104 : decode cX8_list 104 = .ok (.iaload, 1) := by decide +kernel
theorem dX8_list_105 : decode cX8_list 105 = .ok (.invokevirtual 217, 3) := by decide +kernel
theorem dX8_list_108 : decode cX8_list 108 = .ok (.iinc 3 1, 3) := by decide +kernel
theorem dX8_list_111 : decode cX8_list 111 = .ok (.goto (-23), 3) := by decide +kernel
theorem dX8_list_114 : decode cX8_list 114 = .ok (.iinc 2 12, 3) := by decide +kernel
theorem dX8_list_117 : decode cX8_list 117 = .ok (.goto (-76), 3) := by decide +kernel
theorem dX8_list_120 : decode cX8_list 120 = .ok (.iinc 1 1, 3) := by decide +kernel
theorem dX8_list_123 : decode cX8_list 123 = .ok (.goto (-97), 3) := by decide +kernel
theorem dX8_list_126 : decode cX8_list 126 = .ok (.aload_n 0, 1) := by decide +kernel
theorem dX8_list_127 : decode cX8_list 127 = .ok (.getfield 220, 3) := by decide +kernel
theorem dX8_list_130 : decode cX8_list 130 = .ok (.ireturn, 1) := by decide +kernel
theorem dX8_info_0 : decode cX8_info 0 = .ok (.aload_n 0, 1) := by decide +kernel
theorem dX8_info_1 : decode cX8_info 1 = .ok (.iconst 0, 1) := by decide +kernel
theorem dX8_info_2 : decode cX8_info 2 = .ok (.putfield 220, 3) := by decide +kernel
theorem dX8_info_5 : decode cX8_info 5 = .ok (.aload_n 0, 1) := by decide +kernel
theorem dX8_info_6 : decode cX8_info 6 = .ok (.invokevirtual 186, 3) := by decide +kernel
theorem dX8_info_9 : decode cX8_info 9 = .ok (.ifCond .ne 5, 3) := by decide +kernel
theorem dX8_info_12 : decode cX8_info 12 = .ok (.iconst (-1), 1) := by decide +kernel
theorem dX8_info_13 : decode cX8_info 13 = .ok (.ireturn, 1) := by decide +kernel
theorem dX8_info_14 : decode cX8_info 14 = .ok (.iconst 0, 1) := by decide +kernel
theorem dX8_info_15 : decode cX8_info 15 = .ok (.istore_n 1, 1) := by decide +kernel
theorem dX8_info_16 : decode cX8_info 16 = .ok (.iload_n 1, 1) := by decide +kernel
theorem dX8_info_17 : decode cX8_info 17 = .ok (.bipush 10, 2) := by decide +kernel
theorem dX8_info_19 : decode cX8_info 19 = .ok (.if_icmp .ge 22, 3) := by decide +kernel
theorem dX8_info_22 : decode cX8_info 22 = .ok (.aload_n 0, 1) := by decide +kernel
theorem dX8_info_23 : decode cX8_info 23 = .ok (.aload_n 0, 1) := by decide +kernel
theorem dX8_info_24 : decode cX8_info 24 = .ok (.getfield 40, 3) := by decide +kernel
theorem dX8_info_27 : decode cX8_info 27 = .ok (.bipush 40, 2) := by decide +kernel
theorem dX8_info_29 : decode cX8_info 29 = .ok (.iload_n 1, 1) := by decide +kernel
theorem dX8_info_30 : decode cX8_info 30 = .ok (.iadd, 1) := by decide +kernel
theorem dX8_info_31 : decode cX8_info 31 = .ok (.iaload, 1) := by decide +kernel
theorem dX8_info_32 : decode cX8_info 32 = .ok (.invokevirtual 217, 3) := by decide +kernel
theorem dX8_info_35 : decode cX8_info 35 = .ok (.iinc 1 1, 3) := by decide +kernel
theorem dX8_info_38 : decode cX8_info 38 = .ok (.goto (-22), 3) := by decide +kernel
theorem dX8_info_41 : decode cX8_info 41 = .ok (.iconst 0, 1) := by decide +kernel
theorem dX8_info_42 : decode cX8_info 42 = .ok (.istore_n 1, 1) := by decide +kernel
theorem dX8_info_43 : decode cX8_info 43 = .ok (.iconst 1, 1) := by decide +kernel
theorem dX8_info_44 : decode cX8_info 44 = .ok (.istore_n 2, 1) := by decide +kernel
theorem dX8_info_45 : decode cX8_info 45 = .ok (.iload_n 2, 1) := by decide +kernel
theorem dX8_info_46 : decode cX8_info 46 = .ok (.bipush 16, 2) := by decide +kernel
theorem dX8_info_48 : decode cX8_info 48 = .ok (.if_icmp .gt 48, 3) := by decide +kernel
theorem dX8_info_51 : decode cX8_info 51 = .ok (.iconst 0, 1) := by decide +kernel
theorem dX8_info_52 : decode cX8_info 52 = .ok (.istore_n 3, 1) := by decide +kernel
theorem dX8_info_53 : decode cX8_info 53 = .ok (.iload_n 3, 1) := by decide +kernel
theorem dX8_info_54 : decode cX8_info 54 = .ok (.iload_n 2, 1) := by decide +kernel
theorem dX8_info_55 : decode cX8_info 55 = .ok (.invokestatic 77, 3) := by decide +kernel
theorem dX8_info_58 : decode cX8_info 58 = .ok (.if_icmp .ge 32, 3) := by decide +kernel
theorem dX8_info_61 : decode cX8_info 61 = .ok (.iload_n 1, 1) := by decide +kernel
theorem dX8_info_62 : decode cX8_info 62 = .ok (.iload_n 2, 1) := by decide +kernel
theorem dX8_info_63 : decode cX8_info 63 = .ok (.bipush 9, 2) := by decide +kernel
theorem dX8_info_65 : decode cX8_info 65 = .ok (.if_icmp .eq 16, 3) := by decide +kernel
theorem dX8_info_68 : decode cX8_info 68 = .ok (.aload_n 0, 1) := by decide +kernel
theorem dX8_info_69 : decode cX8_info 69 = .ok (.iload_n 2, 1) := by decide +kernel
theorem dX8_info_70 : decode cX8_info 70 = .ok (.iload_n 3, 1) := by decide +kernel
theorem dX8_info_71 : decode cX8_info 71 = .ok (.invokevirtual 183, 3) := by decide +kernel
theorem dX8_info_74 : decode cX8_info 74 = .ok (.ifCond .eq 7, 3) := by decide +kernel
theorem dX8_info_77 : decode cX8_info 77 = .ok (.iconst 1, 1) := by decide +kernel
theorem dX8_info_78 : decode cX8_info 78 = .ok (.goto 4, 3) := by decide +kernel
theorem dX8_info_81 : decode cX8_info 81 = .ok (.iconst 0, 1) := by decide +kernel
theorem dX8_info_82 : decode cX8_info 82 = .ok (.iadd, 1) := by decide +kernel
theorem dX8_info_83 : decode cX8_info 83 = .ok (.istore_n 1, 1) := by decide +kernel
theorem dX8_info_84 : decode cX8_info 84 = .ok (.iinc 3 1, 3) := by decide +kernel
theorem dX8_info_87 : decode cX8_info 87 = .ok (.goto (-34), 3) := by decide +kernel
theorem dX8_info_90 : decode cX8_info 90 = .ok (.iinc 2 1, 3) := by decide +kernel
theorem dX8_info_93 : decode cX8_info 93 = .ok (.goto (-48), 3) := by decide +kernel
theorem dX8_info_96 : decode cX8_info 96 = .ok (.aload_n 0, 1) := by decide +kernel
theorem dX8_info_97 : decode cX8_info 97 = .ok (.iload_n 1, 1) := by decide +kernel
theorem dX8_info_98 : decode cX8_info 98 = .ok (.invokevirtual 217, 3) := by decide +kernel
theorem dX8_info_101 : decode cX8_info 101 = .ok (.aload_n 0, 1) := by decide +kernel
theorem dX8_info_102 : decode cX8_info 102 = .ok (.getfield 220, 3) := by decide +kernel
theorem dX8_info_105 : decode cX8_info 105 = .ok (.ireturn, 1) := by decide +kernel
theorem dX8_out_0 : decode cX8_out 0 = .ok (.iload_n 1, 1) := by decide +kernel
theorem dX8_out_1 : decode cX8_out 1 = .ok (.iconst 0, 1) := by decide +kernel
theorem dX8_out_2 : decode cX8_out 2 = .ok (.aload_n 0, 1) := by decide +kernel
theorem dX8_out_3 : decode cX8_out 3 = .ok (.getfield 220, 3) := by decide +kernel
theorem dX8_out_6 : decode cX8_out 6 = .ok (.iconst 1, 1) := by decide +kernel
theorem dX8_out_7 : decode cX8_out 7 = .ok (.isub, 1) := by decide +kernel
theorem dX8_out_8 : decode cX8_out 8 = .ok (.invokestatic 69, 3) := by decide +kernel
theorem dX8_out_11 : decode cX8_out 11 = .ok (.ifCond .eq 12, 3) := by decide +kernel
theorem dX8_out_14 : decode cX8_out 14 = .ok (.aload_n 0, 1) := by decide +kernel
theorem dX8_out_15 : decode cX8_out 15 = .ok (.getfield 31, 3) := by decide +kernel
theorem dX8_out_18 : decode cX8_out 18 = .ok (.iload_n 1, 1) := by decide +kernel
theorem dX8_out_19 : decode cX8_out 19 = .ok (.iaload, 1) := by decide +kernel
theorem dX8_out_20 : decode cX8_out 20 = .ok (.goto 4, 3) := by decide +kernel
theorem dX8_out_23 : decode cX8_out 23 = .ok (.iconst (-1), 1) := by decide +kernel
theorem dX8_out_24 : decode cX8_out 24 = .ok (.ireturn, 1) := by decide +kernel
theorem dX8_status_0 : decode cX8_status 0 = .ok (.iload_n 1, 1) := by decide +kernel
theorem dX8_status_1 : decode cX8_status 1 = .ok (.ifCond .ne 10, 3) := by decide +kernel
theorem dX8_status_4 : decode cX8_status 4 = .ok (.aload_n 0, 1) := by decide +kernel
theorem dX8_status_5 : decode cX8_status 5 = .ok (.getfield 134, 3) := by decide +kernel
theorem dX8_status_8 : decode cX8_status 8 = .ok (.goto 28, 3) := by decide +kernel
theorem dX8_status_11 : decode cX8_status 11 = .ok (.iload_n 1, 1) := by decide +kernel
theorem dX8_status_12 : decode cX8_status 12 = .ok (.iconst 1, 1) := by decide +kernel
theorem dX8_status_13 : decode cX8_status 13 = .ok (.if_icmp .ne 10, 3) := by decide +kernel
theorem dX8_status_16 : decode cX8_status 16 = .ok (.aload_n 0, 1) := by decide +kernel
theorem dX8_status_17 : decode cX8_status 17 = .ok (.getfield 137, 3) := by decide +kernel
theorem dX8_status_20 : decode cX8_status 20 = .ok (.goto 16, 3) := by decide +kernel
theorem dX8_status_23 : decode cX8_status 23 = .ok (.iload_n 1, 1) := by decide +kernel
theorem dX8_status_24 : decode cX8_status 24 = .ok (.iconst 2, 1) := by decide +kernel
theorem dX8_status_25 : decode cX8_status 25 = .ok (.if_icmp .ne 10, 3) := by decide +kernel
theorem dX8_status_28 : decode cX8_status 28 = .ok (.aload_n 0, 1) := by decide +kernel
theorem dX8_status_29 : decode cX8_status 29 = .ok (.getfield 140, 3) := by decide +kernel
theorem dX8_status_32 : decode cX8_status 32 = .ok (.goto 4, 3) := by decide +kernel
theorem dX8_status_35 : decode cX8_status 35 = .ok (.iconst (-1), 1) := by decide +kernel
theorem dX8_status_36 : decode cX8_status 36 = .ok (.ireturn, 1) := by decide +kernel
theorem dX8_peek_0 : decode cX8_peek 0 = .ok (.iload_n 1, 1) := by decide +kernel
theorem dX8_peek_1 : decode cX8_peek 1 = .ok (.iload_n 2, 1) := by decide +kernel
theorem dX8_peek_2 : decode cX8_peek 2 = .ok (.invokestatic 230, 3) := by decide +kernel
theorem dX8_peek_5 : decode cX8_peek 5 = .ok (.ifCond .eq 12, 3) := by decide +kernel
theorem dX8_peek_8 : decode cX8_peek 8 = .ok (.aload_n 0, 1) := by decide +kernel
theorem dX8_peek_9 : decode cX8_peek 9 = .ok (.iload_n 1, 1) := by decide +kernel
theorem dX8_peek_10 : decode cX8_peek 10 = .ok (.iload_n 2, 1) := by decide +kernel
theorem dX8_peek_11 : decode cX8_peek 11 = .ok (.invokevirtual 233, 3) := by decide +kernel
theorem dX8_peek_14 : decode cX8_peek 14 = .ok (.goto 4, 3) := by decide +kernel
theorem dX8_peek_17 : decode cX8_peek 17 = .ok (.iconst (-1), 1) := by decide +kernel
theorem dX8_peek_18 : decode cX8_peek 18 = .ok (.ireturn, 1) := by decide +kernel
theorem dX8_poke_0 : decode cX8_poke 0 = .ok (.iload_n 1, 1) := by decide +kernel
theorem dX8_poke_1 : decode cX8_poke 1 = .ok (.iload_n 2, 1) := by decide +kernel
theorem dX8_poke_2 : decode cX8_poke 2 = .ok (.invokestatic 230, 3) := by decide +kernel
theorem dX8_poke_5 : decode cX8_poke 5 = .ok (.ifCond .ne 5, 3) := by decide +kernel
theorem dX8_poke_8 : decode cX8_poke 8 = .ok (.iconst (-1), 1) := by decide +kernel
theorem dX8_poke_9 : decode cX8_poke 9 = .ok (.ireturn, 1) := by decide +kernel
theorem dX8_poke_10 : decode cX8_poke 10 = .ok (.aload_n 0, 1) := by decide +kernel
theorem dX8_poke_11 : decode cX8_poke 11 = .ok (.iload_n 1, 1) := by decide +kernel
theorem dX8_poke_12 : decode cX8_poke 12 = .ok (.iload_n 2, 1) := by decide +kernel
theorem dX8_poke_13 : decode cX8_poke 13 = .ok (.invokevirtual 233, 3) := by decide +kernel
theorem dX8_poke_16 : decode cX8_poke 16 = .ok (.istore 4, 2) := by decide +kernel
theorem dX8_poke_18 : decode cX8_poke 18 = .ok (.aload_n 0, 1) := by decide +kernel
theorem dX8_poke_19 : decode cX8_poke 19 = .ok (.iload_n 1, 1) := by decide +kernel
theorem dX8_poke_20 : decode cX8_poke 20 = .ok (.iload_n 2, 1) := by decide +kernel
theorem dX8_poke_21 : decode cX8_poke 21 = .ok (.iload_n 3, 1) := by decide +kernel
theorem dX8_poke_22 : decode cX8_poke 22 = .ok (.invokevirtual 236, 3) := by decide +kernel
theorem dX8_poke_25 : decode cX8_poke 25 = .ok (.iload 4, 2) := by decide +kernel
theorem dX8_poke_27 : decode cX8_poke 27 = .ok (.ireturn, 1) := by decide +kernel
theorem dX8_stamp_0 : decode cX8_stamp 0 = .ok (.iload_n 1, 1) := by decide +kernel
theorem dX8_stamp_1 : decode cX8_stamp 1 = .ok (.iload_n 2, 1) := by decide +kernel
theorem dX8_stamp_2 : decode cX8_stamp 2 = .ok (.invokestatic 230, 3) := by decide +kernel
theorem dX8_stamp_5 : decode cX8_stamp 5 = .ok (.ifCond .ne 5, 3) := by decide +kernel
theorem dX8_stamp_8 : decode cX8_stamp 8 = .ok (.iconst (-1), 1) := by decide +kernel
theorem dX8_stamp_9 : decode cX8_stamp 9 = .ok (.ireturn, 1) := by decide +kernel
theorem dX8_stamp_10 : decode cX8_stamp 10 = .ok (.iconst 0, 1) := by decide +kernel
theorem dX8_stamp_11 : decode cX8_stamp 11 = .ok (.istore 4, 2) := by decide +kernel
theorem dX8_stamp_13 : decode cX8_stamp 13 = .ok (.iload 4, 2) := by decide +kernel
theorem dX8_stamp_15 : decode cX8_stamp 15 = .ok (.iconst 4, 1) := by decide +kernel
theorem dX8_stamp_16 : decode cX8_stamp 16 = .ok (.if_icmp .ge 33, 3) := by decide +kernel
theorem dX8_stamp_19 : decode cX8_stamp 19 = .ok (.aload_n 0, 1) := by decide +kernel
theorem dX8_stamp_20 : decode cX8_stamp 20 = .ok (.iload_n 1, 1) := by decide +kernel
theorem dX8_stamp_21 : decode cX8_stamp 21 = .ok (.iload_n 2, 1) := by decide +kernel
theorem dX8_stamp_22 : decode cX8_stamp 22 = .ok (.iload 4, 2) := by decide +kernel
theorem dX8_stamp_24 : decode cX8_stamp 24 = .ok (.iadd, 1) := by decide +kernel
theorem dX8_stamp_25 : decode cX8_stamp 25 = .ok (.iload_n 1, 1) := by decide +kernel
theorem dX8_stamp_26 : decode cX8_stamp 26 = .ok (.invokestatic 62, 3) := by decide +kernel
theorem dX8_stamp_29 : decode cX8_stamp 29 = .ok (.irem, 1) := by decide +kernel
theorem dX8_stamp_30 : decode cX8_stamp 30 = .ok (.iload_n 3, 1) := by decide +kernel
theorem dX8_stamp_31 : decode cX8_stamp 31 = .ok (.bipush 24, 2) := by decide +kernel
theorem dX8_stamp_33 : decode cX8_stamp 33 = .ok (.bipush 8, 2) := by decide +kernel
theorem dX8_stamp_35 : decode cX8_stamp 35 = .ok (.iload 4, 2) := by decide +kernel
theorem dX8_stamp_37 : decode cX8_stamp 37 = .ok (.imul, 1) := by decide +kernel
theorem dX8_stamp_38 : decode cX8_stamp 38 = .ok (.isub, 1) := by decide +kernel
theorem dX8_stamp_39 : decode cX8_stamp 39 = .ok (.ishr, 1) := by decide +kernel
theorem dX8_stamp_40 : decode cX8_stamp 40 = .ok (.invokevirtual 236, 3) := by decide +kernel
theorem dX8_stamp_43 : decode cX8_stamp 43 = .ok (.iinc 4 1, 3) := by decide +kernel
theorem dX8_stamp_46 : decode cX8_stamp 46 = .ok (.goto (-33), 3) := by decide +kernel
theorem dX8_stamp_49 : decode cX8_stamp 49 = .ok (.iconst 1, 1) := by decide +kernel
theorem dX8_stamp_50 : decode cX8_stamp 50 = .ok (.ireturn, 1) := by decide +kernel
theorem dX8_turn_0 : decode cX8_turn 0 = .ok (.iload_n 1, 1) := by decide +kernel
theorem dX8_turn_1 : decode cX8_turn 1 = .ok (.invokestatic 73, 3) := by decide +kernel
theorem dX8_turn_4 : decode cX8_turn 4 = .ok (.ifCond .ne 5, 3) := by decide +kernel
theorem dX8_turn_7 : decode cX8_turn 7 = .ok (.iconst (-1), 1) := by decide +kernel
theorem dX8_turn_8 : decode cX8_turn 8 = .ok (.ireturn, 1) := by decide +kernel
theorem dX8_turn_9 : decode cX8_turn 9 = .ok (.iload_n 1, 1) := by decide +kernel
theorem dX8_turn_10 : decode cX8_turn 10 = .ok (.invokestatic 80, 3) := by decide +kernel
theorem dX8_turn_13 : decode cX8_turn 13 = .ok (.istore_n 3, 1) := by decide +kernel
theorem dX8_turn_14 : decode cX8_turn 14 = .ok (.iload_n 1, 1) := by decide +kernel
theorem dX8_turn_15 : decode cX8_turn 15 = .ok (.invokestatic 66, 3) := by decide +kernel
theorem dX8_turn_18 : decode cX8_turn 18 = .ok (.istore 4, 2) := by decide +kernel
theorem dX8_turn_20 : decode cX8_turn 20 = .ok (.iload_n 2, 1) := by decide +kernel
theorem dX8_turn_21 : decode cX8_turn 21 = .ok (.iload 4, 2) := by decide +kernel
theorem dX8_turn_23 : decode cX8_turn 23 = .ok (.irem, 1) := by decide +kernel
theorem dX8_turn_24 : decode cX8_turn 24 = .ok (.istore 5, 2) := by decide +kernel
theorem dX8_turn_26 : decode cX8_turn 26 = .ok (.iload 5, 2) := by decide +kernel
theorem dX8_turn_28 : decode cX8_turn 28 = .ok (.ifCond .ge 11, 3) := by decide +kernel
theorem dX8_turn_31 : decode cX8_turn 31 = .ok (.iload 5, 2) := by decide +kernel
theorem dX8_turn_33 : decode cX8_turn 33 = .ok (.iload 4, 2) := by decide +kernel
theorem dX8_turn_35 : decode cX8_turn 35 = .ok (.iadd, 1) := by decide +kernel
theorem dX8_turn_36 : decode cX8_turn 36 = .ok (.goto 5, 3) := by decide +kernel
theorem dX8_turn_39 : decode cX8_turn 39 = .ok (.iload 5, 2) := by decide +kernel
theorem dX8_turn_41 : decode cX8_turn 41 = .ok (.istore 5, 2) := by decide +kernel
theorem dX8_turn_43 : decode cX8_turn 43 = .ok (.iconst 0, 1) := by decide +kernel
theorem dX8_turn_44 : decode cX8_turn 44 = .ok (.istore 6, 2) := by decide +kernel
theorem dX8_turn_46 : decode cX8_turn 46 = .ok (.iload 6, 2) := by decide +kernel
theorem dX8_turn_48 : decode cX8_turn 48 = .ok (.iload 4, 2) := by decide +kernel
theorem dX8_turn_50 : decode cX8_turn 50 = .ok (.if_icmp .ge 25, 3) := by decide +kernel
theorem dX8_turn_53 : decode cX8_turn 53 = .ok (.aload_n 0, 1) := by decide +kernel
theorem dX8_turn_54 : decode cX8_turn 54 = .ok (.getfield 14, 3) := by decide +kernel
theorem dX8_turn_57 : decode cX8_turn 57 = .ok (.iload 6, 2) := by decide +kernel
theorem dX8_turn_59 : decode cX8_turn 59 = .ok (.aload_n 0, 1) := by decide +kernel
theorem dX8_turn_60 : decode cX8_turn 60 = .ok (.getfield 8, 3) := by decide +kernel
theorem dX8_turn_63 : decode cX8_turn 63 = .ok (.iload_n 3, 1) := by decide +kernel
theorem dX8_turn_64 : decode cX8_turn 64 = .ok (.iload 6, 2) := by decide +kernel
theorem dX8_turn_66 : decode cX8_turn 66 = .ok (.iadd, 1) := by decide +kernel
theorem dX8_turn_67 : decode cX8_turn 67 = .ok (.baload, 1) := by decide +kernel
theorem dX8_turn_68 : decode cX8_turn 68 = .ok (.bastore, 1) := by decide +kernel
theorem dX8_turn_69 : decode cX8_turn 69 = .ok (.iinc 6 1, 3) := by decide +kernel
theorem dX8_turn_72 : decode cX8_turn 72 = .ok (.goto (-26), 3) := by decide +kernel
theorem dX8_turn_75 : decode cX8_turn 75 = .ok (.iconst 0, 1) := by decide +kernel
theorem dX8_turn_76 : decode cX8_turn 76 = .ok (.istore 6, 2) := by decide +kernel
theorem dX8_turn_78 : decode cX8_turn 78 = .ok (.iload 6, 2) := by decide +kernel
theorem dX8_turn_80 : decode cX8_turn 80 = .ok (.iload 4, 2) := by decide +kernel
theorem dX8_turn_82 : decode cX8_turn 82 = .ok (.if_icmp .ge 31, 3) := by decide +kernel
theorem dX8_turn_85 : decode cX8_turn 85 = .ok (.aload_n 0, 1) := by decide +kernel
theorem dX8_turn_86 : decode cX8_turn 86 = .ok (.getfield 8, 3) := by decide +kernel
theorem dX8_turn_89 : decode cX8_turn 89 = .ok (.iload_n 3, 1) := by decide +kernel
theorem dX8_turn_90 : decode cX8_turn 90 = .ok (.iload 6, 2) := by decide +kernel
theorem dX8_turn_92 : decode cX8_turn 92 = .ok (.iload 5, 2) := by decide +kernel
theorem dX8_turn_94 : decode cX8_turn 94 = .ok (.iadd, 1) := by decide +kernel
theorem dX8_turn_95 : decode cX8_turn 95 = .ok (.iload 4, 2) := by decide +kernel
theorem dX8_turn_97 : decode cX8_turn 97 = .ok (.irem, 1) := by decide +kernel
theorem dX8_turn_98 : decode cX8_turn 98 = .ok (.iadd, 1) := by decide +kernel
theorem dX8_turn_99 : decode cX8_turn 99 = .ok (.aload_n 0, 1) := by decide +kernel
theorem dX8_turn_100 : decode cX8_turn 100 = .ok (.getfield 14, 3) := by decide +kernel
theorem dX8_turn_103 : decode cX8_turn 103 = .ok (.iload 6, 2) := by decide +kernel
theorem dX8_turn_105 : decode cX8_turn 105 = .ok (.baload, 1) := by decide +kernel
theorem dX8_turn_106 : decode cX8_turn 106 = .ok (.bastore, 1) := by decide +kernel
theorem dX8_turn_107 : decode cX8_turn 107 = .ok (.iinc 6 1, 3) := by decide +kernel
theorem dX8_turn_110 : decode cX8_turn 110 = .ok (.goto (-32), 3) := by decide +kernel
theorem dX8_turn_113 : decode cX8_turn 113 = .ok (.iconst 1, 1) := by decide +kernel
theorem dX8_turn_114 : decode cX8_turn 114 = .ok (.ireturn, 1) := by decide +kernel
theorem dX8_syncs_0 : decode cX8_syncs 0 = .ok (.iload_n 1, 1) := by decide +kernel
theorem dX8_syncs_1 : decode cX8_syncs 1 = .ok (.invokestatic 73, 3) := by decide +kernel
theorem dX8_syncs_4 : decode cX8_syncs 4 = .ok (.ifCond .ne 5, 3) := by decide +kernel
theorem dX8_syncs_7 : decode cX8_syncs 7 = .ok (.iconst (-1), 1) := by decide +kernel
theorem dX8_syncs_8 : decode cX8_syncs 8 = .ok (.ireturn, 1) := by decide +kernel
theorem dX8_syncs_9 : decode cX8_syncs 9 = .ok (.aload_n 0, 1) := by decide +kernel
theorem dX8_syncs_10 : decode cX8_syncs 10 = .ok (.iload_n 1, 1) := by decide +kernel
theorem dX8_syncs_11 : decode cX8_syncs 11 = .ok (.invokevirtual 107, 3) := by decide +kernel
theorem dX8_syncs_14 : decode cX8_syncs 14 = .ok (.aload_n 0, 1) := by decide +kernel
theorem dX8_syncs_15 : decode cX8_syncs 15 = .ok (.getfield 83, 3) := by decide +kernel
theorem dX8_syncs_18 : decode cX8_syncs 18 = .ok (.ireturn, 1) := by decide +kernel
theorem dX8_read_0 : decode cX8_read 0 = .ok (.aload_n 0, 1) := by decide +kernel
theorem dX8_read_1 : decode cX8_read 1 = .ok (.iconst 0, 1) := by decide +kernel
theorem dX8_read_2 : decode cX8_read 2 = .ok (.putfield 220, 3) := by decide +kernel
theorem dX8_read_5 : decode cX8_read 5 = .ok (.aload_n 0, 1) := by decide +kernel
theorem dX8_read_6 : decode cX8_read 6 = .ok (.getfield 24, 3) := by decide +kernel
theorem dX8_read_9 : decode cX8_read 9 = .ok (.ifCond .ge 6, 3) := by decide +kernel
theorem dX8_read_12 : decode cX8_read 12 = .ok (.bipush 74, 2) := by decide +kernel
theorem dX8_read_14 : decode cX8_read 14 = .ok (.ireturn, 1) := by decide +kernel
theorem dX8_read_15 : decode cX8_read 15 = .ok (.iload_n 1, 1) := by decide +kernel
theorem dX8_read_16 : decode cX8_read 16 = .ok (.iload_n 2, 1) := by decide +kernel
theorem dX8_read_17 : decode cX8_read 17 = .ok (.invokestatic 168, 3) := by decide +kernel
theorem dX8_read_20 : decode cX8_read 20 = .ok (.ifCond .ne 6, 3) := by decide +kernel
theorem dX8_read_23 : decode cX8_read 23 = .ok (.bipush 66, 2) := by decide +kernel
theorem dX8_read_25 : decode cX8_read 25 = .ok (.ireturn, 1) := by decide +kernel
theorem dX8_read_26 : decode cX8_read 26 = .ok (.aload_n 0, 1) := by decide +kernel
theorem dX8_read_27 : decode cX8_read 27 = .ok (.iload_n 1, 1) := by decide +kernel
theorem dX8_read_28 : decode cX8_read 28 = .ok (.iload_n 2, 1) := by decide +kernel
theorem dX8_read_29 : decode cX8_read 29 = .ok (.invokevirtual 147, 3) := by decide +kernel
theorem dX8_read_32 : decode cX8_read 32 = .ok (.istore_n 3, 1) := by decide +kernel
theorem dX8_read_33 : decode cX8_read 33 = .ok (.iconst 0, 1) := by decide +kernel
theorem dX8_read_34 : decode cX8_read 34 = .ok (.istore 4, 2) := by decide +kernel
theorem dX8_read_36 : decode cX8_read 36 = .ok (.iload 4, 2) := by decide +kernel
theorem dX8_read_38 : decode cX8_read 38 = .ok (.bipush 64, 2) := by decide +kernel
theorem dX8_read_40 : decode cX8_read 40 = .ok (.if_icmp .ge 24, 3) := by decide +kernel
theorem dX8_read_43 : decode cX8_read 43 = .ok (.iload_n 3, 1) := by decide +kernel
theorem dX8_read_44 : decode cX8_read 44 = .ok (.ifCond .ne 20, 3) := by decide +kernel
theorem dX8_read_47 : decode cX8_read 47 = .ok (.aload_n 0, 1) := by decide +kernel
theorem dX8_read_48 : decode cX8_read 48 = .ok (.aload_n 0, 1) := by decide +kernel
theorem dX8_read_49 : decode cX8_read 49 = .ok (.getfield 37, 3) := by decide +kernel
theorem dX8_read_52 : decode cX8_read 52 = .ok (.iload 4, 2) := by decide +kernel
theorem dX8_read_54 : decode cX8_read 54 = .ok (.iaload, 1) := by decide +kernel
theorem dX8_read_55 : decode cX8_read 55 = .ok (.invokevirtual 217, 3) := by decide +kernel
theorem dX8_read_58 : decode cX8_read 58 = .ok (.iinc 4 1, 3) := by decide +kernel
theorem dX8_read_61 : decode cX8_read 61 = .ok (.goto (-25), 3) := by decide +kernel
theorem dX8_read_64 : decode cX8_read 64 = .ok (.iload_n 3, 1) := by decide +kernel
theorem dX8_read_65 : decode cX8_read 65 = .ok (.ireturn, 1) := by decide +kernel
theorem dX8_write_0 : decode cX8_write 0 = .ok (.aload_n 0, 1) := by decide +kernel
theorem dX8_write_1 : decode cX8_write 1 = .ok (.getfield 172, 3) := by decide +kernel
theorem dX8_write_4 : decode cX8_write 4 = .ok (.istore_n 3, 1) := by decide +kernel
theorem dX8_write_5 : decode cX8_write 5 = .ok (.aload_n 0, 1) := by decide +kernel
theorem dX8_write_6 : decode cX8_write 6 = .ok (.iconst 0, 1) := by decide +kernel
theorem dX8_write_7 : decode cX8_write 7 = .ok (.putfield 172, 3) := by decide +kernel
theorem dX8_write_10 : decode cX8_write 10 = .ok (.aload_n 0, 1) := by decide +kernel
theorem dX8_write_11 : decode cX8_write 11 = .ok (.getfield 24, 3) := by decide +kernel
theorem dX8_write_14 : decode cX8_write 14 = .ok (.ifCond .ge 6, 3) := by decide +kernel
theorem dX8_write_17 : decode cX8_write 17 = .ok (.bipush 74, 2) := by decide +kernel
theorem dX8_write_19 : decode cX8_write 19 = .ok (.ireturn, 1) := by decide +kernel
theorem dX8_write_20 : decode cX8_write 20 = .ok (.iload_n 1, 1) := by decide +kernel
theorem dX8_write_21 : decode cX8_write 21 = .ok (.iload_n 2, 1) := by decide +kernel
theorem dX8_write_22 : decode cX8_write 22 = .ok (.invokestatic 168, 3) := by decide +kernel
theorem dX8_write_25 : decode cX8_write 25 = .ok (.ifCond .ne 6, 3) := by decide +kernel
theorem dX8_write_28 : decode cX8_write 28 = .ok (.bipush 66, 2) := by decide +kernel
theorem dX8_write_30 : decode cX8_write 30 = .ok (.ireturn, 1) := by decide +kernel
theorem dX8_write_31 : decode cX8_write 31 = .ok (.iconst 0, 1) := by decide +kernel
theorem dX8_write_32 : decode cX8_write 32 = .ok (.istore 4, 2) := by decide +kernel
theorem dX8_write_34 : decode cX8_write 34 = .ok (.iload 4, 2) := by decide +kernel
theorem dX8_write_36 : decode cX8_write 36 = .ok (.bipush 64, 2) := by decide +kernel
theorem dX8_write_38 : decode cX8_write 38 = .ok (.if_icmp .ge 33, 3) := by decide +kernel
theorem dX8_write_41 : decode cX8_write 41 = .ok (.aload_n 0, 1) := by decide +kernel
theorem dX8_write_42 : decode cX8_write 42 = .ok (.getfield 37, 3) := by decide +kernel
theorem dX8_write_45 : decode cX8_write 45 = .ok (.iload 4, 2) := by decide +kernel
theorem dX8_write_47 : decode cX8_write 47 = .ok (.iload 4, 2) := by decide +kernel
theorem dX8_write_49 : decode cX8_write 49 = .ok (.iload_n 3, 1) := by decide +kernel
theorem dX8_write_50 : decode cX8_write 50 = .ok (.if_icmp .ge 13, 3) := by decide +kernel
theorem dX8_write_53 : decode cX8_write 53 = .ok (.aload_n 0, 1) := by decide +kernel
theorem dX8_write_54 : decode cX8_write 54 = .ok (.getfield 28, 3) := by decide +kernel
theorem dX8_write_57 : decode cX8_write 57 = .ok (.iload 4, 2) := by decide +kernel
theorem dX8_write_59 : decode cX8_write 59 = .ok (.iaload, 1) := by decide +kernel
theorem dX8_write_60 : decode cX8_write 60 = .ok (.goto 4, 3) := by decide +kernel
theorem dX8_write_63 : decode cX8_write 63 = .ok (.iconst 0, 1) := by decide +kernel
theorem dX8_write_64 : decode cX8_write 64 = .ok (.iastore, 1) := by decide +kernel
theorem dX8_write_65 : decode cX8_write 65 = .ok (.iinc 4 1, 3) := by decide +kernel
theorem dX8_write_68 : decode cX8_write 68 = .ok (.goto (-34), 3) := by decide +kernel
theorem dX8_write_71 : decode cX8_write 71 = .ok (.aload_n 0, 1) := by decide +kernel
theorem dX8_write_72 : decode cX8_write 72 = .ok (.iload_n 1, 1) := by decide +kernel
theorem dX8_write_73 : decode cX8_write 73 = .ok (.iload_n 2, 1) := by decide +kernel
theorem dX8_write_74 : decode cX8_write 74 = .ok (.invokevirtual 150, 3) := by decide +kernel
theorem dX8_write_77 : decode cX8_write 77 = .ok (.ireturn, 1) := by decide +kernel
theorem dX8_count_0 : decode cX8_count 0 = .ok (.iload_n 1, 1) := by decide +kernel
theorem dX8_count_1 : decode cX8_count 1 = .ok (.tableswitch 51 0 3 #[31, 36, 41, 46], 31) := by decide +kernel
theorem dX8_count_32 : decode cX8_count 32 = .ok (.aload_n 0, 1) := by decide +kernel
theorem dX8_count_33 : decode cX8_count 33 = .ok (.getfield 122, 3) := by decide +kernel
theorem dX8_count_36 : decode cX8_count 36 = .ok (.ireturn, 1) := by decide +kernel
theorem dX8_count_37 : decode cX8_count 37 = .ok (.aload_n 0, 1) := by decide +kernel
theorem dX8_count_38 : decode cX8_count 38 = .ok (.getfield 131, 3) := by decide +kernel
theorem dX8_count_41 : decode cX8_count 41 = .ok (.ireturn, 1) := by decide +kernel
theorem dX8_count_42 : decode cX8_count 42 = .ok (.aload_n 0, 1) := by decide +kernel
theorem dX8_count_43 : decode cX8_count 43 = .ok (.getfield 125, 3) := by decide +kernel
theorem dX8_count_46 : decode cX8_count 46 = .ok (.ireturn, 1) := by decide +kernel
theorem dX8_count_47 : decode cX8_count 47 = .ok (.aload_n 0, 1) := by decide +kernel
theorem dX8_count_48 : decode cX8_count 48 = .ok (.getfield 172, 3) := by decide +kernel
theorem dX8_count_51 : decode cX8_count 51 = .ok (.ireturn, 1) := by decide +kernel
theorem dX8_count_52 : decode cX8_count 52 = .ok (.iconst (-1), 1) := by decide +kernel
theorem dX8_count_53 : decode cX8_count 53 = .ok (.ireturn, 1) := by decide +kernel
theorem dJ9_floorMod_7cf53_0 : decode cJ9_floorMod_7cf53 0 = .ok (.iload_n 0, 1) := by decide +kernel
theorem dJ9_floorMod_7cf53_1 : decode cJ9_floorMod_7cf53 1 = .ok (.iload_n 1, 1) := by decide +kernel
theorem dJ9_floorMod_7cf53_2 : decode cJ9_floorMod_7cf53 2 = .ok (.irem, 1) := by decide +kernel
theorem dJ9_floorMod_7cf53_3 : decode cJ9_floorMod_7cf53 3 = .ok (.istore_n 2, 1) := by decide +kernel
theorem dJ9_floorMod_7cf53_4 : decode cJ9_floorMod_7cf53 4 = .ok (.iload_n 0, 1) := by decide +kernel
theorem dJ9_floorMod_7cf53_5 : decode cJ9_floorMod_7cf53 5 = .ok (.iload_n 1, 1) := by decide +kernel
theorem dJ9_floorMod_7cf53_6 : decode cJ9_floorMod_7cf53 6 = .ok (.ixor, 1) := by decide +kernel
theorem dJ9_floorMod_7cf53_7 : decode cJ9_floorMod_7cf53 7 = .ok (.ifCond .ge 11, 3) := by decide +kernel
theorem dJ9_floorMod_7cf53_10 : decode cJ9_floorMod_7cf53 10 = .ok (.iload_n 2, 1) := by decide +kernel
theorem dJ9_floorMod_7cf53_11 : decode cJ9_floorMod_7cf53 11 = .ok (.ifCond .eq 7, 3) := by decide +kernel
theorem dJ9_floorMod_7cf53_14 : decode cJ9_floorMod_7cf53 14 = .ok (.iload_n 2, 1) := by decide +kernel
theorem dJ9_floorMod_7cf53_15 : decode cJ9_floorMod_7cf53 15 = .ok (.iload_n 1, 1) := by decide +kernel
theorem dJ9_floorMod_7cf53_16 : decode cJ9_floorMod_7cf53 16 = .ok (.iadd, 1) := by decide +kernel
theorem dJ9_floorMod_7cf53_17 : decode cJ9_floorMod_7cf53 17 = .ok (.ireturn, 1) := by decide +kernel
theorem dJ9_floorMod_7cf53_18 : decode cJ9_floorMod_7cf53 18 = .ok (.iload_n 2, 1) := by decide +kernel
theorem dJ9_floorMod_7cf53_19 : decode cJ9_floorMod_7cf53 19 = .ok (.ireturn, 1) := by decide +kernel
theorem dJ9_max_7cf53_0 : decode cJ9_max_7cf53 0 = .ok (.iload_n 0, 1) := by decide +kernel
theorem dJ9_max_7cf53_1 : decode cJ9_max_7cf53 1 = .ok (.iload_n 1, 1) := by decide +kernel
theorem dJ9_max_7cf53_2 : decode cJ9_max_7cf53 2 = .ok (.if_icmp .lt 7, 3) := by decide +kernel
theorem dJ9_max_7cf53_5 : decode cJ9_max_7cf53 5 = .ok (.iload_n 0, 1) := by decide +kernel
theorem dJ9_max_7cf53_6 : decode cJ9_max_7cf53 6 = .ok (.goto 4, 3) := by decide +kernel
theorem dJ9_max_7cf53_9 : decode cJ9_max_7cf53 9 = .ok (.iload_n 1, 1) := by decide +kernel
theorem dJ9_max_7cf53_10 : decode cJ9_max_7cf53 10 = .ok (.ireturn, 1) := by decide +kernel
theorem dL_law_0 : decode cL_law 0 = .ok (.new 7, 3) := by decide +kernel
theorem dL_law_3 : decode cL_law 3 = .ok (.dup, 1) := by decide +kernel
theorem dL_law_4 : decode cL_law 4 = .ok (.invokespecial 9, 3) := by decide +kernel
theorem dL_law_7 : decode cL_law 7 = .ok (.astore_n 1, 1) := by decide +kernel
theorem dL_law_8 : decode cL_law 8 = .ok (.new 10, 3) := by decide +kernel
theorem dL_law_11 : decode cL_law 11 = .ok (.dup, 1) := by decide +kernel
theorem dL_law_12 : decode cL_law 12 = .ok (.invokespecial 12, 3) := by decide +kernel
theorem dL_law_15 : decode cL_law 15 = .ok (.astore_n 2, 1) := by decide +kernel
theorem dL_law_16 : decode cL_law 16 = .ok (.iconst 0, 1) := by decide +kernel
theorem dL_law_17 : decode cL_law 17 = .ok (.istore_n 3, 1) := by decide +kernel
theorem dL_law_18 : decode cL_law 18 = .ok (.iload_n 3, 1) := by decide +kernel
theorem dL_law_19 : decode cL_law 19 = .ok (.aload_n 0, 1) := by decide +kernel
theorem dL_law_20 : decode cL_law 20 = .ok (.arraylength, 1) := by decide +kernel
theorem dL_law_21 : decode cL_law 21 = .ok (.bipush 6, 2) := by decide +kernel
theorem dL_law_23 : decode cL_law 23 = .ok (.isub, 1) := by decide +kernel
theorem dL_law_24 : decode cL_law 24 = .ok (.if_icmp .gt 703, 3) := by decide +kernel
theorem dL_law_27 : decode cL_law 27 = .ok (.aload_n 0, 1) := by decide +kernel
theorem dL_law_28 : decode cL_law 28 = .ok (.iload_n 3, 1) := by decide +kernel
theorem dL_law_29 : decode cL_law 29 = .ok (.iaload, 1) := by decide +kernel
theorem dL_law_30 : decode cL_law 30 = .ok (.bipush 31, 2) := by decide +kernel
theorem dL_law_32 : decode cL_law 32 = .ok (.iand, 1) := by decide +kernel
theorem dL_law_33 : decode cL_law 33 = .ok (.tableswitch 688 0 18 #[91, 154, 177, 220, 243, 286, 319, 352, 365, 378, 401, 424, 457, 500, 543, 576, 599, 632, 665], 91) := by decide +kernel
theorem dL_law_124 : decode cL_law 124 = .ok (.aload_n 1, 1) := by decide +kernel
theorem dL_law_125 : decode cL_law 125 = .ok (.aload_n 0, 1) := by decide +kernel
theorem dL_law_126 : decode cL_law 126 = .ok (.iload_n 3, 1) := by decide +kernel
theorem dL_law_127 : decode cL_law 127 = .ok (.iconst 1, 1) := by decide +kernel
theorem dL_law_128 : decode cL_law 128 = .ok (.iadd, 1) := by decide +kernel
theorem dL_law_129 : decode cL_law 129 = .ok (.iaload, 1) := by decide +kernel
theorem dL_law_130 : decode cL_law 130 = .ok (.aload_n 0, 1) := by decide +kernel
theorem dL_law_131 : decode cL_law 131 = .ok (.iload_n 3, 1) := by decide +kernel
theorem dL_law_132 : decode cL_law 132 = .ok (.iconst 2, 1) := by decide +kernel
theorem dL_law_133 : decode cL_law 133 = .ok (.iadd, 1) := by decide +kernel
theorem dL_law_134 : decode cL_law 134 = .ok (.iaload, 1) := by decide +kernel
theorem dL_law_135 : decode cL_law 135 = .ok (.aload_n 0, 1) := by decide +kernel
theorem dL_law_136 : decode cL_law 136 = .ok (.iload_n 3, 1) := by decide +kernel
theorem dL_law_137 : decode cL_law 137 = .ok (.iconst 3, 1) := by decide +kernel
theorem dL_law_138 : decode cL_law 138 = .ok (.iadd, 1) := by decide +kernel
theorem dL_law_139 : decode cL_law 139 = .ok (.iaload, 1) := by decide +kernel
theorem dL_law_140 : decode cL_law 140 = .ok (.aload_n 0, 1) := by decide +kernel
theorem dL_law_141 : decode cL_law 141 = .ok (.iload_n 3, 1) := by decide +kernel
theorem dL_law_142 : decode cL_law 142 = .ok (.iconst 4, 1) := by decide +kernel
theorem dL_law_143 : decode cL_law 143 = .ok (.iadd, 1) := by decide +kernel
theorem dL_law_144 : decode cL_law 144 = .ok (.iaload, 1) := by decide +kernel
theorem dL_law_145 : decode cL_law 145 = .ok (.aload_n 0, 1) := by decide +kernel
theorem dL_law_146 : decode cL_law 146 = .ok (.iload_n 3, 1) := by decide +kernel
theorem dL_law_147 : decode cL_law 147 = .ok (.iconst 5, 1) := by decide +kernel
theorem dL_law_148 : decode cL_law 148 = .ok (.iadd, 1) := by decide +kernel
theorem dL_law_149 : decode cL_law 149 = .ok (.iaload, 1) := by decide +kernel
theorem dL_law_150 : decode cL_law 150 = .ok (.invokevirtual 13, 3) := by decide +kernel
theorem dL_law_153 : decode cL_law 153 = .ok (.aload_n 2, 1) := by decide +kernel
theorem dL_law_154 : decode cL_law 154 = .ok (.aload_n 0, 1) := by decide +kernel
theorem dL_law_155 : decode cL_law 155 = .ok (.iload_n 3, 1) := by decide +kernel
theorem dL_law_156 : decode cL_law 156 = .ok (.iconst 1, 1) := by decide +kernel
theorem dL_law_157 : decode cL_law 157 = .ok (.iadd, 1) := by decide +kernel
theorem dL_law_158 : decode cL_law 158 = .ok (.iaload, 1) := by decide +kernel
theorem dL_law_159 : decode cL_law 159 = .ok (.aload_n 0, 1) := by decide +kernel
theorem dL_law_160 : decode cL_law 160 = .ok (.iload_n 3, 1) := by decide +kernel
theorem dL_law_161 : decode cL_law 161 = .ok (.iconst 2, 1) := by decide +kernel
theorem dL_law_162 : decode cL_law 162 = .ok (.iadd, 1) := by decide +kernel
theorem dL_law_163 : decode cL_law 163 = .ok (.iaload, 1) := by decide +kernel
theorem dL_law_164 : decode cL_law 164 = .ok (.aload_n 0, 1) := by decide +kernel
theorem dL_law_165 : decode cL_law 165 = .ok (.iload_n 3, 1) := by decide +kernel
theorem dL_law_166 : decode cL_law 166 = .ok (.iconst 3, 1) := by decide +kernel
theorem dL_law_167 : decode cL_law 167 = .ok (.iadd, 1) := by decide +kernel
theorem dL_law_168 : decode cL_law 168 = .ok (.iaload, 1) := by decide +kernel
theorem dL_law_169 : decode cL_law 169 = .ok (.aload_n 0, 1) := by decide +kernel
theorem dL_law_170 : decode cL_law 170 = .ok (.iload_n 3, 1) := by decide +kernel
theorem dL_law_171 : decode cL_law 171 = .ok (.iconst 4, 1) := by decide +kernel
theorem dL_law_172 : decode cL_law 172 = .ok (.iadd, 1) := by decide +kernel
theorem dL_law_173 : decode cL_law 173 = .ok (.iaload, 1) := by decide +kernel
theorem dL_law_174 : decode cL_law 174 = .ok (.aload_n 0, 1) := by decide +kernel
theorem dL_law_175 : decode cL_law 175 = .ok (.iload_n 3, 1) := by decide +kernel
theorem dL_law_176 : decode cL_law 176 = .ok (.iconst 5, 1) := by decide +kernel
theorem dL_law_177 : decode cL_law 177 = .ok (.iadd, 1) := by decide +kernel
theorem dL_law_178 : decode cL_law 178 = .ok (.iaload, 1) := by decide +kernel
theorem dL_law_179 : decode cL_law 179 = .ok (.invokevirtual 17, 3) := by decide +kernel
theorem dL_law_182 : decode cL_law 182 = .ok (.if_icmp .eq 539, 3) := by decide +kernel
theorem dL_law_185 : decode cL_law 185 = .ok (.iconst 0, 1) := by decide +kernel
theorem dL_law_186 : decode cL_law 186 = .ok (.ireturn, 1) := by decide +kernel
theorem dL_law_187 : decode cL_law 187 = .ok (.aload_n 1, 1) := by decide +kernel
theorem dL_law_188 : decode cL_law 188 = .ok (.aload_n 0, 1) := by decide +kernel
theorem dL_law_189 : decode cL_law 189 = .ok (.iload_n 3, 1) := by decide +kernel
theorem dL_law_190 : decode cL_law 190 = .ok (.iconst 1, 1) := by decide +kernel
theorem dL_law_191 : decode cL_law 191 = .ok (.iadd, 1) := by decide +kernel
theorem dL_law_192 : decode cL_law 192 = .ok (.iaload, 1) := by decide +kernel
theorem dL_law_193 : decode cL_law 193 = .ok (.invokevirtual 18, 3) := by decide +kernel
theorem dL_law_196 : decode cL_law 196 = .ok (.aload_n 2, 1) := by decide +kernel
theorem dL_law_197 : decode cL_law 197 = .ok (.aload_n 0, 1) := by decide +kernel
theorem dL_law_198 : decode cL_law 198 = .ok (.iload_n 3, 1) := by decide +kernel
theorem dL_law_199 : decode cL_law 199 = .ok (.iconst 1, 1) := by decide +kernel
theorem dL_law_200 : decode cL_law 200 = .ok (.iadd, 1) := by decide +kernel
theorem dL_law_201 : decode cL_law 201 = .ok (.iaload, 1) := by decide +kernel
theorem dL_law_202 : decode cL_law 202 = .ok (.invokevirtual 22, 3) := by decide +kernel
theorem dL_law_205 : decode cL_law 205 = .ok (.if_icmp .eq 516, 3) := by decide +kernel
theorem dL_law_208 : decode cL_law 208 = .ok (.iconst 0, 1) := by decide +kernel
theorem dL_law_209 : decode cL_law 209 = .ok (.ireturn, 1) := by decide +kernel
theorem dL_law_210 : decode cL_law 210 = .ok (.aload_n 1, 1) := by decide +kernel
theorem dL_law_211 : decode cL_law 211 = .ok (.aload_n 0, 1) := by decide +kernel
theorem dL_law_212 : decode cL_law 212 = .ok (.iload_n 3, 1) := by decide +kernel
theorem dL_law_213 : decode cL_law 213 = .ok (.iconst 1, 1) := by decide +kernel
theorem dL_law_214 : decode cL_law 214 = .ok (.iadd, 1) := by decide +kernel
theorem dL_law_215 : decode cL_law 215 = .ok (.iaload, 1) := by decide +kernel
theorem dL_law_216 : decode cL_law 216 = .ok (.aload_n 0, 1) := by decide +kernel
theorem dL_law_217 : decode cL_law 217 = .ok (.iload_n 3, 1) := by decide +kernel
theorem dL_law_218 : decode cL_law 218 = .ok (.iconst 2, 1) := by decide +kernel
theorem dL_law_219 : decode cL_law 219 = .ok (.iadd, 1) := by decide +kernel
theorem dL_law_220 : decode cL_law 220 = .ok (.iaload, 1) := by decide +kernel
theorem dL_law_221 : decode cL_law 221 = .ok (.aload_n 0, 1) := by decide +kernel
theorem dL_law_222 : decode cL_law 222 = .ok (.iload_n 3, 1) := by decide +kernel
theorem dL_law_223 : decode cL_law 223 = .ok (.iconst 3, 1) := by decide +kernel
theorem dL_law_224 : decode cL_law 224 = .ok (.iadd, 1) := by decide +kernel
theorem dL_law_225 : decode cL_law 225 = .ok (.iaload, 1) := by decide +kernel
theorem dL_law_226 : decode cL_law 226 = .ok (.invokevirtual 23, 3) := by decide +kernel
theorem dL_law_229 : decode cL_law 229 = .ok (.aload_n 2, 1) := by decide +kernel
theorem dL_law_230 : decode cL_law 230 = .ok (.aload_n 0, 1) := by decide +kernel
theorem dL_law_231 : decode cL_law 231 = .ok (.iload_n 3, 1) := by decide +kernel
theorem dL_law_232 : decode cL_law 232 = .ok (.iconst 1, 1) := by decide +kernel
theorem dL_law_233 : decode cL_law 233 = .ok (.iadd, 1) := by decide +kernel
theorem dL_law_234 : decode cL_law 234 = .ok (.iaload, 1) := by decide +kernel
theorem dL_law_235 : decode cL_law 235 = .ok (.aload_n 0, 1) := by decide +kernel
theorem dL_law_236 : decode cL_law 236 = .ok (.iload_n 3, 1) := by decide +kernel
theorem dL_law_237 : decode cL_law 237 = .ok (.iconst 2, 1) := by decide +kernel
theorem dL_law_238 : decode cL_law 238 = .ok (.iadd, 1) := by decide +kernel
theorem dL_law_239 : decode cL_law 239 = .ok (.iaload, 1) := by decide +kernel
theorem dL_law_240 : decode cL_law 240 = .ok (.aload_n 0, 1) := by decide +kernel
theorem dL_law_241 : decode cL_law 241 = .ok (.iload_n 3, 1) := by decide +kernel
theorem dL_law_242 : decode cL_law 242 = .ok (.iconst 3, 1) := by decide +kernel
theorem dL_law_243 : decode cL_law 243 = .ok (.iadd, 1) := by decide +kernel
theorem dL_law_244 : decode cL_law 244 = .ok (.iaload, 1) := by decide +kernel
theorem dL_law_245 : decode cL_law 245 = .ok (.invokevirtual 27, 3) := by decide +kernel
theorem dL_law_248 : decode cL_law 248 = .ok (.if_icmp .eq 473, 3) := by decide +kernel
theorem dL_law_251 : decode cL_law 251 = .ok (.iconst 0, 1) := by decide +kernel
theorem dL_law_252 : decode cL_law 252 = .ok (.ireturn, 1) := by decide +kernel
theorem dL_law_253 : decode cL_law 253 = .ok (.aload_n 1, 1) := by decide +kernel
theorem dL_law_254 : decode cL_law 254 = .ok (.aload_n 0, 1) := by decide +kernel
theorem dL_law_255 : decode cL_law 255 = .ok (.iload_n 3, 1) := by decide +kernel
theorem dL_law_256 : decode cL_law 256 = .ok (.iconst 1, 1) := by decide +kernel
theorem dL_law_257 : decode cL_law 257 = .ok (.iadd, 1) := by decide +kernel
theorem dL_law_258 : decode cL_law 258 = .ok (.iaload, 1) := by decide +kernel
theorem dL_law_259 : decode cL_law 259 = .ok (.invokevirtual 28, 3) := by decide +kernel
theorem dL_law_262 : decode cL_law 262 = .ok (.aload_n 2, 1) := by decide +kernel
theorem dL_law_263 : decode cL_law 263 = .ok (.aload_n 0, 1) := by decide +kernel
theorem dL_law_264 : decode cL_law 264 = .ok (.iload_n 3, 1) := by decide +kernel
theorem dL_law_265 : decode cL_law 265 = .ok (.iconst 1, 1) := by decide +kernel
theorem dL_law_266 : decode cL_law 266 = .ok (.iadd, 1) := by decide +kernel
theorem dL_law_267 : decode cL_law 267 = .ok (.iaload, 1) := by decide +kernel
theorem dL_law_268 : decode cL_law 268 = .ok (.invokevirtual 31, 3) := by decide +kernel
theorem dL_law_271 : decode cL_law 271 = .ok (.if_icmp .eq 450, 3) := by decide +kernel
theorem dL_law_274 : decode cL_law 274 = .ok (.iconst 0, 1) := by decide +kernel
theorem dL_law_275 : decode cL_law 275 = .ok (.ireturn, 1) := by decide +kernel
theorem dL_law_276 : decode cL_law 276 = .ok (.aload_n 1, 1) := by decide +kernel
theorem dL_law_277 : decode cL_law 277 = .ok (.aload_n 0, 1) := by decide +kernel
theorem dL_law_278 : decode cL_law 278 = .ok (.iload_n 3, 1) := by decide +kernel
theorem dL_law_279 : decode cL_law 279 = .ok (.iconst 1, 1) := by decide +kernel
theorem dL_law_280 : decode cL_law 280 = .ok (.iadd, 1) := by decide +kernel
theorem dL_law_281 : decode cL_law 281 = .ok (.iaload, 1) := by decide +kernel
theorem dL_law_282 : decode cL_law 282 = .ok (.aload_n 0, 1) := by decide +kernel
theorem dL_law_283 : decode cL_law 283 = .ok (.iload_n 3, 1) := by decide +kernel
theorem dL_law_284 : decode cL_law 284 = .ok (.iconst 2, 1) := by decide +kernel
theorem dL_law_285 : decode cL_law 285 = .ok (.iadd, 1) := by decide +kernel
theorem dL_law_286 : decode cL_law 286 = .ok (.iaload, 1) := by decide +kernel
theorem dL_law_287 : decode cL_law 287 = .ok (.aload_n 0, 1) := by decide +kernel
theorem dL_law_288 : decode cL_law 288 = .ok (.iload_n 3, 1) := by decide +kernel
theorem dL_law_289 : decode cL_law 289 = .ok (.iconst 3, 1) := by decide +kernel
theorem dL_law_290 : decode cL_law 290 = .ok (.iadd, 1) := by decide +kernel
theorem dL_law_291 : decode cL_law 291 = .ok (.iaload, 1) := by decide +kernel
theorem dL_law_292 : decode cL_law 292 = .ok (.invokevirtual 32, 3) := by decide +kernel
theorem dL_law_295 : decode cL_law 295 = .ok (.aload_n 2, 1) := by decide +kernel
theorem dL_law_296 : decode cL_law 296 = .ok (.aload_n 0, 1) := by decide +kernel
theorem dL_law_297 : decode cL_law 297 = .ok (.iload_n 3, 1) := by decide +kernel
theorem dL_law_298 : decode cL_law 298 = .ok (.iconst 1, 1) := by decide +kernel
theorem dL_law_299 : decode cL_law 299 = .ok (.iadd, 1) := by decide +kernel
theorem dL_law_300 : decode cL_law 300 = .ok (.iaload, 1) := by decide +kernel
theorem dL_law_301 : decode cL_law 301 = .ok (.aload_n 0, 1) := by decide +kernel
theorem dL_law_302 : decode cL_law 302 = .ok (.iload_n 3, 1) := by decide +kernel
theorem dL_law_303 : decode cL_law 303 = .ok (.iconst 2, 1) := by decide +kernel
theorem dL_law_304 : decode cL_law 304 = .ok (.iadd, 1) := by decide +kernel
theorem dL_law_305 : decode cL_law 305 = .ok (.iaload, 1) := by decide +kernel
theorem dL_law_306 : decode cL_law 306 = .ok (.aload_n 0, 1) := by decide +kernel
theorem dL_law_307 : decode cL_law 307 = .ok (.iload_n 3, 1) := by decide +kernel
theorem dL_law_308 : decode cL_law 308 = .ok (.iconst 3, 1) := by decide +kernel
theorem dL_law_309 : decode cL_law 309 = .ok (.iadd, 1) := by decide +kernel
theorem dL_law_310 : decode cL_law 310 = .ok (.iaload, 1) := by decide +kernel
theorem dL_law_311 : decode cL_law 311 = .ok (.invokevirtual 35, 3) := by decide +kernel
theorem dL_law_314 : decode cL_law 314 = .ok (.if_icmp .eq 407, 3) := by decide +kernel
theorem dL_law_317 : decode cL_law 317 = .ok (.iconst 0, 1) := by decide +kernel
theorem dL_law_318 : decode cL_law 318 = .ok (.ireturn, 1) := by decide +kernel
theorem dL_law_319 : decode cL_law 319 = .ok (.aload_n 1, 1) := by decide +kernel
theorem dL_law_320 : decode cL_law 320 = .ok (.aload_n 0, 1) := by decide +kernel
theorem dL_law_321 : decode cL_law 321 = .ok (.iload_n 3, 1) := by decide +kernel
theorem dL_law_322 : decode cL_law 322 = .ok (.iconst 1, 1) := by decide +kernel
theorem dL_law_323 : decode cL_law 323 = .ok (.iadd, 1) := by decide +kernel
theorem dL_law_324 : decode cL_law 324 = .ok (.iaload, 1) := by decide +kernel
theorem dL_law_325 : decode cL_law 325 = .ok (.aload_n 0, 1) := by decide +kernel
theorem dL_law_326 : decode cL_law 326 = .ok (.iload_n 3, 1) := by decide +kernel
theorem dL_law_327 : decode cL_law 327 = .ok (.iconst 2, 1) := by decide +kernel
theorem dL_law_328 : decode cL_law 328 = .ok (.iadd, 1) := by decide +kernel
theorem dL_law_329 : decode cL_law 329 = .ok (.iaload, 1) := by decide +kernel
theorem dL_law_330 : decode cL_law 330 = .ok (.invokevirtual 36, 3) := by decide +kernel
theorem dL_law_333 : decode cL_law 333 = .ok (.aload_n 2, 1) := by decide +kernel
theorem dL_law_334 : decode cL_law 334 = .ok (.aload_n 0, 1) := by decide +kernel
theorem dL_law_335 : decode cL_law 335 = .ok (.iload_n 3, 1) := by decide +kernel
theorem dL_law_336 : decode cL_law 336 = .ok (.iconst 1, 1) := by decide +kernel
theorem dL_law_337 : decode cL_law 337 = .ok (.iadd, 1) := by decide +kernel
theorem dL_law_338 : decode cL_law 338 = .ok (.iaload, 1) := by decide +kernel
theorem dL_law_339 : decode cL_law 339 = .ok (.aload_n 0, 1) := by decide +kernel
theorem dL_law_340 : decode cL_law 340 = .ok (.iload_n 3, 1) := by decide +kernel
theorem dL_law_341 : decode cL_law 341 = .ok (.iconst 2, 1) := by decide +kernel
theorem dL_law_342 : decode cL_law 342 = .ok (.iadd, 1) := by decide +kernel
theorem dL_law_343 : decode cL_law 343 = .ok (.iaload, 1) := by decide +kernel
theorem dL_law_344 : decode cL_law 344 = .ok (.invokevirtual 40, 3) := by decide +kernel
theorem dL_law_347 : decode cL_law 347 = .ok (.if_icmp .eq 374, 3) := by decide +kernel
theorem dL_law_350 : decode cL_law 350 = .ok (.iconst 0, 1) := by decide +kernel
theorem dL_law_351 : decode cL_law 351 = .ok (.ireturn, 1) := by decide +kernel
theorem dL_law_352 : decode cL_law 352 = .ok (.aload_n 1, 1) := by decide +kernel
theorem dL_law_353 : decode cL_law 353 = .ok (.aload_n 0, 1) := by decide +kernel
theorem dL_law_354 : decode cL_law 354 = .ok (.iload_n 3, 1) := by decide +kernel
theorem dL_law_355 : decode cL_law 355 = .ok (.iconst 1, 1) := by decide +kernel
theorem dL_law_356 : decode cL_law 356 = .ok (.iadd, 1) := by decide +kernel
theorem dL_law_357 : decode cL_law 357 = .ok (.iaload, 1) := by decide +kernel
theorem dL_law_358 : decode cL_law 358 = .ok (.aload_n 0, 1) := by decide +kernel
theorem dL_law_359 : decode cL_law 359 = .ok (.iload_n 3, 1) := by decide +kernel
theorem dL_law_360 : decode cL_law 360 = .ok (.iconst 2, 1) := by decide +kernel
theorem dL_law_361 : decode cL_law 361 = .ok (.iadd, 1) := by decide +kernel
theorem dL_law_362 : decode cL_law 362 = .ok (.iaload, 1) := by decide +kernel
theorem dL_law_363 : decode cL_law 363 = .ok (.invokevirtual 41, 3) := by decide +kernel
theorem dL_law_366 : decode cL_law 366 = .ok (.aload_n 2, 1) := by decide +kernel
theorem dL_law_367 : decode cL_law 367 = .ok (.aload_n 0, 1) := by decide +kernel
theorem dL_law_368 : decode cL_law 368 = .ok (.iload_n 3, 1) := by decide +kernel
theorem dL_law_369 : decode cL_law 369 = .ok (.iconst 1, 1) := by decide +kernel
theorem dL_law_370 : decode cL_law 370 = .ok (.iadd, 1) := by decide +kernel
theorem dL_law_371 : decode cL_law 371 = .ok (.iaload, 1) := by decide +kernel
theorem dL_law_372 : decode cL_law 372 = .ok (.aload_n 0, 1) := by decide +kernel
theorem dL_law_373 : decode cL_law 373 = .ok (.iload_n 3, 1) := by decide +kernel
theorem dL_law_374 : decode cL_law 374 = .ok (.iconst 2, 1) := by decide +kernel
theorem dL_law_375 : decode cL_law 375 = .ok (.iadd, 1) := by decide +kernel
theorem dL_law_376 : decode cL_law 376 = .ok (.iaload, 1) := by decide +kernel
theorem dL_law_377 : decode cL_law 377 = .ok (.invokevirtual 44, 3) := by decide +kernel
theorem dL_law_380 : decode cL_law 380 = .ok (.if_icmp .eq 341, 3) := by decide +kernel
theorem dL_law_383 : decode cL_law 383 = .ok (.iconst 0, 1) := by decide +kernel
theorem dL_law_384 : decode cL_law 384 = .ok (.ireturn, 1) := by decide +kernel
theorem dL_law_385 : decode cL_law 385 = .ok (.aload_n 1, 1) := by decide +kernel
theorem dL_law_386 : decode cL_law 386 = .ok (.invokevirtual 45, 3) := by decide +kernel
theorem dL_law_389 : decode cL_law 389 = .ok (.aload_n 2, 1) := by decide +kernel
theorem dL_law_390 : decode cL_law 390 = .ok (.invokevirtual 49, 3) := by decide +kernel
theorem dL_law_393 : decode cL_law 393 = .ok (.if_icmp .eq 328, 3) := by decide +kernel
theorem dL_law_396 : decode cL_law 396 = .ok (.iconst 0, 1) := by decide +kernel
theorem dL_law_397 : decode cL_law 397 = .ok (.ireturn, 1) := by decide +kernel
theorem dL_law_398 : decode cL_law 398 = .ok (.aload_n 1, 1) := by decide +kernel
theorem dL_law_399 : decode cL_law 399 = .ok (.invokevirtual 50, 3) := by decide +kernel
theorem dL_law_402 : decode cL_law 402 = .ok (.aload_n 2, 1) := by decide +kernel
theorem dL_law_403 : decode cL_law 403 = .ok (.invokevirtual 53, 3) := by decide +kernel
theorem dL_law_406 : decode cL_law 406 = .ok (.if_icmp .eq 315, 3) := by decide +kernel
theorem dL_law_409 : decode cL_law 409 = .ok (.iconst 0, 1) := by decide +kernel
theorem dL_law_410 : decode cL_law 410 = .ok (.ireturn, 1) := by decide +kernel
theorem dL_law_411 : decode cL_law 411 = .ok (.aload_n 1, 1) := by decide +kernel
theorem dL_law_412 : decode cL_law 412 = .ok (.aload_n 0, 1) := by decide +kernel
theorem dL_law_413 : decode cL_law 413 = .ok (.iload_n 3, 1) := by decide +kernel
theorem dL_law_414 : decode cL_law 414 = .ok (.iconst 1, 1) := by decide +kernel
theorem dL_law_415 : decode cL_law 415 = .ok (.iadd, 1) := by decide +kernel
theorem dL_law_416 : decode cL_law 416 = .ok (.iaload, 1) := by decide +kernel
theorem dL_law_417 : decode cL_law 417 = .ok (.invokevirtual 54, 3) := by decide +kernel
theorem dL_law_420 : decode cL_law 420 = .ok (.aload_n 2, 1) := by decide +kernel
theorem dL_law_421 : decode cL_law 421 = .ok (.aload_n 0, 1) := by decide +kernel
theorem dL_law_422 : decode cL_law 422 = .ok (.iload_n 3, 1) := by decide +kernel
theorem dL_law_423 : decode cL_law 423 = .ok (.iconst 1, 1) := by decide +kernel
theorem dL_law_424 : decode cL_law 424 = .ok (.iadd, 1) := by decide +kernel
theorem dL_law_425 : decode cL_law 425 = .ok (.iaload, 1) := by decide +kernel
theorem dL_law_426 : decode cL_law 426 = .ok (.invokevirtual 57, 3) := by decide +kernel
theorem dL_law_429 : decode cL_law 429 = .ok (.if_icmp .eq 292, 3) := by decide +kernel
theorem dL_law_432 : decode cL_law 432 = .ok (.iconst 0, 1) := by decide +kernel
theorem dL_law_433 : decode cL_law 433 = .ok (.ireturn, 1) := by decide +kernel
theorem dL_law_434 : decode cL_law 434 = .ok (.aload_n 1, 1) := by decide +kernel
theorem dL_law_435 : decode cL_law 435 = .ok (.aload_n 0, 1) := by decide +kernel
theorem dL_law_436 : decode cL_law 436 = .ok (.iload_n 3, 1) := by decide +kernel
theorem dL_law_437 : decode cL_law 437 = .ok (.iconst 1, 1) := by decide +kernel
theorem dL_law_438 : decode cL_law 438 = .ok (.iadd, 1) := by decide +kernel
theorem dL_law_439 : decode cL_law 439 = .ok (.iaload, 1) := by decide +kernel
theorem dL_law_440 : decode cL_law 440 = .ok (.invokevirtual 58, 3) := by decide +kernel
theorem dL_law_443 : decode cL_law 443 = .ok (.aload_n 2, 1) := by decide +kernel
theorem dL_law_444 : decode cL_law 444 = .ok (.aload_n 0, 1) := by decide +kernel
theorem dL_law_445 : decode cL_law 445 = .ok (.iload_n 3, 1) := by decide +kernel
theorem dL_law_446 : decode cL_law 446 = .ok (.iconst 1, 1) := by decide +kernel
theorem dL_law_447 : decode cL_law 447 = .ok (.iadd, 1) := by decide +kernel
theorem dL_law_448 : decode cL_law 448 = .ok (.iaload, 1) := by decide +kernel
theorem dL_law_449 : decode cL_law 449 = .ok (.invokevirtual 61, 3) := by decide +kernel
theorem dL_law_452 : decode cL_law 452 = .ok (.if_icmp .eq 269, 3) := by decide +kernel
theorem dL_law_455 : decode cL_law 455 = .ok (.iconst 0, 1) := by decide +kernel
theorem dL_law_456 : decode cL_law 456 = .ok (.ireturn, 1) := by decide +kernel
theorem dL_law_457 : decode cL_law 457 = .ok (.aload_n 1, 1) := by decide +kernel
theorem dL_law_458 : decode cL_law 458 = .ok (.aload_n 0, 1) := by decide +kernel
theorem dL_law_459 : decode cL_law 459 = .ok (.iload_n 3, 1) := by decide +kernel
theorem dL_law_460 : decode cL_law 460 = .ok (.iconst 1, 1) := by decide +kernel
theorem dL_law_461 : decode cL_law 461 = .ok (.iadd, 1) := by decide +kernel
theorem dL_law_462 : decode cL_law 462 = .ok (.iaload, 1) := by decide +kernel
theorem dL_law_463 : decode cL_law 463 = .ok (.aload_n 0, 1) := by decide +kernel
theorem dL_law_464 : decode cL_law 464 = .ok (.iload_n 3, 1) := by decide +kernel
theorem dL_law_465 : decode cL_law 465 = .ok (.iconst 2, 1) := by decide +kernel
theorem dL_law_466 : decode cL_law 466 = .ok (.iadd, 1) := by decide +kernel
theorem dL_law_467 : decode cL_law 467 = .ok (.iaload, 1) := by decide +kernel
theorem dL_law_468 : decode cL_law 468 = .ok (.invokevirtual 62, 3) := by decide +kernel
theorem dL_law_471 : decode cL_law 471 = .ok (.aload_n 2, 1) := by decide +kernel
theorem dL_law_472 : decode cL_law 472 = .ok (.aload_n 0, 1) := by decide +kernel
theorem dL_law_473 : decode cL_law 473 = .ok (.iload_n 3, 1) := by decide +kernel
theorem dL_law_474 : decode cL_law 474 = .ok (.iconst 1, 1) := by decide +kernel
theorem dL_law_475 : decode cL_law 475 = .ok (.iadd, 1) := by decide +kernel
theorem dL_law_476 : decode cL_law 476 = .ok (.iaload, 1) := by decide +kernel
theorem dL_law_477 : decode cL_law 477 = .ok (.aload_n 0, 1) := by decide +kernel
theorem dL_law_478 : decode cL_law 478 = .ok (.iload_n 3, 1) := by decide +kernel
theorem dL_law_479 : decode cL_law 479 = .ok (.iconst 2, 1) := by decide +kernel
theorem dL_law_480 : decode cL_law 480 = .ok (.iadd, 1) := by decide +kernel
theorem dL_law_481 : decode cL_law 481 = .ok (.iaload, 1) := by decide +kernel
theorem dL_law_482 : decode cL_law 482 = .ok (.invokevirtual 65, 3) := by decide +kernel
theorem dL_law_485 : decode cL_law 485 = .ok (.if_icmp .eq 236, 3) := by decide +kernel
theorem dL_law_488 : decode cL_law 488 = .ok (.iconst 0, 1) := by decide +kernel
theorem dL_law_489 : decode cL_law 489 = .ok (.ireturn, 1) := by decide +kernel
theorem dL_law_490 : decode cL_law 490 = .ok (.aload_n 1, 1) := by decide +kernel
theorem dL_law_491 : decode cL_law 491 = .ok (.aload_n 0, 1) := by decide +kernel
theorem dL_law_492 : decode cL_law 492 = .ok (.iload_n 3, 1) := by decide +kernel
theorem dL_law_493 : decode cL_law 493 = .ok (.iconst 1, 1) := by decide +kernel
theorem dL_law_494 : decode cL_law 494 = .ok (.iadd, 1) := by decide +kernel
theorem dL_law_495 : decode cL_law 495 = .ok (.iaload, 1) := by decide +kernel
theorem dL_law_496 : decode cL_law 496 = .ok (.aload_n 0, 1) := by decide +kernel
theorem dL_law_497 : decode cL_law 497 = .ok (.iload_n 3, 1) := by decide +kernel
theorem dL_law_498 : decode cL_law 498 = .ok (.iconst 2, 1) := by decide +kernel
theorem dL_law_499 : decode cL_law 499 = .ok (.iadd, 1) := by decide +kernel
theorem dL_law_500 : decode cL_law 500 = .ok (.iaload, 1) := by decide +kernel
theorem dL_law_501 : decode cL_law 501 = .ok (.aload_n 0, 1) := by decide +kernel
theorem dL_law_502 : decode cL_law 502 = .ok (.iload_n 3, 1) := by decide +kernel
theorem dL_law_503 : decode cL_law 503 = .ok (.iconst 3, 1) := by decide +kernel
theorem dL_law_504 : decode cL_law 504 = .ok (.iadd, 1) := by decide +kernel
theorem dL_law_505 : decode cL_law 505 = .ok (.iaload, 1) := by decide +kernel
theorem dL_law_506 : decode cL_law 506 = .ok (.invokevirtual 66, 3) := by decide +kernel
theorem dL_law_509 : decode cL_law 509 = .ok (.aload_n 2, 1) := by decide +kernel
theorem dL_law_510 : decode cL_law 510 = .ok (.aload_n 0, 1) := by decide +kernel
theorem dL_law_511 : decode cL_law 511 = .ok (.iload_n 3, 1) := by decide +kernel
theorem dL_law_512 : decode cL_law 512 = .ok (.iconst 1, 1) := by decide +kernel
theorem dL_law_513 : decode cL_law 513 = .ok (.iadd, 1) := by decide +kernel
theorem dL_law_514 : decode cL_law 514 = .ok (.iaload, 1) := by decide +kernel
theorem dL_law_515 : decode cL_law 515 = .ok (.aload_n 0, 1) := by decide +kernel
theorem dL_law_516 : decode cL_law 516 = .ok (.iload_n 3, 1) := by decide +kernel
theorem dL_law_517 : decode cL_law 517 = .ok (.iconst 2, 1) := by decide +kernel
theorem dL_law_518 : decode cL_law 518 = .ok (.iadd, 1) := by decide +kernel
theorem dL_law_519 : decode cL_law 519 = .ok (.iaload, 1) := by decide +kernel
theorem dL_law_520 : decode cL_law 520 = .ok (.aload_n 0, 1) := by decide +kernel
theorem dL_law_521 : decode cL_law 521 = .ok (.iload_n 3, 1) := by decide +kernel
theorem dL_law_522 : decode cL_law 522 = .ok (.iconst 3, 1) := by decide +kernel
theorem dL_law_523 : decode cL_law 523 = .ok (.iadd, 1) := by decide +kernel
theorem dL_law_524 : decode cL_law 524 = .ok (.iaload, 1) := by decide +kernel
theorem dL_law_525 : decode cL_law 525 = .ok (.invokevirtual 69, 3) := by decide +kernel
theorem dL_law_528 : decode cL_law 528 = .ok (.if_icmp .eq 193, 3) := by decide +kernel
theorem dL_law_531 : decode cL_law 531 = .ok (.iconst 0, 1) := by decide +kernel
theorem dL_law_532 : decode cL_law 532 = .ok (.ireturn, 1) := by decide +kernel
theorem dL_law_533 : decode cL_law 533 = .ok (.aload_n 1, 1) := by decide +kernel
theorem dL_law_534 : decode cL_law 534 = .ok (.aload_n 0, 1) := by decide +kernel
theorem dL_law_535 : decode cL_law 535 = .ok (.iload_n 3, 1) := by decide +kernel
theorem dL_law_536 : decode cL_law 536 = .ok (.iconst 1, 1) := by decide +kernel
theorem dL_law_537 : decode cL_law 537 = .ok (.iadd, 1) := by decide +kernel
theorem dL_law_538 : decode cL_law 538 = .ok (.iaload, 1) := by decide +kernel
theorem dL_law_539 : decode cL_law 539 = .ok (.aload_n 0, 1) := by decide +kernel
theorem dL_law_540 : decode cL_law 540 = .ok (.iload_n 3, 1) := by decide +kernel
theorem dL_law_541 : decode cL_law 541 = .ok (.iconst 2, 1) := by decide +kernel
theorem dL_law_542 : decode cL_law 542 = .ok (.iadd, 1) := by decide +kernel
theorem dL_law_543 : decode cL_law 543 = .ok (.iaload, 1) := by decide +kernel
theorem dL_law_544 : decode cL_law 544 = .ok (.aload_n 0, 1) := by decide +kernel
theorem dL_law_545 : decode cL_law 545 = .ok (.iload_n 3, 1) := by decide +kernel
theorem dL_law_546 : decode cL_law 546 = .ok (.iconst 3, 1) := by decide +kernel
theorem dL_law_547 : decode cL_law 547 = .ok (.iadd, 1) := by decide +kernel
theorem dL_law_548 : decode cL_law 548 = .ok (.iaload, 1) := by decide +kernel
theorem dL_law_549 : decode cL_law 549 = .ok (.invokevirtual 70, 3) := by decide +kernel
theorem dL_law_552 : decode cL_law 552 = .ok (.aload_n 2, 1) := by decide +kernel
theorem dL_law_553 : decode cL_law 553 = .ok (.aload_n 0, 1) := by decide +kernel
theorem dL_law_554 : decode cL_law 554 = .ok (.iload_n 3, 1) := by decide +kernel
theorem dL_law_555 : decode cL_law 555 = .ok (.iconst 1, 1) := by decide +kernel
theorem dL_law_556 : decode cL_law 556 = .ok (.iadd, 1) := by decide +kernel
theorem dL_law_557 : decode cL_law 557 = .ok (.iaload, 1) := by decide +kernel
theorem dL_law_558 : decode cL_law 558 = .ok (.aload_n 0, 1) := by decide +kernel
theorem dL_law_559 : decode cL_law 559 = .ok (.iload_n 3, 1) := by decide +kernel
theorem dL_law_560 : decode cL_law 560 = .ok (.iconst 2, 1) := by decide +kernel
theorem dL_law_561 : decode cL_law 561 = .ok (.iadd, 1) := by decide +kernel
theorem dL_law_562 : decode cL_law 562 = .ok (.iaload, 1) := by decide +kernel
theorem dL_law_563 : decode cL_law 563 = .ok (.aload_n 0, 1) := by decide +kernel
theorem dL_law_564 : decode cL_law 564 = .ok (.iload_n 3, 1) := by decide +kernel
theorem dL_law_565 : decode cL_law 565 = .ok (.iconst 3, 1) := by decide +kernel
theorem dL_law_566 : decode cL_law 566 = .ok (.iadd, 1) := by decide +kernel
theorem dL_law_567 : decode cL_law 567 = .ok (.iaload, 1) := by decide +kernel
theorem dL_law_568 : decode cL_law 568 = .ok (.invokevirtual 73, 3) := by decide +kernel
theorem dL_law_571 : decode cL_law 571 = .ok (.if_icmp .eq 150, 3) := by decide +kernel
theorem dL_law_574 : decode cL_law 574 = .ok (.iconst 0, 1) := by decide +kernel
theorem dL_law_575 : decode cL_law 575 = .ok (.ireturn, 1) := by decide +kernel
theorem dL_law_576 : decode cL_law 576 = .ok (.aload_n 1, 1) := by decide +kernel
theorem dL_law_577 : decode cL_law 577 = .ok (.aload_n 0, 1) := by decide +kernel
theorem dL_law_578 : decode cL_law 578 = .ok (.iload_n 3, 1) := by decide +kernel
theorem dL_law_579 : decode cL_law 579 = .ok (.iconst 1, 1) := by decide +kernel
theorem dL_law_580 : decode cL_law 580 = .ok (.iadd, 1) := by decide +kernel
theorem dL_law_581 : decode cL_law 581 = .ok (.iaload, 1) := by decide +kernel
theorem dL_law_582 : decode cL_law 582 = .ok (.aload_n 0, 1) := by decide +kernel
theorem dL_law_583 : decode cL_law 583 = .ok (.iload_n 3, 1) := by decide +kernel
theorem dL_law_584 : decode cL_law 584 = .ok (.iconst 2, 1) := by decide +kernel
theorem dL_law_585 : decode cL_law 585 = .ok (.iadd, 1) := by decide +kernel
theorem dL_law_586 : decode cL_law 586 = .ok (.iaload, 1) := by decide +kernel
theorem dL_law_587 : decode cL_law 587 = .ok (.invokevirtual 74, 3) := by decide +kernel
theorem dL_law_590 : decode cL_law 590 = .ok (.aload_n 2, 1) := by decide +kernel
theorem dL_law_591 : decode cL_law 591 = .ok (.aload_n 0, 1) := by decide +kernel
theorem dL_law_592 : decode cL_law 592 = .ok (.iload_n 3, 1) := by decide +kernel
theorem dL_law_593 : decode cL_law 593 = .ok (.iconst 1, 1) := by decide +kernel
theorem dL_law_594 : decode cL_law 594 = .ok (.iadd, 1) := by decide +kernel
theorem dL_law_595 : decode cL_law 595 = .ok (.iaload, 1) := by decide +kernel
theorem dL_law_596 : decode cL_law 596 = .ok (.aload_n 0, 1) := by decide +kernel
theorem dL_law_597 : decode cL_law 597 = .ok (.iload_n 3, 1) := by decide +kernel
theorem dL_law_598 : decode cL_law 598 = .ok (.iconst 2, 1) := by decide +kernel
theorem dL_law_599 : decode cL_law 599 = .ok (.iadd, 1) := by decide +kernel
theorem dL_law_600 : decode cL_law 600 = .ok (.iaload, 1) := by decide +kernel
theorem dL_law_601 : decode cL_law 601 = .ok (.invokevirtual 77, 3) := by decide +kernel
theorem dL_law_604 : decode cL_law 604 = .ok (.if_icmp .eq 117, 3) := by decide +kernel
theorem dL_law_607 : decode cL_law 607 = .ok (.iconst 0, 1) := by decide +kernel
theorem dL_law_608 : decode cL_law 608 = .ok (.ireturn, 1) := by decide +kernel
theorem dL_law_609 : decode cL_law 609 = .ok (.aload_n 1, 1) := by decide +kernel
theorem dL_law_610 : decode cL_law 610 = .ok (.aload_n 0, 1) := by decide +kernel
theorem dL_law_611 : decode cL_law 611 = .ok (.iload_n 3, 1) := by decide +kernel
theorem dL_law_612 : decode cL_law 612 = .ok (.iconst 1, 1) := by decide +kernel
theorem dL_law_613 : decode cL_law 613 = .ok (.iadd, 1) := by decide +kernel
theorem dL_law_614 : decode cL_law 614 = .ok (.iaload, 1) := by decide +kernel
theorem dL_law_615 : decode cL_law 615 = .ok (.invokevirtual 78, 3) := by decide +kernel
theorem dL_law_618 : decode cL_law 618 = .ok (.aload_n 2, 1) := by decide +kernel
theorem dL_law_619 : decode cL_law 619 = .ok (.aload_n 0, 1) := by decide +kernel
theorem dL_law_620 : decode cL_law 620 = .ok (.iload_n 3, 1) := by decide +kernel
theorem dL_law_621 : decode cL_law 621 = .ok (.iconst 1, 1) := by decide +kernel
theorem dL_law_622 : decode cL_law 622 = .ok (.iadd, 1) := by decide +kernel
theorem dL_law_623 : decode cL_law 623 = .ok (.iaload, 1) := by decide +kernel
theorem dL_law_624 : decode cL_law 624 = .ok (.invokevirtual 81, 3) := by decide +kernel
theorem dL_law_627 : decode cL_law 627 = .ok (.if_icmp .eq 94, 3) := by decide +kernel
theorem dL_law_630 : decode cL_law 630 = .ok (.iconst 0, 1) := by decide +kernel
theorem dL_law_631 : decode cL_law 631 = .ok (.ireturn, 1) := by decide +kernel
theorem dL_law_632 : decode cL_law 632 = .ok (.aload_n 1, 1) := by decide +kernel
theorem dL_law_633 : decode cL_law 633 = .ok (.aload_n 0, 1) := by decide +kernel
theorem dL_law_634 : decode cL_law 634 = .ok (.iload_n 3, 1) := by decide +kernel
theorem dL_law_635 : decode cL_law 635 = .ok (.iconst 1, 1) := by decide +kernel
theorem dL_law_636 : decode cL_law 636 = .ok (.iadd, 1) := by decide +kernel
theorem dL_law_637 : decode cL_law 637 = .ok (.iaload, 1) := by decide +kernel
theorem dL_law_638 : decode cL_law 638 = .ok (.aload_n 0, 1) := by decide +kernel
theorem dL_law_639 : decode cL_law 639 = .ok (.iload_n 3, 1) := by decide +kernel
theorem dL_law_640 : decode cL_law 640 = .ok (.iconst 2, 1) := by decide +kernel
theorem dL_law_641 : decode cL_law 641 = .ok (.iadd, 1) := by decide +kernel
theorem dL_law_642 : decode cL_law 642 = .ok (.iaload, 1) := by decide +kernel
theorem dL_law_643 : decode cL_law 643 = .ok (.invokevirtual 82, 3) := by decide +kernel
theorem dL_law_646 : decode cL_law 646 = .ok (.aload_n 2, 1) := by decide +kernel
theorem dL_law_647 : decode cL_law 647 = .ok (.aload_n 0, 1) := by decide +kernel
theorem dL_law_648 : decode cL_law 648 = .ok (.iload_n 3, 1) := by decide +kernel
theorem dL_law_649 : decode cL_law 649 = .ok (.iconst 1, 1) := by decide +kernel
theorem dL_law_650 : decode cL_law 650 = .ok (.iadd, 1) := by decide +kernel
theorem dL_law_651 : decode cL_law 651 = .ok (.iaload, 1) := by decide +kernel
theorem dL_law_652 : decode cL_law 652 = .ok (.aload_n 0, 1) := by decide +kernel
theorem dL_law_653 : decode cL_law 653 = .ok (.iload_n 3, 1) := by decide +kernel
theorem dL_law_654 : decode cL_law 654 = .ok (.iconst 2, 1) := by decide +kernel
theorem dL_law_655 : decode cL_law 655 = .ok (.iadd, 1) := by decide +kernel
theorem dL_law_656 : decode cL_law 656 = .ok (.iaload, 1) := by decide +kernel
theorem dL_law_657 : decode cL_law 657 = .ok (.invokevirtual 85, 3) := by decide +kernel
theorem dL_law_660 : decode cL_law 660 = .ok (.if_icmp .eq 61, 3) := by decide +kernel
theorem dL_law_663 : decode cL_law 663 = .ok (.iconst 0, 1) := by decide +kernel
theorem dL_law_664 : decode cL_law 664 = .ok (.ireturn, 1) := by decide +kernel
theorem dL_law_665 : decode cL_law 665 = .ok (.aload_n 1, 1) := by decide +kernel
theorem dL_law_666 : decode cL_law 666 = .ok (.aload_n 0, 1) := by decide +kernel
theorem dL_law_667 : decode cL_law 667 = .ok (.iload_n 3, 1) := by decide +kernel
theorem dL_law_668 : decode cL_law 668 = .ok (.iconst 1, 1) := by decide +kernel
theorem dL_law_669 : decode cL_law 669 = .ok (.iadd, 1) := by decide +kernel
theorem dL_law_670 : decode cL_law 670 = .ok (.iaload, 1) := by decide +kernel
theorem dL_law_671 : decode cL_law 671 = .ok (.aload_n 0, 1) := by decide +kernel
theorem dL_law_672 : decode cL_law 672 = .ok (.iload_n 3, 1) := by decide +kernel
theorem dL_law_673 : decode cL_law 673 = .ok (.iconst 2, 1) := by decide +kernel
theorem dL_law_674 : decode cL_law 674 = .ok (.iadd, 1) := by decide +kernel
theorem dL_law_675 : decode cL_law 675 = .ok (.iaload, 1) := by decide +kernel
theorem dL_law_676 : decode cL_law 676 = .ok (.invokevirtual 86, 3) := by decide +kernel
theorem dL_law_679 : decode cL_law 679 = .ok (.aload_n 2, 1) := by decide +kernel
theorem dL_law_680 : decode cL_law 680 = .ok (.aload_n 0, 1) := by decide +kernel
theorem dL_law_681 : decode cL_law 681 = .ok (.iload_n 3, 1) := by decide +kernel
theorem dL_law_682 : decode cL_law 682 = .ok (.iconst 1, 1) := by decide +kernel
theorem dL_law_683 : decode cL_law 683 = .ok (.iadd, 1) := by decide +kernel
theorem dL_law_684 : decode cL_law 684 = .ok (.iaload, 1) := by decide +kernel
theorem dL_law_685 : decode cL_law 685 = .ok (.aload_n 0, 1) := by decide +kernel
theorem dL_law_686 : decode cL_law 686 = .ok (.iload_n 3, 1) := by decide +kernel
theorem dL_law_687 : decode cL_law 687 = .ok (.iconst 2, 1) := by decide +kernel
theorem dL_law_688 : decode cL_law 688 = .ok (.iadd, 1) := by decide +kernel
theorem dL_law_689 : decode cL_law 689 = .ok (.iaload, 1) := by decide +kernel
theorem dL_law_690 : decode cL_law 690 = .ok (.invokevirtual 89, 3) := by decide +kernel
theorem dL_law_693 : decode cL_law 693 = .ok (.if_icmp .eq 28, 3) := by decide +kernel
theorem dL_law_696 : decode cL_law 696 = .ok (.iconst 0, 1) := by decide +kernel
theorem dL_law_697 : decode cL_law 697 = .ok (.ireturn, 1) := by decide +kernel
theorem dL_law_698 : decode cL_law 698 = .ok (.aload_n 1, 1) := by decide +kernel
theorem dL_law_699 : decode cL_law 699 = .ok (.aload_n 0, 1) := by decide +kernel
theorem dL_law_700 : decode cL_law 700 = .ok (.iload_n 3, 1) := by decide +kernel
theorem dL_law_701 : decode cL_law 701 = .ok (.iconst 1, 1) := by decide +kernel
theorem dL_law_702 : decode cL_law 702 = .ok (.iadd, 1) := by decide +kernel
theorem dL_law_703 : decode cL_law 703 = .ok (.iaload, 1) := by decide +kernel
theorem dL_law_704 : decode cL_law 704 = .ok (.invokevirtual 90, 3) := by decide +kernel
theorem dL_law_707 : decode cL_law 707 = .ok (.aload_n 2, 1) := by decide +kernel
theorem dL_law_708 : decode cL_law 708 = .ok (.aload_n 0, 1) := by decide +kernel
theorem dL_law_709 : decode cL_law 709 = .ok (.iload_n 3, 1) := by decide +kernel
theorem dL_law_710 : decode cL_law 710 = .ok (.iconst 1, 1) := by decide +kernel
theorem dL_law_711 : decode cL_law 711 = .ok (.iadd, 1) := by decide +kernel
theorem dL_law_712 : decode cL_law 712 = .ok (.iaload, 1) := by decide +kernel
theorem dL_law_713 : decode cL_law 713 = .ok (.invokevirtual 93, 3) := by decide +kernel
theorem dL_law_716 : decode cL_law 716 = .ok (.if_icmp .eq 5, 3) := by decide +kernel
theorem dL_law_719 : decode cL_law 719 = .ok (.iconst 0, 1) := by decide +kernel
theorem dL_law_720 : decode cL_law 720 = .ok (.ireturn, 1) := by decide +kernel
theorem dL_law_721 : decode cL_law 721 = .ok (.iinc 3 6, 3) := by decide +kernel
theorem dL_law_724 : decode cL_law 724 = .ok (.goto (-706), 3) := by decide +kernel
theorem dL_law_727 : decode cL_law 727 = .ok (.iconst 1, 1) := by decide +kernel
theorem dL_law_728 : decode cL_law 728 = .ok (.ireturn, 1) := by decide +kernel
end
