section
-- ===== PART A: goes FIRST, ahead of the names: the tables' words, and 'selects' of the private methods out of them =====
/-- a private method of a class that the tables say can be made, by its rows of tables_1 -/
def lw_okq (q : MethodName × Nat) : Prop := (q.1.cls ≠ "java/lang/invoke/MethodHandle" ∧ q.1.cls ≠ "java/lang/invoke/VarHandle") ∧ Cond.instantiable q.1.cls q.2 ∈ tables_1 ∧ Cond.privateMethod q.1 ∈ tables_1 ∧ Cond.instanceMethod q.1 ∈ tables_1
theorem lw_p0 : lw_okq (⟨"BitDrive$Blocks", "formatTrack", "(LBitDrive$Ring;I)V"⟩, 7) := ⟨⟨by decide +kernel, by decide +kernel⟩, List.mem_of_getElem? (i := 40) (by decide +kernel), List.mem_of_getElem? (i := 297) (by decide +kernel), List.mem_of_getElem? (i := 298) (by decide +kernel)⟩
theorem lw_p1 : lw_okq (⟨"BitDrive", "lookFor", "(II)I"⟩, 10) := ⟨⟨by decide +kernel, by decide +kernel⟩, List.mem_of_getElem? (i := 13) (by decide +kernel), List.mem_of_getElem? (i := 352) (by decide +kernel), List.mem_of_getElem? (i := 353) (by decide +kernel)⟩
theorem lw_p2 : lw_okq (⟨"BitDrive", "openDisk", "()I"⟩, 10) := ⟨⟨by decide +kernel, by decide +kernel⟩, List.mem_of_getElem? (i := 13) (by decide +kernel), List.mem_of_getElem? (i := 356) (by decide +kernel), List.mem_of_getElem? (i := 357) (by decide +kernel)⟩
theorem lw_p3 : lw_okq (⟨"BitDrive$Blocks", "seek", "(LBitDrive$Ring;II)I"⟩, 7) := ⟨⟨by decide +kernel, by decide +kernel⟩, List.mem_of_getElem? (i := 40) (by decide +kernel), List.mem_of_getElem? (i := 369) (by decide +kernel), List.mem_of_getElem? (i := 370) (by decide +kernel)⟩
theorem lw_p4 : lw_okq (⟨"BitDrive$Blocks", "headerError", "(LBitDrive$Ring;III)I"⟩, 7) := ⟨⟨by decide +kernel, by decide +kernel⟩, List.mem_of_getElem? (i := 40) (by decide +kernel), List.mem_of_getElem? (i := 381) (by decide +kernel), List.mem_of_getElem? (i := 382) (by decide +kernel)⟩
theorem lw_p5 : lw_okq (⟨"BitDrive$Directory", "keepRoom", "(I)V"⟩, 12) := ⟨⟨by decide +kernel, by decide +kernel⟩, List.mem_of_getElem? (i := 137) (by decide +kernel), List.mem_of_getElem? (i := 406) (by decide +kernel), List.mem_of_getElem? (i := 407) (by decide +kernel)⟩
theorem lw_p6 : lw_okq (⟨"BitDrive", "takeRoom", "()Z"⟩, 10) := ⟨⟨by decide +kernel, by decide +kernel⟩, List.mem_of_getElem? (i := 13) (by decide +kernel), List.mem_of_getElem? (i := 424) (by decide +kernel), List.mem_of_getElem? (i := 425) (by decide +kernel)⟩
theorem lw_p7 : lw_okq (⟨"BitDrive$Chain", "addBlock", "(II)V"⟩, 6) := ⟨⟨by decide +kernel, by decide +kernel⟩, List.mem_of_getElem? (i := 192) (by decide +kernel), List.mem_of_getElem? (i := 455) (by decide +kernel), List.mem_of_getElem? (i := 456) (by decide +kernel)⟩
theorem lw_p8 : lw_okq (⟨"BitDrive$Chain", "fillBlock", "(LBitDrive$Bytes;I)V"⟩, 6) := ⟨⟨by decide +kernel, by decide +kernel⟩, List.mem_of_getElem? (i := 192) (by decide +kernel), List.mem_of_getElem? (i := 463) (by decide +kernel), List.mem_of_getElem? (i := 464) (by decide +kernel)⟩
theorem lw_p9 : lw_okq (⟨"BitDrive", "storeEntry", "(III)I"⟩, 10) := ⟨⟨by decide +kernel, by decide +kernel⟩, List.mem_of_getElem? (i := 13) (by decide +kernel), List.mem_of_getElem? (i := 480) (by decide +kernel), List.mem_of_getElem? (i := 481) (by decide +kernel)⟩
theorem lw_p10 : lw_okq (⟨"BitDrive", "fillEntry", "([IIIII)V"⟩, 10) := ⟨⟨by decide +kernel, by decide +kernel⟩, List.mem_of_getElem? (i := 13) (by decide +kernel), List.mem_of_getElem? (i := 484) (by decide +kernel), List.mem_of_getElem? (i := 485) (by decide +kernel)⟩
theorem lw_p11 : lw_okq (⟨"BitDrive", "outputOr", "(I)I"⟩, 10) := ⟨⟨by decide +kernel, by decide +kernel⟩, List.mem_of_getElem? (i := 13) (by decide +kernel), List.mem_of_getElem? (i := 510) (by decide +kernel), List.mem_of_getElem? (i := 511) (by decide +kernel)⟩
theorem lw_p12 : lw_okq (⟨"BitDriveModel", "setCodes", "(IIIII)V"⟩, 31) := ⟨⟨by decide +kernel, by decide +kernel⟩, List.mem_of_getElem? (i := 609) (by decide +kernel), List.mem_of_getElem? (i := 616) (by decide +kernel), List.mem_of_getElem? (i := 617) (by decide +kernel)⟩
theorem lw_p13 : lw_okq (⟨"BitDriveModel", "setFree", "(IIZ)V"⟩, 31) := ⟨⟨by decide +kernel, by decide +kernel⟩, List.mem_of_getElem? (i := 609) (by decide +kernel), List.mem_of_getElem? (i := 734) (by decide +kernel), List.mem_of_getElem? (i := 735) (by decide +kernel)⟩
theorem lw_p14 : lw_okq (⟨"BitDriveModel", "putSync", "()V"⟩, 31) := ⟨⟨by decide +kernel, by decide +kernel⟩, List.mem_of_getElem? (i := 609) (by decide +kernel), List.mem_of_getElem? (i := 741) (by decide +kernel), List.mem_of_getElem? (i := 742) (by decide +kernel)⟩
theorem lw_p15 : lw_okq (⟨"BitDriveModel", "putBits", "(II)V"⟩, 31) := ⟨⟨by decide +kernel, by decide +kernel⟩, List.mem_of_getElem? (i := 609) (by decide +kernel), List.mem_of_getElem? (i := 745) (by decide +kernel), List.mem_of_getElem? (i := 746) (by decide +kernel)⟩
def lw_privs_1 : List (MethodName × Nat) := [(⟨"BitDrive$Blocks", "formatTrack", "(LBitDrive$Ring;I)V"⟩, 7), (⟨"BitDrive", "lookFor", "(II)I"⟩, 10), (⟨"BitDrive", "openDisk", "()I"⟩, 10), (⟨"BitDrive$Blocks", "seek", "(LBitDrive$Ring;II)I"⟩, 7), (⟨"BitDrive$Blocks", "headerError", "(LBitDrive$Ring;III)I"⟩, 7), (⟨"BitDrive$Directory", "keepRoom", "(I)V"⟩, 12), (⟨"BitDrive", "takeRoom", "()Z"⟩, 10), (⟨"BitDrive$Chain", "addBlock", "(II)V"⟩, 6), (⟨"BitDrive$Chain", "fillBlock", "(LBitDrive$Bytes;I)V"⟩, 6), (⟨"BitDrive", "storeEntry", "(III)I"⟩, 10), (⟨"BitDrive", "fillEntry", "([IIIII)V"⟩, 10), (⟨"BitDrive", "outputOr", "(I)I"⟩, 10), (⟨"BitDriveModel", "setCodes", "(IIIII)V"⟩, 31), (⟨"BitDriveModel", "setFree", "(IIZ)V"⟩, 31), (⟨"BitDriveModel", "putSync", "()V"⟩, 31), (⟨"BitDriveModel", "putBits", "(II)V"⟩, 31)]
theorem lw_r1 : ∀ q ∈ lw_privs_1, lw_okq q := List.forall_mem_cons.mpr ⟨lw_p0, List.forall_mem_cons.mpr ⟨lw_p1, List.forall_mem_cons.mpr ⟨lw_p2, List.forall_mem_cons.mpr ⟨lw_p3, List.forall_mem_cons.mpr ⟨lw_p4, List.forall_mem_cons.mpr ⟨lw_p5, List.forall_mem_cons.mpr ⟨lw_p6, List.forall_mem_cons.mpr ⟨lw_p7, List.forall_mem_cons.mpr ⟨lw_p8, List.forall_mem_cons.mpr ⟨lw_p9, List.forall_mem_cons.mpr ⟨lw_p10, List.forall_mem_cons.mpr ⟨lw_p11, List.forall_mem_cons.mpr ⟨lw_p12, List.forall_mem_cons.mpr ⟨lw_p13, List.forall_mem_cons.mpr ⟨lw_p14, List.forall_mem_cons.mpr ⟨lw_p15, fun _ h => absurd h List.not_mem_nil⟩⟩⟩⟩⟩⟩⟩⟩⟩⟩⟩⟩⟩⟩⟩⟩
theorem lw_p16 : lw_okq (⟨"BitDriveModel", "putCoded", "(I)V"⟩, 31) := ⟨⟨by decide +kernel, by decide +kernel⟩, List.mem_of_getElem? (i := 609) (by decide +kernel), List.mem_of_getElem? (i := 758) (by decide +kernel), List.mem_of_getElem? (i := 759) (by decide +kernel)⟩
theorem lw_p17 : lw_okq (⟨"BitDriveModel", "putData", "()V"⟩, 31) := ⟨⟨by decide +kernel, by decide +kernel⟩, List.mem_of_getElem? (i := 609) (by decide +kernel), List.mem_of_getElem? (i := 762) (by decide +kernel), List.mem_of_getElem? (i := 763) (by decide +kernel)⟩
theorem lw_p18 : lw_okq (⟨"BitDriveModel", "ends", "(III)I"⟩, 31) := ⟨⟨by decide +kernel, by decide +kernel⟩, List.mem_of_getElem? (i := 609) (by decide +kernel), List.mem_of_getElem? (i := 766) (by decide +kernel), List.mem_of_getElem? (i := 767) (by decide +kernel)⟩
theorem lw_p19 : lw_okq (⟨"BitDriveModel", "saves", "(IIII)Z"⟩, 31) := ⟨⟨by decide +kernel, by decide +kernel⟩, List.mem_of_getElem? (i := 609) (by decide +kernel), List.mem_of_getElem? (i := 778) (by decide +kernel), List.mem_of_getElem? (i := 779) (by decide +kernel)⟩
theorem lw_p20 : lw_okq (⟨"BitDriveModel", "begins", "()Z"⟩, 31) := ⟨⟨by decide +kernel, by decide +kernel⟩, List.mem_of_getElem? (i := 609) (by decide +kernel), List.mem_of_getElem? (i := 782) (by decide +kernel), List.mem_of_getElem? (i := 783) (by decide +kernel)⟩
theorem lw_p21 : lw_okq (⟨"BitDriveModel", "readBlock", "(II)I"⟩, 31) := ⟨⟨by decide +kernel, by decide +kernel⟩, List.mem_of_getElem? (i := 609) (by decide +kernel), List.mem_of_getElem? (i := 786) (by decide +kernel), List.mem_of_getElem? (i := 787) (by decide +kernel)⟩
theorem lw_p22 : lw_okq (⟨"BitDriveModel", "seek", "(II)I"⟩, 31) := ⟨⟨by decide +kernel, by decide +kernel⟩, List.mem_of_getElem? (i := 609) (by decide +kernel), List.mem_of_getElem? (i := 790) (by decide +kernel), List.mem_of_getElem? (i := 791) (by decide +kernel)⟩
theorem lw_p23 : lw_okq (⟨"BitDriveModel", "findSyncs", "(I)V"⟩, 31) := ⟨⟨by decide +kernel, by decide +kernel⟩, List.mem_of_getElem? (i := 609) (by decide +kernel), List.mem_of_getElem? (i := 794) (by decide +kernel), List.mem_of_getElem? (i := 795) (by decide +kernel)⟩
theorem lw_p24 : lw_okq (⟨"BitDriveModel", "isHeaderOf", "(III)Z"⟩, 31) := ⟨⟨by decide +kernel, by decide +kernel⟩, List.mem_of_getElem? (i := 609) (by decide +kernel), List.mem_of_getElem? (i := 798) (by decide +kernel), List.mem_of_getElem? (i := 799) (by decide +kernel)⟩
theorem lw_p25 : lw_okq (⟨"BitDriveModel", "decoded", "(II)I"⟩, 31) := ⟨⟨by decide +kernel, by decide +kernel⟩, List.mem_of_getElem? (i := 609) (by decide +kernel), List.mem_of_getElem? (i := 802) (by decide +kernel), List.mem_of_getElem? (i := 803) (by decide +kernel)⟩
theorem lw_p26 : lw_okq (⟨"BitDriveModel", "dataOf", "(I)I"⟩, 31) := ⟨⟨by decide +kernel, by decide +kernel⟩, List.mem_of_getElem? (i := 609) (by decide +kernel), List.mem_of_getElem? (i := 806) (by decide +kernel), List.mem_of_getElem? (i := 807) (by decide +kernel)⟩
theorem lw_p27 : lw_okq (⟨"BitDriveModel", "readDirectory", "(ZII)Z"⟩, 31) := ⟨⟨by decide +kernel, by decide +kernel⟩, List.mem_of_getElem? (i := 609) (by decide +kernel), List.mem_of_getElem? (i := 810) (by decide +kernel), List.mem_of_getElem? (i := 811) (by decide +kernel)⟩
theorem lw_p28 : lw_okq (⟨"BitDriveModel", "hasName", "(III)Z"⟩, 31) := ⟨⟨by decide +kernel, by decide +kernel⟩, List.mem_of_getElem? (i := 609) (by decide +kernel), List.mem_of_getElem? (i := 814) (by decide +kernel), List.mem_of_getElem? (i := 815) (by decide +kernel)⟩
theorem lw_p29 : lw_okq (⟨"BitDriveModel", "emptyEntry", "()I"⟩, 31) := ⟨⟨by decide +kernel, by decide +kernel⟩, List.mem_of_getElem? (i := 609) (by decide +kernel), List.mem_of_getElem? (i := 824) (by decide +kernel), List.mem_of_getElem? (i := 825) (by decide +kernel)⟩
theorem lw_p30 : lw_okq (⟨"BitDriveModel", "freeOfDirectory", "()I"⟩, 31) := ⟨⟨by decide +kernel, by decide +kernel⟩, List.mem_of_getElem? (i := 609) (by decide +kernel), List.mem_of_getElem? (i := 828) (by decide +kernel), List.mem_of_getElem? (i := 829) (by decide +kernel)⟩
theorem lw_p31 : lw_okq (⟨"BitDriveModel", "isFree", "(II)Z"⟩, 31) := ⟨⟨by decide +kernel, by decide +kernel⟩, List.mem_of_getElem? (i := 609) (by decide +kernel), List.mem_of_getElem? (i := 832) (by decide +kernel), List.mem_of_getElem? (i := 833) (by decide +kernel)⟩
def lw_privs_2 : List (MethodName × Nat) := [(⟨"BitDriveModel", "putCoded", "(I)V"⟩, 31), (⟨"BitDriveModel", "putData", "()V"⟩, 31), (⟨"BitDriveModel", "ends", "(III)I"⟩, 31), (⟨"BitDriveModel", "saves", "(IIII)Z"⟩, 31), (⟨"BitDriveModel", "begins", "()Z"⟩, 31), (⟨"BitDriveModel", "readBlock", "(II)I"⟩, 31), (⟨"BitDriveModel", "seek", "(II)I"⟩, 31), (⟨"BitDriveModel", "findSyncs", "(I)V"⟩, 31), (⟨"BitDriveModel", "isHeaderOf", "(III)Z"⟩, 31), (⟨"BitDriveModel", "decoded", "(II)I"⟩, 31), (⟨"BitDriveModel", "dataOf", "(I)I"⟩, 31), (⟨"BitDriveModel", "readDirectory", "(ZII)Z"⟩, 31), (⟨"BitDriveModel", "hasName", "(III)Z"⟩, 31), (⟨"BitDriveModel", "emptyEntry", "()I"⟩, 31), (⟨"BitDriveModel", "freeOfDirectory", "()I"⟩, 31), (⟨"BitDriveModel", "isFree", "(II)Z"⟩, 31)]
theorem lw_r2 : ∀ q ∈ lw_privs_2, lw_okq q := List.forall_mem_cons.mpr ⟨lw_p16, List.forall_mem_cons.mpr ⟨lw_p17, List.forall_mem_cons.mpr ⟨lw_p18, List.forall_mem_cons.mpr ⟨lw_p19, List.forall_mem_cons.mpr ⟨lw_p20, List.forall_mem_cons.mpr ⟨lw_p21, List.forall_mem_cons.mpr ⟨lw_p22, List.forall_mem_cons.mpr ⟨lw_p23, List.forall_mem_cons.mpr ⟨lw_p24, List.forall_mem_cons.mpr ⟨lw_p25, List.forall_mem_cons.mpr ⟨lw_p26, List.forall_mem_cons.mpr ⟨lw_p27, List.forall_mem_cons.mpr ⟨lw_p28, List.forall_mem_cons.mpr ⟨lw_p29, List.forall_mem_cons.mpr ⟨lw_p30, List.forall_mem_cons.mpr ⟨lw_p31, fun _ h => absurd h List.not_mem_nil⟩⟩⟩⟩⟩⟩⟩⟩⟩⟩⟩⟩⟩⟩⟩⟩
theorem lw_p32 : lw_okq (⟨"BitDriveModel", "takes", "(I)Z"⟩, 31) := ⟨⟨by decide +kernel, by decide +kernel⟩, List.mem_of_getElem? (i := 609) (by decide +kernel), List.mem_of_getElem? (i := 836) (by decide +kernel), List.mem_of_getElem? (i := 837) (by decide +kernel)⟩
theorem lw_p33 : lw_okq (⟨"BitDriveModel", "writeFile", "(I)Z"⟩, 31) := ⟨⟨by decide +kernel, by decide +kernel⟩, List.mem_of_getElem? (i := 609) (by decide +kernel), List.mem_of_getElem? (i := 840) (by decide +kernel), List.mem_of_getElem? (i := 841) (by decide +kernel)⟩
theorem lw_p34 : lw_okq (⟨"BitDriveModel", "writeBlock", "(II)I"⟩, 31) := ⟨⟨by decide +kernel, by decide +kernel⟩, List.mem_of_getElem? (i := 609) (by decide +kernel), List.mem_of_getElem? (i := 844) (by decide +kernel), List.mem_of_getElem? (i := 845) (by decide +kernel)⟩
theorem lw_p35 : lw_okq (⟨"BitDriveModel", "writeDirectory", "(I)Z"⟩, 31) := ⟨⟨by decide +kernel, by decide +kernel⟩, List.mem_of_getElem? (i := 609) (by decide +kernel), List.mem_of_getElem? (i := 848) (by decide +kernel), List.mem_of_getElem? (i := 849) (by decide +kernel)⟩
theorem lw_p36 : lw_okq (⟨"BitDriveModel", "writeMap", "()Z"⟩, 31) := ⟨⟨by decide +kernel, by decide +kernel⟩, List.mem_of_getElem? (i := 609) (by decide +kernel), List.mem_of_getElem? (i := 852) (by decide +kernel), List.mem_of_getElem? (i := 853) (by decide +kernel)⟩
theorem lw_p37 : lw_okq (⟨"BitDriveModel", "readFile", "(IIZ)Z"⟩, 31) := ⟨⟨by decide +kernel, by decide +kernel⟩, List.mem_of_getElem? (i := 609) (by decide +kernel), List.mem_of_getElem? (i := 860) (by decide +kernel), List.mem_of_getElem? (i := 861) (by decide +kernel)⟩
theorem lw_p38 : lw_okq (⟨"BitDriveModel", "tell", "(I)V"⟩, 31) := ⟨⟨by decide +kernel, by decide +kernel⟩, List.mem_of_getElem? (i := 609) (by decide +kernel), List.mem_of_getElem? (i := 864) (by decide +kernel), List.mem_of_getElem? (i := 865) (by decide +kernel)⟩
theorem lw_p39 : lw_okq (⟨"BitDriveModel", "scratches", "(II)Z"⟩, 31) := ⟨⟨by decide +kernel, by decide +kernel⟩, List.mem_of_getElem? (i := 609) (by decide +kernel), List.mem_of_getElem? (i := 872) (by decide +kernel), List.mem_of_getElem? (i := 873) (by decide +kernel)⟩
theorem lw_p40 : lw_okq (⟨"BitDriveModel", "byteAt", "(II)I"⟩, 31) := ⟨⟨by decide +kernel, by decide +kernel⟩, List.mem_of_getElem? (i := 609) (by decide +kernel), List.mem_of_getElem? (i := 899) (by decide +kernel), List.mem_of_getElem? (i := 900) (by decide +kernel)⟩
theorem lw_p41 : lw_okq (⟨"BitDriveModel", "setByte", "(III)V"⟩, 31) := ⟨⟨by decide +kernel, by decide +kernel⟩, List.mem_of_getElem? (i := 609) (by decide +kernel), List.mem_of_getElem? (i := 907) (by decide +kernel), List.mem_of_getElem? (i := 908) (by decide +kernel)⟩
def lw_privs_3 : List (MethodName × Nat) := [(⟨"BitDriveModel", "takes", "(I)Z"⟩, 31), (⟨"BitDriveModel", "writeFile", "(I)Z"⟩, 31), (⟨"BitDriveModel", "writeBlock", "(II)I"⟩, 31), (⟨"BitDriveModel", "writeDirectory", "(I)Z"⟩, 31), (⟨"BitDriveModel", "writeMap", "()Z"⟩, 31), (⟨"BitDriveModel", "readFile", "(IIZ)Z"⟩, 31), (⟨"BitDriveModel", "tell", "(I)V"⟩, 31), (⟨"BitDriveModel", "scratches", "(II)Z"⟩, 31), (⟨"BitDriveModel", "byteAt", "(II)I"⟩, 31), (⟨"BitDriveModel", "setByte", "(III)V"⟩, 31)]
theorem lw_r3 : ∀ q ∈ lw_privs_3, lw_okq q := List.forall_mem_cons.mpr ⟨lw_p32, List.forall_mem_cons.mpr ⟨lw_p33, List.forall_mem_cons.mpr ⟨lw_p34, List.forall_mem_cons.mpr ⟨lw_p35, List.forall_mem_cons.mpr ⟨lw_p36, List.forall_mem_cons.mpr ⟨lw_p37, List.forall_mem_cons.mpr ⟨lw_p38, List.forall_mem_cons.mpr ⟨lw_p39, List.forall_mem_cons.mpr ⟨lw_p40, List.forall_mem_cons.mpr ⟨lw_p41, fun _ h => absurd h List.not_mem_nil⟩⟩⟩⟩⟩⟩⟩⟩⟩⟩
def lw_privs : List (MethodName × Nat) := lw_privs_1 ++ (lw_privs_2 ++ (lw_privs_3))
def lw_tbl : List Cond := k2_sels lw_privs ++ tables_1
theorem lw_privs_ok : ∀ q ∈ lw_privs, lw_okq q := by
  show ∀ q ∈ lw_privs_1 ++ (lw_privs_2 ++ (lw_privs_3)), lw_okq q
  exact List.forall_mem_append.mpr ⟨lw_r1, List.forall_mem_append.mpr ⟨lw_r2, lw_r3⟩⟩
end
section
def RX0 : String := "BitDrive$Blocks"
def TX0 : u_T := fun k => match k with
  | 0 => ("BitDrive$Blocks", "report", "LBitDrive$Status;", true)
  | 1 => ("BitDrive$Blocks", "rings", "[LBitDrive$Ring;", true)
  | 2 => ("BitDrive$Blocks", "sample", "LBitDrive$Ring;", true)
  | 3 => ("BitDrive$Blocks", "id", "I", false)
  | 4 => ("BitDrive$Blocks", "reads", "I", false)
  | 5 => ("BitDrive$Blocks", "writes", "I", false)
  | _ => ("BitDrive$Blocks", "faults", "I", false)
def tyX0 : Nat → FieldType := fun k => match k with
  | 0 => .object "BitDrive$Status"
  | 1 => .array (.object "BitDrive$Ring")
  | 2 => .object "BitDrive$Ring"
  | 3 => .int
  | 4 => .int
  | 5 => .int
  | _ => .int
abbrev wsX00 : List Cond := u_ws RX0 TX0 7
theorem nmX0 : ∀ a, a < 7 → ∀ b, b < 7 → a ≠ b → (TX0 a).2.1 ≠ (TX0 b).2.1 := by decide +kernel
theorem tyX0_ok : ∀ k, k < 7 → parseFieldDescriptor (TX0 k).2.2.1 = some (tyX0 k) := by decide +kernel
abbrev cX0_init : ByteArray := prog_2_method_1_code
def yX0_init : MethodName := ⟨RX0, "<init>", "(LBitDrive$Status;)V"⟩
abbrev cX0_ringOf : ByteArray := prog_2_method_2_code
def yX0_ringOf : MethodName := ⟨RX0, "ringOf", "(I)LBitDrive$Ring;"⟩
abbrev cX0_sectorsOf : ByteArray := prog_2_method_3_code
def yX0_sectorsOf : MethodName := ⟨RX0, "sectorsOf", "(I)I"⟩
abbrev cX0_isBlock : ByteArray := prog_2_method_4_code
def yX0_isBlock : MethodName := ⟨RX0, "isBlock", "(II)Z"⟩
abbrev cX0_formatTracks : ByteArray := prog_2_method_5_code
def yX0_formatTracks : MethodName := ⟨RX0, "formatTracks", "()V"⟩
abbrev cX0_formatTrack : ByteArray := prog_2_method_6_code
def yX0_formatTrack : MethodName := ⟨RX0, "formatTrack", "(LBitDrive$Ring;I)V"⟩
abbrev cX0_layFormatted : ByteArray := prog_2_method_7_code
def yX0_layFormatted : MethodName := ⟨RX0, "layFormatted", "(II[I)V"⟩
abbrev cX0_fetch : ByteArray := prog_2_method_8_code
def yX0_fetch : MethodName := ⟨RX0, "fetch", "(II[I)I"⟩
abbrev cX0_store : ByteArray := prog_2_method_9_code
def yX0_store : MethodName := ⟨RX0, "store", "(II[I)I"⟩
abbrev cX0_readBlock : ByteArray := prog_2_method_10_code
def yX0_readBlock : MethodName := ⟨RX0, "readBlock", "(II[I)I"⟩
abbrev cX0_writeBlock : ByteArray := prog_2_method_11_code
def yX0_writeBlock : MethodName := ⟨RX0, "writeBlock", "(II[I)I"⟩
abbrev cX0_seek : ByteArray := prog_2_method_12_code
def yX0_seek : MethodName := ⟨RX0, "seek", "(LBitDrive$Ring;II)I"⟩
abbrev cX0_headerError : ByteArray := prog_2_method_13_code
def yX0_headerError : MethodName := ⟨RX0, "headerError", "(LBitDrive$Ring;III)I"⟩
def RX1 : String := "BitDrive$Bytes"
def TX1 : u_T := fun k => match k with
  | 0 => ("BitDrive$Bytes", "row", "[I", true)
  | _ => ("BitDrive$Bytes", "length", "I", false)
def tyX1 : Nat → FieldType := fun k => match k with
  | 0 => .array .int
  | _ => .int
abbrev wsX10 : List Cond := u_ws RX1 TX1 2
theorem nmX1 : ∀ a, a < 2 → ∀ b, b < 2 → a ≠ b → (TX1 a).2.1 ≠ (TX1 b).2.1 := by decide +kernel
theorem tyX1_ok : ∀ k, k < 2 → parseFieldDescriptor (TX1 k).2.2.1 = some (tyX1 k) := by decide +kernel
abbrev cX1_init : ByteArray := prog_3_method_1_code
def yX1_init : MethodName := ⟨RX1, "<init>", "(I)V"⟩
abbrev cX1_add : ByteArray := prog_3_method_2_code
def yX1_add : MethodName := ⟨RX1, "add", "(I)V"⟩
abbrev cX1_addNumber : ByteArray := prog_3_method_3_code
def yX1_addNumber : MethodName := ⟨RX1, "addNumber", "(I)V"⟩
abbrev cX1_addRow : ByteArray := prog_3_method_4_code
def yX1_addRow : MethodName := ⟨RX1, "addRow", "([III)V"⟩
abbrev cX1_byteAt : ByteArray := prog_3_method_5_code
def yX1_byteAt : MethodName := ⟨RX1, "byteAt", "(I)I"⟩
def RX2 : String := "BitDrive$Chain"
def TX2 : u_T := fun k => match k with
  | 0 => ("BitDrive$Chain", "blocks", "LBitDrive$Blocks;", true)
  | 1 => ("BitDrive$Chain", "report", "LBitDrive$Status;", true)
  | 2 => ("BitDrive$Chain", "tracks", "[I", true)
  | 3 => ("BitDrive$Chain", "sectors", "[I", true)
  | 4 => ("BitDrive$Chain", "length", "I", false)
  | _ => ("BitDrive$Chain", "row", "[I", true)
def tyX2 : Nat → FieldType := fun k => match k with
  | 0 => .object "BitDrive$Blocks"
  | 1 => .object "BitDrive$Status"
  | 2 => .array .int
  | 3 => .array .int
  | 4 => .int
  | _ => .array .int
abbrev wsX20 : List Cond := u_ws RX2 TX2 6
theorem nmX2 : ∀ a, a < 6 → ∀ b, b < 6 → a ≠ b → (TX2 a).2.1 ≠ (TX2 b).2.1 := by decide +kernel
theorem tyX2_ok : ∀ k, k < 6 → parseFieldDescriptor (TX2 k).2.2.1 = some (tyX2 k) := by decide +kernel
abbrev cX2_init : ByteArray := prog_4_method_1_code
def yX2_init : MethodName := ⟨RX2, "<init>", "(LBitDrive$Blocks;LBitDrive$Status;)V"⟩
abbrev cX2_addBlock : ByteArray := prog_4_method_2_code
def yX2_addBlock : MethodName := ⟨RX2, "addBlock", "(II)V"⟩
abbrev cX2_take : ByteArray := prog_4_method_3_code
def yX2_take : MethodName := ⟨RX2, "take", "(LBitDrive$FreeMap;I)Z"⟩
abbrev cX2_release : ByteArray := prog_4_method_4_code
def yX2_release : MethodName := ⟨RX2, "release", "(LBitDrive$FreeMap;)V"⟩
abbrev cX2_store : ByteArray := prog_4_method_5_code
def yX2_store : MethodName := ⟨RX2, "store", "(LBitDrive$Bytes;)I"⟩
abbrev cX2_fillBlock : ByteArray := prog_4_method_6_code
def yX2_fillBlock : MethodName := ⟨RX2, "fillBlock", "(LBitDrive$Bytes;I)V"⟩
abbrev cX2_follow : ByteArray := prog_4_method_7_code
def yX2_follow : MethodName := ⟨RX2, "follow", "(LBitDrive$Directory;LBitDrive$Bytes;)I"⟩
def RX3 : String := "BitDrive$Directory"
def TX3 : u_T := fun k => match k with
  | 0 => ("BitDrive$Directory", "blocks", "LBitDrive$Blocks;", true)
  | 1 => ("BitDrive$Directory", "report", "LBitDrive$Status;", true)
  | 2 => ("BitDrive$Directory", "row", "[I", true)
  | 3 => ("BitDrive$Directory", "track", "I", false)
  | 4 => ("BitDrive$Directory", "sector", "I", false)
  | 5 => ("BitDrive$Directory", "walked", "I", false)
  | 6 => ("BitDrive$Directory", "entry", "I", false)
  | 7 => ("BitDrive$Directory", "room", "I", false)
  | 8 => ("BitDrive$Directory", "roomRow", "[I", true)
  | 9 => ("BitDrive$Directory", "roomTrack", "I", false)
  | 10 => ("BitDrive$Directory", "roomSector", "I", false)
  | _ => ("BitDrive$Directory", "grows", "Z", false)
def tyX3 : Nat → FieldType := fun k => match k with
  | 0 => .object "BitDrive$Blocks"
  | 1 => .object "BitDrive$Status"
  | 2 => .array .int
  | 3 => .int
  | 4 => .int
  | 5 => .int
  | 6 => .int
  | 7 => .int
  | 8 => .array .int
  | 9 => .int
  | 10 => .int
  | _ => .boolean
abbrev wsX30 : List Cond := u_ws RX3 TX3 12
theorem nmX3 : ∀ a, a < 12 → ∀ b, b < 12 → a ≠ b → (TX3 a).2.1 ≠ (TX3 b).2.1 := by decide +kernel
theorem tyX3_ok : ∀ k, k < 12 → parseFieldDescriptor (TX3 k).2.2.1 = some (tyX3 k) := by decide +kernel
abbrev cX3_init : ByteArray := prog_5_method_1_code
def yX3_init : MethodName := ⟨RX3, "<init>", "(LBitDrive$Blocks;LBitDrive$Status;)V"⟩
abbrev cX3_begin : ByteArray := prog_5_method_2_code
def yX3_begin : MethodName := ⟨RX3, "begin", "()I"⟩
abbrev cX3_isLast : ByteArray := prog_5_method_3_code
def yX3_isLast : MethodName := ⟨RX3, "isLast", "()Z"⟩
abbrev cX3_step : ByteArray := prog_5_method_4_code
def yX3_step : MethodName := ⟨RX3, "step", "()I"⟩
abbrev cX3_findEntry : ByteArray := prog_5_method_5_code
def yX3_findEntry : MethodName := ⟨RX3, "findEntry", "(II)Z"⟩
abbrev cX3_keepRoom : ByteArray := prog_5_method_6_code
def yX3_keepRoom : MethodName := ⟨RX3, "keepRoom", "(I)V"⟩
abbrev cX3_addEntries : ByteArray := prog_5_method_7_code
def yX3_addEntries : MethodName := ⟨RX3, "addEntries", "(LBitDrive$Bytes;)V"⟩
abbrev cX3_takeEntry : ByteArray := prog_5_method_8_code
def yX3_takeEntry : MethodName := ⟨RX3, "takeEntry", "(LBitDrive$FreeMap;)Z"⟩
abbrev cX3_storeLink : ByteArray := prog_5_method_9_code
def yX3_storeLink : MethodName := ⟨RX3, "storeLink", "()I"⟩
abbrev cX3_storeWithoutEntry : ByteArray := prog_5_method_10_code
def yX3_storeWithoutEntry : MethodName := ⟨RX3, "storeWithoutEntry", "()I"⟩
def RX4 : String := "BitDrive$FreeMap"
def TX4 : u_T := fun k => match k with
  | _ => ("BitDrive$FreeMap", "row", "[I", true)
def tyX4 : Nat → FieldType := fun k => match k with
  | _ => .array .int
abbrev wsX40 : List Cond := u_ws RX4 TX4 1
theorem nmX4 : ∀ a, a < 1 → ∀ b, b < 1 → a ≠ b → (TX4 a).2.1 ≠ (TX4 b).2.1 := by decide +kernel
theorem tyX4_ok : ∀ k, k < 1 → parseFieldDescriptor (TX4 k).2.2.1 = some (tyX4 k) := by decide +kernel
abbrev cX4_init : ByteArray := prog_6_method_1_code
def yX4_init : MethodName := ⟨RX4, "<init>", "()V"⟩
abbrev cX4_fillNew : ByteArray := prog_6_method_2_code
def yX4_fillNew : MethodName := ⟨RX4, "fillNew", "(III)V"⟩
abbrev cX4_isFree : ByteArray := prog_6_method_3_code
def yX4_isFree : MethodName := ⟨RX4, "isFree", "(II)Z"⟩
abbrev cX4_setFree : ByteArray := prog_6_method_4_code
def yX4_setFree : MethodName := ⟨RX4, "setFree", "(IIZ)V"⟩
abbrev cX4_leastFree : ByteArray := prog_6_method_5_code
def yX4_leastFree : MethodName := ⟨RX4, "leastFree", "(I)I"⟩
abbrev cX4_freeBlocks : ByteArray := prog_6_method_6_code
def yX4_freeBlocks : MethodName := ⟨RX4, "freeBlocks", "()I"⟩
def RX5 : String := "BitDrive$Ring"
def TX5 : u_T := fun k => match k with
  | 0 => ("BitDrive$Ring", "row", "[I", true)
  | 1 => ("BitDrive$Ring", "bits", "I", true)
  | 2 => ("BitDrive$Ring", "starts", "[I", true)
  | 3 => ("BitDrive$Ring", "found", "I", false)
  | _ => ("BitDrive$Ring", "known", "Z", false)
def tyX5 : Nat → FieldType := fun k => match k with
  | 0 => .array .int
  | 1 => .int
  | 2 => .array .int
  | 3 => .int
  | _ => .boolean
abbrev wsX50 : List Cond := u_ws RX5 TX5 5
theorem nmX5 : ∀ a, a < 5 → ∀ b, b < 5 → a ≠ b → (TX5 a).2.1 ≠ (TX5 b).2.1 := by decide +kernel
theorem tyX5_ok : ∀ k, k < 5 → parseFieldDescriptor (TX5 k).2.2.1 = some (tyX5 k) := by decide +kernel
abbrev cX5_init : ByteArray := prog_7_method_1_code
def yX5_init : MethodName := ⟨RX5, "<init>", "(I)V"⟩
abbrev cX5_sizeOf : ByteArray := prog_7_method_2_code
def yX5_sizeOf : MethodName := ⟨RX5, "sizeOf", "(I)I"⟩
abbrev cX5_hasByte : ByteArray := prog_7_method_3_code
def yX5_hasByte : MethodName := ⟨RX5, "hasByte", "(I)Z"⟩
abbrev cX5_byteAt : ByteArray := prog_7_method_4_code
def yX5_byteAt : MethodName := ⟨RX5, "byteAt", "(I)I"⟩
abbrev cX5_startOf : ByteArray := prog_7_method_5_code
def yX5_startOf : MethodName := ⟨RX5, "startOf", "(I)I"⟩
abbrev cX5_putBits : ByteArray := prog_7_method_6_code
def yX5_putBits : MethodName := ⟨RX5, "putBits", "(III)V"⟩
abbrev cX5_putCoded : ByteArray := prog_7_method_7_code
def yX5_putCoded : MethodName := ⟨RX5, "putCoded", "(II)V"⟩
abbrev cX5_putSync : ByteArray := prog_7_method_8_code
def yX5_putSync : MethodName := ⟨RX5, "putSync", "(I)V"⟩
abbrev cX5_codedAt : ByteArray := prog_7_method_9_code
def yX5_codedAt : MethodName := ⟨RX5, "codedAt", "(I)I"⟩
abbrev cX5_findSyncs : ByteArray := prog_7_method_10_code
def yX5_findSyncs : MethodName := ⟨RX5, "findSyncs", "()I"⟩
abbrev cX5_rotate : ByteArray := prog_7_method_11_code
def yX5_rotate : MethodName := ⟨RX5, "rotate", "(I[I)V"⟩
abbrev cX5_fillGap : ByteArray := prog_7_method_12_code
def yX5_fillGap : MethodName := ⟨RX5, "fillGap", "()V"⟩
abbrev cX5_layRing : ByteArray := prog_7_method_13_code
def yX5_layRing : MethodName := ⟨RX5, "layRing", "(LBitDrive$Ring;I)V"⟩
abbrev cX5_putHeader : ByteArray := prog_7_method_14_code
def yX5_putHeader : MethodName := ⟨RX5, "putHeader", "(IIII)V"⟩
abbrev cX5_putData : ByteArray := prog_7_method_15_code
def yX5_putData : MethodName := ⟨RX5, "putData", "(I[I)V"⟩
abbrev cX5_takeData : ByteArray := prog_7_method_16_code
def yX5_takeData : MethodName := ⟨RX5, "takeData", "(I[I)I"⟩
def RX6 : String := "BitDrive$Status"
def TX6 : u_T := fun k => match k with
  | 0 => ("BitDrive$Status", "number", "I", false)
  | 1 => ("BitDrive$Status", "track", "I", false)
  | _ => ("BitDrive$Status", "sector", "I", false)
def tyX6 : Nat → FieldType := fun k => match k with
  | 0 => .int
  | 1 => .int
  | _ => .int
abbrev wsX60 : List Cond := u_ws RX6 TX6 3
theorem nmX6 : ∀ a, a < 3 → ∀ b, b < 3 → a ≠ b → (TX6 a).2.1 ≠ (TX6 b).2.1 := by decide +kernel
theorem tyX6_ok : ∀ k, k < 3 → parseFieldDescriptor (TX6 k).2.2.1 = some (tyX6 k) := by decide +kernel
abbrev cX6_init : ByteArray := prog_8_method_1_code
def yX6_init : MethodName := ⟨RX6, "<init>", "()V"⟩
abbrev cX6_tell : ByteArray := prog_8_method_2_code
def yX6_tell : MethodName := ⟨RX6, "tell", "(III)I"⟩
def RX7 : String := "BitDrive"
def TX7 : u_T := fun k => match k with
  | 0 => ("BitDrive", "report", "LBitDrive$Status;", true)
  | 1 => ("BitDrive", "blocks", "LBitDrive$Blocks;", true)
  | 2 => ("BitDrive", "map", "LBitDrive$FreeMap;", true)
  | 3 => ("BitDrive", "directory", "LBitDrive$Directory;", true)
  | 4 => ("BitDrive", "chain", "LBitDrive$Chain;", true)
  | 5 => ("BitDrive", "tape", "LBitDrive$Bytes;", true)
  | 6 => ("BitDrive", "output", "LBitDrive$Bytes;", true)
  | 7 => ("BitDrive", "nowhere", "LBitDrive$Bytes;", true)
  | 8 => ("BitDrive", "block", "[I", true)
  | _ => ("BitDrive", "spare", "[I", true)
def tyX7 : Nat → FieldType := fun k => match k with
  | 0 => .object "BitDrive$Status"
  | 1 => .object "BitDrive$Blocks"
  | 2 => .object "BitDrive$FreeMap"
  | 3 => .object "BitDrive$Directory"
  | 4 => .object "BitDrive$Chain"
  | 5 => .object "BitDrive$Bytes"
  | 6 => .object "BitDrive$Bytes"
  | 7 => .object "BitDrive$Bytes"
  | 8 => .array .int
  | _ => .array .int
abbrev wsX70 : List Cond := u_ws RX7 TX7 10
theorem nmX7 : ∀ a, a < 10 → ∀ b, b < 10 → a ≠ b → (TX7 a).2.1 ≠ (TX7 b).2.1 := by decide +kernel
theorem tyX7_ok : ∀ k, k < 10 → parseFieldDescriptor (TX7 k).2.2.1 = some (tyX7 k) := by decide +kernel
abbrev cX7_init : ByteArray := prog_1_method_1_code
def yX7_init : MethodName := ⟨RX7, "<init>", "()V"⟩
abbrev cX7_feed : ByteArray := prog_1_method_2_code
def yX7_feed : MethodName := ⟨RX7, "feed", "(IIIII)I"⟩
abbrev cX7_end : ByteArray := prog_1_method_3_code
def yX7_end : MethodName := ⟨RX7, "end", "(I)I"⟩
abbrev cX7_format : ByteArray := prog_1_method_4_code
def yX7_format : MethodName := ⟨RX7, "format", "(III)I"⟩
abbrev cX7_mount : ByteArray := prog_1_method_5_code
def yX7_mount : MethodName := ⟨RX7, "mount", "(I)I"⟩
abbrev cX7_save : ByteArray := prog_1_method_6_code
def yX7_save : MethodName := ⟨RX7, "save", "(III)I"⟩
abbrev cX7_load : ByteArray := prog_1_method_7_code
def yX7_load : MethodName := ⟨RX7, "load", "(II)I"⟩
abbrev cX7_scratch : ByteArray := prog_1_method_8_code
def yX7_scratch : MethodName := ⟨RX7, "scratch", "(II)I"⟩
abbrev cX7_list : ByteArray := prog_1_method_9_code
def yX7_list : MethodName := ⟨RX7, "list", "()I"⟩
abbrev cX7_info : ByteArray := prog_1_method_10_code
def yX7_info : MethodName := ⟨RX7, "info", "()I"⟩
abbrev cX7_out : ByteArray := prog_1_method_11_code
def yX7_out : MethodName := ⟨RX7, "out", "(I)I"⟩
abbrev cX7_status : ByteArray := prog_1_method_12_code
def yX7_status : MethodName := ⟨RX7, "status", "(I)I"⟩
abbrev cX7_peek : ByteArray := prog_1_method_13_code
def yX7_peek : MethodName := ⟨RX7, "peek", "(II)I"⟩
abbrev cX7_poke : ByteArray := prog_1_method_14_code
def yX7_poke : MethodName := ⟨RX7, "poke", "(III)I"⟩
abbrev cX7_stamp : ByteArray := prog_1_method_15_code
def yX7_stamp : MethodName := ⟨RX7, "stamp", "(III)I"⟩
abbrev cX7_turn : ByteArray := prog_1_method_16_code
def yX7_turn : MethodName := ⟨RX7, "turn", "(II)I"⟩
abbrev cX7_syncs : ByteArray := prog_1_method_17_code
def yX7_syncs : MethodName := ⟨RX7, "syncs", "(I)I"⟩
abbrev cX7_read : ByteArray := prog_1_method_18_code
def yX7_read : MethodName := ⟨RX7, "read", "(II)I"⟩
abbrev cX7_write : ByteArray := prog_1_method_19_code
def yX7_write : MethodName := ⟨RX7, "write", "(II)I"⟩
abbrev cX7_count : ByteArray := prog_1_method_20_code
def yX7_count : MethodName := ⟨RX7, "count", "(I)I"⟩
abbrev cX7_openDisk : ByteArray := prog_1_method_21_code
def yX7_openDisk : MethodName := ⟨RX7, "openDisk", "()I"⟩
abbrev cX7_lookFor : ByteArray := prog_1_method_22_code
def yX7_lookFor : MethodName := ⟨RX7, "lookFor", "(II)I"⟩
abbrev cX7_outputOr : ByteArray := prog_1_method_23_code
def yX7_outputOr : MethodName := ⟨RX7, "outputOr", "(I)I"⟩
abbrev cX7_takeRoom : ByteArray := prog_1_method_24_code
def yX7_takeRoom : MethodName := ⟨RX7, "takeRoom", "()Z"⟩
abbrev cX7_storeEntry : ByteArray := prog_1_method_25_code
def yX7_storeEntry : MethodName := ⟨RX7, "storeEntry", "(III)I"⟩
abbrev cX7_fillEntry : ByteArray := prog_1_method_26_code
def yX7_fillEntry : MethodName := ⟨RX7, "fillEntry", "([IIIII)V"⟩
abbrev cX7_blocksNeeded : ByteArray := prog_1_method_27_code
def yX7_blocksNeeded : MethodName := ⟨RX7, "blocksNeeded", "(I)I"⟩
abbrev cX7_nameByte : ByteArray := prog_1_method_28_code
def yX7_nameByte : MethodName := ⟨RX7, "nameByte", "(III)I"⟩
abbrev cX7_fillName : ByteArray := prog_1_method_29_code
def yX7_fillName : MethodName := ⟨RX7, "fillName", "([IIII)V"⟩
abbrev cX7_hasName : ByteArray := prog_1_method_30_code
def yX7_hasName : MethodName := ⟨RX7, "hasName", "([IIII)Z"⟩
abbrev cX7_clearRow : ByteArray := prog_1_method_31_code
def yX7_clearRow : MethodName := ⟨RX7, "clearRow", "([III)V"⟩
def RX8 : String := "BitDriveModel"
def TX8 : u_T := fun k => match k with
  | 0 => ("BitDriveModel", "bits", "[Z", true)
  | 1 => ("BitDriveModel", "kept", "[Z", true)
  | 2 => ("BitDriveModel", "codes", "[I", true)
  | 3 => ("BitDriveModel", "halves", "[I", true)
  | 4 => ("BitDriveModel", "id", "I", false)
  | 5 => ("BitDriveModel", "tape", "[I", true)
  | 6 => ("BitDriveModel", "taped", "I", false)
  | 7 => ("BitDriveModel", "out", "[I", true)
  | 8 => ("BitDriveModel", "told", "I", false)
  | 9 => ("BitDriveModel", "status", "I", false)
  | 10 => ("BitDriveModel", "statusTrack", "I", false)
  | 11 => ("BitDriveModel", "statusSector", "I", false)
  | 12 => ("BitDriveModel", "reads", "I", false)
  | 13 => ("BitDriveModel", "writes", "I", false)
  | 14 => ("BitDriveModel", "failures", "I", false)
  | 15 => ("BitDriveModel", "places", "[I", true)
  | 16 => ("BitDriveModel", "many", "I", false)
  | 17 => ("BitDriveModel", "found", "I", false)
  | 18 => ("BitDriveModel", "block", "[I", true)
  | 19 => ("BitDriveModel", "map", "[I", true)
  | 20 => ("BitDriveModel", "directory", "[I", true)
  | 21 => ("BitDriveModel", "directoryTrack", "[I", true)
  | 22 => ("BitDriveModel", "directorySector", "[I", true)
  | 23 => ("BitDriveModel", "directoryMany", "I", false)
  | 24 => ("BitDriveModel", "entryBlock", "I", false)
  | 25 => ("BitDriveModel", "entryAt", "I", false)
  | 26 => ("BitDriveModel", "chainTrack", "[I", true)
  | 27 => ("BitDriveModel", "chainSector", "[I", true)
  | 28 => ("BitDriveModel", "chainMany", "I", false)
  | 29 => ("BitDriveModel", "writeTrack", "I", false)
  | _ => ("BitDriveModel", "writeAt", "I", false)
def tyX8 : Nat → FieldType := fun k => match k with
  | 0 => .array .boolean
  | 1 => .array .boolean
  | 2 => .array .int
  | 3 => .array .int
  | 4 => .int
  | 5 => .array .int
  | 6 => .int
  | 7 => .array .int
  | 8 => .int
  | 9 => .int
  | 10 => .int
  | 11 => .int
  | 12 => .int
  | 13 => .int
  | 14 => .int
  | 15 => .array .int
  | 16 => .int
  | 17 => .int
  | 18 => .array .int
  | 19 => .array .int
  | 20 => .array .int
  | 21 => .array .int
  | 22 => .array .int
  | 23 => .int
  | 24 => .int
  | 25 => .int
  | 26 => .array .int
  | 27 => .array .int
  | 28 => .int
  | 29 => .int
  | _ => .int
abbrev wsX80 : List Cond := u_ws RX8 TX8 31
theorem nmX8 : ∀ a, a < 31 → ∀ b, b < 31 → a ≠ b → (TX8 a).2.1 ≠ (TX8 b).2.1 := by decide +kernel
theorem tyX8_ok : ∀ k, k < 31 → parseFieldDescriptor (TX8 k).2.2.1 = some (tyX8 k) := by decide +kernel
abbrev cX8_init : ByteArray := prog_10_method_1_code
def yX8_init : MethodName := ⟨RX8, "<init>", "()V"⟩
abbrev cX8_setCodes : ByteArray := prog_10_method_2_code
def yX8_setCodes : MethodName := ⟨RX8, "setCodes", "(IIIII)V"⟩
abbrev cX8_isIn : ByteArray := prog_10_method_3_code
def yX8_isIn : MethodName := ⟨RX8, "isIn", "(III)Z"⟩
abbrev cX8_bytesOf : ByteArray := prog_10_method_4_code
def yX8_bytesOf : MethodName := ⟨RX8, "bytesOf", "(I)I"⟩
abbrev cX8_sectorsOf : ByteArray := prog_10_method_5_code
def yX8_sectorsOf : MethodName := ⟨RX8, "sectorsOf", "(I)I"⟩
abbrev cX8_lengthOf : ByteArray := prog_10_method_6_code
def yX8_lengthOf : MethodName := ⟨RX8, "lengthOf", "(I)I"⟩
abbrev cX8_startOf : ByteArray := prog_10_method_7_code
def yX8_startOf : MethodName := ⟨RX8, "startOf", "(I)I"⟩
abbrev cX8_isTrack : ByteArray := prog_10_method_8_code
def yX8_isTrack : MethodName := ⟨RX8, "isTrack", "(I)Z"⟩
abbrev cX8_isBlock : ByteArray := prog_10_method_9_code
def yX8_isBlock : MethodName := ⟨RX8, "isBlock", "(II)Z"⟩
abbrev cX8_isByte : ByteArray := prog_10_method_10_code
def yX8_isByte : MethodName := ⟨RX8, "isByte", "(II)Z"⟩
abbrev cX8_byteAt : ByteArray := prog_10_method_11_code
def yX8_byteAt : MethodName := ⟨RX8, "byteAt", "(II)I"⟩
abbrev cX8_setByte : ByteArray := prog_10_method_12_code
def yX8_setByte : MethodName := ⟨RX8, "setByte", "(III)V"⟩
abbrev cX8_findSyncs : ByteArray := prog_10_method_13_code
def yX8_findSyncs : MethodName := ⟨RX8, "findSyncs", "(I)V"⟩
abbrev cX8_decoded : ByteArray := prog_10_method_14_code
def yX8_decoded : MethodName := ⟨RX8, "decoded", "(II)I"⟩
abbrev cX8_putBits : ByteArray := prog_10_method_15_code
def yX8_putBits : MethodName := ⟨RX8, "putBits", "(II)V"⟩
abbrev cX8_putCoded : ByteArray := prog_10_method_16_code
def yX8_putCoded : MethodName := ⟨RX8, "putCoded", "(I)V"⟩
abbrev cX8_putSync : ByteArray := prog_10_method_17_code
def yX8_putSync : MethodName := ⟨RX8, "putSync", "()V"⟩
abbrev cX8_putData : ByteArray := prog_10_method_18_code
def yX8_putData : MethodName := ⟨RX8, "putData", "()V"⟩
abbrev cX8_isHeaderOf : ByteArray := prog_10_method_19_code
def yX8_isHeaderOf : MethodName := ⟨RX8, "isHeaderOf", "(III)Z"⟩
abbrev cX8_seek : ByteArray := prog_10_method_20_code
def yX8_seek : MethodName := ⟨RX8, "seek", "(II)I"⟩
abbrev cX8_dataOf : ByteArray := prog_10_method_21_code
def yX8_dataOf : MethodName := ⟨RX8, "dataOf", "(I)I"⟩
abbrev cX8_readBlock : ByteArray := prog_10_method_22_code
def yX8_readBlock : MethodName := ⟨RX8, "readBlock", "(II)I"⟩
abbrev cX8_writeBlock : ByteArray := prog_10_method_23_code
def yX8_writeBlock : MethodName := ⟨RX8, "writeBlock", "(II)I"⟩
abbrev cX8_ends : ByteArray := prog_10_method_24_code
def yX8_ends : MethodName := ⟨RX8, "ends", "(III)I"⟩
abbrev cX8_begins : ByteArray := prog_10_method_25_code
def yX8_begins : MethodName := ⟨RX8, "begins", "()Z"⟩
abbrev cX8_isFree : ByteArray := prog_10_method_26_code
def yX8_isFree : MethodName := ⟨RX8, "isFree", "(II)Z"⟩
abbrev cX8_setFree : ByteArray := prog_10_method_27_code
def yX8_setFree : MethodName := ⟨RX8, "setFree", "(IIZ)V"⟩
abbrev cX8_writeMap : ByteArray := prog_10_method_28_code
def yX8_writeMap : MethodName := ⟨RX8, "writeMap", "()Z"⟩
abbrev cX8_nameByte : ByteArray := prog_10_method_29_code
def yX8_nameByte : MethodName := ⟨RX8, "nameByte", "(III)I"⟩
abbrev cX8_hasName : ByteArray := prog_10_method_30_code
def yX8_hasName : MethodName := ⟨RX8, "hasName", "(III)Z"⟩
abbrev cX8_readDirectory : ByteArray := prog_10_method_31_code
def yX8_readDirectory : MethodName := ⟨RX8, "readDirectory", "(ZII)Z"⟩
abbrev cX8_writeDirectory : ByteArray := prog_10_method_32_code
def yX8_writeDirectory : MethodName := ⟨RX8, "writeDirectory", "(I)Z"⟩
abbrev cX8_feed : ByteArray := prog_10_method_33_code
def yX8_feed : MethodName := ⟨RX8, "feed", "(IIIII)I"⟩
abbrev cX8_end : ByteArray := prog_10_method_34_code
def yX8_end : MethodName := ⟨RX8, "end", "(I)I"⟩
abbrev cX8_format : ByteArray := prog_10_method_35_code
def yX8_format : MethodName := ⟨RX8, "format", "(III)I"⟩
abbrev cX8_mount : ByteArray := prog_10_method_36_code
def yX8_mount : MethodName := ⟨RX8, "mount", "(I)I"⟩
abbrev cX8_takes : ByteArray := prog_10_method_37_code
def yX8_takes : MethodName := ⟨RX8, "takes", "(I)Z"⟩
abbrev cX8_writeFile : ByteArray := prog_10_method_38_code
def yX8_writeFile : MethodName := ⟨RX8, "writeFile", "(I)Z"⟩
abbrev cX8_emptyEntry : ByteArray := prog_10_method_39_code
def yX8_emptyEntry : MethodName := ⟨RX8, "emptyEntry", "()I"⟩
abbrev cX8_freeOfDirectory : ByteArray := prog_10_method_40_code
def yX8_freeOfDirectory : MethodName := ⟨RX8, "freeOfDirectory", "()I"⟩
abbrev cX8_saves : ByteArray := prog_10_method_41_code
def yX8_saves : MethodName := ⟨RX8, "saves", "(IIII)Z"⟩
abbrev cX8_save : ByteArray := prog_10_method_42_code
def yX8_save : MethodName := ⟨RX8, "save", "(III)I"⟩
abbrev cX8_readFile : ByteArray := prog_10_method_43_code
def yX8_readFile : MethodName := ⟨RX8, "readFile", "(IIZ)Z"⟩
abbrev cX8_tell : ByteArray := prog_10_method_44_code
def yX8_tell : MethodName := ⟨RX8, "tell", "(I)V"⟩
abbrev cX8_load : ByteArray := prog_10_method_45_code
def yX8_load : MethodName := ⟨RX8, "load", "(II)I"⟩
abbrev cX8_scratches : ByteArray := prog_10_method_46_code
def yX8_scratches : MethodName := ⟨RX8, "scratches", "(II)Z"⟩
abbrev cX8_scratch : ByteArray := prog_10_method_47_code
def yX8_scratch : MethodName := ⟨RX8, "scratch", "(II)I"⟩
abbrev cX8_list : ByteArray := prog_10_method_48_code
def yX8_list : MethodName := ⟨RX8, "list", "()I"⟩
abbrev cX8_info : ByteArray := prog_10_method_49_code
def yX8_info : MethodName := ⟨RX8, "info", "()I"⟩
abbrev cX8_out : ByteArray := prog_10_method_50_code
def yX8_out : MethodName := ⟨RX8, "out", "(I)I"⟩
abbrev cX8_status : ByteArray := prog_10_method_51_code
def yX8_status : MethodName := ⟨RX8, "status", "(I)I"⟩
abbrev cX8_peek : ByteArray := prog_10_method_52_code
def yX8_peek : MethodName := ⟨RX8, "peek", "(II)I"⟩
abbrev cX8_poke : ByteArray := prog_10_method_53_code
def yX8_poke : MethodName := ⟨RX8, "poke", "(III)I"⟩
abbrev cX8_stamp : ByteArray := prog_10_method_54_code
def yX8_stamp : MethodName := ⟨RX8, "stamp", "(III)I"⟩
abbrev cX8_turn : ByteArray := prog_10_method_55_code
def yX8_turn : MethodName := ⟨RX8, "turn", "(II)I"⟩
abbrev cX8_syncs : ByteArray := prog_10_method_56_code
def yX8_syncs : MethodName := ⟨RX8, "syncs", "(I)I"⟩
abbrev cX8_read : ByteArray := prog_10_method_57_code
def yX8_read : MethodName := ⟨RX8, "read", "(II)I"⟩
abbrev cX8_write : ByteArray := prog_10_method_58_code
def yX8_write : MethodName := ⟨RX8, "write", "(II)I"⟩
abbrev cX8_count : ByteArray := prog_10_method_59_code
def yX8_count : MethodName := ⟨RX8, "count", "(I)I"⟩
def RJ9 : String := "java/lang/Math"
def TJ9 : u_T := fun k => match k with
  | _ => ("", "", "", false)
def tyJ9 : Nat → FieldType := fun k => match k with
  | _ => .int
abbrev wsJ90 : List Cond := u_ws RJ9 TJ9 0
theorem nmJ9 : ∀ a, a < 0 → ∀ b, b < 0 → a ≠ b → (TJ9 a).2.1 ≠ (TJ9 b).2.1 := by decide +kernel
theorem tyJ9_ok : ∀ k, k < 0 → parseFieldDescriptor (TJ9 k).2.2.1 = some (tyJ9 k) := by decide +kernel
abbrev cJ9_floorMod_7cf53 : ByteArray := prog_11_method_50_code
def yJ9_floorMod_7cf53 : MethodName := ⟨RJ9, "floorMod", "(II)I"⟩
abbrev cJ9_max_7cf53 : ByteArray := prog_11_method_65_code
def yJ9_max_7cf53 : MethodName := ⟨RJ9, "max", "(II)I"⟩
def RJ10 : String := "java/lang/System"
def TJ10 : u_T := fun k => match k with
  | _ => ("", "", "", false)
def tyJ10 : Nat → FieldType := fun k => match k with
  | _ => .int
abbrev wsJ100 : List Cond := u_ws RJ10 TJ10 0
theorem nmJ10 : ∀ a, a < 0 → ∀ b, b < 0 → a ≠ b → (TJ10 a).2.1 ≠ (TJ10 b).2.1 := by decide +kernel
theorem tyJ10_ok : ∀ k, k < 0 → parseFieldDescriptor (TJ10 k).2.2.1 = some (tyJ10 k) := by decide +kernel
def RL : String := "BitDriveLaw"
abbrev cL_law : ByteArray := code
def yL_law : MethodName := ⟨RL, "law", "([I)Z"⟩

abbrev vwCl : List vw_C := [(RX0, TX0, 7), (RX1, TX1, 2), (RX2, TX2, 6), (RX3, TX3, 12), (RX4, TX4, 1), (RX5, TX5, 5), (RX6, TX6, 3), (RX7, TX7, 10), (RX8, TX8, 31)]
end
section
/-! WORDS: the good words of the tables, one list for all methods; a row for each word that is used -/
def W0 : List Cond := lw_tbl.filter goodWord
theorem W0_good {w : Cond} (h : w ∈ W0) : (w.onTables && w.keeps) = true ∨ ∃ ty, w = .arrayClass ty := good_of_word (List.mem_filter.mp h).2
theorem W0_tbl {w : Cond} (h : w ∈ W0) : w ∈ lw_tbl := (List.mem_filter.mp h).1
theorem wT1 {w : Cond} (i : Nat) (h : tables_1_1[i]? = some w) (g : goodWord w = true) : w ∈ W0 := List.mem_filter.mpr ⟨List.mem_append_right _ (List.mem_append_left _ (List.mem_of_getElem? h)), g⟩
theorem wT2 {w : Cond} (i : Nat) (h : tables_1_2[i]? = some w) (g : goodWord w = true) : w ∈ W0 := List.mem_filter.mpr ⟨List.mem_append_right _ (List.mem_append_right _ (List.mem_append_left _ (List.mem_of_getElem? h))), g⟩
theorem wT3 {w : Cond} (i : Nat) (h : tables_1_3[i]? = some w) (g : goodWord w = true) : w ∈ W0 := List.mem_filter.mpr ⟨List.mem_append_right _ (List.mem_append_right _ (List.mem_append_right _ (List.mem_append_left _ (List.mem_of_getElem? h)))), g⟩
theorem wT4 {w : Cond} (i : Nat) (h : tables_1_4[i]? = some w) (g : goodWord w = true) : w ∈ W0 := List.mem_filter.mpr ⟨List.mem_append_right _ (List.mem_append_right _ (List.mem_append_right _ (List.mem_append_right _ (List.mem_of_getElem? h)))), g⟩
theorem wS1 {y : MethodName} (i n : Nat) (h : lw_privs_1[i]? = some (y, n)) (g : goodWord (Cond.selects y.cls y y) = true) : Cond.selects y.cls y y ∈ W0 := List.mem_filter.mpr ⟨List.mem_append_left _ (List.mem_map.mpr ⟨(y, n), List.mem_append_left _ (List.mem_of_getElem? h), rfl⟩), g⟩
theorem wS2 {y : MethodName} (i n : Nat) (h : lw_privs_2[i]? = some (y, n)) (g : goodWord (Cond.selects y.cls y y) = true) : Cond.selects y.cls y y ∈ W0 := List.mem_filter.mpr ⟨List.mem_append_left _ (List.mem_map.mpr ⟨(y, n), List.mem_append_right _ (List.mem_append_left _ (List.mem_of_getElem? h)), rfl⟩), g⟩
theorem wS3 {y : MethodName} (i n : Nat) (h : lw_privs_3[i]? = some (y, n)) (g : goodWord (Cond.selects y.cls y y) = true) : Cond.selects y.cls y y ∈ W0 := List.mem_filter.mpr ⟨List.mem_append_left _ (List.mem_map.mpr ⟨(y, n), List.mem_append_right _ (List.mem_append_right _ (List.mem_of_getElem? h)), rfl⟩), g⟩
theorem gV {own C : String} {idx n : Nat} {y : MethodName} {b : ByteArray} {r : Option FieldType} (h1 : Cond.methodLink own idx y ∈ W0) (h2 : Cond.instanceMethod y ∈ W0) (h3 : Cond.selects C y y ∈ W0) (h4 : Cond.initialized C ∈ W0) (h5 : Cond.code y b n r ∈ W0) : GoodIn W0 (wsV own idx C y (.code y b n r :: W0)) := by
  intro w hw
  have : w ∈ W0 := by
    simp only [wsV, List.cons_append, List.nil_append, List.mem_cons] at hw
    rcases hw with rfl | rfl | rfl | rfl | rfl | hw
    · exact h1
    · exact h2
    · exact h3
    · exact h4
    · exact h5
    · exact hw
  exact ⟨this, W0_good this⟩
theorem gS {own : String} {idx n : Nat} {y : MethodName} {b : ByteArray} {r : Option FieldType} (h1 : Cond.methodLink own idx y ∈ W0) (h2 : Cond.static y ∈ W0) (h4 : Cond.initialized y.cls ∈ W0) (h5 : Cond.code y b n r ∈ W0) : GoodIn W0 (va_wsS own idx y (.code y b n r :: W0)) := by
  intro w hw
  have : w ∈ W0 := by
    simp only [va_wsS, List.cons_append, List.nil_append, List.mem_cons] at hw
    rcases hw with rfl | rfl | rfl | rfl | hw
    · exact h1
    · exact h2
    · exact h4
    · exact h5
    · exact hw
  exact ⟨this, W0_good this⟩
theorem gC {n : Nat} {y : MethodName} {b : ByteArray} {r : Option FieldType} (h5 : Cond.code y b n r ∈ W0) : GoodIn W0 (.code y b n r :: W0) := by
  intro w hw
  have : w ∈ W0 := by
    rcases List.mem_cons.mp hw with rfl | hw
    · exact h5
    · exact hw
  exact ⟨this, W0_good this⟩
theorem m_IN_X0 : Cond.initialized RX0 ∈ W0 := wT1 3 rfl rfl
theorem m_IN_X1 : Cond.initialized RX1 ∈ W0 := wT1 9 rfl rfl
theorem m_IN_X2 : Cond.initialized RX2 ∈ W0 := wT1 8 rfl rfl
theorem m_IN_X3 : Cond.initialized RX3 ∈ W0 := wT1 7 rfl rfl
theorem m_IN_X4 : Cond.initialized RX4 ∈ W0 := wT1 6 rfl rfl
theorem m_IN_X5 : Cond.initialized RX5 ∈ W0 := wT1 4 rfl rfl
theorem m_IN_X6 : Cond.initialized RX6 ∈ W0 := wT1 2 rfl rfl
theorem m_IN_X7 : Cond.initialized RX7 ∈ W0 := wT1 1 rfl rfl
theorem m_IN_X8 : Cond.initialized RX8 ∈ W0 := wT1 10 rfl rfl
theorem m_IN_J9 : Cond.initialized RJ9 ∈ W0 := wT1 5 rfl rfl
theorem m_IN_J10 : Cond.initialized RJ10 ∈ W0 := wT1 11 rfl rfl
theorem m_IA_X0 : Cond.instantiable RX0 7 ∈ W0 := wT1 40 rfl rfl
theorem m_IA_X1 : Cond.instantiable RX1 2 ∈ W0 := wT1 220 rfl rfl
theorem m_IA_X2 : Cond.instantiable RX2 6 ∈ W0 := wT1 192 rfl rfl
theorem m_IA_X3 : Cond.instantiable RX3 12 ∈ W0 := wT1 137 rfl rfl
theorem m_IA_X4 : Cond.instantiable RX4 1 ∈ W0 := wT1 126 rfl rfl
theorem m_IA_X5 : Cond.instantiable RX5 5 ∈ W0 := wT1 47 rfl rfl
theorem m_IA_X6 : Cond.instantiable RX6 3 ∈ W0 := wT1 21 rfl rfl
theorem m_IA_X7 : Cond.instantiable RX7 10 ∈ W0 := wT1 13 rfl rfl
theorem m_IA_X8 : Cond.instantiable RX8 31 ∈ W0 := wT3 129 rfl rfl
theorem m_FL_X0_9 : Cond.fieldLink RX0 9 "BitDrive$Blocks" "report" "LBitDrive$Status;" ∈ W0 := wT1 99 rfl rfl
theorem m_FL_X0_15 : Cond.fieldLink RX0 15 "BitDrive$Blocks" "id" "I" ∈ W0 := wT1 102 rfl rfl
theorem m_FL_X0_21 : Cond.fieldLink RX0 21 "BitDrive$Blocks" "rings" "[LBitDrive$Ring;" ∈ W0 := wT1 100 rfl rfl
theorem m_FL_X0_32 : Cond.fieldLink RX0 32 "BitDrive$Blocks" "sample" "LBitDrive$Ring;" ∈ W0 := wT1 101 rfl rfl
theorem m_FL_X0_85 : Cond.fieldLink RX0 85 "BitDrive$Ring" "found" "I" ∈ W0 := wT1 62 rfl rfl
theorem m_FL_X0_95 : Cond.fieldLink RX0 95 "BitDrive$Blocks" "reads" "I" ∈ W0 := wT1 104 rfl rfl
theorem m_FL_X0_98 : Cond.fieldLink RX0 98 "BitDrive$Blocks" "faults" "I" ∈ W0 := wT1 108 rfl rfl
theorem m_FL_X0_101 : Cond.fieldLink RX0 101 "BitDrive$Blocks" "writes" "I" ∈ W0 := wT1 106 rfl rfl
theorem m_FL_X1_13 : Cond.fieldLink RX1 13 "BitDrive$Bytes" "row" "[I" ∈ W0 := wT1 226 rfl rfl
theorem m_FL_X1_19 : Cond.fieldLink RX1 19 "BitDrive$Bytes" "length" "I" ∈ W0 := wT1 227 rfl rfl
theorem m_FL_X2_9 : Cond.fieldLink RX2 9 "BitDrive$Chain" "tracks" "[I" ∈ W0 := wT1 199 rfl rfl
theorem m_FL_X2_15 : Cond.fieldLink RX2 15 "BitDrive$Chain" "sectors" "[I" ∈ W0 := wT1 201 rfl rfl
theorem m_FL_X2_18 : Cond.fieldLink RX2 18 "BitDrive$Chain" "row" "[I" ∈ W0 := wT1 205 rfl rfl
theorem m_FL_X2_21 : Cond.fieldLink RX2 21 "BitDrive$Chain" "blocks" "LBitDrive$Blocks;" ∈ W0 := wT1 197 rfl rfl
theorem m_FL_X2_25 : Cond.fieldLink RX2 25 "BitDrive$Chain" "report" "LBitDrive$Status;" ∈ W0 := wT1 198 rfl rfl
theorem m_FL_X2_29 : Cond.fieldLink RX2 29 "BitDrive$Chain" "length" "I" ∈ W0 := wT1 203 rfl rfl
theorem m_FL_X2_64 : Cond.fieldLink RX2 64 "BitDrive$Bytes" "length" "I" ∈ W0 := wT1 229 rfl rfl
theorem m_FL_X2_76 : Cond.fieldLink RX2 76 "BitDrive$Directory" "entry" "I" ∈ W0 := wT1 155 rfl rfl
theorem m_FL_X2_87 : Cond.fieldLink RX2 87 "BitDrive$Directory" "row" "[I" ∈ W0 := wT1 145 rfl rfl
theorem m_FL_X2_91 : Cond.fieldLink RX2 91 "BitDrive$Directory" "track" "I" ∈ W0 := wT1 148 rfl rfl
theorem m_FL_X2_94 : Cond.fieldLink RX2 94 "BitDrive$Directory" "sector" "I" ∈ W0 := wT1 151 rfl rfl
theorem m_FL_X3_9 : Cond.fieldLink RX3 9 "BitDrive$Directory" "row" "[I" ∈ W0 := wT1 144 rfl rfl
theorem m_FL_X3_15 : Cond.fieldLink RX3 15 "BitDrive$Directory" "roomRow" "[I" ∈ W0 := wT1 158 rfl rfl
theorem m_FL_X3_18 : Cond.fieldLink RX3 18 "BitDrive$Directory" "blocks" "LBitDrive$Blocks;" ∈ W0 := wT1 142 rfl rfl
theorem m_FL_X3_22 : Cond.fieldLink RX3 22 "BitDrive$Directory" "report" "LBitDrive$Status;" ∈ W0 := wT1 143 rfl rfl
theorem m_FL_X3_26 : Cond.fieldLink RX3 26 "BitDrive$Directory" "entry" "I" ∈ W0 := wT1 153 rfl rfl
theorem m_FL_X3_30 : Cond.fieldLink RX3 30 "BitDrive$Directory" "room" "I" ∈ W0 := wT1 156 rfl rfl
theorem m_FL_X3_33 : Cond.fieldLink RX3 33 "BitDrive$Directory" "grows" "Z" ∈ W0 := wT1 164 rfl rfl
theorem m_FL_X3_37 : Cond.fieldLink RX3 37 "BitDrive$Directory" "walked" "I" ∈ W0 := wT1 152 rfl rfl
theorem m_FL_X3_40 : Cond.fieldLink RX3 40 "BitDrive$Directory" "track" "I" ∈ W0 := wT1 146 rfl rfl
theorem m_FL_X3_43 : Cond.fieldLink RX3 43 "BitDrive$Directory" "sector" "I" ∈ W0 := wT1 149 rfl rfl
theorem m_FL_X3_70 : Cond.fieldLink RX3 70 "BitDrive$Directory" "roomTrack" "I" ∈ W0 := wT1 160 rfl rfl
theorem m_FL_X3_73 : Cond.fieldLink RX3 73 "BitDrive$Directory" "roomSector" "I" ∈ W0 := wT1 162 rfl rfl
theorem m_FL_X4_9 : Cond.fieldLink RX4 9 "BitDrive$FreeMap" "row" "[I" ∈ W0 := wT1 131 rfl rfl
theorem m_FL_X5_15 : Cond.fieldLink RX5 15 "BitDrive$Ring" "row" "[I" ∈ W0 := wT1 58 rfl rfl
theorem m_FL_X5_21 : Cond.fieldLink RX5 21 "BitDrive$Ring" "bits" "I" ∈ W0 := wT1 59 rfl rfl
theorem m_FL_X5_25 : Cond.fieldLink RX5 25 "BitDrive$Ring" "starts" "[I" ∈ W0 := wT1 60 rfl rfl
theorem m_FL_X5_32 : Cond.fieldLink RX5 32 "BitDrive$Ring" "found" "I" ∈ W0 := wT1 61 rfl rfl
theorem m_FL_X5_35 : Cond.fieldLink RX5 35 "BitDrive$Ring" "known" "Z" ∈ W0 := wT1 63 rfl rfl
theorem m_FL_X6_7 : Cond.fieldLink RX6 7 "BitDrive$Status" "number" "I" ∈ W0 := wT1 26 rfl rfl
theorem m_FL_X6_13 : Cond.fieldLink RX6 13 "BitDrive$Status" "track" "I" ∈ W0 := wT1 28 rfl rfl
theorem m_FL_X6_16 : Cond.fieldLink RX6 16 "BitDrive$Status" "sector" "I" ∈ W0 := wT1 30 rfl rfl
theorem m_FL_X7_12 : Cond.fieldLink RX7 12 "BitDrive" "report" "LBitDrive$Status;" ∈ W0 := wT1 236 rfl rfl
theorem m_FL_X7_21 : Cond.fieldLink RX7 21 "BitDrive" "blocks" "LBitDrive$Blocks;" ∈ W0 := wT1 237 rfl rfl
theorem m_FL_X7_28 : Cond.fieldLink RX7 28 "BitDrive" "map" "LBitDrive$FreeMap;" ∈ W0 := wT1 238 rfl rfl
theorem m_FL_X7_37 : Cond.fieldLink RX7 37 "BitDrive" "directory" "LBitDrive$Directory;" ∈ W0 := wT1 239 rfl rfl
theorem m_FL_X7_44 : Cond.fieldLink RX7 44 "BitDrive" "chain" "LBitDrive$Chain;" ∈ W0 := wT2 0 rfl rfl
theorem m_FL_X7_53 : Cond.fieldLink RX7 53 "BitDrive" "tape" "LBitDrive$Bytes;" ∈ W0 := wT2 1 rfl rfl
theorem m_FL_X7_57 : Cond.fieldLink RX7 57 "BitDrive" "output" "LBitDrive$Bytes;" ∈ W0 := wT2 2 rfl rfl
theorem m_FL_X7_60 : Cond.fieldLink RX7 60 "BitDrive" "nowhere" "LBitDrive$Bytes;" ∈ W0 := wT2 3 rfl rfl
theorem m_FL_X7_63 : Cond.fieldLink RX7 63 "BitDrive" "block" "[I" ∈ W0 := wT2 4 rfl rfl
theorem m_FL_X7_73 : Cond.fieldLink RX7 73 "BitDrive" "spare" "[I" ∈ W0 := wT2 5 rfl rfl
theorem m_FL_X7_76 : Cond.fieldLink RX7 76 "BitDrive$Bytes" "length" "I" ∈ W0 := wT1 228 rfl rfl
theorem m_FL_X7_84 : Cond.fieldLink RX7 84 "BitDrive$Blocks" "id" "I" ∈ W0 := wT1 103 rfl rfl
theorem m_FL_X7_94 : Cond.fieldLink RX7 94 "BitDrive$FreeMap" "row" "[I" ∈ W0 := wT1 132 rfl rfl
theorem m_FL_X7_109 : Cond.fieldLink RX7 109 "BitDrive$Directory" "entry" "I" ∈ W0 := wT1 154 rfl rfl
theorem m_FL_X7_112 : Cond.fieldLink RX7 112 "BitDrive$Directory" "track" "I" ∈ W0 := wT1 147 rfl rfl
theorem m_FL_X7_115 : Cond.fieldLink RX7 115 "BitDrive$Directory" "sector" "I" ∈ W0 := wT1 150 rfl rfl
theorem m_FL_X7_147 : Cond.fieldLink RX7 147 "BitDrive$Chain" "length" "I" ∈ W0 := wT1 204 rfl rfl
theorem m_FL_X7_177 : Cond.fieldLink RX7 177 "BitDrive$Status" "number" "I" ∈ W0 := wT1 27 rfl rfl
theorem m_FL_X7_180 : Cond.fieldLink RX7 180 "BitDrive$Status" "track" "I" ∈ W0 := wT1 29 rfl rfl
theorem m_FL_X7_181 : Cond.fieldLink RX7 181 "BitDrive$Status" "sector" "I" ∈ W0 := wT1 31 rfl rfl
theorem m_FL_X7_212 : Cond.fieldLink RX7 212 "BitDrive$Blocks" "reads" "I" ∈ W0 := wT1 105 rfl rfl
theorem m_FL_X7_215 : Cond.fieldLink RX7 215 "BitDrive$Blocks" "writes" "I" ∈ W0 := wT1 107 rfl rfl
theorem m_FL_X7_218 : Cond.fieldLink RX7 218 "BitDrive$Blocks" "faults" "I" ∈ W0 := wT1 109 rfl rfl
theorem m_FL_X7_239 : Cond.fieldLink RX7 239 "BitDrive$Directory" "roomRow" "[I" ∈ W0 := wT1 159 rfl rfl
theorem m_FL_X7_242 : Cond.fieldLink RX7 242 "BitDrive$Directory" "room" "I" ∈ W0 := wT1 157 rfl rfl
theorem m_FL_X7_249 : Cond.fieldLink RX7 249 "BitDrive$Directory" "roomTrack" "I" ∈ W0 := wT1 161 rfl rfl
theorem m_FL_X7_252 : Cond.fieldLink RX7 252 "BitDrive$Directory" "roomSector" "I" ∈ W0 := wT1 163 rfl rfl
theorem m_FL_X7_255 : Cond.fieldLink RX7 255 "BitDrive$Directory" "grows" "Z" ∈ W0 := wT1 165 rfl rfl
theorem m_FL_X7_262 : Cond.fieldLink RX7 262 "BitDrive$Chain" "tracks" "[I" ∈ W0 := wT1 200 rfl rfl
theorem m_FL_X7_265 : Cond.fieldLink RX7 265 "BitDrive$Chain" "sectors" "[I" ∈ W0 := wT1 202 rfl rfl
theorem m_FL_X8_8 : Cond.fieldLink RX8 8 "BitDriveModel" "bits" "[Z" ∈ W0 := wT3 139 rfl rfl
theorem m_FL_X8_14 : Cond.fieldLink RX8 14 "BitDriveModel" "kept" "[Z" ∈ W0 := wT3 140 rfl rfl
theorem m_FL_X8_17 : Cond.fieldLink RX8 17 "BitDriveModel" "codes" "[I" ∈ W0 := wT3 141 rfl rfl
theorem m_FL_X8_21 : Cond.fieldLink RX8 21 "BitDriveModel" "halves" "[I" ∈ W0 := wT3 142 rfl rfl
theorem m_FL_X8_24 : Cond.fieldLink RX8 24 "BitDriveModel" "id" "I" ∈ W0 := wT3 143 rfl rfl
theorem m_FL_X8_28 : Cond.fieldLink RX8 28 "BitDriveModel" "tape" "[I" ∈ W0 := wT3 144 rfl rfl
theorem m_FL_X8_31 : Cond.fieldLink RX8 31 "BitDriveModel" "out" "[I" ∈ W0 := wT3 146 rfl rfl
theorem m_FL_X8_34 : Cond.fieldLink RX8 34 "BitDriveModel" "places" "[I" ∈ W0 := wT3 154 rfl rfl
theorem m_FL_X8_37 : Cond.fieldLink RX8 37 "BitDriveModel" "block" "[I" ∈ W0 := wT3 157 rfl rfl
theorem m_FL_X8_40 : Cond.fieldLink RX8 40 "BitDriveModel" "map" "[I" ∈ W0 := wT3 158 rfl rfl
theorem m_FL_X8_43 : Cond.fieldLink RX8 43 "BitDriveModel" "directory" "[I" ∈ W0 := wT3 159 rfl rfl
theorem m_FL_X8_46 : Cond.fieldLink RX8 46 "BitDriveModel" "directoryTrack" "[I" ∈ W0 := wT3 160 rfl rfl
theorem m_FL_X8_49 : Cond.fieldLink RX8 49 "BitDriveModel" "directorySector" "[I" ∈ W0 := wT3 161 rfl rfl
theorem m_FL_X8_52 : Cond.fieldLink RX8 52 "BitDriveModel" "chainTrack" "[I" ∈ W0 := wT3 165 rfl rfl
theorem m_FL_X8_55 : Cond.fieldLink RX8 55 "BitDriveModel" "chainSector" "[I" ∈ W0 := wT3 166 rfl rfl
theorem m_FL_X8_83 : Cond.fieldLink RX8 83 "BitDriveModel" "many" "I" ∈ W0 := wT3 155 rfl rfl
theorem m_FL_X8_86 : Cond.fieldLink RX8 86 "BitDriveModel" "writeTrack" "I" ∈ W0 := wT3 168 rfl rfl
theorem m_FL_X8_89 : Cond.fieldLink RX8 89 "BitDriveModel" "writeAt" "I" ∈ W0 := wT3 169 rfl rfl
theorem m_FL_X8_110 : Cond.fieldLink RX8 110 "BitDriveModel" "found" "I" ∈ W0 := wT3 156 rfl rfl
theorem m_FL_X8_122 : Cond.fieldLink RX8 122 "BitDriveModel" "reads" "I" ∈ W0 := wT3 151 rfl rfl
theorem m_FL_X8_125 : Cond.fieldLink RX8 125 "BitDriveModel" "failures" "I" ∈ W0 := wT3 153 rfl rfl
theorem m_FL_X8_131 : Cond.fieldLink RX8 131 "BitDriveModel" "writes" "I" ∈ W0 := wT3 152 rfl rfl
theorem m_FL_X8_134 : Cond.fieldLink RX8 134 "BitDriveModel" "status" "I" ∈ W0 := wT3 148 rfl rfl
theorem m_FL_X8_137 : Cond.fieldLink RX8 137 "BitDriveModel" "statusTrack" "I" ∈ W0 := wT3 149 rfl rfl
theorem m_FL_X8_140 : Cond.fieldLink RX8 140 "BitDriveModel" "statusSector" "I" ∈ W0 := wT3 150 rfl rfl
theorem m_FL_X8_156 : Cond.fieldLink RX8 156 "BitDriveModel" "directoryMany" "I" ∈ W0 := wT3 162 rfl rfl
theorem m_FL_X8_159 : Cond.fieldLink RX8 159 "BitDriveModel" "entryBlock" "I" ∈ W0 := wT3 163 rfl rfl
theorem m_FL_X8_165 : Cond.fieldLink RX8 165 "BitDriveModel" "entryAt" "I" ∈ W0 := wT3 164 rfl rfl
theorem m_FL_X8_172 : Cond.fieldLink RX8 172 "BitDriveModel" "taped" "I" ∈ W0 := wT3 145 rfl rfl
theorem m_FL_X8_180 : Cond.fieldLink RX8 180 "BitDriveModel" "chainMany" "I" ∈ W0 := wT3 167 rfl rfl
theorem m_FL_X8_220 : Cond.fieldLink RX8 220 "BitDriveModel" "told" "I" ∈ W0 := wT3 147 rfl rfl
theorem m_ML_L_9 : Cond.methodLink RL 9 yX7_init ∈ W0 := wT1 14 rfl rfl
theorem m_ML_L_12 : Cond.methodLink RL 12 yX8_init ∈ W0 := wT3 130 rfl rfl
theorem m_ML_L_13 : Cond.methodLink RL 13 yX7_feed ∈ W0 := wT2 27 rfl rfl
theorem m_ML_L_17 : Cond.methodLink RL 17 yX8_feed ∈ W0 := wT3 234 rfl rfl
theorem m_ML_L_18 : Cond.methodLink RL 18 yX7_end ∈ W0 := wT2 39 rfl rfl
theorem m_ML_L_22 : Cond.methodLink RL 22 yX8_end ∈ W0 := wT3 238 rfl rfl
theorem m_ML_L_23 : Cond.methodLink RL 23 yX7_format ∈ W0 := wT2 43 rfl rfl
theorem m_ML_L_27 : Cond.methodLink RL 27 yX8_format ∈ W0 := wT4 5 rfl rfl
theorem m_ML_L_28 : Cond.methodLink RL 28 yX7_mount ∈ W0 := wT2 103 rfl rfl
theorem m_ML_L_31 : Cond.methodLink RL 31 yX8_mount ∈ W0 := wT4 49 rfl rfl
theorem m_ML_L_32 : Cond.methodLink RL 32 yX7_save ∈ W0 := wT2 107 rfl rfl
theorem m_ML_L_35 : Cond.methodLink RL 35 yX8_save ∈ W0 := wT4 53 rfl rfl
theorem m_ML_L_36 : Cond.methodLink RL 36 yX7_load ∈ W0 := wT3 14 rfl rfl
theorem m_ML_L_40 : Cond.methodLink RL 40 yX8_load ∈ W0 := wT4 135 rfl rfl
theorem m_ML_L_41 : Cond.methodLink RL 41 yX7_scratch ∈ W0 := wT3 33 rfl rfl
theorem m_ML_L_44 : Cond.methodLink RL 44 yX8_scratch ∈ W0 := wT4 147 rfl rfl
theorem m_ML_L_45 : Cond.methodLink RL 45 yX7_list ∈ W0 := wT3 45 rfl rfl
theorem m_ML_L_49 : Cond.methodLink RL 49 yX8_list ∈ W0 := wT4 155 rfl rfl
theorem m_ML_L_50 : Cond.methodLink RL 50 yX7_info ∈ W0 := wT3 55 rfl rfl
theorem m_ML_L_53 : Cond.methodLink RL 53 yX8_info ∈ W0 := wT4 159 rfl rfl
theorem m_ML_L_54 : Cond.methodLink RL 54 yX7_out ∈ W0 := wT3 66 rfl rfl
theorem m_ML_L_57 : Cond.methodLink RL 57 yX8_out ∈ W0 := wT4 163 rfl rfl
theorem m_ML_L_58 : Cond.methodLink RL 58 yX7_status ∈ W0 := wT3 71 rfl rfl
theorem m_ML_L_61 : Cond.methodLink RL 61 yX8_status ∈ W0 := wT4 167 rfl rfl
theorem m_ML_L_62 : Cond.methodLink RL 62 yX7_peek ∈ W0 := wT3 75 rfl rfl
theorem m_ML_L_65 : Cond.methodLink RL 65 yX8_peek ∈ W0 := wT4 171 rfl rfl
theorem m_ML_L_66 : Cond.methodLink RL 66 yX7_poke ∈ W0 := wT3 89 rfl rfl
theorem m_ML_L_69 : Cond.methodLink RL 69 yX8_poke ∈ W0 := wT4 182 rfl rfl
theorem m_ML_L_70 : Cond.methodLink RL 70 yX7_stamp ∈ W0 := wT3 94 rfl rfl
theorem m_ML_L_73 : Cond.methodLink RL 73 yX8_stamp ∈ W0 := wT4 190 rfl rfl
theorem m_ML_L_74 : Cond.methodLink RL 74 yX7_turn ∈ W0 := wT3 98 rfl rfl
theorem m_ML_L_77 : Cond.methodLink RL 77 yX8_turn ∈ W0 := wT4 194 rfl rfl
theorem m_ML_L_78 : Cond.methodLink RL 78 yX7_syncs ∈ W0 := wT3 109 rfl rfl
theorem m_ML_L_81 : Cond.methodLink RL 81 yX8_syncs ∈ W0 := wT4 198 rfl rfl
theorem m_ML_L_82 : Cond.methodLink RL 82 yX7_read ∈ W0 := wT3 114 rfl rfl
theorem m_ML_L_85 : Cond.methodLink RL 85 yX8_read ∈ W0 := wT4 202 rfl rfl
theorem m_ML_L_86 : Cond.methodLink RL 86 yX7_write ∈ W0 := wT3 119 rfl rfl
theorem m_ML_L_89 : Cond.methodLink RL 89 yX8_write ∈ W0 := wT4 206 rfl rfl
theorem m_ML_L_90 : Cond.methodLink RL 90 yX7_count ∈ W0 := wT3 124 rfl rfl
theorem m_ML_L_93 : Cond.methodLink RL 93 yX8_count ∈ W0 := wT4 210 rfl rfl
theorem m_ML_X0_3 : Cond.methodLink RX0 3 objectInit ∈ W0 := wT1 44 rfl rfl
theorem m_ML_X0_25 : Cond.methodLink RX0 25 yX5_sizeOf ∈ W0 := wT1 48 rfl rfl
theorem m_ML_X0_29 : Cond.methodLink RX0 29 yX5_init ∈ W0 := wT1 51 rfl rfl
theorem m_ML_X0_36 : Cond.methodLink RX0 36 yX5_fillGap ∈ W0 := wT1 76 rfl rfl
theorem m_ML_X0_39 : Cond.methodLink RX0 39 yX5_putSync ∈ W0 := wT1 80 rfl rfl
theorem m_ML_X0_42 : Cond.methodLink RX0 42 yX5_putData ∈ W0 := wT1 88 rfl rfl
theorem m_ML_X0_46 : Cond.methodLink RX0 46 yX0_sectorsOf ∈ W0 := wT2 60 rfl rfl
theorem m_ML_X0_49 : Cond.methodLink RX0 49 yX0_ringOf ∈ W0 := wT2 52 rfl rfl
theorem m_ML_X0_53 : Cond.methodLink RX0 53 yX0_formatTrack ∈ W0 := wT2 56 rfl rfl
theorem m_ML_X0_57 : Cond.methodLink RX0 57 yX5_putHeader ∈ W0 := wT2 63 rfl rfl
theorem m_ML_X0_61 : Cond.methodLink RX0 61 yX5_layRing ∈ W0 := wT2 67 rfl rfl
theorem m_ML_X0_64 : Cond.methodLink RX0 64 yX0_readBlock ∈ W0 := wT2 123 rfl rfl
theorem m_ML_X0_68 : Cond.methodLink RX0 68 yX6_tell ∈ W0 := wT2 155 rfl rfl
theorem m_ML_X0_74 : Cond.methodLink RX0 74 yX0_writeBlock ∈ W0 := wT2 235 rfl rfl
theorem m_ML_X0_77 : Cond.methodLink RX0 77 yX0_isBlock ∈ W0 := wT2 127 rfl rfl
theorem m_ML_X0_81 : Cond.methodLink RX0 81 yX0_seek ∈ W0 := wT2 128 rfl rfl
theorem m_ML_X0_88 : Cond.methodLink RX0 88 yX5_startOf ∈ W0 := wT2 136 rfl rfl
theorem m_ML_X0_91 : Cond.methodLink RX0 91 yX5_takeData ∈ W0 := wT2 150 rfl rfl
theorem m_ML_X0_104 : Cond.methodLink RX0 104 yX5_findSyncs ∈ W0 := wT2 132 rfl rfl
theorem m_ML_X0_108 : Cond.methodLink RX0 108 yX0_headerError ∈ W0 := wT2 140 rfl rfl
theorem m_ML_X0_112 : Cond.methodLink RX0 112 yX5_codedAt ∈ W0 := wT2 144 rfl rfl
theorem m_ML_X1_1 : Cond.methodLink RX1 1 objectInit ∈ W0 := wT1 224 rfl rfl
theorem m_ML_X1_7 : Cond.methodLink RX1 7 Lib.Math.max.name ∈ W0 := wT1 225 rfl rfl
theorem m_ML_X1_23 : Cond.methodLink RX1 23 yX1_add ∈ W0 := wT2 35 rfl rfl
theorem m_ML_X2_3 : Cond.methodLink RX2 3 objectInit ∈ W0 := wT1 196 rfl rfl
theorem m_ML_X2_36 : Cond.methodLink RX2 36 yX0_sectorsOf ∈ W0 := wT2 211 rfl rfl
theorem m_ML_X2_42 : Cond.methodLink RX2 42 yX4_isFree ∈ W0 := wT2 212 rfl rfl
theorem m_ML_X2_48 : Cond.methodLink RX2 48 yX4_setFree ∈ W0 := wT2 213 rfl rfl
theorem m_ML_X2_52 : Cond.methodLink RX2 52 yX2_addBlock ∈ W0 := wT2 214 rfl rfl
theorem m_ML_X2_56 : Cond.methodLink RX2 56 yX2_fillBlock ∈ W0 := wT2 222 rfl rfl
theorem m_ML_X2_60 : Cond.methodLink RX2 60 yX0_store ∈ W0 := wT2 231 rfl rfl
theorem m_ML_X2_67 : Cond.methodLink RX2 67 yX1_byteAt ∈ W0 := wT2 226 rfl rfl
theorem m_ML_X2_70 : Cond.methodLink RX2 70 Lib.Math.max.name ∈ W0 := wT2 230 rfl rfl
theorem m_ML_X2_81 : Cond.methodLink RX2 81 yX6_tell ∈ W0 := wT3 22 rfl rfl
theorem m_ML_X2_88 : Cond.methodLink RX2 88 yX0_isBlock ∈ W0 := wT3 23 rfl rfl
theorem m_ML_X2_97 : Cond.methodLink RX2 97 yX0_fetch ∈ W0 := wT3 24 rfl rfl
theorem m_ML_X2_100 : Cond.methodLink RX2 100 yX1_addRow ∈ W0 := wT3 25 rfl rfl
theorem m_ML_X3_3 : Cond.methodLink RX3 3 objectInit ∈ W0 := wT1 141 rfl rfl
theorem m_ML_X3_46 : Cond.methodLink RX3 46 yX0_fetch ∈ W0 := wT2 160 rfl rfl
theorem m_ML_X3_52 : Cond.methodLink RX3 52 yX0_isBlock ∈ W0 := wT2 181 rfl rfl
theorem m_ML_X3_56 : Cond.methodLink RX3 56 yX6_tell ∈ W0 := wT2 182 rfl rfl
theorem m_ML_X3_62 : Cond.methodLink RX3 62 yX3_keepRoom ∈ W0 := wT2 165 rfl rfl
theorem m_ML_X3_76 : Cond.methodLink RX3 76 arraycopyName ∈ W0 := wT2 169 rfl rfl
theorem m_ML_X3_82 : Cond.methodLink RX3 82 yX1_add ∈ W0 := wT3 53 rfl rfl
theorem m_ML_X3_87 : Cond.methodLink RX3 87 yX1_addRow ∈ W0 := wT3 54 rfl rfl
theorem m_ML_X3_91 : Cond.methodLink RX3 91 yX4_leastFree ∈ W0 := wT2 191 rfl rfl
theorem m_ML_X3_97 : Cond.methodLink RX3 97 yX4_setFree ∈ W0 := wT2 199 rfl rfl
theorem m_ML_X3_104 : Cond.methodLink RX3 104 yX0_store ∈ W0 := wT3 13 rfl rfl
theorem m_ML_X4_3 : Cond.methodLink RX4 3 objectInit ∈ W0 := wT1 130 rfl rfl
theorem m_ML_X4_19 : Cond.methodLink RX4 19 yX0_sectorsOf ∈ W0 := wT2 81 rfl rfl
theorem m_ML_X4_25 : Cond.methodLink RX4 25 yX4_setFree ∈ W0 := wT2 82 rfl rfl
theorem m_ML_X4_33 : Cond.methodLink RX4 33 yX0_isBlock ∈ W0 := wT2 86 rfl rfl
theorem m_ML_X4_37 : Cond.methodLink RX4 37 yX4_isFree ∈ W0 := wT2 195 rfl rfl
theorem m_ML_X5_3 : Cond.methodLink RX5 3 objectInit ∈ W0 := wT1 54 rfl rfl
theorem m_ML_X5_9 : Cond.methodLink RX5 9 Lib.Math.max.name ∈ W0 := wT1 55 rfl rfl
theorem m_ML_X5_28 : Cond.methodLink RX5 28 yX5_hasByte ∈ W0 := wT3 88 rfl rfl
theorem m_ML_X5_42 : Cond.methodLink RX5 42 yX5_putBits ∈ W0 := wT1 84 rfl rfl
theorem m_ML_X5_49 : Cond.methodLink RX5 49 yJ9_floorMod_7cf53 ∈ W0 := wT3 106 rfl rfl
theorem m_ML_X5_52 : Cond.methodLink RX5 52 arraycopyName ∈ W0 := wT2 71 rfl rfl
theorem m_ML_X5_58 : Cond.methodLink RX5 58 yX5_putCoded ∈ W0 := wT1 93 rfl rfl
theorem m_ML_X5_62 : Cond.methodLink RX5 62 yX5_putSync ∈ W0 := wT1 92 rfl rfl
theorem m_ML_X5_66 : Cond.methodLink RX5 66 yX5_codedAt ∈ W0 := wT2 154 rfl rfl
theorem m_ML_X6_1 : Cond.methodLink RX6 1 objectInit ∈ W0 := wT1 25 rfl rfl
theorem m_ML_X7_3 : Cond.methodLink RX7 3 objectInit ∈ W0 := wT1 17 rfl rfl
theorem m_ML_X7_18 : Cond.methodLink RX7 18 yX0_init ∈ W0 := wT1 41 rfl rfl
theorem m_ML_X7_34 : Cond.methodLink RX7 34 yX3_init ∈ W0 := wT1 138 rfl rfl
theorem m_ML_X7_43 : Cond.methodLink RX7 43 yX2_init ∈ W0 := wT1 193 rfl rfl
theorem m_ML_X7_50 : Cond.methodLink RX7 50 yX1_init ∈ W0 := wT1 221 rfl rfl
theorem m_ML_X7_67 : Cond.methodLink RX7 67 yX5_sizeOf ∈ W0 := wT1 235 rfl rfl
theorem m_ML_X7_80 : Cond.methodLink RX7 80 yX1_addNumber ∈ W0 := wT2 31 rfl rfl
theorem m_ML_X7_87 : Cond.methodLink RX7 87 yX0_formatTracks ∈ W0 := wT2 48 rfl rfl
theorem m_ML_X7_90 : Cond.methodLink RX7 90 yX4_fillNew ∈ W0 := wT2 74 rfl rfl
theorem m_ML_X7_97 : Cond.methodLink RX7 97 yX0_layFormatted ∈ W0 := wT2 95 rfl rfl
theorem m_ML_X7_101 : Cond.methodLink RX7 101 yX6_tell ∈ W0 := wT2 99 rfl rfl
theorem m_ML_X7_105 : Cond.methodLink RX7 105 yX7_lookFor ∈ W0 := wT2 111 rfl rfl
theorem m_ML_X7_118 : Cond.methodLink RX7 118 yX7_takeRoom ∈ W0 := wT2 183 rfl rfl
theorem m_ML_X7_122 : Cond.methodLink RX7 122 yX2_store ∈ W0 := wT2 218 rfl rfl
theorem m_ML_X7_126 : Cond.methodLink RX7 126 yX7_storeEntry ∈ W0 := wT2 239 rfl rfl
theorem m_ML_X7_129 : Cond.methodLink RX7 129 yX0_store ∈ W0 := wT3 8 rfl rfl
theorem m_ML_X7_132 : Cond.methodLink RX7 132 yX2_follow ∈ W0 := wT3 18 rfl rfl
theorem m_ML_X7_136 : Cond.methodLink RX7 136 yX7_outputOr ∈ W0 := wT3 29 rfl rfl
theorem m_ML_X7_139 : Cond.methodLink RX7 139 yX3_storeWithoutEntry ∈ W0 := wT3 37 rfl rfl
theorem m_ML_X7_143 : Cond.methodLink RX7 143 yX2_release ∈ W0 := wT3 41 rfl rfl
theorem m_ML_X7_148 : Cond.methodLink RX7 148 yX7_openDisk ∈ W0 := wT2 115 rfl rfl
theorem m_ML_X7_151 : Cond.methodLink RX7 151 yX3_begin ∈ W0 := wT2 156 rfl rfl
theorem m_ML_X7_154 : Cond.methodLink RX7 154 yX3_addEntries ∈ W0 := wT3 49 rfl rfl
theorem m_ML_X7_158 : Cond.methodLink RX7 158 yX3_isLast ∈ W0 := wT2 173 rfl rfl
theorem m_ML_X7_161 : Cond.methodLink RX7 161 yX3_step ∈ W0 := wT2 177 rfl rfl
theorem m_ML_X7_164 : Cond.methodLink RX7 164 yX1_addRow ∈ W0 := wT3 59 rfl rfl
theorem m_ML_X7_168 : Cond.methodLink RX7 168 yX4_freeBlocks ∈ W0 := wT3 60 rfl rfl
theorem m_ML_X7_171 : Cond.methodLink RX7 171 yX1_add ∈ W0 := wT3 65 rfl rfl
theorem m_ML_X7_174 : Cond.methodLink RX7 174 yX1_byteAt ∈ W0 := wT3 70 rfl rfl
theorem m_ML_X7_182 : Cond.methodLink RX7 182 yX0_ringOf ∈ W0 := wT3 79 rfl rfl
theorem m_ML_X7_186 : Cond.methodLink RX7 186 yX5_hasByte ∈ W0 := wT3 80 rfl rfl
theorem m_ML_X7_190 : Cond.methodLink RX7 190 yX5_byteAt ∈ W0 := wT3 84 rfl rfl
theorem m_ML_X7_191 : Cond.methodLink RX7 191 yX5_putBits ∈ W0 := wT3 93 rfl rfl
theorem m_ML_X7_194 : Cond.methodLink RX7 194 yX5_rotate ∈ W0 := wT3 102 rfl rfl
theorem m_ML_X7_198 : Cond.methodLink RX7 198 yX5_findSyncs ∈ W0 := wT3 113 rfl rfl
theorem m_ML_X7_201 : Cond.methodLink RX7 201 yX0_readBlock ∈ W0 := wT3 118 rfl rfl
theorem m_ML_X7_204 : Cond.methodLink RX7 204 Lib.Math.max.name ∈ W0 := wT2 204 rfl rfl
theorem m_ML_X7_209 : Cond.methodLink RX7 209 yX0_writeBlock ∈ W0 := wT3 123 rfl rfl
theorem m_ML_X7_221 : Cond.methodLink RX7 221 yX0_fetch ∈ W0 := wT2 119 rfl rfl
theorem m_ML_X7_224 : Cond.methodLink RX7 224 yX3_findEntry ∈ W0 := wT2 161 rfl rfl
theorem m_ML_X7_228 : Cond.methodLink RX7 228 yX3_takeEntry ∈ W0 := wT2 187 rfl rfl
theorem m_ML_X7_232 : Cond.methodLink RX7 232 yX7_blocksNeeded ∈ W0 := wT2 201 rfl rfl
theorem m_ML_X7_235 : Cond.methodLink RX7 235 yX2_take ∈ W0 := wT2 205 rfl rfl
theorem m_ML_X7_245 : Cond.methodLink RX7 245 yX7_fillEntry ∈ W0 := wT3 3 rfl rfl
theorem m_ML_X7_259 : Cond.methodLink RX7 259 yX3_storeLink ∈ W0 := wT3 9 rfl rfl
theorem m_ML_X7_268 : Cond.methodLink RX7 268 yX7_fillName ∈ W0 := wT3 7 rfl rfl
theorem m_ML_X7_272 : Cond.methodLink RX7 272 yX7_nameByte ∈ W0 := wT2 92 rfl rfl
theorem m_ML_X8_1 : Cond.methodLink RX8 1 objectInit ∈ W0 := wT3 133 rfl rfl
theorem m_ML_X8_58 : Cond.methodLink RX8 58 yX8_setCodes ∈ W0 := wT3 135 rfl rfl
theorem m_ML_X8_62 : Cond.methodLink RX8 62 yX8_bytesOf ∈ W0 := wT4 34 rfl rfl
theorem m_ML_X8_66 : Cond.methodLink RX8 66 yX8_lengthOf ∈ W0 := wT4 31 rfl rfl
theorem m_ML_X8_69 : Cond.methodLink RX8 69 yX8_isIn ∈ W0 := wT4 2 rfl rfl
theorem m_ML_X8_73 : Cond.methodLink RX8 73 yX8_isTrack ∈ W0 := wT4 100 rfl rfl
theorem m_ML_X8_77 : Cond.methodLink RX8 77 yX8_sectorsOf ∈ W0 := wT4 10 rfl rfl
theorem m_ML_X8_80 : Cond.methodLink RX8 80 yX8_startOf ∈ W0 := wT4 28 rfl rfl
theorem m_ML_X8_92 : Cond.methodLink RX8 92 yX8_putBits ∈ W0 := wT4 24 rfl rfl
theorem m_ML_X8_96 : Cond.methodLink RX8 96 yX8_putSync ∈ W0 := wT4 20 rfl rfl
theorem m_ML_X8_99 : Cond.methodLink RX8 99 yX8_putCoded ∈ W0 := wT4 37 rfl rfl
theorem m_ML_X8_103 : Cond.methodLink RX8 103 yX8_decoded ∈ W0 := wT4 81 rfl rfl
theorem m_ML_X8_107 : Cond.methodLink RX8 107 yX8_findSyncs ∈ W0 := wT4 73 rfl rfl
theorem m_ML_X8_113 : Cond.methodLink RX8 113 yX8_isHeaderOf ∈ W0 := wT4 77 rfl rfl
theorem m_ML_X8_116 : Cond.methodLink RX8 116 yX8_seek ∈ W0 := wT4 69 rfl rfl
theorem m_ML_X8_119 : Cond.methodLink RX8 119 yX8_dataOf ∈ W0 := wT4 85 rfl rfl
theorem m_ML_X8_128 : Cond.methodLink RX8 128 yX8_putData ∈ W0 := wT4 41 rfl rfl
theorem m_ML_X8_143 : Cond.methodLink RX8 143 yX8_ends ∈ W0 := wT4 45 rfl rfl
theorem m_ML_X8_147 : Cond.methodLink RX8 147 yX8_readBlock ∈ W0 := wT4 65 rfl rfl
theorem m_ML_X8_150 : Cond.methodLink RX8 150 yX8_writeBlock ∈ W0 := wT4 123 rfl rfl
theorem m_ML_X8_153 : Cond.methodLink RX8 153 yX8_nameByte ∈ W0 := wT4 17 rfl rfl
theorem m_ML_X8_162 : Cond.methodLink RX8 162 yX8_hasName ∈ W0 := wT4 93 rfl rfl
theorem m_ML_X8_168 : Cond.methodLink RX8 168 yX8_isBlock ∈ W0 := wT4 97 rfl rfl
theorem m_ML_X8_176 : Cond.methodLink RX8 176 yX8_setFree ∈ W0 := wT4 13 rfl rfl
theorem m_ML_X8_183 : Cond.methodLink RX8 183 yX8_isFree ∈ W0 := wT4 111 rfl rfl
theorem m_ML_X8_186 : Cond.methodLink RX8 186 yX8_begins ∈ W0 := wT4 61 rfl rfl
theorem m_ML_X8_190 : Cond.methodLink RX8 190 yX8_readDirectory ∈ W0 := wT4 89 rfl rfl
theorem m_ML_X8_194 : Cond.methodLink RX8 194 yX8_emptyEntry ∈ W0 := wT4 103 rfl rfl
theorem m_ML_X8_198 : Cond.methodLink RX8 198 yX8_freeOfDirectory ∈ W0 := wT4 107 rfl rfl
theorem m_ML_X8_201 : Cond.methodLink RX8 201 yX8_takes ∈ W0 := wT4 115 rfl rfl
theorem m_ML_X8_204 : Cond.methodLink RX8 204 yX8_writeFile ∈ W0 := wT4 119 rfl rfl
theorem m_ML_X8_207 : Cond.methodLink RX8 207 yX8_writeDirectory ∈ W0 := wT4 127 rfl rfl
theorem m_ML_X8_210 : Cond.methodLink RX8 210 yX8_writeMap ∈ W0 := wT4 131 rfl rfl
theorem m_ML_X8_213 : Cond.methodLink RX8 213 yX8_saves ∈ W0 := wT4 57 rfl rfl
theorem m_ML_X8_217 : Cond.methodLink RX8 217 yX8_tell ∈ W0 := wT4 143 rfl rfl
theorem m_ML_X8_223 : Cond.methodLink RX8 223 yX8_readFile ∈ W0 := wT4 139 rfl rfl
theorem m_ML_X8_227 : Cond.methodLink RX8 227 yX8_scratches ∈ W0 := wT4 151 rfl rfl
theorem m_ML_X8_230 : Cond.methodLink RX8 230 yX8_isByte ∈ W0 := wT4 175 rfl rfl
theorem m_ML_X8_233 : Cond.methodLink RX8 233 yX8_byteAt ∈ W0 := wT4 178 rfl rfl
theorem m_ML_X8_236 : Cond.methodLink RX8 236 yX8_setByte ∈ W0 := wT4 186 rfl rfl
theorem m_CL_L_7 : Cond.classLink RL 7 RX7 ∈ W0 := wT1 12 rfl rfl
theorem m_CL_X7_9 : Cond.classLink RX7 9 RX6 ∈ W0 := wT1 20 rfl rfl
theorem m_CL_X7_16 : Cond.classLink RX7 16 RX0 ∈ W0 := wT1 39 rfl rfl
theorem m_CL_X0_19 : Cond.classLink RX0 19 RX5 ∈ W0 := wT1 45 rfl rfl
theorem m_AC_int : Cond.arrayClass Jvm.ClassFile.FieldType.int ∈ W0 := wT1 75 rfl rfl
theorem m_CL_X7_25 : Cond.classLink RX7 25 RX4 ∈ W0 := wT1 125 rfl rfl
theorem m_CL_X7_32 : Cond.classLink RX7 32 RX3 ∈ W0 := wT1 136 rfl rfl
theorem m_CL_X7_41 : Cond.classLink RX7 41 RX2 ∈ W0 := wT1 191 rfl rfl
theorem m_CL_X7_48 : Cond.classLink RX7 48 RX1 ∈ W0 := wT1 219 rfl rfl
theorem m_KO_X7_83 : Cond.constant RX7 83 (65535) ∈ W0 := wT2 47 rfl rfl
theorem m_CL_L_10 : Cond.classLink RL 10 RX8 ∈ W0 := wT3 128 rfl rfl
theorem m_KO_X8_7 : Cond.constant RX8 7 (124480) ∈ W0 := wT3 134 rfl rfl
theorem m_AC_boolean : Cond.arrayClass Jvm.ClassFile.FieldType.boolean ∈ W0 := wT3 233 rfl rfl
theorem m_KO_X8_175 : Cond.constant RX8 175 (65535) ∈ W0 := wT4 9 rfl rfl
theorem m_IM_obj : Cond.instanceMethod objectInit ∈ W0 := wT1 18 rfl rfl
theorem m_CO_J9_floorMod_7cf53 : Cond.code yJ9_floorMod_7cf53 cJ9_floorMod_7cf53 3 (some .int) ∈ W0 := wT3 108 rfl rfl
theorem m_ST_J9_floorMod_7cf53 : Cond.static yJ9_floorMod_7cf53 ∈ W0 := wT3 107 rfl rfl
abbrev wzJ9_floorMod_7cf53 : List Cond := .code yJ9_floorMod_7cf53 cJ9_floorMod_7cf53 3 (some .int) :: W0
theorem hd_J9_floorMod_7cf53 : yJ9_floorMod_7cf53.cls = RJ9 ∧ yJ9_floorMod_7cf53.cls ≠ "java/lang/invoke/MethodHandle" ∧ yJ9_floorMod_7cf53.cls ≠ "java/lang/invoke/VarHandle" ∧ (parseMethodDescriptor yJ9_floorMod_7cf53.desc).map (fun d => d.parameters.length) = some 2 := by decide +kernel
theorem m_CO_J9_max_7cf53 : Cond.code yJ9_max_7cf53 cJ9_max_7cf53 2 (some .int) ∈ W0 := wT1 57 rfl rfl
theorem m_ST_J9_max_7cf53 : Cond.static yJ9_max_7cf53 ∈ W0 := wT1 56 rfl rfl
abbrev wzJ9_max_7cf53 : List Cond := .code yJ9_max_7cf53 cJ9_max_7cf53 2 (some .int) :: W0
theorem hd_J9_max_7cf53 : yJ9_max_7cf53.cls = RJ9 ∧ yJ9_max_7cf53.cls ≠ "java/lang/invoke/MethodHandle" ∧ yJ9_max_7cf53.cls ≠ "java/lang/invoke/VarHandle" ∧ (parseMethodDescriptor yJ9_max_7cf53.desc).map (fun d => d.parameters.length) = some 2 := by decide +kernel
theorem m_CO_X0_fetch : Cond.code yX0_fetch cX0_fetch 5 (some .int) ∈ W0 := wT2 122 rfl rfl
theorem m_IM_X0_fetch : Cond.instanceMethod yX0_fetch ∈ W0 := wT2 120 rfl rfl
theorem m_SE_X0_fetch : Cond.selects RX0 yX0_fetch yX0_fetch ∈ W0 := wT2 121 rfl rfl
abbrev wzX0_fetch : List Cond := .code yX0_fetch cX0_fetch 5 (some .int) :: W0
theorem hd_X0_fetch : yX0_fetch.cls = RX0 ∧ yX0_fetch.cls ≠ "java/lang/invoke/MethodHandle" ∧ yX0_fetch.cls ≠ "java/lang/invoke/VarHandle" ∧ (parseMethodDescriptor yX0_fetch.desc).map (fun d => d.parameters.length) = some 3 := by decide +kernel
theorem m_CO_X0_formatTrack : Cond.code yX0_formatTrack cX0_formatTrack 5 none ∈ W0 := wT2 59 rfl rfl
theorem m_IM_X0_formatTrack : Cond.instanceMethod yX0_formatTrack ∈ W0 := wT2 58 rfl rfl
theorem m_SE_X0_formatTrack : Cond.selects RX0 yX0_formatTrack yX0_formatTrack ∈ W0 := wS1 0 7 rfl rfl
abbrev wzX0_formatTrack : List Cond := .code yX0_formatTrack cX0_formatTrack 5 none :: W0
theorem hd_X0_formatTrack : yX0_formatTrack.cls = RX0 ∧ yX0_formatTrack.cls ≠ "java/lang/invoke/MethodHandle" ∧ yX0_formatTrack.cls ≠ "java/lang/invoke/VarHandle" ∧ (parseMethodDescriptor yX0_formatTrack.desc).map (fun d => d.parameters.length) = some 2 := by decide +kernel
theorem m_CO_X0_formatTracks : Cond.code yX0_formatTracks cX0_formatTracks 3 none ∈ W0 := wT2 51 rfl rfl
theorem m_IM_X0_formatTracks : Cond.instanceMethod yX0_formatTracks ∈ W0 := wT2 49 rfl rfl
theorem m_SE_X0_formatTracks : Cond.selects RX0 yX0_formatTracks yX0_formatTracks ∈ W0 := wT2 50 rfl rfl
abbrev wzX0_formatTracks : List Cond := .code yX0_formatTracks cX0_formatTracks 3 none :: W0
theorem hd_X0_formatTracks : yX0_formatTracks.cls = RX0 ∧ yX0_formatTracks.cls ≠ "java/lang/invoke/MethodHandle" ∧ yX0_formatTracks.cls ≠ "java/lang/invoke/VarHandle" ∧ (parseMethodDescriptor yX0_formatTracks.desc).map (fun d => d.parameters.length) = some 0 := by decide +kernel
theorem m_CO_X0_headerError : Cond.code yX0_headerError cX0_headerError 8 (some .int) ∈ W0 := wT2 143 rfl rfl
theorem m_IM_X0_headerError : Cond.instanceMethod yX0_headerError ∈ W0 := wT2 142 rfl rfl
theorem m_SE_X0_headerError : Cond.selects RX0 yX0_headerError yX0_headerError ∈ W0 := wS1 4 7 rfl rfl
abbrev wzX0_headerError : List Cond := .code yX0_headerError cX0_headerError 8 (some .int) :: W0
theorem hd_X0_headerError : yX0_headerError.cls = RX0 ∧ yX0_headerError.cls ≠ "java/lang/invoke/MethodHandle" ∧ yX0_headerError.cls ≠ "java/lang/invoke/VarHandle" ∧ (parseMethodDescriptor yX0_headerError.desc).map (fun d => d.parameters.length) = some 4 := by decide +kernel
theorem m_CO_X0_init : Cond.code yX0_init cX0_init 3 none ∈ W0 := wT1 43 rfl rfl
theorem m_IM_X0_init : Cond.instanceMethod yX0_init ∈ W0 := wT1 42 rfl rfl
abbrev wzX0_init : List Cond := .code yX0_init cX0_init 3 none :: W0
theorem hd_X0_init : yX0_init.cls = RX0 ∧ yX0_init.cls ≠ "java/lang/invoke/MethodHandle" ∧ yX0_init.cls ≠ "java/lang/invoke/VarHandle" ∧ (parseMethodDescriptor yX0_init.desc).map (fun d => d.parameters.length) = some 1 := by decide +kernel
theorem m_CO_X0_isBlock : Cond.code yX0_isBlock cX0_isBlock 2 (some .boolean) ∈ W0 := wT2 88 rfl rfl
theorem m_ST_X0_isBlock : Cond.static yX0_isBlock ∈ W0 := wT2 87 rfl rfl
abbrev wzX0_isBlock : List Cond := .code yX0_isBlock cX0_isBlock 2 (some .boolean) :: W0
theorem hd_X0_isBlock : yX0_isBlock.cls = RX0 ∧ yX0_isBlock.cls ≠ "java/lang/invoke/MethodHandle" ∧ yX0_isBlock.cls ≠ "java/lang/invoke/VarHandle" ∧ (parseMethodDescriptor yX0_isBlock.desc).map (fun d => d.parameters.length) = some 2 := by decide +kernel
theorem m_CO_X0_layFormatted : Cond.code yX0_layFormatted cX0_layFormatted 5 none ∈ W0 := wT2 98 rfl rfl
theorem m_IM_X0_layFormatted : Cond.instanceMethod yX0_layFormatted ∈ W0 := wT2 96 rfl rfl
theorem m_SE_X0_layFormatted : Cond.selects RX0 yX0_layFormatted yX0_layFormatted ∈ W0 := wT2 97 rfl rfl
abbrev wzX0_layFormatted : List Cond := .code yX0_layFormatted cX0_layFormatted 5 none :: W0
theorem hd_X0_layFormatted : yX0_layFormatted.cls = RX0 ∧ yX0_layFormatted.cls ≠ "java/lang/invoke/MethodHandle" ∧ yX0_layFormatted.cls ≠ "java/lang/invoke/VarHandle" ∧ (parseMethodDescriptor yX0_layFormatted.desc).map (fun d => d.parameters.length) = some 3 := by decide +kernel
theorem m_CO_X0_readBlock : Cond.code yX0_readBlock cX0_readBlock 8 (some .int) ∈ W0 := wT2 126 rfl rfl
theorem m_IM_X0_readBlock : Cond.instanceMethod yX0_readBlock ∈ W0 := wT2 124 rfl rfl
theorem m_SE_X0_readBlock : Cond.selects RX0 yX0_readBlock yX0_readBlock ∈ W0 := wT2 125 rfl rfl
abbrev wzX0_readBlock : List Cond := .code yX0_readBlock cX0_readBlock 8 (some .int) :: W0
theorem hd_X0_readBlock : yX0_readBlock.cls = RX0 ∧ yX0_readBlock.cls ≠ "java/lang/invoke/MethodHandle" ∧ yX0_readBlock.cls ≠ "java/lang/invoke/VarHandle" ∧ (parseMethodDescriptor yX0_readBlock.desc).map (fun d => d.parameters.length) = some 3 := by decide +kernel
theorem m_CO_X0_ringOf : Cond.code yX0_ringOf cX0_ringOf 2 (some (.object "BitDrive$Ring")) ∈ W0 := wT2 55 rfl rfl
theorem m_IM_X0_ringOf : Cond.instanceMethod yX0_ringOf ∈ W0 := wT2 53 rfl rfl
theorem m_SE_X0_ringOf : Cond.selects RX0 yX0_ringOf yX0_ringOf ∈ W0 := wT2 54 rfl rfl
abbrev wzX0_ringOf : List Cond := .code yX0_ringOf cX0_ringOf 2 (some (.object "BitDrive$Ring")) :: W0
theorem hd_X0_ringOf : yX0_ringOf.cls = RX0 ∧ yX0_ringOf.cls ≠ "java/lang/invoke/MethodHandle" ∧ yX0_ringOf.cls ≠ "java/lang/invoke/VarHandle" ∧ (parseMethodDescriptor yX0_ringOf.desc).map (fun d => d.parameters.length) = some 1 := by decide +kernel
theorem m_CO_X0_sectorsOf : Cond.code yX0_sectorsOf cX0_sectorsOf 1 (some .int) ∈ W0 := wT2 62 rfl rfl
theorem m_ST_X0_sectorsOf : Cond.static yX0_sectorsOf ∈ W0 := wT2 61 rfl rfl
abbrev wzX0_sectorsOf : List Cond := .code yX0_sectorsOf cX0_sectorsOf 1 (some .int) :: W0
theorem hd_X0_sectorsOf : yX0_sectorsOf.cls = RX0 ∧ yX0_sectorsOf.cls ≠ "java/lang/invoke/MethodHandle" ∧ yX0_sectorsOf.cls ≠ "java/lang/invoke/VarHandle" ∧ (parseMethodDescriptor yX0_sectorsOf.desc).map (fun d => d.parameters.length) = some 1 := by decide +kernel
theorem m_CO_X0_seek : Cond.code yX0_seek cX0_seek 7 (some .int) ∈ W0 := wT2 131 rfl rfl
theorem m_IM_X0_seek : Cond.instanceMethod yX0_seek ∈ W0 := wT2 130 rfl rfl
theorem m_SE_X0_seek : Cond.selects RX0 yX0_seek yX0_seek ∈ W0 := wS1 3 7 rfl rfl
abbrev wzX0_seek : List Cond := .code yX0_seek cX0_seek 7 (some .int) :: W0
theorem hd_X0_seek : yX0_seek.cls = RX0 ∧ yX0_seek.cls ≠ "java/lang/invoke/MethodHandle" ∧ yX0_seek.cls ≠ "java/lang/invoke/VarHandle" ∧ (parseMethodDescriptor yX0_seek.desc).map (fun d => d.parameters.length) = some 3 := by decide +kernel
theorem m_CO_X0_store : Cond.code yX0_store cX0_store 5 (some .int) ∈ W0 := wT2 234 rfl rfl
theorem m_IM_X0_store : Cond.instanceMethod yX0_store ∈ W0 := wT2 232 rfl rfl
theorem m_SE_X0_store : Cond.selects RX0 yX0_store yX0_store ∈ W0 := wT2 233 rfl rfl
abbrev wzX0_store : List Cond := .code yX0_store cX0_store 5 (some .int) :: W0
theorem hd_X0_store : yX0_store.cls = RX0 ∧ yX0_store.cls ≠ "java/lang/invoke/MethodHandle" ∧ yX0_store.cls ≠ "java/lang/invoke/VarHandle" ∧ (parseMethodDescriptor yX0_store.desc).map (fun d => d.parameters.length) = some 3 := by decide +kernel
theorem m_CO_X0_writeBlock : Cond.code yX0_writeBlock cX0_writeBlock 6 (some .int) ∈ W0 := wT2 238 rfl rfl
theorem m_IM_X0_writeBlock : Cond.instanceMethod yX0_writeBlock ∈ W0 := wT2 236 rfl rfl
theorem m_SE_X0_writeBlock : Cond.selects RX0 yX0_writeBlock yX0_writeBlock ∈ W0 := wT2 237 rfl rfl
abbrev wzX0_writeBlock : List Cond := .code yX0_writeBlock cX0_writeBlock 6 (some .int) :: W0
theorem hd_X0_writeBlock : yX0_writeBlock.cls = RX0 ∧ yX0_writeBlock.cls ≠ "java/lang/invoke/MethodHandle" ∧ yX0_writeBlock.cls ≠ "java/lang/invoke/VarHandle" ∧ (parseMethodDescriptor yX0_writeBlock.desc).map (fun d => d.parameters.length) = some 3 := by decide +kernel
theorem m_CO_X1_add : Cond.code yX1_add cX1_add 2 none ∈ W0 := wT2 38 rfl rfl
theorem m_IM_X1_add : Cond.instanceMethod yX1_add ∈ W0 := wT2 36 rfl rfl
theorem m_SE_X1_add : Cond.selects RX1 yX1_add yX1_add ∈ W0 := wT2 37 rfl rfl
abbrev wzX1_add : List Cond := .code yX1_add cX1_add 2 none :: W0
theorem hd_X1_add : yX1_add.cls = RX1 ∧ yX1_add.cls ≠ "java/lang/invoke/MethodHandle" ∧ yX1_add.cls ≠ "java/lang/invoke/VarHandle" ∧ (parseMethodDescriptor yX1_add.desc).map (fun d => d.parameters.length) = some 1 := by decide +kernel
theorem m_CO_X1_addNumber : Cond.code yX1_addNumber cX1_addNumber 2 none ∈ W0 := wT2 34 rfl rfl
theorem m_IM_X1_addNumber : Cond.instanceMethod yX1_addNumber ∈ W0 := wT2 32 rfl rfl
theorem m_SE_X1_addNumber : Cond.selects RX1 yX1_addNumber yX1_addNumber ∈ W0 := wT2 33 rfl rfl
abbrev wzX1_addNumber : List Cond := .code yX1_addNumber cX1_addNumber 2 none :: W0
theorem hd_X1_addNumber : yX1_addNumber.cls = RX1 ∧ yX1_addNumber.cls ≠ "java/lang/invoke/MethodHandle" ∧ yX1_addNumber.cls ≠ "java/lang/invoke/VarHandle" ∧ (parseMethodDescriptor yX1_addNumber.desc).map (fun d => d.parameters.length) = some 1 := by decide +kernel
theorem m_CO_X1_addRow : Cond.code yX1_addRow cX1_addRow 5 none ∈ W0 := wT3 28 rfl rfl
theorem m_IM_X1_addRow : Cond.instanceMethod yX1_addRow ∈ W0 := wT3 26 rfl rfl
theorem m_SE_X1_addRow : Cond.selects RX1 yX1_addRow yX1_addRow ∈ W0 := wT3 27 rfl rfl
abbrev wzX1_addRow : List Cond := .code yX1_addRow cX1_addRow 5 none :: W0
theorem hd_X1_addRow : yX1_addRow.cls = RX1 ∧ yX1_addRow.cls ≠ "java/lang/invoke/MethodHandle" ∧ yX1_addRow.cls ≠ "java/lang/invoke/VarHandle" ∧ (parseMethodDescriptor yX1_addRow.desc).map (fun d => d.parameters.length) = some 3 := by decide +kernel
theorem m_CO_X1_byteAt : Cond.code yX1_byteAt cX1_byteAt 2 (some .int) ∈ W0 := wT2 229 rfl rfl
theorem m_IM_X1_byteAt : Cond.instanceMethod yX1_byteAt ∈ W0 := wT2 227 rfl rfl
theorem m_SE_X1_byteAt : Cond.selects RX1 yX1_byteAt yX1_byteAt ∈ W0 := wT2 228 rfl rfl
abbrev wzX1_byteAt : List Cond := .code yX1_byteAt cX1_byteAt 2 (some .int) :: W0
theorem hd_X1_byteAt : yX1_byteAt.cls = RX1 ∧ yX1_byteAt.cls ≠ "java/lang/invoke/MethodHandle" ∧ yX1_byteAt.cls ≠ "java/lang/invoke/VarHandle" ∧ (parseMethodDescriptor yX1_byteAt.desc).map (fun d => d.parameters.length) = some 1 := by decide +kernel
theorem m_CO_X1_init : Cond.code yX1_init cX1_init 2 none ∈ W0 := wT1 223 rfl rfl
theorem m_IM_X1_init : Cond.instanceMethod yX1_init ∈ W0 := wT1 222 rfl rfl
abbrev wzX1_init : List Cond := .code yX1_init cX1_init 2 none :: W0
theorem hd_X1_init : yX1_init.cls = RX1 ∧ yX1_init.cls ≠ "java/lang/invoke/MethodHandle" ∧ yX1_init.cls ≠ "java/lang/invoke/VarHandle" ∧ (parseMethodDescriptor yX1_init.desc).map (fun d => d.parameters.length) = some 1 := by decide +kernel
theorem m_CO_X2_addBlock : Cond.code yX2_addBlock cX2_addBlock 3 none ∈ W0 := wT2 217 rfl rfl
theorem m_IM_X2_addBlock : Cond.instanceMethod yX2_addBlock ∈ W0 := wT2 216 rfl rfl
theorem m_SE_X2_addBlock : Cond.selects RX2 yX2_addBlock yX2_addBlock ∈ W0 := wS1 7 6 rfl rfl
abbrev wzX2_addBlock : List Cond := .code yX2_addBlock cX2_addBlock 3 none :: W0
theorem hd_X2_addBlock : yX2_addBlock.cls = RX2 ∧ yX2_addBlock.cls ≠ "java/lang/invoke/MethodHandle" ∧ yX2_addBlock.cls ≠ "java/lang/invoke/VarHandle" ∧ (parseMethodDescriptor yX2_addBlock.desc).map (fun d => d.parameters.length) = some 2 := by decide +kernel
theorem m_CO_X2_fillBlock : Cond.code yX2_fillBlock cX2_fillBlock 6 none ∈ W0 := wT2 225 rfl rfl
theorem m_IM_X2_fillBlock : Cond.instanceMethod yX2_fillBlock ∈ W0 := wT2 224 rfl rfl
theorem m_SE_X2_fillBlock : Cond.selects RX2 yX2_fillBlock yX2_fillBlock ∈ W0 := wS1 8 6 rfl rfl
abbrev wzX2_fillBlock : List Cond := .code yX2_fillBlock cX2_fillBlock 6 none :: W0
theorem hd_X2_fillBlock : yX2_fillBlock.cls = RX2 ∧ yX2_fillBlock.cls ≠ "java/lang/invoke/MethodHandle" ∧ yX2_fillBlock.cls ≠ "java/lang/invoke/VarHandle" ∧ (parseMethodDescriptor yX2_fillBlock.desc).map (fun d => d.parameters.length) = some 2 := by decide +kernel
theorem m_CO_X2_follow : Cond.code yX2_follow cX2_follow 8 (some .int) ∈ W0 := wT3 21 rfl rfl
theorem m_IM_X2_follow : Cond.instanceMethod yX2_follow ∈ W0 := wT3 19 rfl rfl
theorem m_SE_X2_follow : Cond.selects RX2 yX2_follow yX2_follow ∈ W0 := wT3 20 rfl rfl
abbrev wzX2_follow : List Cond := .code yX2_follow cX2_follow 8 (some .int) :: W0
theorem hd_X2_follow : yX2_follow.cls = RX2 ∧ yX2_follow.cls ≠ "java/lang/invoke/MethodHandle" ∧ yX2_follow.cls ≠ "java/lang/invoke/VarHandle" ∧ (parseMethodDescriptor yX2_follow.desc).map (fun d => d.parameters.length) = some 2 := by decide +kernel
theorem m_CO_X2_init : Cond.code yX2_init cX2_init 3 none ∈ W0 := wT1 195 rfl rfl
theorem m_IM_X2_init : Cond.instanceMethod yX2_init ∈ W0 := wT1 194 rfl rfl
abbrev wzX2_init : List Cond := .code yX2_init cX2_init 3 none :: W0
theorem hd_X2_init : yX2_init.cls = RX2 ∧ yX2_init.cls ≠ "java/lang/invoke/MethodHandle" ∧ yX2_init.cls ≠ "java/lang/invoke/VarHandle" ∧ (parseMethodDescriptor yX2_init.desc).map (fun d => d.parameters.length) = some 2 := by decide +kernel
theorem m_CO_X2_release : Cond.code yX2_release cX2_release 3 none ∈ W0 := wT3 44 rfl rfl
theorem m_IM_X2_release : Cond.instanceMethod yX2_release ∈ W0 := wT3 42 rfl rfl
theorem m_SE_X2_release : Cond.selects RX2 yX2_release yX2_release ∈ W0 := wT3 43 rfl rfl
abbrev wzX2_release : List Cond := .code yX2_release cX2_release 3 none :: W0
theorem hd_X2_release : yX2_release.cls = RX2 ∧ yX2_release.cls ≠ "java/lang/invoke/MethodHandle" ∧ yX2_release.cls ≠ "java/lang/invoke/VarHandle" ∧ (parseMethodDescriptor yX2_release.desc).map (fun d => d.parameters.length) = some 1 := by decide +kernel
theorem m_CO_X2_store : Cond.code yX2_store cX2_store 4 (some .int) ∈ W0 := wT2 221 rfl rfl
theorem m_IM_X2_store : Cond.instanceMethod yX2_store ∈ W0 := wT2 219 rfl rfl
theorem m_SE_X2_store : Cond.selects RX2 yX2_store yX2_store ∈ W0 := wT2 220 rfl rfl
abbrev wzX2_store : List Cond := .code yX2_store cX2_store 4 (some .int) :: W0
theorem hd_X2_store : yX2_store.cls = RX2 ∧ yX2_store.cls ≠ "java/lang/invoke/MethodHandle" ∧ yX2_store.cls ≠ "java/lang/invoke/VarHandle" ∧ (parseMethodDescriptor yX2_store.desc).map (fun d => d.parameters.length) = some 1 := by decide +kernel
theorem m_CO_X2_take : Cond.code yX2_take cX2_take 9 (some .boolean) ∈ W0 := wT2 208 rfl rfl
theorem m_IM_X2_take : Cond.instanceMethod yX2_take ∈ W0 := wT2 206 rfl rfl
theorem m_SE_X2_take : Cond.selects RX2 yX2_take yX2_take ∈ W0 := wT2 207 rfl rfl
abbrev wzX2_take : List Cond := .code yX2_take cX2_take 9 (some .boolean) :: W0
theorem hd_X2_take : yX2_take.cls = RX2 ∧ yX2_take.cls ≠ "java/lang/invoke/MethodHandle" ∧ yX2_take.cls ≠ "java/lang/invoke/VarHandle" ∧ (parseMethodDescriptor yX2_take.desc).map (fun d => d.parameters.length) = some 2 := by decide +kernel
theorem m_CO_X3_addEntries : Cond.code yX3_addEntries cX3_addEntries 3 none ∈ W0 := wT3 52 rfl rfl
theorem m_IM_X3_addEntries : Cond.instanceMethod yX3_addEntries ∈ W0 := wT3 50 rfl rfl
theorem m_SE_X3_addEntries : Cond.selects RX3 yX3_addEntries yX3_addEntries ∈ W0 := wT3 51 rfl rfl
abbrev wzX3_addEntries : List Cond := .code yX3_addEntries cX3_addEntries 3 none :: W0
theorem hd_X3_addEntries : yX3_addEntries.cls = RX3 ∧ yX3_addEntries.cls ≠ "java/lang/invoke/MethodHandle" ∧ yX3_addEntries.cls ≠ "java/lang/invoke/VarHandle" ∧ (parseMethodDescriptor yX3_addEntries.desc).map (fun d => d.parameters.length) = some 1 := by decide +kernel
theorem m_CO_X3_begin : Cond.code yX3_begin cX3_begin 1 (some .int) ∈ W0 := wT2 159 rfl rfl
theorem m_IM_X3_begin : Cond.instanceMethod yX3_begin ∈ W0 := wT2 157 rfl rfl
theorem m_SE_X3_begin : Cond.selects RX3 yX3_begin yX3_begin ∈ W0 := wT2 158 rfl rfl
abbrev wzX3_begin : List Cond := .code yX3_begin cX3_begin 1 (some .int) :: W0
theorem hd_X3_begin : yX3_begin.cls = RX3 ∧ yX3_begin.cls ≠ "java/lang/invoke/MethodHandle" ∧ yX3_begin.cls ≠ "java/lang/invoke/VarHandle" ∧ (parseMethodDescriptor yX3_begin.desc).map (fun d => d.parameters.length) = some 0 := by decide +kernel
theorem m_CO_X3_findEntry : Cond.code yX3_findEntry cX3_findEntry 4 (some .boolean) ∈ W0 := wT2 164 rfl rfl
theorem m_IM_X3_findEntry : Cond.instanceMethod yX3_findEntry ∈ W0 := wT2 162 rfl rfl
theorem m_SE_X3_findEntry : Cond.selects RX3 yX3_findEntry yX3_findEntry ∈ W0 := wT2 163 rfl rfl
abbrev wzX3_findEntry : List Cond := .code yX3_findEntry cX3_findEntry 4 (some .boolean) :: W0
theorem hd_X3_findEntry : yX3_findEntry.cls = RX3 ∧ yX3_findEntry.cls ≠ "java/lang/invoke/MethodHandle" ∧ yX3_findEntry.cls ≠ "java/lang/invoke/VarHandle" ∧ (parseMethodDescriptor yX3_findEntry.desc).map (fun d => d.parameters.length) = some 2 := by decide +kernel
theorem m_CO_X3_init : Cond.code yX3_init cX3_init 3 none ∈ W0 := wT1 140 rfl rfl
theorem m_IM_X3_init : Cond.instanceMethod yX3_init ∈ W0 := wT1 139 rfl rfl
abbrev wzX3_init : List Cond := .code yX3_init cX3_init 3 none :: W0
theorem hd_X3_init : yX3_init.cls = RX3 ∧ yX3_init.cls ≠ "java/lang/invoke/MethodHandle" ∧ yX3_init.cls ≠ "java/lang/invoke/VarHandle" ∧ (parseMethodDescriptor yX3_init.desc).map (fun d => d.parameters.length) = some 2 := by decide +kernel
theorem m_CO_X3_isLast : Cond.code yX3_isLast cX3_isLast 1 (some .boolean) ∈ W0 := wT2 176 rfl rfl
theorem m_IM_X3_isLast : Cond.instanceMethod yX3_isLast ∈ W0 := wT2 174 rfl rfl
theorem m_SE_X3_isLast : Cond.selects RX3 yX3_isLast yX3_isLast ∈ W0 := wT2 175 rfl rfl
abbrev wzX3_isLast : List Cond := .code yX3_isLast cX3_isLast 1 (some .boolean) :: W0
theorem hd_X3_isLast : yX3_isLast.cls = RX3 ∧ yX3_isLast.cls ≠ "java/lang/invoke/MethodHandle" ∧ yX3_isLast.cls ≠ "java/lang/invoke/VarHandle" ∧ (parseMethodDescriptor yX3_isLast.desc).map (fun d => d.parameters.length) = some 0 := by decide +kernel
theorem m_CO_X3_keepRoom : Cond.code yX3_keepRoom cX3_keepRoom 2 none ∈ W0 := wT2 168 rfl rfl
theorem m_IM_X3_keepRoom : Cond.instanceMethod yX3_keepRoom ∈ W0 := wT2 167 rfl rfl
theorem m_SE_X3_keepRoom : Cond.selects RX3 yX3_keepRoom yX3_keepRoom ∈ W0 := wS1 5 12 rfl rfl
abbrev wzX3_keepRoom : List Cond := .code yX3_keepRoom cX3_keepRoom 2 none :: W0
theorem hd_X3_keepRoom : yX3_keepRoom.cls = RX3 ∧ yX3_keepRoom.cls ≠ "java/lang/invoke/MethodHandle" ∧ yX3_keepRoom.cls ≠ "java/lang/invoke/VarHandle" ∧ (parseMethodDescriptor yX3_keepRoom.desc).map (fun d => d.parameters.length) = some 1 := by decide +kernel
theorem m_CO_X3_step : Cond.code yX3_step cX3_step 1 (some .int) ∈ W0 := wT2 180 rfl rfl
theorem m_IM_X3_step : Cond.instanceMethod yX3_step ∈ W0 := wT2 178 rfl rfl
theorem m_SE_X3_step : Cond.selects RX3 yX3_step yX3_step ∈ W0 := wT2 179 rfl rfl
abbrev wzX3_step : List Cond := .code yX3_step cX3_step 1 (some .int) :: W0
theorem hd_X3_step : yX3_step.cls = RX3 ∧ yX3_step.cls ≠ "java/lang/invoke/MethodHandle" ∧ yX3_step.cls ≠ "java/lang/invoke/VarHandle" ∧ (parseMethodDescriptor yX3_step.desc).map (fun d => d.parameters.length) = some 0 := by decide +kernel
theorem m_CO_X3_storeLink : Cond.code yX3_storeLink cX3_storeLink 1 (some .int) ∈ W0 := wT3 12 rfl rfl
theorem m_IM_X3_storeLink : Cond.instanceMethod yX3_storeLink ∈ W0 := wT3 10 rfl rfl
theorem m_SE_X3_storeLink : Cond.selects RX3 yX3_storeLink yX3_storeLink ∈ W0 := wT3 11 rfl rfl
abbrev wzX3_storeLink : List Cond := .code yX3_storeLink cX3_storeLink 1 (some .int) :: W0
theorem hd_X3_storeLink : yX3_storeLink.cls = RX3 ∧ yX3_storeLink.cls ≠ "java/lang/invoke/MethodHandle" ∧ yX3_storeLink.cls ≠ "java/lang/invoke/VarHandle" ∧ (parseMethodDescriptor yX3_storeLink.desc).map (fun d => d.parameters.length) = some 0 := by decide +kernel
theorem m_CO_X3_storeWithoutEntry : Cond.code yX3_storeWithoutEntry cX3_storeWithoutEntry 1 (some .int) ∈ W0 := wT3 40 rfl rfl
theorem m_IM_X3_storeWithoutEntry : Cond.instanceMethod yX3_storeWithoutEntry ∈ W0 := wT3 38 rfl rfl
theorem m_SE_X3_storeWithoutEntry : Cond.selects RX3 yX3_storeWithoutEntry yX3_storeWithoutEntry ∈ W0 := wT3 39 rfl rfl
abbrev wzX3_storeWithoutEntry : List Cond := .code yX3_storeWithoutEntry cX3_storeWithoutEntry 1 (some .int) :: W0
theorem hd_X3_storeWithoutEntry : yX3_storeWithoutEntry.cls = RX3 ∧ yX3_storeWithoutEntry.cls ≠ "java/lang/invoke/MethodHandle" ∧ yX3_storeWithoutEntry.cls ≠ "java/lang/invoke/VarHandle" ∧ (parseMethodDescriptor yX3_storeWithoutEntry.desc).map (fun d => d.parameters.length) = some 0 := by decide +kernel
theorem m_CO_X3_takeEntry : Cond.code yX3_takeEntry cX3_takeEntry 3 (some .boolean) ∈ W0 := wT2 190 rfl rfl
theorem m_IM_X3_takeEntry : Cond.instanceMethod yX3_takeEntry ∈ W0 := wT2 188 rfl rfl
theorem m_SE_X3_takeEntry : Cond.selects RX3 yX3_takeEntry yX3_takeEntry ∈ W0 := wT2 189 rfl rfl
abbrev wzX3_takeEntry : List Cond := .code yX3_takeEntry cX3_takeEntry 3 (some .boolean) :: W0
theorem hd_X3_takeEntry : yX3_takeEntry.cls = RX3 ∧ yX3_takeEntry.cls ≠ "java/lang/invoke/MethodHandle" ∧ yX3_takeEntry.cls ≠ "java/lang/invoke/VarHandle" ∧ (parseMethodDescriptor yX3_takeEntry.desc).map (fun d => d.parameters.length) = some 1 := by decide +kernel
theorem m_CO_X4_fillNew : Cond.code yX4_fillNew cX4_fillNew 7 none ∈ W0 := wT2 77 rfl rfl
theorem m_IM_X4_fillNew : Cond.instanceMethod yX4_fillNew ∈ W0 := wT2 75 rfl rfl
theorem m_SE_X4_fillNew : Cond.selects RX4 yX4_fillNew yX4_fillNew ∈ W0 := wT2 76 rfl rfl
abbrev wzX4_fillNew : List Cond := .code yX4_fillNew cX4_fillNew 7 none :: W0
theorem hd_X4_fillNew : yX4_fillNew.cls = RX4 ∧ yX4_fillNew.cls ≠ "java/lang/invoke/MethodHandle" ∧ yX4_fillNew.cls ≠ "java/lang/invoke/VarHandle" ∧ (parseMethodDescriptor yX4_fillNew.desc).map (fun d => d.parameters.length) = some 3 := by decide +kernel
theorem m_CO_X4_freeBlocks : Cond.code yX4_freeBlocks cX4_freeBlocks 8 (some .int) ∈ W0 := wT3 63 rfl rfl
theorem m_IM_X4_freeBlocks : Cond.instanceMethod yX4_freeBlocks ∈ W0 := wT3 61 rfl rfl
theorem m_SE_X4_freeBlocks : Cond.selects RX4 yX4_freeBlocks yX4_freeBlocks ∈ W0 := wT3 62 rfl rfl
abbrev wzX4_freeBlocks : List Cond := .code yX4_freeBlocks cX4_freeBlocks 8 (some .int) :: W0
theorem hd_X4_freeBlocks : yX4_freeBlocks.cls = RX4 ∧ yX4_freeBlocks.cls ≠ "java/lang/invoke/MethodHandle" ∧ yX4_freeBlocks.cls ≠ "java/lang/invoke/VarHandle" ∧ (parseMethodDescriptor yX4_freeBlocks.desc).map (fun d => d.parameters.length) = some 0 := by decide +kernel
theorem m_CO_X4_init : Cond.code yX4_init cX4_init 1 none ∈ W0 := wT1 129 rfl rfl
theorem m_IM_X4_init : Cond.instanceMethod yX4_init ∈ W0 := wT1 128 rfl rfl
abbrev wzX4_init : List Cond := .code yX4_init cX4_init 1 none :: W0
theorem hd_X4_init : yX4_init.cls = RX4 ∧ yX4_init.cls ≠ "java/lang/invoke/MethodHandle" ∧ yX4_init.cls ≠ "java/lang/invoke/VarHandle" ∧ (parseMethodDescriptor yX4_init.desc).map (fun d => d.parameters.length) = some 0 := by decide +kernel
theorem m_CO_X4_isFree : Cond.code yX4_isFree cX4_isFree 3 (some .boolean) ∈ W0 := wT2 198 rfl rfl
theorem m_IM_X4_isFree : Cond.instanceMethod yX4_isFree ∈ W0 := wT2 196 rfl rfl
theorem m_SE_X4_isFree : Cond.selects RX4 yX4_isFree yX4_isFree ∈ W0 := wT2 197 rfl rfl
abbrev wzX4_isFree : List Cond := .code yX4_isFree cX4_isFree 3 (some .boolean) :: W0
theorem hd_X4_isFree : yX4_isFree.cls = RX4 ∧ yX4_isFree.cls ≠ "java/lang/invoke/MethodHandle" ∧ yX4_isFree.cls ≠ "java/lang/invoke/VarHandle" ∧ (parseMethodDescriptor yX4_isFree.desc).map (fun d => d.parameters.length) = some 2 := by decide +kernel
theorem m_CO_X4_leastFree : Cond.code yX4_leastFree cX4_leastFree 4 (some .int) ∈ W0 := wT2 194 rfl rfl
theorem m_IM_X4_leastFree : Cond.instanceMethod yX4_leastFree ∈ W0 := wT2 192 rfl rfl
theorem m_SE_X4_leastFree : Cond.selects RX4 yX4_leastFree yX4_leastFree ∈ W0 := wT2 193 rfl rfl
abbrev wzX4_leastFree : List Cond := .code yX4_leastFree cX4_leastFree 4 (some .int) :: W0
theorem hd_X4_leastFree : yX4_leastFree.cls = RX4 ∧ yX4_leastFree.cls ≠ "java/lang/invoke/MethodHandle" ∧ yX4_leastFree.cls ≠ "java/lang/invoke/VarHandle" ∧ (parseMethodDescriptor yX4_leastFree.desc).map (fun d => d.parameters.length) = some 1 := by decide +kernel
theorem m_CO_X4_setFree : Cond.code yX4_setFree cX4_setFree 6 none ∈ W0 := wT2 85 rfl rfl
theorem m_IM_X4_setFree : Cond.instanceMethod yX4_setFree ∈ W0 := wT2 83 rfl rfl
theorem m_SE_X4_setFree : Cond.selects RX4 yX4_setFree yX4_setFree ∈ W0 := wT2 84 rfl rfl
abbrev wzX4_setFree : List Cond := .code yX4_setFree cX4_setFree 6 none :: W0
theorem hd_X4_setFree : yX4_setFree.cls = RX4 ∧ yX4_setFree.cls ≠ "java/lang/invoke/MethodHandle" ∧ yX4_setFree.cls ≠ "java/lang/invoke/VarHandle" ∧ (parseMethodDescriptor yX4_setFree.desc).map (fun d => d.parameters.length) = some 3 := by decide +kernel
theorem m_CO_X5_byteAt : Cond.code yX5_byteAt cX5_byteAt 2 (some .int) ∈ W0 := wT3 87 rfl rfl
theorem m_IM_X5_byteAt : Cond.instanceMethod yX5_byteAt ∈ W0 := wT3 85 rfl rfl
theorem m_SE_X5_byteAt : Cond.selects RX5 yX5_byteAt yX5_byteAt ∈ W0 := wT3 86 rfl rfl
abbrev wzX5_byteAt : List Cond := .code yX5_byteAt cX5_byteAt 2 (some .int) :: W0
theorem hd_X5_byteAt : yX5_byteAt.cls = RX5 ∧ yX5_byteAt.cls ≠ "java/lang/invoke/MethodHandle" ∧ yX5_byteAt.cls ≠ "java/lang/invoke/VarHandle" ∧ (parseMethodDescriptor yX5_byteAt.desc).map (fun d => d.parameters.length) = some 1 := by decide +kernel
theorem m_CO_X5_codedAt : Cond.code yX5_codedAt cX5_codedAt 10 (some .int) ∈ W0 := wT2 147 rfl rfl
theorem m_IM_X5_codedAt : Cond.instanceMethod yX5_codedAt ∈ W0 := wT2 145 rfl rfl
theorem m_SE_X5_codedAt : Cond.selects RX5 yX5_codedAt yX5_codedAt ∈ W0 := wT2 146 rfl rfl
abbrev wzX5_codedAt : List Cond := .code yX5_codedAt cX5_codedAt 10 (some .int) :: W0
theorem hd_X5_codedAt : yX5_codedAt.cls = RX5 ∧ yX5_codedAt.cls ≠ "java/lang/invoke/MethodHandle" ∧ yX5_codedAt.cls ≠ "java/lang/invoke/VarHandle" ∧ (parseMethodDescriptor yX5_codedAt.desc).map (fun d => d.parameters.length) = some 1 := by decide +kernel
theorem m_CO_X5_fillGap : Cond.code yX5_fillGap cX5_fillGap 2 none ∈ W0 := wT1 79 rfl rfl
theorem m_IM_X5_fillGap : Cond.instanceMethod yX5_fillGap ∈ W0 := wT1 77 rfl rfl
theorem m_SE_X5_fillGap : Cond.selects RX5 yX5_fillGap yX5_fillGap ∈ W0 := wT1 78 rfl rfl
abbrev wzX5_fillGap : List Cond := .code yX5_fillGap cX5_fillGap 2 none :: W0
theorem hd_X5_fillGap : yX5_fillGap.cls = RX5 ∧ yX5_fillGap.cls ≠ "java/lang/invoke/MethodHandle" ∧ yX5_fillGap.cls ≠ "java/lang/invoke/VarHandle" ∧ (parseMethodDescriptor yX5_fillGap.desc).map (fun d => d.parameters.length) = some 0 := by decide +kernel
theorem m_CO_X5_findSyncs : Cond.code yX5_findSyncs cX5_findSyncs 6 (some .int) ∈ W0 := wT2 135 rfl rfl
theorem m_IM_X5_findSyncs : Cond.instanceMethod yX5_findSyncs ∈ W0 := wT2 133 rfl rfl
theorem m_SE_X5_findSyncs : Cond.selects RX5 yX5_findSyncs yX5_findSyncs ∈ W0 := wT2 134 rfl rfl
abbrev wzX5_findSyncs : List Cond := .code yX5_findSyncs cX5_findSyncs 6 (some .int) :: W0
theorem hd_X5_findSyncs : yX5_findSyncs.cls = RX5 ∧ yX5_findSyncs.cls ≠ "java/lang/invoke/MethodHandle" ∧ yX5_findSyncs.cls ≠ "java/lang/invoke/VarHandle" ∧ (parseMethodDescriptor yX5_findSyncs.desc).map (fun d => d.parameters.length) = some 0 := by decide +kernel
theorem m_CO_X5_hasByte : Cond.code yX5_hasByte cX5_hasByte 2 (some .boolean) ∈ W0 := wT3 83 rfl rfl
theorem m_IM_X5_hasByte : Cond.instanceMethod yX5_hasByte ∈ W0 := wT3 81 rfl rfl
theorem m_SE_X5_hasByte : Cond.selects RX5 yX5_hasByte yX5_hasByte ∈ W0 := wT3 82 rfl rfl
abbrev wzX5_hasByte : List Cond := .code yX5_hasByte cX5_hasByte 2 (some .boolean) :: W0
theorem hd_X5_hasByte : yX5_hasByte.cls = RX5 ∧ yX5_hasByte.cls ≠ "java/lang/invoke/MethodHandle" ∧ yX5_hasByte.cls ≠ "java/lang/invoke/VarHandle" ∧ (parseMethodDescriptor yX5_hasByte.desc).map (fun d => d.parameters.length) = some 1 := by decide +kernel
theorem m_CO_X5_init : Cond.code yX5_init cX5_init 3 none ∈ W0 := wT1 53 rfl rfl
theorem m_IM_X5_init : Cond.instanceMethod yX5_init ∈ W0 := wT1 52 rfl rfl
abbrev wzX5_init : List Cond := .code yX5_init cX5_init 3 none :: W0
theorem hd_X5_init : yX5_init.cls = RX5 ∧ yX5_init.cls ≠ "java/lang/invoke/MethodHandle" ∧ yX5_init.cls ≠ "java/lang/invoke/VarHandle" ∧ (parseMethodDescriptor yX5_init.desc).map (fun d => d.parameters.length) = some 1 := by decide +kernel
theorem m_CO_X5_layRing : Cond.code yX5_layRing cX5_layRing 3 none ∈ W0 := wT2 70 rfl rfl
theorem m_IM_X5_layRing : Cond.instanceMethod yX5_layRing ∈ W0 := wT2 68 rfl rfl
theorem m_SE_X5_layRing : Cond.selects RX5 yX5_layRing yX5_layRing ∈ W0 := wT2 69 rfl rfl
abbrev wzX5_layRing : List Cond := .code yX5_layRing cX5_layRing 3 none :: W0
theorem hd_X5_layRing : yX5_layRing.cls = RX5 ∧ yX5_layRing.cls ≠ "java/lang/invoke/MethodHandle" ∧ yX5_layRing.cls ≠ "java/lang/invoke/VarHandle" ∧ (parseMethodDescriptor yX5_layRing.desc).map (fun d => d.parameters.length) = some 2 := by decide +kernel
theorem m_CO_X5_putBits : Cond.code yX5_putBits cX5_putBits 11 none ∈ W0 := wT1 87 rfl rfl
theorem m_IM_X5_putBits : Cond.instanceMethod yX5_putBits ∈ W0 := wT1 85 rfl rfl
theorem m_SE_X5_putBits : Cond.selects RX5 yX5_putBits yX5_putBits ∈ W0 := wT1 86 rfl rfl
abbrev wzX5_putBits : List Cond := .code yX5_putBits cX5_putBits 11 none :: W0
theorem hd_X5_putBits : yX5_putBits.cls = RX5 ∧ yX5_putBits.cls ≠ "java/lang/invoke/MethodHandle" ∧ yX5_putBits.cls ≠ "java/lang/invoke/VarHandle" ∧ (parseMethodDescriptor yX5_putBits.desc).map (fun d => d.parameters.length) = some 3 := by decide +kernel
theorem m_CO_X5_putCoded : Cond.code yX5_putCoded cX5_putCoded 3 none ∈ W0 := wT1 96 rfl rfl
theorem m_IM_X5_putCoded : Cond.instanceMethod yX5_putCoded ∈ W0 := wT1 94 rfl rfl
theorem m_SE_X5_putCoded : Cond.selects RX5 yX5_putCoded yX5_putCoded ∈ W0 := wT1 95 rfl rfl
abbrev wzX5_putCoded : List Cond := .code yX5_putCoded cX5_putCoded 3 none :: W0
theorem hd_X5_putCoded : yX5_putCoded.cls = RX5 ∧ yX5_putCoded.cls ≠ "java/lang/invoke/MethodHandle" ∧ yX5_putCoded.cls ≠ "java/lang/invoke/VarHandle" ∧ (parseMethodDescriptor yX5_putCoded.desc).map (fun d => d.parameters.length) = some 2 := by decide +kernel
theorem m_CO_X5_putData : Cond.code yX5_putData cX5_putData 6 none ∈ W0 := wT1 91 rfl rfl
theorem m_IM_X5_putData : Cond.instanceMethod yX5_putData ∈ W0 := wT1 89 rfl rfl
theorem m_SE_X5_putData : Cond.selects RX5 yX5_putData yX5_putData ∈ W0 := wT1 90 rfl rfl
abbrev wzX5_putData : List Cond := .code yX5_putData cX5_putData 6 none :: W0
theorem hd_X5_putData : yX5_putData.cls = RX5 ∧ yX5_putData.cls ≠ "java/lang/invoke/MethodHandle" ∧ yX5_putData.cls ≠ "java/lang/invoke/VarHandle" ∧ (parseMethodDescriptor yX5_putData.desc).map (fun d => d.parameters.length) = some 2 := by decide +kernel
theorem m_CO_X5_putHeader : Cond.code yX5_putHeader cX5_putHeader 7 none ∈ W0 := wT2 66 rfl rfl
theorem m_IM_X5_putHeader : Cond.instanceMethod yX5_putHeader ∈ W0 := wT2 64 rfl rfl
theorem m_SE_X5_putHeader : Cond.selects RX5 yX5_putHeader yX5_putHeader ∈ W0 := wT2 65 rfl rfl
abbrev wzX5_putHeader : List Cond := .code yX5_putHeader cX5_putHeader 7 none :: W0
theorem hd_X5_putHeader : yX5_putHeader.cls = RX5 ∧ yX5_putHeader.cls ≠ "java/lang/invoke/MethodHandle" ∧ yX5_putHeader.cls ≠ "java/lang/invoke/VarHandle" ∧ (parseMethodDescriptor yX5_putHeader.desc).map (fun d => d.parameters.length) = some 4 := by decide +kernel
theorem m_CO_X5_putSync : Cond.code yX5_putSync cX5_putSync 3 none ∈ W0 := wT1 83 rfl rfl
theorem m_IM_X5_putSync : Cond.instanceMethod yX5_putSync ∈ W0 := wT1 81 rfl rfl
theorem m_SE_X5_putSync : Cond.selects RX5 yX5_putSync yX5_putSync ∈ W0 := wT1 82 rfl rfl
abbrev wzX5_putSync : List Cond := .code yX5_putSync cX5_putSync 3 none :: W0
theorem hd_X5_putSync : yX5_putSync.cls = RX5 ∧ yX5_putSync.cls ≠ "java/lang/invoke/MethodHandle" ∧ yX5_putSync.cls ≠ "java/lang/invoke/VarHandle" ∧ (parseMethodDescriptor yX5_putSync.desc).map (fun d => d.parameters.length) = some 1 := by decide +kernel
theorem m_CO_X5_rotate : Cond.code yX5_rotate cX5_rotate 10 none ∈ W0 := wT3 105 rfl rfl
theorem m_IM_X5_rotate : Cond.instanceMethod yX5_rotate ∈ W0 := wT3 103 rfl rfl
theorem m_SE_X5_rotate : Cond.selects RX5 yX5_rotate yX5_rotate ∈ W0 := wT3 104 rfl rfl
abbrev wzX5_rotate : List Cond := .code yX5_rotate cX5_rotate 10 none :: W0
theorem hd_X5_rotate : yX5_rotate.cls = RX5 ∧ yX5_rotate.cls ≠ "java/lang/invoke/MethodHandle" ∧ yX5_rotate.cls ≠ "java/lang/invoke/VarHandle" ∧ (parseMethodDescriptor yX5_rotate.desc).map (fun d => d.parameters.length) = some 2 := by decide +kernel
theorem m_CO_X5_sizeOf : Cond.code yX5_sizeOf cX5_sizeOf 1 (some .int) ∈ W0 := wT1 50 rfl rfl
theorem m_ST_X5_sizeOf : Cond.static yX5_sizeOf ∈ W0 := wT1 49 rfl rfl
abbrev wzX5_sizeOf : List Cond := .code yX5_sizeOf cX5_sizeOf 1 (some .int) :: W0
theorem hd_X5_sizeOf : yX5_sizeOf.cls = RX5 ∧ yX5_sizeOf.cls ≠ "java/lang/invoke/MethodHandle" ∧ yX5_sizeOf.cls ≠ "java/lang/invoke/VarHandle" ∧ (parseMethodDescriptor yX5_sizeOf.desc).map (fun d => d.parameters.length) = some 1 := by decide +kernel
theorem m_CO_X5_startOf : Cond.code yX5_startOf cX5_startOf 2 (some .int) ∈ W0 := wT2 139 rfl rfl
theorem m_IM_X5_startOf : Cond.instanceMethod yX5_startOf ∈ W0 := wT2 137 rfl rfl
theorem m_SE_X5_startOf : Cond.selects RX5 yX5_startOf yX5_startOf ∈ W0 := wT2 138 rfl rfl
abbrev wzX5_startOf : List Cond := .code yX5_startOf cX5_startOf 2 (some .int) :: W0
theorem hd_X5_startOf : yX5_startOf.cls = RX5 ∧ yX5_startOf.cls ≠ "java/lang/invoke/MethodHandle" ∧ yX5_startOf.cls ≠ "java/lang/invoke/VarHandle" ∧ (parseMethodDescriptor yX5_startOf.desc).map (fun d => d.parameters.length) = some 1 := by decide +kernel
theorem m_CO_X5_takeData : Cond.code yX5_takeData cX5_takeData 7 (some .int) ∈ W0 := wT2 153 rfl rfl
theorem m_IM_X5_takeData : Cond.instanceMethod yX5_takeData ∈ W0 := wT2 151 rfl rfl
theorem m_SE_X5_takeData : Cond.selects RX5 yX5_takeData yX5_takeData ∈ W0 := wT2 152 rfl rfl
abbrev wzX5_takeData : List Cond := .code yX5_takeData cX5_takeData 7 (some .int) :: W0
theorem hd_X5_takeData : yX5_takeData.cls = RX5 ∧ yX5_takeData.cls ≠ "java/lang/invoke/MethodHandle" ∧ yX5_takeData.cls ≠ "java/lang/invoke/VarHandle" ∧ (parseMethodDescriptor yX5_takeData.desc).map (fun d => d.parameters.length) = some 2 := by decide +kernel
theorem m_CO_X6_init : Cond.code yX6_init cX6_init 1 none ∈ W0 := wT1 24 rfl rfl
theorem m_IM_X6_init : Cond.instanceMethod yX6_init ∈ W0 := wT1 23 rfl rfl
abbrev wzX6_init : List Cond := .code yX6_init cX6_init 1 none :: W0
theorem hd_X6_init : yX6_init.cls = RX6 ∧ yX6_init.cls ≠ "java/lang/invoke/MethodHandle" ∧ yX6_init.cls ≠ "java/lang/invoke/VarHandle" ∧ (parseMethodDescriptor yX6_init.desc).map (fun d => d.parameters.length) = some 0 := by decide +kernel
theorem m_CO_X6_tell : Cond.code yX6_tell cX6_tell 4 (some .int) ∈ W0 := wT2 102 rfl rfl
theorem m_IM_X6_tell : Cond.instanceMethod yX6_tell ∈ W0 := wT2 100 rfl rfl
theorem m_SE_X6_tell : Cond.selects RX6 yX6_tell yX6_tell ∈ W0 := wT2 101 rfl rfl
abbrev wzX6_tell : List Cond := .code yX6_tell cX6_tell 4 (some .int) :: W0
theorem hd_X6_tell : yX6_tell.cls = RX6 ∧ yX6_tell.cls ≠ "java/lang/invoke/MethodHandle" ∧ yX6_tell.cls ≠ "java/lang/invoke/VarHandle" ∧ (parseMethodDescriptor yX6_tell.desc).map (fun d => d.parameters.length) = some 3 := by decide +kernel
theorem m_CO_X7_blocksNeeded : Cond.code yX7_blocksNeeded cX7_blocksNeeded 1 (some .int) ∈ W0 := wT2 203 rfl rfl
theorem m_ST_X7_blocksNeeded : Cond.static yX7_blocksNeeded ∈ W0 := wT2 202 rfl rfl
abbrev wzX7_blocksNeeded : List Cond := .code yX7_blocksNeeded cX7_blocksNeeded 1 (some .int) :: W0
theorem hd_X7_blocksNeeded : yX7_blocksNeeded.cls = RX7 ∧ yX7_blocksNeeded.cls ≠ "java/lang/invoke/MethodHandle" ∧ yX7_blocksNeeded.cls ≠ "java/lang/invoke/VarHandle" ∧ (parseMethodDescriptor yX7_blocksNeeded.desc).map (fun d => d.parameters.length) = some 1 := by decide +kernel
theorem m_CO_X7_clearRow : Cond.code yX7_clearRow cX7_clearRow 4 none ∈ W0 := wT2 80 rfl rfl
theorem m_ST_X7_clearRow : Cond.static yX7_clearRow ∈ W0 := wT2 79 rfl rfl
abbrev wzX7_clearRow : List Cond := .code yX7_clearRow cX7_clearRow 4 none :: W0
theorem hd_X7_clearRow : yX7_clearRow.cls = RX7 ∧ yX7_clearRow.cls ≠ "java/lang/invoke/MethodHandle" ∧ yX7_clearRow.cls ≠ "java/lang/invoke/VarHandle" ∧ (parseMethodDescriptor yX7_clearRow.desc).map (fun d => d.parameters.length) = some 3 := by decide +kernel
theorem m_CO_X7_count : Cond.code yX7_count cX7_count 2 (some .int) ∈ W0 := wT3 127 rfl rfl
theorem m_IM_X7_count : Cond.instanceMethod yX7_count ∈ W0 := wT3 125 rfl rfl
theorem m_SE_X7_count : Cond.selects RX7 yX7_count yX7_count ∈ W0 := wT3 126 rfl rfl
abbrev wzX7_count : List Cond := .code yX7_count cX7_count 2 (some .int) :: W0
theorem hd_X7_count : yX7_count.cls = RX7 ∧ yX7_count.cls ≠ "java/lang/invoke/MethodHandle" ∧ yX7_count.cls ≠ "java/lang/invoke/VarHandle" ∧ (parseMethodDescriptor yX7_count.desc).map (fun d => d.parameters.length) = some 1 := by decide +kernel
theorem m_CO_X7_end : Cond.code yX7_end cX7_end 2 (some .int) ∈ W0 := wT2 42 rfl rfl
theorem m_IM_X7_end : Cond.instanceMethod yX7_end ∈ W0 := wT2 40 rfl rfl
theorem m_SE_X7_end : Cond.selects RX7 yX7_end yX7_end ∈ W0 := wT2 41 rfl rfl
abbrev wzX7_end : List Cond := .code yX7_end cX7_end 2 (some .int) :: W0
theorem hd_X7_end : yX7_end.cls = RX7 ∧ yX7_end.cls ≠ "java/lang/invoke/MethodHandle" ∧ yX7_end.cls ≠ "java/lang/invoke/VarHandle" ∧ (parseMethodDescriptor yX7_end.desc).map (fun d => d.parameters.length) = some 1 := by decide +kernel
theorem m_CO_X7_feed : Cond.code yX7_feed cX7_feed 6 (some .int) ∈ W0 := wT2 30 rfl rfl
theorem m_IM_X7_feed : Cond.instanceMethod yX7_feed ∈ W0 := wT2 28 rfl rfl
theorem m_SE_X7_feed : Cond.selects RX7 yX7_feed yX7_feed ∈ W0 := wT2 29 rfl rfl
abbrev wzX7_feed : List Cond := .code yX7_feed cX7_feed 6 (some .int) :: W0
theorem hd_X7_feed : yX7_feed.cls = RX7 ∧ yX7_feed.cls ≠ "java/lang/invoke/MethodHandle" ∧ yX7_feed.cls ≠ "java/lang/invoke/VarHandle" ∧ (parseMethodDescriptor yX7_feed.desc).map (fun d => d.parameters.length) = some 5 := by decide +kernel
theorem m_CO_X7_fillEntry : Cond.code yX7_fillEntry cX7_fillEntry 6 none ∈ W0 := wT3 6 rfl rfl
theorem m_IM_X7_fillEntry : Cond.instanceMethod yX7_fillEntry ∈ W0 := wT3 5 rfl rfl
theorem m_SE_X7_fillEntry : Cond.selects RX7 yX7_fillEntry yX7_fillEntry ∈ W0 := wS1 10 10 rfl rfl
abbrev wzX7_fillEntry : List Cond := .code yX7_fillEntry cX7_fillEntry 6 none :: W0
theorem hd_X7_fillEntry : yX7_fillEntry.cls = RX7 ∧ yX7_fillEntry.cls ≠ "java/lang/invoke/MethodHandle" ∧ yX7_fillEntry.cls ≠ "java/lang/invoke/VarHandle" ∧ (parseMethodDescriptor yX7_fillEntry.desc).map (fun d => d.parameters.length) = some 5 := by decide +kernel
theorem m_CO_X7_fillName : Cond.code yX7_fillName cX7_fillName 5 none ∈ W0 := wT2 91 rfl rfl
theorem m_ST_X7_fillName : Cond.static yX7_fillName ∈ W0 := wT2 90 rfl rfl
abbrev wzX7_fillName : List Cond := .code yX7_fillName cX7_fillName 5 none :: W0
theorem hd_X7_fillName : yX7_fillName.cls = RX7 ∧ yX7_fillName.cls ≠ "java/lang/invoke/MethodHandle" ∧ yX7_fillName.cls ≠ "java/lang/invoke/VarHandle" ∧ (parseMethodDescriptor yX7_fillName.desc).map (fun d => d.parameters.length) = some 4 := by decide +kernel
theorem m_CO_X7_format : Cond.code yX7_format cX7_format 4 (some .int) ∈ W0 := wT2 46 rfl rfl
theorem m_IM_X7_format : Cond.instanceMethod yX7_format ∈ W0 := wT2 44 rfl rfl
theorem m_SE_X7_format : Cond.selects RX7 yX7_format yX7_format ∈ W0 := wT2 45 rfl rfl
abbrev wzX7_format : List Cond := .code yX7_format cX7_format 4 (some .int) :: W0
theorem hd_X7_format : yX7_format.cls = RX7 ∧ yX7_format.cls ≠ "java/lang/invoke/MethodHandle" ∧ yX7_format.cls ≠ "java/lang/invoke/VarHandle" ∧ (parseMethodDescriptor yX7_format.desc).map (fun d => d.parameters.length) = some 3 := by decide +kernel
theorem m_CO_X7_hasName : Cond.code yX7_hasName cX7_hasName 5 (some .boolean) ∈ W0 := wT2 172 rfl rfl
theorem m_ST_X7_hasName : Cond.static yX7_hasName ∈ W0 := wT2 171 rfl rfl
abbrev wzX7_hasName : List Cond := .code yX7_hasName cX7_hasName 5 (some .boolean) :: W0
theorem hd_X7_hasName : yX7_hasName.cls = RX7 ∧ yX7_hasName.cls ≠ "java/lang/invoke/MethodHandle" ∧ yX7_hasName.cls ≠ "java/lang/invoke/VarHandle" ∧ (parseMethodDescriptor yX7_hasName.desc).map (fun d => d.parameters.length) = some 4 := by decide +kernel
theorem m_CO_X7_info : Cond.code yX7_info cX7_info 2 (some .int) ∈ W0 := wT3 58 rfl rfl
theorem m_IM_X7_info : Cond.instanceMethod yX7_info ∈ W0 := wT3 56 rfl rfl
theorem m_SE_X7_info : Cond.selects RX7 yX7_info yX7_info ∈ W0 := wT3 57 rfl rfl
abbrev wzX7_info : List Cond := .code yX7_info cX7_info 2 (some .int) :: W0
theorem hd_X7_info : yX7_info.cls = RX7 ∧ yX7_info.cls ≠ "java/lang/invoke/MethodHandle" ∧ yX7_info.cls ≠ "java/lang/invoke/VarHandle" ∧ (parseMethodDescriptor yX7_info.desc).map (fun d => d.parameters.length) = some 0 := by decide +kernel
theorem m_CO_X7_init : Cond.code yX7_init cX7_init 1 none ∈ W0 := wT1 16 rfl rfl
theorem m_IM_X7_init : Cond.instanceMethod yX7_init ∈ W0 := wT1 15 rfl rfl
abbrev wzX7_init : List Cond := .code yX7_init cX7_init 1 none :: W0
theorem hd_X7_init : yX7_init.cls = RX7 ∧ yX7_init.cls ≠ "java/lang/invoke/MethodHandle" ∧ yX7_init.cls ≠ "java/lang/invoke/VarHandle" ∧ (parseMethodDescriptor yX7_init.desc).map (fun d => d.parameters.length) = some 0 := by decide +kernel
theorem m_CO_X7_list : Cond.code yX7_list cX7_list 3 (some .int) ∈ W0 := wT3 48 rfl rfl
theorem m_IM_X7_list : Cond.instanceMethod yX7_list ∈ W0 := wT3 46 rfl rfl
theorem m_SE_X7_list : Cond.selects RX7 yX7_list yX7_list ∈ W0 := wT3 47 rfl rfl
abbrev wzX7_list : List Cond := .code yX7_list cX7_list 3 (some .int) :: W0
theorem hd_X7_list : yX7_list.cls = RX7 ∧ yX7_list.cls ≠ "java/lang/invoke/MethodHandle" ∧ yX7_list.cls ≠ "java/lang/invoke/VarHandle" ∧ (parseMethodDescriptor yX7_list.desc).map (fun d => d.parameters.length) = some 0 := by decide +kernel
theorem m_CO_X7_load : Cond.code yX7_load cX7_load 4 (some .int) ∈ W0 := wT3 17 rfl rfl
theorem m_IM_X7_load : Cond.instanceMethod yX7_load ∈ W0 := wT3 15 rfl rfl
theorem m_SE_X7_load : Cond.selects RX7 yX7_load yX7_load ∈ W0 := wT3 16 rfl rfl
abbrev wzX7_load : List Cond := .code yX7_load cX7_load 4 (some .int) :: W0
theorem hd_X7_load : yX7_load.cls = RX7 ∧ yX7_load.cls ≠ "java/lang/invoke/MethodHandle" ∧ yX7_load.cls ≠ "java/lang/invoke/VarHandle" ∧ (parseMethodDescriptor yX7_load.desc).map (fun d => d.parameters.length) = some 2 := by decide +kernel
theorem m_CO_X7_lookFor : Cond.code yX7_lookFor cX7_lookFor 5 (some .int) ∈ W0 := wT2 114 rfl rfl
theorem m_IM_X7_lookFor : Cond.instanceMethod yX7_lookFor ∈ W0 := wT2 113 rfl rfl
theorem m_SE_X7_lookFor : Cond.selects RX7 yX7_lookFor yX7_lookFor ∈ W0 := wS1 1 10 rfl rfl
abbrev wzX7_lookFor : List Cond := .code yX7_lookFor cX7_lookFor 5 (some .int) :: W0
theorem hd_X7_lookFor : yX7_lookFor.cls = RX7 ∧ yX7_lookFor.cls ≠ "java/lang/invoke/MethodHandle" ∧ yX7_lookFor.cls ≠ "java/lang/invoke/VarHandle" ∧ (parseMethodDescriptor yX7_lookFor.desc).map (fun d => d.parameters.length) = some 2 := by decide +kernel
theorem m_CO_X7_mount : Cond.code yX7_mount cX7_mount 2 (some .int) ∈ W0 := wT2 106 rfl rfl
theorem m_IM_X7_mount : Cond.instanceMethod yX7_mount ∈ W0 := wT2 104 rfl rfl
theorem m_SE_X7_mount : Cond.selects RX7 yX7_mount yX7_mount ∈ W0 := wT2 105 rfl rfl
abbrev wzX7_mount : List Cond := .code yX7_mount cX7_mount 2 (some .int) :: W0
theorem hd_X7_mount : yX7_mount.cls = RX7 ∧ yX7_mount.cls ≠ "java/lang/invoke/MethodHandle" ∧ yX7_mount.cls ≠ "java/lang/invoke/VarHandle" ∧ (parseMethodDescriptor yX7_mount.desc).map (fun d => d.parameters.length) = some 1 := by decide +kernel
theorem m_CO_X7_nameByte : Cond.code yX7_nameByte cX7_nameByte 3 (some .int) ∈ W0 := wT2 94 rfl rfl
theorem m_ST_X7_nameByte : Cond.static yX7_nameByte ∈ W0 := wT2 93 rfl rfl
abbrev wzX7_nameByte : List Cond := .code yX7_nameByte cX7_nameByte 3 (some .int) :: W0
theorem hd_X7_nameByte : yX7_nameByte.cls = RX7 ∧ yX7_nameByte.cls ≠ "java/lang/invoke/MethodHandle" ∧ yX7_nameByte.cls ≠ "java/lang/invoke/VarHandle" ∧ (parseMethodDescriptor yX7_nameByte.desc).map (fun d => d.parameters.length) = some 3 := by decide +kernel
theorem m_CO_X7_openDisk : Cond.code yX7_openDisk cX7_openDisk 1 (some .int) ∈ W0 := wT2 118 rfl rfl
theorem m_IM_X7_openDisk : Cond.instanceMethod yX7_openDisk ∈ W0 := wT2 117 rfl rfl
theorem m_SE_X7_openDisk : Cond.selects RX7 yX7_openDisk yX7_openDisk ∈ W0 := wS1 2 10 rfl rfl
abbrev wzX7_openDisk : List Cond := .code yX7_openDisk cX7_openDisk 1 (some .int) :: W0
theorem hd_X7_openDisk : yX7_openDisk.cls = RX7 ∧ yX7_openDisk.cls ≠ "java/lang/invoke/MethodHandle" ∧ yX7_openDisk.cls ≠ "java/lang/invoke/VarHandle" ∧ (parseMethodDescriptor yX7_openDisk.desc).map (fun d => d.parameters.length) = some 0 := by decide +kernel
theorem m_CO_X7_out : Cond.code yX7_out cX7_out 2 (some .int) ∈ W0 := wT3 69 rfl rfl
theorem m_IM_X7_out : Cond.instanceMethod yX7_out ∈ W0 := wT3 67 rfl rfl
theorem m_SE_X7_out : Cond.selects RX7 yX7_out yX7_out ∈ W0 := wT3 68 rfl rfl
abbrev wzX7_out : List Cond := .code yX7_out cX7_out 2 (some .int) :: W0
theorem hd_X7_out : yX7_out.cls = RX7 ∧ yX7_out.cls ≠ "java/lang/invoke/MethodHandle" ∧ yX7_out.cls ≠ "java/lang/invoke/VarHandle" ∧ (parseMethodDescriptor yX7_out.desc).map (fun d => d.parameters.length) = some 1 := by decide +kernel
theorem m_CO_X7_outputOr : Cond.code yX7_outputOr cX7_outputOr 2 (some .int) ∈ W0 := wT3 32 rfl rfl
theorem m_IM_X7_outputOr : Cond.instanceMethod yX7_outputOr ∈ W0 := wT3 31 rfl rfl
theorem m_SE_X7_outputOr : Cond.selects RX7 yX7_outputOr yX7_outputOr ∈ W0 := wS1 11 10 rfl rfl
abbrev wzX7_outputOr : List Cond := .code yX7_outputOr cX7_outputOr 2 (some .int) :: W0
theorem hd_X7_outputOr : yX7_outputOr.cls = RX7 ∧ yX7_outputOr.cls ≠ "java/lang/invoke/MethodHandle" ∧ yX7_outputOr.cls ≠ "java/lang/invoke/VarHandle" ∧ (parseMethodDescriptor yX7_outputOr.desc).map (fun d => d.parameters.length) = some 1 := by decide +kernel
theorem m_CO_X7_peek : Cond.code yX7_peek cX7_peek 4 (some .int) ∈ W0 := wT3 78 rfl rfl
theorem m_IM_X7_peek : Cond.instanceMethod yX7_peek ∈ W0 := wT3 76 rfl rfl
theorem m_SE_X7_peek : Cond.selects RX7 yX7_peek yX7_peek ∈ W0 := wT3 77 rfl rfl
abbrev wzX7_peek : List Cond := .code yX7_peek cX7_peek 4 (some .int) :: W0
theorem hd_X7_peek : yX7_peek.cls = RX7 ∧ yX7_peek.cls ≠ "java/lang/invoke/MethodHandle" ∧ yX7_peek.cls ≠ "java/lang/invoke/VarHandle" ∧ (parseMethodDescriptor yX7_peek.desc).map (fun d => d.parameters.length) = some 2 := by decide +kernel
theorem m_CO_X7_poke : Cond.code yX7_poke cX7_poke 6 (some .int) ∈ W0 := wT3 92 rfl rfl
theorem m_IM_X7_poke : Cond.instanceMethod yX7_poke ∈ W0 := wT3 90 rfl rfl
theorem m_SE_X7_poke : Cond.selects RX7 yX7_poke yX7_poke ∈ W0 := wT3 91 rfl rfl
abbrev wzX7_poke : List Cond := .code yX7_poke cX7_poke 6 (some .int) :: W0
theorem hd_X7_poke : yX7_poke.cls = RX7 ∧ yX7_poke.cls ≠ "java/lang/invoke/MethodHandle" ∧ yX7_poke.cls ≠ "java/lang/invoke/VarHandle" ∧ (parseMethodDescriptor yX7_poke.desc).map (fun d => d.parameters.length) = some 3 := by decide +kernel
theorem m_CO_X7_read : Cond.code yX7_read cX7_read 4 (some .int) ∈ W0 := wT3 117 rfl rfl
theorem m_IM_X7_read : Cond.instanceMethod yX7_read ∈ W0 := wT3 115 rfl rfl
theorem m_SE_X7_read : Cond.selects RX7 yX7_read yX7_read ∈ W0 := wT3 116 rfl rfl
abbrev wzX7_read : List Cond := .code yX7_read cX7_read 4 (some .int) :: W0
theorem hd_X7_read : yX7_read.cls = RX7 ∧ yX7_read.cls ≠ "java/lang/invoke/MethodHandle" ∧ yX7_read.cls ≠ "java/lang/invoke/VarHandle" ∧ (parseMethodDescriptor yX7_read.desc).map (fun d => d.parameters.length) = some 2 := by decide +kernel
theorem m_CO_X7_save : Cond.code yX7_save cX7_save 5 (some .int) ∈ W0 := wT2 110 rfl rfl
theorem m_IM_X7_save : Cond.instanceMethod yX7_save ∈ W0 := wT2 108 rfl rfl
theorem m_SE_X7_save : Cond.selects RX7 yX7_save yX7_save ∈ W0 := wT2 109 rfl rfl
abbrev wzX7_save : List Cond := .code yX7_save cX7_save 5 (some .int) :: W0
theorem hd_X7_save : yX7_save.cls = RX7 ∧ yX7_save.cls ≠ "java/lang/invoke/MethodHandle" ∧ yX7_save.cls ≠ "java/lang/invoke/VarHandle" ∧ (parseMethodDescriptor yX7_save.desc).map (fun d => d.parameters.length) = some 3 := by decide +kernel
theorem m_CO_X7_scratch : Cond.code yX7_scratch cX7_scratch 4 (some .int) ∈ W0 := wT3 36 rfl rfl
theorem m_IM_X7_scratch : Cond.instanceMethod yX7_scratch ∈ W0 := wT3 34 rfl rfl
theorem m_SE_X7_scratch : Cond.selects RX7 yX7_scratch yX7_scratch ∈ W0 := wT3 35 rfl rfl
abbrev wzX7_scratch : List Cond := .code yX7_scratch cX7_scratch 4 (some .int) :: W0
theorem hd_X7_scratch : yX7_scratch.cls = RX7 ∧ yX7_scratch.cls ≠ "java/lang/invoke/MethodHandle" ∧ yX7_scratch.cls ≠ "java/lang/invoke/VarHandle" ∧ (parseMethodDescriptor yX7_scratch.desc).map (fun d => d.parameters.length) = some 2 := by decide +kernel
theorem m_CO_X7_stamp : Cond.code yX7_stamp cX7_stamp 5 (some .int) ∈ W0 := wT3 97 rfl rfl
theorem m_IM_X7_stamp : Cond.instanceMethod yX7_stamp ∈ W0 := wT3 95 rfl rfl
theorem m_SE_X7_stamp : Cond.selects RX7 yX7_stamp yX7_stamp ∈ W0 := wT3 96 rfl rfl
abbrev wzX7_stamp : List Cond := .code yX7_stamp cX7_stamp 5 (some .int) :: W0
theorem hd_X7_stamp : yX7_stamp.cls = RX7 ∧ yX7_stamp.cls ≠ "java/lang/invoke/MethodHandle" ∧ yX7_stamp.cls ≠ "java/lang/invoke/VarHandle" ∧ (parseMethodDescriptor yX7_stamp.desc).map (fun d => d.parameters.length) = some 3 := by decide +kernel
theorem m_CO_X7_status : Cond.code yX7_status cX7_status 2 (some .int) ∈ W0 := wT3 74 rfl rfl
theorem m_IM_X7_status : Cond.instanceMethod yX7_status ∈ W0 := wT3 72 rfl rfl
theorem m_SE_X7_status : Cond.selects RX7 yX7_status yX7_status ∈ W0 := wT3 73 rfl rfl
abbrev wzX7_status : List Cond := .code yX7_status cX7_status 2 (some .int) :: W0
theorem hd_X7_status : yX7_status.cls = RX7 ∧ yX7_status.cls ≠ "java/lang/invoke/MethodHandle" ∧ yX7_status.cls ≠ "java/lang/invoke/VarHandle" ∧ (parseMethodDescriptor yX7_status.desc).map (fun d => d.parameters.length) = some 1 := by decide +kernel
theorem m_CO_X7_storeEntry : Cond.code yX7_storeEntry cX7_storeEntry 5 (some .int) ∈ W0 := wT3 2 rfl rfl
theorem m_IM_X7_storeEntry : Cond.instanceMethod yX7_storeEntry ∈ W0 := wT3 1 rfl rfl
theorem m_SE_X7_storeEntry : Cond.selects RX7 yX7_storeEntry yX7_storeEntry ∈ W0 := wS1 9 10 rfl rfl
abbrev wzX7_storeEntry : List Cond := .code yX7_storeEntry cX7_storeEntry 5 (some .int) :: W0
theorem hd_X7_storeEntry : yX7_storeEntry.cls = RX7 ∧ yX7_storeEntry.cls ≠ "java/lang/invoke/MethodHandle" ∧ yX7_storeEntry.cls ≠ "java/lang/invoke/VarHandle" ∧ (parseMethodDescriptor yX7_storeEntry.desc).map (fun d => d.parameters.length) = some 3 := by decide +kernel
theorem m_CO_X7_syncs : Cond.code yX7_syncs cX7_syncs 3 (some .int) ∈ W0 := wT3 112 rfl rfl
theorem m_IM_X7_syncs : Cond.instanceMethod yX7_syncs ∈ W0 := wT3 110 rfl rfl
theorem m_SE_X7_syncs : Cond.selects RX7 yX7_syncs yX7_syncs ∈ W0 := wT3 111 rfl rfl
abbrev wzX7_syncs : List Cond := .code yX7_syncs cX7_syncs 3 (some .int) :: W0
theorem hd_X7_syncs : yX7_syncs.cls = RX7 ∧ yX7_syncs.cls ≠ "java/lang/invoke/MethodHandle" ∧ yX7_syncs.cls ≠ "java/lang/invoke/VarHandle" ∧ (parseMethodDescriptor yX7_syncs.desc).map (fun d => d.parameters.length) = some 1 := by decide +kernel
theorem m_CO_X7_takeRoom : Cond.code yX7_takeRoom cX7_takeRoom 1 (some .boolean) ∈ W0 := wT2 186 rfl rfl
theorem m_IM_X7_takeRoom : Cond.instanceMethod yX7_takeRoom ∈ W0 := wT2 185 rfl rfl
theorem m_SE_X7_takeRoom : Cond.selects RX7 yX7_takeRoom yX7_takeRoom ∈ W0 := wS1 6 10 rfl rfl
abbrev wzX7_takeRoom : List Cond := .code yX7_takeRoom cX7_takeRoom 1 (some .boolean) :: W0
theorem hd_X7_takeRoom : yX7_takeRoom.cls = RX7 ∧ yX7_takeRoom.cls ≠ "java/lang/invoke/MethodHandle" ∧ yX7_takeRoom.cls ≠ "java/lang/invoke/VarHandle" ∧ (parseMethodDescriptor yX7_takeRoom.desc).map (fun d => d.parameters.length) = some 0 := by decide +kernel
theorem m_CO_X7_turn : Cond.code yX7_turn cX7_turn 4 (some .int) ∈ W0 := wT3 101 rfl rfl
theorem m_IM_X7_turn : Cond.instanceMethod yX7_turn ∈ W0 := wT3 99 rfl rfl
theorem m_SE_X7_turn : Cond.selects RX7 yX7_turn yX7_turn ∈ W0 := wT3 100 rfl rfl
abbrev wzX7_turn : List Cond := .code yX7_turn cX7_turn 4 (some .int) :: W0
theorem hd_X7_turn : yX7_turn.cls = RX7 ∧ yX7_turn.cls ≠ "java/lang/invoke/MethodHandle" ∧ yX7_turn.cls ≠ "java/lang/invoke/VarHandle" ∧ (parseMethodDescriptor yX7_turn.desc).map (fun d => d.parameters.length) = some 2 := by decide +kernel
theorem m_CO_X7_write : Cond.code yX7_write cX7_write 4 (some .int) ∈ W0 := wT3 122 rfl rfl
theorem m_IM_X7_write : Cond.instanceMethod yX7_write ∈ W0 := wT3 120 rfl rfl
theorem m_SE_X7_write : Cond.selects RX7 yX7_write yX7_write ∈ W0 := wT3 121 rfl rfl
abbrev wzX7_write : List Cond := .code yX7_write cX7_write 4 (some .int) :: W0
theorem hd_X7_write : yX7_write.cls = RX7 ∧ yX7_write.cls ≠ "java/lang/invoke/MethodHandle" ∧ yX7_write.cls ≠ "java/lang/invoke/VarHandle" ∧ (parseMethodDescriptor yX7_write.desc).map (fun d => d.parameters.length) = some 2 := by decide +kernel
theorem m_CO_X8_begins : Cond.code yX8_begins cX8_begins 4 (some .boolean) ∈ W0 := wT4 64 rfl rfl
theorem m_IM_X8_begins : Cond.instanceMethod yX8_begins ∈ W0 := wT4 63 rfl rfl
theorem m_SE_X8_begins : Cond.selects RX8 yX8_begins yX8_begins ∈ W0 := wS2 4 31 rfl rfl
abbrev wzX8_begins : List Cond := .code yX8_begins cX8_begins 4 (some .boolean) :: W0
theorem hd_X8_begins : yX8_begins.cls = RX8 ∧ yX8_begins.cls ≠ "java/lang/invoke/MethodHandle" ∧ yX8_begins.cls ≠ "java/lang/invoke/VarHandle" ∧ (parseMethodDescriptor yX8_begins.desc).map (fun d => d.parameters.length) = some 0 := by decide +kernel
theorem m_CO_X8_byteAt : Cond.code yX8_byteAt cX8_byteAt 6 (some .int) ∈ W0 := wT4 181 rfl rfl
theorem m_IM_X8_byteAt : Cond.instanceMethod yX8_byteAt ∈ W0 := wT4 180 rfl rfl
theorem m_SE_X8_byteAt : Cond.selects RX8 yX8_byteAt yX8_byteAt ∈ W0 := wS3 8 31 rfl rfl
abbrev wzX8_byteAt : List Cond := .code yX8_byteAt cX8_byteAt 6 (some .int) :: W0
theorem hd_X8_byteAt : yX8_byteAt.cls = RX8 ∧ yX8_byteAt.cls ≠ "java/lang/invoke/MethodHandle" ∧ yX8_byteAt.cls ≠ "java/lang/invoke/VarHandle" ∧ (parseMethodDescriptor yX8_byteAt.desc).map (fun d => d.parameters.length) = some 2 := by decide +kernel
theorem m_CO_X8_bytesOf : Cond.code yX8_bytesOf cX8_bytesOf 1 (some .int) ∈ W0 := wT4 36 rfl rfl
theorem m_ST_X8_bytesOf : Cond.static yX8_bytesOf ∈ W0 := wT4 35 rfl rfl
abbrev wzX8_bytesOf : List Cond := .code yX8_bytesOf cX8_bytesOf 1 (some .int) :: W0
theorem hd_X8_bytesOf : yX8_bytesOf.cls = RX8 ∧ yX8_bytesOf.cls ≠ "java/lang/invoke/MethodHandle" ∧ yX8_bytesOf.cls ≠ "java/lang/invoke/VarHandle" ∧ (parseMethodDescriptor yX8_bytesOf.desc).map (fun d => d.parameters.length) = some 1 := by decide +kernel
theorem m_CO_X8_count : Cond.code yX8_count cX8_count 2 (some .int) ∈ W0 := wT4 213 rfl rfl
theorem m_IM_X8_count : Cond.instanceMethod yX8_count ∈ W0 := wT4 211 rfl rfl
theorem m_SE_X8_count : Cond.selects RX8 yX8_count yX8_count ∈ W0 := wT4 212 rfl rfl
abbrev wzX8_count : List Cond := .code yX8_count cX8_count 2 (some .int) :: W0
theorem hd_X8_count : yX8_count.cls = RX8 ∧ yX8_count.cls ≠ "java/lang/invoke/MethodHandle" ∧ yX8_count.cls ≠ "java/lang/invoke/VarHandle" ∧ (parseMethodDescriptor yX8_count.desc).map (fun d => d.parameters.length) = some 1 := by decide +kernel
theorem m_CO_X8_dataOf : Cond.code yX8_dataOf cX8_dataOf 6 (some .int) ∈ W0 := wT4 88 rfl rfl
theorem m_IM_X8_dataOf : Cond.instanceMethod yX8_dataOf ∈ W0 := wT4 87 rfl rfl
theorem m_SE_X8_dataOf : Cond.selects RX8 yX8_dataOf yX8_dataOf ∈ W0 := wS2 10 31 rfl rfl
abbrev wzX8_dataOf : List Cond := .code yX8_dataOf cX8_dataOf 6 (some .int) :: W0
theorem hd_X8_dataOf : yX8_dataOf.cls = RX8 ∧ yX8_dataOf.cls ≠ "java/lang/invoke/MethodHandle" ∧ yX8_dataOf.cls ≠ "java/lang/invoke/VarHandle" ∧ (parseMethodDescriptor yX8_dataOf.desc).map (fun d => d.parameters.length) = some 1 := by decide +kernel
theorem m_CO_X8_decoded : Cond.code yX8_decoded cX8_decoded 8 (some .int) ∈ W0 := wT4 84 rfl rfl
theorem m_IM_X8_decoded : Cond.instanceMethod yX8_decoded ∈ W0 := wT4 83 rfl rfl
theorem m_SE_X8_decoded : Cond.selects RX8 yX8_decoded yX8_decoded ∈ W0 := wS2 9 31 rfl rfl
abbrev wzX8_decoded : List Cond := .code yX8_decoded cX8_decoded 8 (some .int) :: W0
theorem hd_X8_decoded : yX8_decoded.cls = RX8 ∧ yX8_decoded.cls ≠ "java/lang/invoke/MethodHandle" ∧ yX8_decoded.cls ≠ "java/lang/invoke/VarHandle" ∧ (parseMethodDescriptor yX8_decoded.desc).map (fun d => d.parameters.length) = some 2 := by decide +kernel
theorem m_CO_X8_emptyEntry : Cond.code yX8_emptyEntry cX8_emptyEntry 3 (some .int) ∈ W0 := wT4 106 rfl rfl
theorem m_IM_X8_emptyEntry : Cond.instanceMethod yX8_emptyEntry ∈ W0 := wT4 105 rfl rfl
theorem m_SE_X8_emptyEntry : Cond.selects RX8 yX8_emptyEntry yX8_emptyEntry ∈ W0 := wS2 13 31 rfl rfl
abbrev wzX8_emptyEntry : List Cond := .code yX8_emptyEntry cX8_emptyEntry 3 (some .int) :: W0
theorem hd_X8_emptyEntry : yX8_emptyEntry.cls = RX8 ∧ yX8_emptyEntry.cls ≠ "java/lang/invoke/MethodHandle" ∧ yX8_emptyEntry.cls ≠ "java/lang/invoke/VarHandle" ∧ (parseMethodDescriptor yX8_emptyEntry.desc).map (fun d => d.parameters.length) = some 0 := by decide +kernel
theorem m_CO_X8_end : Cond.code yX8_end cX8_end 2 (some .int) ∈ W0 := wT4 1 rfl rfl
theorem m_IM_X8_end : Cond.instanceMethod yX8_end ∈ W0 := wT3 239 rfl rfl
theorem m_SE_X8_end : Cond.selects RX8 yX8_end yX8_end ∈ W0 := wT4 0 rfl rfl
abbrev wzX8_end : List Cond := .code yX8_end cX8_end 2 (some .int) :: W0
theorem hd_X8_end : yX8_end.cls = RX8 ∧ yX8_end.cls ≠ "java/lang/invoke/MethodHandle" ∧ yX8_end.cls ≠ "java/lang/invoke/VarHandle" ∧ (parseMethodDescriptor yX8_end.desc).map (fun d => d.parameters.length) = some 1 := by decide +kernel
theorem m_CO_X8_ends : Cond.code yX8_ends cX8_ends 4 (some .int) ∈ W0 := wT4 48 rfl rfl
theorem m_IM_X8_ends : Cond.instanceMethod yX8_ends ∈ W0 := wT4 47 rfl rfl
theorem m_SE_X8_ends : Cond.selects RX8 yX8_ends yX8_ends ∈ W0 := wS2 2 31 rfl rfl
abbrev wzX8_ends : List Cond := .code yX8_ends cX8_ends 4 (some .int) :: W0
theorem hd_X8_ends : yX8_ends.cls = RX8 ∧ yX8_ends.cls ≠ "java/lang/invoke/MethodHandle" ∧ yX8_ends.cls ≠ "java/lang/invoke/VarHandle" ∧ (parseMethodDescriptor yX8_ends.desc).map (fun d => d.parameters.length) = some 3 := by decide +kernel
theorem m_CO_X8_feed : Cond.code yX8_feed cX8_feed 8 (some .int) ∈ W0 := wT3 237 rfl rfl
theorem m_IM_X8_feed : Cond.instanceMethod yX8_feed ∈ W0 := wT3 235 rfl rfl
theorem m_SE_X8_feed : Cond.selects RX8 yX8_feed yX8_feed ∈ W0 := wT3 236 rfl rfl
abbrev wzX8_feed : List Cond := .code yX8_feed cX8_feed 8 (some .int) :: W0
theorem hd_X8_feed : yX8_feed.cls = RX8 ∧ yX8_feed.cls ≠ "java/lang/invoke/MethodHandle" ∧ yX8_feed.cls ≠ "java/lang/invoke/VarHandle" ∧ (parseMethodDescriptor yX8_feed.desc).map (fun d => d.parameters.length) = some 5 := by decide +kernel
theorem m_CO_X8_findSyncs : Cond.code yX8_findSyncs cX8_findSyncs 6 none ∈ W0 := wT4 76 rfl rfl
theorem m_IM_X8_findSyncs : Cond.instanceMethod yX8_findSyncs ∈ W0 := wT4 75 rfl rfl
theorem m_SE_X8_findSyncs : Cond.selects RX8 yX8_findSyncs yX8_findSyncs ∈ W0 := wS2 7 31 rfl rfl
abbrev wzX8_findSyncs : List Cond := .code yX8_findSyncs cX8_findSyncs 6 none :: W0
theorem hd_X8_findSyncs : yX8_findSyncs.cls = RX8 ∧ yX8_findSyncs.cls ≠ "java/lang/invoke/MethodHandle" ∧ yX8_findSyncs.cls ≠ "java/lang/invoke/VarHandle" ∧ (parseMethodDescriptor yX8_findSyncs.desc).map (fun d => d.parameters.length) = some 1 := by decide +kernel
theorem m_CO_X8_format : Cond.code yX8_format cX8_format 7 (some .int) ∈ W0 := wT4 8 rfl rfl
theorem m_IM_X8_format : Cond.instanceMethod yX8_format ∈ W0 := wT4 6 rfl rfl
theorem m_SE_X8_format : Cond.selects RX8 yX8_format yX8_format ∈ W0 := wT4 7 rfl rfl
abbrev wzX8_format : List Cond := .code yX8_format cX8_format 7 (some .int) :: W0
theorem hd_X8_format : yX8_format.cls = RX8 ∧ yX8_format.cls ≠ "java/lang/invoke/MethodHandle" ∧ yX8_format.cls ≠ "java/lang/invoke/VarHandle" ∧ (parseMethodDescriptor yX8_format.desc).map (fun d => d.parameters.length) = some 3 := by decide +kernel
theorem m_CO_X8_freeOfDirectory : Cond.code yX8_freeOfDirectory cX8_freeOfDirectory 3 (some .int) ∈ W0 := wT4 110 rfl rfl
theorem m_IM_X8_freeOfDirectory : Cond.instanceMethod yX8_freeOfDirectory ∈ W0 := wT4 109 rfl rfl
theorem m_SE_X8_freeOfDirectory : Cond.selects RX8 yX8_freeOfDirectory yX8_freeOfDirectory ∈ W0 := wS2 14 31 rfl rfl
abbrev wzX8_freeOfDirectory : List Cond := .code yX8_freeOfDirectory cX8_freeOfDirectory 3 (some .int) :: W0
theorem hd_X8_freeOfDirectory : yX8_freeOfDirectory.cls = RX8 ∧ yX8_freeOfDirectory.cls ≠ "java/lang/invoke/MethodHandle" ∧ yX8_freeOfDirectory.cls ≠ "java/lang/invoke/VarHandle" ∧ (parseMethodDescriptor yX8_freeOfDirectory.desc).map (fun d => d.parameters.length) = some 0 := by decide +kernel
theorem m_CO_X8_hasName : Cond.code yX8_hasName cX8_hasName 6 (some .boolean) ∈ W0 := wT4 96 rfl rfl
theorem m_IM_X8_hasName : Cond.instanceMethod yX8_hasName ∈ W0 := wT4 95 rfl rfl
theorem m_SE_X8_hasName : Cond.selects RX8 yX8_hasName yX8_hasName ∈ W0 := wS2 12 31 rfl rfl
abbrev wzX8_hasName : List Cond := .code yX8_hasName cX8_hasName 6 (some .boolean) :: W0
theorem hd_X8_hasName : yX8_hasName.cls = RX8 ∧ yX8_hasName.cls ≠ "java/lang/invoke/MethodHandle" ∧ yX8_hasName.cls ≠ "java/lang/invoke/VarHandle" ∧ (parseMethodDescriptor yX8_hasName.desc).map (fun d => d.parameters.length) = some 3 := by decide +kernel
theorem m_CO_X8_info : Cond.code yX8_info cX8_info 4 (some .int) ∈ W0 := wT4 162 rfl rfl
theorem m_IM_X8_info : Cond.instanceMethod yX8_info ∈ W0 := wT4 160 rfl rfl
theorem m_SE_X8_info : Cond.selects RX8 yX8_info yX8_info ∈ W0 := wT4 161 rfl rfl
abbrev wzX8_info : List Cond := .code yX8_info cX8_info 4 (some .int) :: W0
theorem hd_X8_info : yX8_info.cls = RX8 ∧ yX8_info.cls ≠ "java/lang/invoke/MethodHandle" ∧ yX8_info.cls ≠ "java/lang/invoke/VarHandle" ∧ (parseMethodDescriptor yX8_info.desc).map (fun d => d.parameters.length) = some 0 := by decide +kernel
theorem m_CO_X8_init : Cond.code yX8_init cX8_init 2 none ∈ W0 := wT3 132 rfl rfl
theorem m_IM_X8_init : Cond.instanceMethod yX8_init ∈ W0 := wT3 131 rfl rfl
abbrev wzX8_init : List Cond := .code yX8_init cX8_init 2 none :: W0
theorem hd_X8_init : yX8_init.cls = RX8 ∧ yX8_init.cls ≠ "java/lang/invoke/MethodHandle" ∧ yX8_init.cls ≠ "java/lang/invoke/VarHandle" ∧ (parseMethodDescriptor yX8_init.desc).map (fun d => d.parameters.length) = some 0 := by decide +kernel
theorem m_CO_X8_isBlock : Cond.code yX8_isBlock cX8_isBlock 2 (some .boolean) ∈ W0 := wT4 99 rfl rfl
theorem m_ST_X8_isBlock : Cond.static yX8_isBlock ∈ W0 := wT4 98 rfl rfl
abbrev wzX8_isBlock : List Cond := .code yX8_isBlock cX8_isBlock 2 (some .boolean) :: W0
theorem hd_X8_isBlock : yX8_isBlock.cls = RX8 ∧ yX8_isBlock.cls ≠ "java/lang/invoke/MethodHandle" ∧ yX8_isBlock.cls ≠ "java/lang/invoke/VarHandle" ∧ (parseMethodDescriptor yX8_isBlock.desc).map (fun d => d.parameters.length) = some 2 := by decide +kernel
theorem m_CO_X8_isByte : Cond.code yX8_isByte cX8_isByte 2 (some .boolean) ∈ W0 := wT4 177 rfl rfl
theorem m_ST_X8_isByte : Cond.static yX8_isByte ∈ W0 := wT4 176 rfl rfl
abbrev wzX8_isByte : List Cond := .code yX8_isByte cX8_isByte 2 (some .boolean) :: W0
theorem hd_X8_isByte : yX8_isByte.cls = RX8 ∧ yX8_isByte.cls ≠ "java/lang/invoke/MethodHandle" ∧ yX8_isByte.cls ≠ "java/lang/invoke/VarHandle" ∧ (parseMethodDescriptor yX8_isByte.desc).map (fun d => d.parameters.length) = some 2 := by decide +kernel
theorem m_CO_X8_isFree : Cond.code yX8_isFree cX8_isFree 3 (some .boolean) ∈ W0 := wT4 114 rfl rfl
theorem m_IM_X8_isFree : Cond.instanceMethod yX8_isFree ∈ W0 := wT4 113 rfl rfl
theorem m_SE_X8_isFree : Cond.selects RX8 yX8_isFree yX8_isFree ∈ W0 := wS2 15 31 rfl rfl
abbrev wzX8_isFree : List Cond := .code yX8_isFree cX8_isFree 3 (some .boolean) :: W0
theorem hd_X8_isFree : yX8_isFree.cls = RX8 ∧ yX8_isFree.cls ≠ "java/lang/invoke/MethodHandle" ∧ yX8_isFree.cls ≠ "java/lang/invoke/VarHandle" ∧ (parseMethodDescriptor yX8_isFree.desc).map (fun d => d.parameters.length) = some 2 := by decide +kernel
theorem m_CO_X8_isHeaderOf : Cond.code yX8_isHeaderOf cX8_isHeaderOf 6 (some .boolean) ∈ W0 := wT4 80 rfl rfl
theorem m_IM_X8_isHeaderOf : Cond.instanceMethod yX8_isHeaderOf ∈ W0 := wT4 79 rfl rfl
theorem m_SE_X8_isHeaderOf : Cond.selects RX8 yX8_isHeaderOf yX8_isHeaderOf ∈ W0 := wS2 8 31 rfl rfl
abbrev wzX8_isHeaderOf : List Cond := .code yX8_isHeaderOf cX8_isHeaderOf 6 (some .boolean) :: W0
theorem hd_X8_isHeaderOf : yX8_isHeaderOf.cls = RX8 ∧ yX8_isHeaderOf.cls ≠ "java/lang/invoke/MethodHandle" ∧ yX8_isHeaderOf.cls ≠ "java/lang/invoke/VarHandle" ∧ (parseMethodDescriptor yX8_isHeaderOf.desc).map (fun d => d.parameters.length) = some 3 := by decide +kernel
theorem m_CO_X8_isIn : Cond.code yX8_isIn cX8_isIn 3 (some .boolean) ∈ W0 := wT4 4 rfl rfl
theorem m_ST_X8_isIn : Cond.static yX8_isIn ∈ W0 := wT4 3 rfl rfl
abbrev wzX8_isIn : List Cond := .code yX8_isIn cX8_isIn 3 (some .boolean) :: W0
theorem hd_X8_isIn : yX8_isIn.cls = RX8 ∧ yX8_isIn.cls ≠ "java/lang/invoke/MethodHandle" ∧ yX8_isIn.cls ≠ "java/lang/invoke/VarHandle" ∧ (parseMethodDescriptor yX8_isIn.desc).map (fun d => d.parameters.length) = some 3 := by decide +kernel
theorem m_CO_X8_isTrack : Cond.code yX8_isTrack cX8_isTrack 1 (some .boolean) ∈ W0 := wT4 102 rfl rfl
theorem m_ST_X8_isTrack : Cond.static yX8_isTrack ∈ W0 := wT4 101 rfl rfl
abbrev wzX8_isTrack : List Cond := .code yX8_isTrack cX8_isTrack 1 (some .boolean) :: W0
theorem hd_X8_isTrack : yX8_isTrack.cls = RX8 ∧ yX8_isTrack.cls ≠ "java/lang/invoke/MethodHandle" ∧ yX8_isTrack.cls ≠ "java/lang/invoke/VarHandle" ∧ (parseMethodDescriptor yX8_isTrack.desc).map (fun d => d.parameters.length) = some 1 := by decide +kernel
theorem m_CO_X8_lengthOf : Cond.code yX8_lengthOf cX8_lengthOf 1 (some .int) ∈ W0 := wT4 33 rfl rfl
theorem m_ST_X8_lengthOf : Cond.static yX8_lengthOf ∈ W0 := wT4 32 rfl rfl
abbrev wzX8_lengthOf : List Cond := .code yX8_lengthOf cX8_lengthOf 1 (some .int) :: W0
theorem hd_X8_lengthOf : yX8_lengthOf.cls = RX8 ∧ yX8_lengthOf.cls ≠ "java/lang/invoke/MethodHandle" ∧ yX8_lengthOf.cls ≠ "java/lang/invoke/VarHandle" ∧ (parseMethodDescriptor yX8_lengthOf.desc).map (fun d => d.parameters.length) = some 1 := by decide +kernel
theorem m_CO_X8_list : Cond.code yX8_list cX8_list 4 (some .int) ∈ W0 := wT4 158 rfl rfl
theorem m_IM_X8_list : Cond.instanceMethod yX8_list ∈ W0 := wT4 156 rfl rfl
theorem m_SE_X8_list : Cond.selects RX8 yX8_list yX8_list ∈ W0 := wT4 157 rfl rfl
abbrev wzX8_list : List Cond := .code yX8_list cX8_list 4 (some .int) :: W0
theorem hd_X8_list : yX8_list.cls = RX8 ∧ yX8_list.cls ≠ "java/lang/invoke/MethodHandle" ∧ yX8_list.cls ≠ "java/lang/invoke/VarHandle" ∧ (parseMethodDescriptor yX8_list.desc).map (fun d => d.parameters.length) = some 0 := by decide +kernel
theorem m_CO_X8_load : Cond.code yX8_load cX8_load 3 (some .int) ∈ W0 := wT4 138 rfl rfl
theorem m_IM_X8_load : Cond.instanceMethod yX8_load ∈ W0 := wT4 136 rfl rfl
theorem m_SE_X8_load : Cond.selects RX8 yX8_load yX8_load ∈ W0 := wT4 137 rfl rfl
abbrev wzX8_load : List Cond := .code yX8_load cX8_load 3 (some .int) :: W0
theorem hd_X8_load : yX8_load.cls = RX8 ∧ yX8_load.cls ≠ "java/lang/invoke/MethodHandle" ∧ yX8_load.cls ≠ "java/lang/invoke/VarHandle" ∧ (parseMethodDescriptor yX8_load.desc).map (fun d => d.parameters.length) = some 2 := by decide +kernel
theorem m_CO_X8_mount : Cond.code yX8_mount cX8_mount 2 (some .int) ∈ W0 := wT4 52 rfl rfl
theorem m_IM_X8_mount : Cond.instanceMethod yX8_mount ∈ W0 := wT4 50 rfl rfl
theorem m_SE_X8_mount : Cond.selects RX8 yX8_mount yX8_mount ∈ W0 := wT4 51 rfl rfl
abbrev wzX8_mount : List Cond := .code yX8_mount cX8_mount 2 (some .int) :: W0
theorem hd_X8_mount : yX8_mount.cls = RX8 ∧ yX8_mount.cls ≠ "java/lang/invoke/MethodHandle" ∧ yX8_mount.cls ≠ "java/lang/invoke/VarHandle" ∧ (parseMethodDescriptor yX8_mount.desc).map (fun d => d.parameters.length) = some 1 := by decide +kernel
theorem m_CO_X8_nameByte : Cond.code yX8_nameByte cX8_nameByte 3 (some .int) ∈ W0 := wT4 19 rfl rfl
theorem m_ST_X8_nameByte : Cond.static yX8_nameByte ∈ W0 := wT4 18 rfl rfl
abbrev wzX8_nameByte : List Cond := .code yX8_nameByte cX8_nameByte 3 (some .int) :: W0
theorem hd_X8_nameByte : yX8_nameByte.cls = RX8 ∧ yX8_nameByte.cls ≠ "java/lang/invoke/MethodHandle" ∧ yX8_nameByte.cls ≠ "java/lang/invoke/VarHandle" ∧ (parseMethodDescriptor yX8_nameByte.desc).map (fun d => d.parameters.length) = some 3 := by decide +kernel
theorem m_CO_X8_out : Cond.code yX8_out cX8_out 2 (some .int) ∈ W0 := wT4 166 rfl rfl
theorem m_IM_X8_out : Cond.instanceMethod yX8_out ∈ W0 := wT4 164 rfl rfl
theorem m_SE_X8_out : Cond.selects RX8 yX8_out yX8_out ∈ W0 := wT4 165 rfl rfl
abbrev wzX8_out : List Cond := .code yX8_out cX8_out 2 (some .int) :: W0
theorem hd_X8_out : yX8_out.cls = RX8 ∧ yX8_out.cls ≠ "java/lang/invoke/MethodHandle" ∧ yX8_out.cls ≠ "java/lang/invoke/VarHandle" ∧ (parseMethodDescriptor yX8_out.desc).map (fun d => d.parameters.length) = some 1 := by decide +kernel
theorem m_CO_X8_peek : Cond.code yX8_peek cX8_peek 3 (some .int) ∈ W0 := wT4 174 rfl rfl
theorem m_IM_X8_peek : Cond.instanceMethod yX8_peek ∈ W0 := wT4 172 rfl rfl
theorem m_SE_X8_peek : Cond.selects RX8 yX8_peek yX8_peek ∈ W0 := wT4 173 rfl rfl
abbrev wzX8_peek : List Cond := .code yX8_peek cX8_peek 3 (some .int) :: W0
theorem hd_X8_peek : yX8_peek.cls = RX8 ∧ yX8_peek.cls ≠ "java/lang/invoke/MethodHandle" ∧ yX8_peek.cls ≠ "java/lang/invoke/VarHandle" ∧ (parseMethodDescriptor yX8_peek.desc).map (fun d => d.parameters.length) = some 2 := by decide +kernel
theorem m_CO_X8_poke : Cond.code yX8_poke cX8_poke 5 (some .int) ∈ W0 := wT4 185 rfl rfl
theorem m_IM_X8_poke : Cond.instanceMethod yX8_poke ∈ W0 := wT4 183 rfl rfl
theorem m_SE_X8_poke : Cond.selects RX8 yX8_poke yX8_poke ∈ W0 := wT4 184 rfl rfl
abbrev wzX8_poke : List Cond := .code yX8_poke cX8_poke 5 (some .int) :: W0
theorem hd_X8_poke : yX8_poke.cls = RX8 ∧ yX8_poke.cls ≠ "java/lang/invoke/MethodHandle" ∧ yX8_poke.cls ≠ "java/lang/invoke/VarHandle" ∧ (parseMethodDescriptor yX8_poke.desc).map (fun d => d.parameters.length) = some 3 := by decide +kernel
theorem m_CO_X8_putBits : Cond.code yX8_putBits cX8_putBits 6 none ∈ W0 := wT4 27 rfl rfl
theorem m_IM_X8_putBits : Cond.instanceMethod yX8_putBits ∈ W0 := wT4 26 rfl rfl
theorem m_SE_X8_putBits : Cond.selects RX8 yX8_putBits yX8_putBits ∈ W0 := wS1 15 31 rfl rfl
abbrev wzX8_putBits : List Cond := .code yX8_putBits cX8_putBits 6 none :: W0
theorem hd_X8_putBits : yX8_putBits.cls = RX8 ∧ yX8_putBits.cls ≠ "java/lang/invoke/MethodHandle" ∧ yX8_putBits.cls ≠ "java/lang/invoke/VarHandle" ∧ (parseMethodDescriptor yX8_putBits.desc).map (fun d => d.parameters.length) = some 2 := by decide +kernel
theorem m_CO_X8_putCoded : Cond.code yX8_putCoded cX8_putCoded 2 none ∈ W0 := wT4 40 rfl rfl
theorem m_IM_X8_putCoded : Cond.instanceMethod yX8_putCoded ∈ W0 := wT4 39 rfl rfl
theorem m_SE_X8_putCoded : Cond.selects RX8 yX8_putCoded yX8_putCoded ∈ W0 := wS2 0 31 rfl rfl
abbrev wzX8_putCoded : List Cond := .code yX8_putCoded cX8_putCoded 2 none :: W0
theorem hd_X8_putCoded : yX8_putCoded.cls = RX8 ∧ yX8_putCoded.cls ≠ "java/lang/invoke/MethodHandle" ∧ yX8_putCoded.cls ≠ "java/lang/invoke/VarHandle" ∧ (parseMethodDescriptor yX8_putCoded.desc).map (fun d => d.parameters.length) = some 1 := by decide +kernel
theorem m_CO_X8_putData : Cond.code yX8_putData cX8_putData 3 none ∈ W0 := wT4 44 rfl rfl
theorem m_IM_X8_putData : Cond.instanceMethod yX8_putData ∈ W0 := wT4 43 rfl rfl
theorem m_SE_X8_putData : Cond.selects RX8 yX8_putData yX8_putData ∈ W0 := wS2 1 31 rfl rfl
abbrev wzX8_putData : List Cond := .code yX8_putData cX8_putData 3 none :: W0
theorem hd_X8_putData : yX8_putData.cls = RX8 ∧ yX8_putData.cls ≠ "java/lang/invoke/MethodHandle" ∧ yX8_putData.cls ≠ "java/lang/invoke/VarHandle" ∧ (parseMethodDescriptor yX8_putData.desc).map (fun d => d.parameters.length) = some 0 := by decide +kernel
theorem m_CO_X8_putSync : Cond.code yX8_putSync cX8_putSync 1 none ∈ W0 := wT4 23 rfl rfl
theorem m_IM_X8_putSync : Cond.instanceMethod yX8_putSync ∈ W0 := wT4 22 rfl rfl
theorem m_SE_X8_putSync : Cond.selects RX8 yX8_putSync yX8_putSync ∈ W0 := wS1 14 31 rfl rfl
abbrev wzX8_putSync : List Cond := .code yX8_putSync cX8_putSync 1 none :: W0
theorem hd_X8_putSync : yX8_putSync.cls = RX8 ∧ yX8_putSync.cls ≠ "java/lang/invoke/MethodHandle" ∧ yX8_putSync.cls ≠ "java/lang/invoke/VarHandle" ∧ (parseMethodDescriptor yX8_putSync.desc).map (fun d => d.parameters.length) = some 0 := by decide +kernel
theorem m_CO_X8_read : Cond.code yX8_read cX8_read 5 (some .int) ∈ W0 := wT4 205 rfl rfl
theorem m_IM_X8_read : Cond.instanceMethod yX8_read ∈ W0 := wT4 203 rfl rfl
theorem m_SE_X8_read : Cond.selects RX8 yX8_read yX8_read ∈ W0 := wT4 204 rfl rfl
abbrev wzX8_read : List Cond := .code yX8_read cX8_read 5 (some .int) :: W0
theorem hd_X8_read : yX8_read.cls = RX8 ∧ yX8_read.cls ≠ "java/lang/invoke/MethodHandle" ∧ yX8_read.cls ≠ "java/lang/invoke/VarHandle" ∧ (parseMethodDescriptor yX8_read.desc).map (fun d => d.parameters.length) = some 2 := by decide +kernel
theorem m_CO_X8_readBlock : Cond.code yX8_readBlock cX8_readBlock 4 (some .int) ∈ W0 := wT4 68 rfl rfl
theorem m_IM_X8_readBlock : Cond.instanceMethod yX8_readBlock ∈ W0 := wT4 67 rfl rfl
theorem m_SE_X8_readBlock : Cond.selects RX8 yX8_readBlock yX8_readBlock ∈ W0 := wS2 5 31 rfl rfl
abbrev wzX8_readBlock : List Cond := .code yX8_readBlock cX8_readBlock 4 (some .int) :: W0
theorem hd_X8_readBlock : yX8_readBlock.cls = RX8 ∧ yX8_readBlock.cls ≠ "java/lang/invoke/MethodHandle" ∧ yX8_readBlock.cls ≠ "java/lang/invoke/VarHandle" ∧ (parseMethodDescriptor yX8_readBlock.desc).map (fun d => d.parameters.length) = some 2 := by decide +kernel
theorem m_CO_X8_readDirectory : Cond.code yX8_readDirectory cX8_readDirectory 9 (some .boolean) ∈ W0 := wT4 92 rfl rfl
theorem m_IM_X8_readDirectory : Cond.instanceMethod yX8_readDirectory ∈ W0 := wT4 91 rfl rfl
theorem m_SE_X8_readDirectory : Cond.selects RX8 yX8_readDirectory yX8_readDirectory ∈ W0 := wS2 11 31 rfl rfl
abbrev wzX8_readDirectory : List Cond := .code yX8_readDirectory cX8_readDirectory 9 (some .boolean) :: W0
theorem hd_X8_readDirectory : yX8_readDirectory.cls = RX8 ∧ yX8_readDirectory.cls ≠ "java/lang/invoke/MethodHandle" ∧ yX8_readDirectory.cls ≠ "java/lang/invoke/VarHandle" ∧ (parseMethodDescriptor yX8_readDirectory.desc).map (fun d => d.parameters.length) = some 3 := by decide +kernel
theorem m_CO_X8_readFile : Cond.code yX8_readFile cX8_readFile 11 (some .boolean) ∈ W0 := wT4 142 rfl rfl
theorem m_IM_X8_readFile : Cond.instanceMethod yX8_readFile ∈ W0 := wT4 141 rfl rfl
theorem m_SE_X8_readFile : Cond.selects RX8 yX8_readFile yX8_readFile ∈ W0 := wS3 5 31 rfl rfl
abbrev wzX8_readFile : List Cond := .code yX8_readFile cX8_readFile 11 (some .boolean) :: W0
theorem hd_X8_readFile : yX8_readFile.cls = RX8 ∧ yX8_readFile.cls ≠ "java/lang/invoke/MethodHandle" ∧ yX8_readFile.cls ≠ "java/lang/invoke/VarHandle" ∧ (parseMethodDescriptor yX8_readFile.desc).map (fun d => d.parameters.length) = some 3 := by decide +kernel
theorem m_CO_X8_save : Cond.code yX8_save cX8_save 6 (some .int) ∈ W0 := wT4 56 rfl rfl
theorem m_IM_X8_save : Cond.instanceMethod yX8_save ∈ W0 := wT4 54 rfl rfl
theorem m_SE_X8_save : Cond.selects RX8 yX8_save yX8_save ∈ W0 := wT4 55 rfl rfl
abbrev wzX8_save : List Cond := .code yX8_save cX8_save 6 (some .int) :: W0
theorem hd_X8_save : yX8_save.cls = RX8 ∧ yX8_save.cls ≠ "java/lang/invoke/MethodHandle" ∧ yX8_save.cls ≠ "java/lang/invoke/VarHandle" ∧ (parseMethodDescriptor yX8_save.desc).map (fun d => d.parameters.length) = some 3 := by decide +kernel
theorem m_CO_X8_saves : Cond.code yX8_saves cX8_saves 10 (some .boolean) ∈ W0 := wT4 60 rfl rfl
theorem m_IM_X8_saves : Cond.instanceMethod yX8_saves ∈ W0 := wT4 59 rfl rfl
theorem m_SE_X8_saves : Cond.selects RX8 yX8_saves yX8_saves ∈ W0 := wS2 3 31 rfl rfl
abbrev wzX8_saves : List Cond := .code yX8_saves cX8_saves 10 (some .boolean) :: W0
theorem hd_X8_saves : yX8_saves.cls = RX8 ∧ yX8_saves.cls ≠ "java/lang/invoke/MethodHandle" ∧ yX8_saves.cls ≠ "java/lang/invoke/VarHandle" ∧ (parseMethodDescriptor yX8_saves.desc).map (fun d => d.parameters.length) = some 4 := by decide +kernel
theorem m_CO_X8_scratch : Cond.code yX8_scratch cX8_scratch 4 (some .int) ∈ W0 := wT4 150 rfl rfl
theorem m_IM_X8_scratch : Cond.instanceMethod yX8_scratch ∈ W0 := wT4 148 rfl rfl
theorem m_SE_X8_scratch : Cond.selects RX8 yX8_scratch yX8_scratch ∈ W0 := wT4 149 rfl rfl
abbrev wzX8_scratch : List Cond := .code yX8_scratch cX8_scratch 4 (some .int) :: W0
theorem hd_X8_scratch : yX8_scratch.cls = RX8 ∧ yX8_scratch.cls ≠ "java/lang/invoke/MethodHandle" ∧ yX8_scratch.cls ≠ "java/lang/invoke/VarHandle" ∧ (parseMethodDescriptor yX8_scratch.desc).map (fun d => d.parameters.length) = some 2 := by decide +kernel
theorem m_CO_X8_scratches : Cond.code yX8_scratches cX8_scratches 4 (some .boolean) ∈ W0 := wT4 154 rfl rfl
theorem m_IM_X8_scratches : Cond.instanceMethod yX8_scratches ∈ W0 := wT4 153 rfl rfl
theorem m_SE_X8_scratches : Cond.selects RX8 yX8_scratches yX8_scratches ∈ W0 := wS3 7 31 rfl rfl
abbrev wzX8_scratches : List Cond := .code yX8_scratches cX8_scratches 4 (some .boolean) :: W0
theorem hd_X8_scratches : yX8_scratches.cls = RX8 ∧ yX8_scratches.cls ≠ "java/lang/invoke/MethodHandle" ∧ yX8_scratches.cls ≠ "java/lang/invoke/VarHandle" ∧ (parseMethodDescriptor yX8_scratches.desc).map (fun d => d.parameters.length) = some 2 := by decide +kernel
theorem m_CO_X8_sectorsOf : Cond.code yX8_sectorsOf cX8_sectorsOf 1 (some .int) ∈ W0 := wT4 12 rfl rfl
theorem m_ST_X8_sectorsOf : Cond.static yX8_sectorsOf ∈ W0 := wT4 11 rfl rfl
abbrev wzX8_sectorsOf : List Cond := .code yX8_sectorsOf cX8_sectorsOf 1 (some .int) :: W0
theorem hd_X8_sectorsOf : yX8_sectorsOf.cls = RX8 ∧ yX8_sectorsOf.cls ≠ "java/lang/invoke/MethodHandle" ∧ yX8_sectorsOf.cls ≠ "java/lang/invoke/VarHandle" ∧ (parseMethodDescriptor yX8_sectorsOf.desc).map (fun d => d.parameters.length) = some 1 := by decide +kernel
theorem m_CO_X8_seek : Cond.code yX8_seek cX8_seek 6 (some .int) ∈ W0 := wT4 72 rfl rfl
theorem m_IM_X8_seek : Cond.instanceMethod yX8_seek ∈ W0 := wT4 71 rfl rfl
theorem m_SE_X8_seek : Cond.selects RX8 yX8_seek yX8_seek ∈ W0 := wS2 6 31 rfl rfl
abbrev wzX8_seek : List Cond := .code yX8_seek cX8_seek 6 (some .int) :: W0
theorem hd_X8_seek : yX8_seek.cls = RX8 ∧ yX8_seek.cls ≠ "java/lang/invoke/MethodHandle" ∧ yX8_seek.cls ≠ "java/lang/invoke/VarHandle" ∧ (parseMethodDescriptor yX8_seek.desc).map (fun d => d.parameters.length) = some 2 := by decide +kernel
theorem m_CO_X8_setByte : Cond.code yX8_setByte cX8_setByte 6 none ∈ W0 := wT4 189 rfl rfl
theorem m_IM_X8_setByte : Cond.instanceMethod yX8_setByte ∈ W0 := wT4 188 rfl rfl
theorem m_SE_X8_setByte : Cond.selects RX8 yX8_setByte yX8_setByte ∈ W0 := wS3 9 31 rfl rfl
abbrev wzX8_setByte : List Cond := .code yX8_setByte cX8_setByte 6 none :: W0
theorem hd_X8_setByte : yX8_setByte.cls = RX8 ∧ yX8_setByte.cls ≠ "java/lang/invoke/MethodHandle" ∧ yX8_setByte.cls ≠ "java/lang/invoke/VarHandle" ∧ (parseMethodDescriptor yX8_setByte.desc).map (fun d => d.parameters.length) = some 3 := by decide +kernel
theorem m_CO_X8_setCodes : Cond.code yX8_setCodes cX8_setCodes 6 none ∈ W0 := wT3 138 rfl rfl
theorem m_IM_X8_setCodes : Cond.instanceMethod yX8_setCodes ∈ W0 := wT3 137 rfl rfl
theorem m_SE_X8_setCodes : Cond.selects RX8 yX8_setCodes yX8_setCodes ∈ W0 := wS1 12 31 rfl rfl
abbrev wzX8_setCodes : List Cond := .code yX8_setCodes cX8_setCodes 6 none :: W0
theorem hd_X8_setCodes : yX8_setCodes.cls = RX8 ∧ yX8_setCodes.cls ≠ "java/lang/invoke/MethodHandle" ∧ yX8_setCodes.cls ≠ "java/lang/invoke/VarHandle" ∧ (parseMethodDescriptor yX8_setCodes.desc).map (fun d => d.parameters.length) = some 5 := by decide +kernel
theorem m_CO_X8_setFree : Cond.code yX8_setFree cX8_setFree 6 none ∈ W0 := wT4 16 rfl rfl
theorem m_IM_X8_setFree : Cond.instanceMethod yX8_setFree ∈ W0 := wT4 15 rfl rfl
theorem m_SE_X8_setFree : Cond.selects RX8 yX8_setFree yX8_setFree ∈ W0 := wS1 13 31 rfl rfl
abbrev wzX8_setFree : List Cond := .code yX8_setFree cX8_setFree 6 none :: W0
theorem hd_X8_setFree : yX8_setFree.cls = RX8 ∧ yX8_setFree.cls ≠ "java/lang/invoke/MethodHandle" ∧ yX8_setFree.cls ≠ "java/lang/invoke/VarHandle" ∧ (parseMethodDescriptor yX8_setFree.desc).map (fun d => d.parameters.length) = some 3 := by decide +kernel
theorem m_CO_X8_stamp : Cond.code yX8_stamp cX8_stamp 5 (some .int) ∈ W0 := wT4 193 rfl rfl
theorem m_IM_X8_stamp : Cond.instanceMethod yX8_stamp ∈ W0 := wT4 191 rfl rfl
theorem m_SE_X8_stamp : Cond.selects RX8 yX8_stamp yX8_stamp ∈ W0 := wT4 192 rfl rfl
abbrev wzX8_stamp : List Cond := .code yX8_stamp cX8_stamp 5 (some .int) :: W0
theorem hd_X8_stamp : yX8_stamp.cls = RX8 ∧ yX8_stamp.cls ≠ "java/lang/invoke/MethodHandle" ∧ yX8_stamp.cls ≠ "java/lang/invoke/VarHandle" ∧ (parseMethodDescriptor yX8_stamp.desc).map (fun d => d.parameters.length) = some 3 := by decide +kernel
theorem m_CO_X8_startOf : Cond.code yX8_startOf cX8_startOf 3 (some .int) ∈ W0 := wT4 30 rfl rfl
theorem m_ST_X8_startOf : Cond.static yX8_startOf ∈ W0 := wT4 29 rfl rfl
abbrev wzX8_startOf : List Cond := .code yX8_startOf cX8_startOf 3 (some .int) :: W0
theorem hd_X8_startOf : yX8_startOf.cls = RX8 ∧ yX8_startOf.cls ≠ "java/lang/invoke/MethodHandle" ∧ yX8_startOf.cls ≠ "java/lang/invoke/VarHandle" ∧ (parseMethodDescriptor yX8_startOf.desc).map (fun d => d.parameters.length) = some 1 := by decide +kernel
theorem m_CO_X8_status : Cond.code yX8_status cX8_status 2 (some .int) ∈ W0 := wT4 170 rfl rfl
theorem m_IM_X8_status : Cond.instanceMethod yX8_status ∈ W0 := wT4 168 rfl rfl
theorem m_SE_X8_status : Cond.selects RX8 yX8_status yX8_status ∈ W0 := wT4 169 rfl rfl
abbrev wzX8_status : List Cond := .code yX8_status cX8_status 2 (some .int) :: W0
theorem hd_X8_status : yX8_status.cls = RX8 ∧ yX8_status.cls ≠ "java/lang/invoke/MethodHandle" ∧ yX8_status.cls ≠ "java/lang/invoke/VarHandle" ∧ (parseMethodDescriptor yX8_status.desc).map (fun d => d.parameters.length) = some 1 := by decide +kernel
theorem m_CO_X8_syncs : Cond.code yX8_syncs cX8_syncs 2 (some .int) ∈ W0 := wT4 201 rfl rfl
theorem m_IM_X8_syncs : Cond.instanceMethod yX8_syncs ∈ W0 := wT4 199 rfl rfl
theorem m_SE_X8_syncs : Cond.selects RX8 yX8_syncs yX8_syncs ∈ W0 := wT4 200 rfl rfl
abbrev wzX8_syncs : List Cond := .code yX8_syncs cX8_syncs 2 (some .int) :: W0
theorem hd_X8_syncs : yX8_syncs.cls = RX8 ∧ yX8_syncs.cls ≠ "java/lang/invoke/MethodHandle" ∧ yX8_syncs.cls ≠ "java/lang/invoke/VarHandle" ∧ (parseMethodDescriptor yX8_syncs.desc).map (fun d => d.parameters.length) = some 1 := by decide +kernel
theorem m_CO_X8_takes : Cond.code yX8_takes cX8_takes 5 (some .boolean) ∈ W0 := wT4 118 rfl rfl
theorem m_IM_X8_takes : Cond.instanceMethod yX8_takes ∈ W0 := wT4 117 rfl rfl
theorem m_SE_X8_takes : Cond.selects RX8 yX8_takes yX8_takes ∈ W0 := wS3 0 31 rfl rfl
abbrev wzX8_takes : List Cond := .code yX8_takes cX8_takes 5 (some .boolean) :: W0
theorem hd_X8_takes : yX8_takes.cls = RX8 ∧ yX8_takes.cls ≠ "java/lang/invoke/MethodHandle" ∧ yX8_takes.cls ≠ "java/lang/invoke/VarHandle" ∧ (parseMethodDescriptor yX8_takes.desc).map (fun d => d.parameters.length) = some 1 := by decide +kernel
theorem m_CO_X8_tell : Cond.code yX8_tell cX8_tell 2 none ∈ W0 := wT4 146 rfl rfl
theorem m_IM_X8_tell : Cond.instanceMethod yX8_tell ∈ W0 := wT4 145 rfl rfl
theorem m_SE_X8_tell : Cond.selects RX8 yX8_tell yX8_tell ∈ W0 := wS3 6 31 rfl rfl
abbrev wzX8_tell : List Cond := .code yX8_tell cX8_tell 2 none :: W0
theorem hd_X8_tell : yX8_tell.cls = RX8 ∧ yX8_tell.cls ≠ "java/lang/invoke/MethodHandle" ∧ yX8_tell.cls ≠ "java/lang/invoke/VarHandle" ∧ (parseMethodDescriptor yX8_tell.desc).map (fun d => d.parameters.length) = some 1 := by decide +kernel
theorem m_CO_X8_turn : Cond.code yX8_turn cX8_turn 7 (some .int) ∈ W0 := wT4 197 rfl rfl
theorem m_IM_X8_turn : Cond.instanceMethod yX8_turn ∈ W0 := wT4 195 rfl rfl
theorem m_SE_X8_turn : Cond.selects RX8 yX8_turn yX8_turn ∈ W0 := wT4 196 rfl rfl
abbrev wzX8_turn : List Cond := .code yX8_turn cX8_turn 7 (some .int) :: W0
theorem hd_X8_turn : yX8_turn.cls = RX8 ∧ yX8_turn.cls ≠ "java/lang/invoke/MethodHandle" ∧ yX8_turn.cls ≠ "java/lang/invoke/VarHandle" ∧ (parseMethodDescriptor yX8_turn.desc).map (fun d => d.parameters.length) = some 2 := by decide +kernel
theorem m_CO_X8_write : Cond.code yX8_write cX8_write 5 (some .int) ∈ W0 := wT4 209 rfl rfl
theorem m_IM_X8_write : Cond.instanceMethod yX8_write ∈ W0 := wT4 207 rfl rfl
theorem m_SE_X8_write : Cond.selects RX8 yX8_write yX8_write ∈ W0 := wT4 208 rfl rfl
abbrev wzX8_write : List Cond := .code yX8_write cX8_write 5 (some .int) :: W0
theorem hd_X8_write : yX8_write.cls = RX8 ∧ yX8_write.cls ≠ "java/lang/invoke/MethodHandle" ∧ yX8_write.cls ≠ "java/lang/invoke/VarHandle" ∧ (parseMethodDescriptor yX8_write.desc).map (fun d => d.parameters.length) = some 2 := by decide +kernel
theorem m_CO_X8_writeBlock : Cond.code yX8_writeBlock cX8_writeBlock 4 (some .int) ∈ W0 := wT4 126 rfl rfl
theorem m_IM_X8_writeBlock : Cond.instanceMethod yX8_writeBlock ∈ W0 := wT4 125 rfl rfl
theorem m_SE_X8_writeBlock : Cond.selects RX8 yX8_writeBlock yX8_writeBlock ∈ W0 := wS3 2 31 rfl rfl
abbrev wzX8_writeBlock : List Cond := .code yX8_writeBlock cX8_writeBlock 4 (some .int) :: W0
theorem hd_X8_writeBlock : yX8_writeBlock.cls = RX8 ∧ yX8_writeBlock.cls ≠ "java/lang/invoke/MethodHandle" ∧ yX8_writeBlock.cls ≠ "java/lang/invoke/VarHandle" ∧ (parseMethodDescriptor yX8_writeBlock.desc).map (fun d => d.parameters.length) = some 2 := by decide +kernel
theorem m_CO_X8_writeDirectory : Cond.code yX8_writeDirectory cX8_writeDirectory 3 (some .boolean) ∈ W0 := wT4 130 rfl rfl
theorem m_IM_X8_writeDirectory : Cond.instanceMethod yX8_writeDirectory ∈ W0 := wT4 129 rfl rfl
theorem m_SE_X8_writeDirectory : Cond.selects RX8 yX8_writeDirectory yX8_writeDirectory ∈ W0 := wS3 3 31 rfl rfl
abbrev wzX8_writeDirectory : List Cond := .code yX8_writeDirectory cX8_writeDirectory 3 (some .boolean) :: W0
theorem hd_X8_writeDirectory : yX8_writeDirectory.cls = RX8 ∧ yX8_writeDirectory.cls ≠ "java/lang/invoke/MethodHandle" ∧ yX8_writeDirectory.cls ≠ "java/lang/invoke/VarHandle" ∧ (parseMethodDescriptor yX8_writeDirectory.desc).map (fun d => d.parameters.length) = some 1 := by decide +kernel
theorem m_CO_X8_writeFile : Cond.code yX8_writeFile cX8_writeFile 6 (some .boolean) ∈ W0 := wT4 122 rfl rfl
theorem m_IM_X8_writeFile : Cond.instanceMethod yX8_writeFile ∈ W0 := wT4 121 rfl rfl
theorem m_SE_X8_writeFile : Cond.selects RX8 yX8_writeFile yX8_writeFile ∈ W0 := wS3 1 31 rfl rfl
abbrev wzX8_writeFile : List Cond := .code yX8_writeFile cX8_writeFile 6 (some .boolean) :: W0
theorem hd_X8_writeFile : yX8_writeFile.cls = RX8 ∧ yX8_writeFile.cls ≠ "java/lang/invoke/MethodHandle" ∧ yX8_writeFile.cls ≠ "java/lang/invoke/VarHandle" ∧ (parseMethodDescriptor yX8_writeFile.desc).map (fun d => d.parameters.length) = some 1 := by decide +kernel
theorem m_CO_X8_writeMap : Cond.code yX8_writeMap cX8_writeMap 2 (some .boolean) ∈ W0 := wT4 134 rfl rfl
theorem m_IM_X8_writeMap : Cond.instanceMethod yX8_writeMap ∈ W0 := wT4 133 rfl rfl
theorem m_SE_X8_writeMap : Cond.selects RX8 yX8_writeMap yX8_writeMap ∈ W0 := wS3 4 31 rfl rfl
abbrev wzX8_writeMap : List Cond := .code yX8_writeMap cX8_writeMap 2 (some .boolean) :: W0
theorem hd_X8_writeMap : yX8_writeMap.cls = RX8 ∧ yX8_writeMap.cls ≠ "java/lang/invoke/MethodHandle" ∧ yX8_writeMap.cls ≠ "java/lang/invoke/VarHandle" ∧ (parseMethodDescriptor yX8_writeMap.desc).map (fun d => d.parameters.length) = some 0 := by decide +kernel
theorem m_native_cpy : Cond.native arraycopyName ∈ W0 := wT2 73 rfl rfl
theorem m_static_cpy : Cond.static arraycopyName ∈ W0 := wT2 72 rfl rfl
theorem m_ST_max : Cond.static Lib.Math.max.name ∈ W0 := wT1 56 rfl rfl
theorem m_CO_max : Cond.code Lib.Math.max.name Lib.Math.max.code 2 (some .int) ∈ W0 := wT1 57 rfl rfl
theorem m_CO_obj : Cond.code objectInit ⟨#[0xb1]⟩ 1 none ∈ W0 := wT1 19 rfl rfl
theorem ss_J9_floorMod_7cf53 : Cond.static yJ9_floorMod_7cf53 ∈ W0 ∧ Cond.initialized yJ9_floorMod_7cf53.cls ∈ W0 ∧ Cond.code yJ9_floorMod_7cf53 cJ9_floorMod_7cf53 3 (some .int) ∈ W0 := ⟨m_ST_J9_floorMod_7cf53, m_IN_J9, m_CO_J9_floorMod_7cf53⟩
theorem ss_J9_max_7cf53 : Cond.static yJ9_max_7cf53 ∈ W0 ∧ Cond.initialized yJ9_max_7cf53.cls ∈ W0 ∧ Cond.code yJ9_max_7cf53 cJ9_max_7cf53 2 (some .int) ∈ W0 := ⟨m_ST_J9_max_7cf53, m_IN_J9, m_CO_J9_max_7cf53⟩
theorem sv_X0_fetch : Cond.instanceMethod yX0_fetch ∈ W0 ∧ Cond.selects RX0 yX0_fetch yX0_fetch ∈ W0 ∧ Cond.initialized RX0 ∈ W0 ∧ Cond.code yX0_fetch cX0_fetch 5 (some .int) ∈ W0 := ⟨m_IM_X0_fetch, m_SE_X0_fetch, m_IN_X0, m_CO_X0_fetch⟩
theorem sv_X0_formatTrack : Cond.instanceMethod yX0_formatTrack ∈ W0 ∧ Cond.selects RX0 yX0_formatTrack yX0_formatTrack ∈ W0 ∧ Cond.initialized RX0 ∈ W0 ∧ Cond.code yX0_formatTrack cX0_formatTrack 5 none ∈ W0 := ⟨m_IM_X0_formatTrack, m_SE_X0_formatTrack, m_IN_X0, m_CO_X0_formatTrack⟩
theorem sv_X0_formatTracks : Cond.instanceMethod yX0_formatTracks ∈ W0 ∧ Cond.selects RX0 yX0_formatTracks yX0_formatTracks ∈ W0 ∧ Cond.initialized RX0 ∈ W0 ∧ Cond.code yX0_formatTracks cX0_formatTracks 3 none ∈ W0 := ⟨m_IM_X0_formatTracks, m_SE_X0_formatTracks, m_IN_X0, m_CO_X0_formatTracks⟩
theorem sv_X0_headerError : Cond.instanceMethod yX0_headerError ∈ W0 ∧ Cond.selects RX0 yX0_headerError yX0_headerError ∈ W0 ∧ Cond.initialized RX0 ∈ W0 ∧ Cond.code yX0_headerError cX0_headerError 8 (some .int) ∈ W0 := ⟨m_IM_X0_headerError, m_SE_X0_headerError, m_IN_X0, m_CO_X0_headerError⟩
theorem ss_X0_isBlock : Cond.static yX0_isBlock ∈ W0 ∧ Cond.initialized yX0_isBlock.cls ∈ W0 ∧ Cond.code yX0_isBlock cX0_isBlock 2 (some .boolean) ∈ W0 := ⟨m_ST_X0_isBlock, m_IN_X0, m_CO_X0_isBlock⟩
theorem sv_X0_layFormatted : Cond.instanceMethod yX0_layFormatted ∈ W0 ∧ Cond.selects RX0 yX0_layFormatted yX0_layFormatted ∈ W0 ∧ Cond.initialized RX0 ∈ W0 ∧ Cond.code yX0_layFormatted cX0_layFormatted 5 none ∈ W0 := ⟨m_IM_X0_layFormatted, m_SE_X0_layFormatted, m_IN_X0, m_CO_X0_layFormatted⟩
theorem sv_X0_readBlock : Cond.instanceMethod yX0_readBlock ∈ W0 ∧ Cond.selects RX0 yX0_readBlock yX0_readBlock ∈ W0 ∧ Cond.initialized RX0 ∈ W0 ∧ Cond.code yX0_readBlock cX0_readBlock 8 (some .int) ∈ W0 := ⟨m_IM_X0_readBlock, m_SE_X0_readBlock, m_IN_X0, m_CO_X0_readBlock⟩
theorem sv_X0_ringOf : Cond.instanceMethod yX0_ringOf ∈ W0 ∧ Cond.selects RX0 yX0_ringOf yX0_ringOf ∈ W0 ∧ Cond.initialized RX0 ∈ W0 ∧ Cond.code yX0_ringOf cX0_ringOf 2 (some (.object "BitDrive$Ring")) ∈ W0 := ⟨m_IM_X0_ringOf, m_SE_X0_ringOf, m_IN_X0, m_CO_X0_ringOf⟩
theorem ss_X0_sectorsOf : Cond.static yX0_sectorsOf ∈ W0 ∧ Cond.initialized yX0_sectorsOf.cls ∈ W0 ∧ Cond.code yX0_sectorsOf cX0_sectorsOf 1 (some .int) ∈ W0 := ⟨m_ST_X0_sectorsOf, m_IN_X0, m_CO_X0_sectorsOf⟩
theorem sv_X0_seek : Cond.instanceMethod yX0_seek ∈ W0 ∧ Cond.selects RX0 yX0_seek yX0_seek ∈ W0 ∧ Cond.initialized RX0 ∈ W0 ∧ Cond.code yX0_seek cX0_seek 7 (some .int) ∈ W0 := ⟨m_IM_X0_seek, m_SE_X0_seek, m_IN_X0, m_CO_X0_seek⟩
theorem sv_X0_store : Cond.instanceMethod yX0_store ∈ W0 ∧ Cond.selects RX0 yX0_store yX0_store ∈ W0 ∧ Cond.initialized RX0 ∈ W0 ∧ Cond.code yX0_store cX0_store 5 (some .int) ∈ W0 := ⟨m_IM_X0_store, m_SE_X0_store, m_IN_X0, m_CO_X0_store⟩
theorem sv_X0_writeBlock : Cond.instanceMethod yX0_writeBlock ∈ W0 ∧ Cond.selects RX0 yX0_writeBlock yX0_writeBlock ∈ W0 ∧ Cond.initialized RX0 ∈ W0 ∧ Cond.code yX0_writeBlock cX0_writeBlock 6 (some .int) ∈ W0 := ⟨m_IM_X0_writeBlock, m_SE_X0_writeBlock, m_IN_X0, m_CO_X0_writeBlock⟩
theorem sv_X1_add : Cond.instanceMethod yX1_add ∈ W0 ∧ Cond.selects RX1 yX1_add yX1_add ∈ W0 ∧ Cond.initialized RX1 ∈ W0 ∧ Cond.code yX1_add cX1_add 2 none ∈ W0 := ⟨m_IM_X1_add, m_SE_X1_add, m_IN_X1, m_CO_X1_add⟩
theorem sv_X1_addNumber : Cond.instanceMethod yX1_addNumber ∈ W0 ∧ Cond.selects RX1 yX1_addNumber yX1_addNumber ∈ W0 ∧ Cond.initialized RX1 ∈ W0 ∧ Cond.code yX1_addNumber cX1_addNumber 2 none ∈ W0 := ⟨m_IM_X1_addNumber, m_SE_X1_addNumber, m_IN_X1, m_CO_X1_addNumber⟩
theorem sv_X1_addRow : Cond.instanceMethod yX1_addRow ∈ W0 ∧ Cond.selects RX1 yX1_addRow yX1_addRow ∈ W0 ∧ Cond.initialized RX1 ∈ W0 ∧ Cond.code yX1_addRow cX1_addRow 5 none ∈ W0 := ⟨m_IM_X1_addRow, m_SE_X1_addRow, m_IN_X1, m_CO_X1_addRow⟩
theorem sv_X1_byteAt : Cond.instanceMethod yX1_byteAt ∈ W0 ∧ Cond.selects RX1 yX1_byteAt yX1_byteAt ∈ W0 ∧ Cond.initialized RX1 ∈ W0 ∧ Cond.code yX1_byteAt cX1_byteAt 2 (some .int) ∈ W0 := ⟨m_IM_X1_byteAt, m_SE_X1_byteAt, m_IN_X1, m_CO_X1_byteAt⟩
theorem sv_X2_addBlock : Cond.instanceMethod yX2_addBlock ∈ W0 ∧ Cond.selects RX2 yX2_addBlock yX2_addBlock ∈ W0 ∧ Cond.initialized RX2 ∈ W0 ∧ Cond.code yX2_addBlock cX2_addBlock 3 none ∈ W0 := ⟨m_IM_X2_addBlock, m_SE_X2_addBlock, m_IN_X2, m_CO_X2_addBlock⟩
theorem sv_X2_fillBlock : Cond.instanceMethod yX2_fillBlock ∈ W0 ∧ Cond.selects RX2 yX2_fillBlock yX2_fillBlock ∈ W0 ∧ Cond.initialized RX2 ∈ W0 ∧ Cond.code yX2_fillBlock cX2_fillBlock 6 none ∈ W0 := ⟨m_IM_X2_fillBlock, m_SE_X2_fillBlock, m_IN_X2, m_CO_X2_fillBlock⟩
theorem sv_X2_follow : Cond.instanceMethod yX2_follow ∈ W0 ∧ Cond.selects RX2 yX2_follow yX2_follow ∈ W0 ∧ Cond.initialized RX2 ∈ W0 ∧ Cond.code yX2_follow cX2_follow 8 (some .int) ∈ W0 := ⟨m_IM_X2_follow, m_SE_X2_follow, m_IN_X2, m_CO_X2_follow⟩
theorem sv_X2_release : Cond.instanceMethod yX2_release ∈ W0 ∧ Cond.selects RX2 yX2_release yX2_release ∈ W0 ∧ Cond.initialized RX2 ∈ W0 ∧ Cond.code yX2_release cX2_release 3 none ∈ W0 := ⟨m_IM_X2_release, m_SE_X2_release, m_IN_X2, m_CO_X2_release⟩
theorem sv_X2_store : Cond.instanceMethod yX2_store ∈ W0 ∧ Cond.selects RX2 yX2_store yX2_store ∈ W0 ∧ Cond.initialized RX2 ∈ W0 ∧ Cond.code yX2_store cX2_store 4 (some .int) ∈ W0 := ⟨m_IM_X2_store, m_SE_X2_store, m_IN_X2, m_CO_X2_store⟩
theorem sv_X2_take : Cond.instanceMethod yX2_take ∈ W0 ∧ Cond.selects RX2 yX2_take yX2_take ∈ W0 ∧ Cond.initialized RX2 ∈ W0 ∧ Cond.code yX2_take cX2_take 9 (some .boolean) ∈ W0 := ⟨m_IM_X2_take, m_SE_X2_take, m_IN_X2, m_CO_X2_take⟩
theorem sv_X3_addEntries : Cond.instanceMethod yX3_addEntries ∈ W0 ∧ Cond.selects RX3 yX3_addEntries yX3_addEntries ∈ W0 ∧ Cond.initialized RX3 ∈ W0 ∧ Cond.code yX3_addEntries cX3_addEntries 3 none ∈ W0 := ⟨m_IM_X3_addEntries, m_SE_X3_addEntries, m_IN_X3, m_CO_X3_addEntries⟩
theorem sv_X3_begin : Cond.instanceMethod yX3_begin ∈ W0 ∧ Cond.selects RX3 yX3_begin yX3_begin ∈ W0 ∧ Cond.initialized RX3 ∈ W0 ∧ Cond.code yX3_begin cX3_begin 1 (some .int) ∈ W0 := ⟨m_IM_X3_begin, m_SE_X3_begin, m_IN_X3, m_CO_X3_begin⟩
theorem sv_X3_findEntry : Cond.instanceMethod yX3_findEntry ∈ W0 ∧ Cond.selects RX3 yX3_findEntry yX3_findEntry ∈ W0 ∧ Cond.initialized RX3 ∈ W0 ∧ Cond.code yX3_findEntry cX3_findEntry 4 (some .boolean) ∈ W0 := ⟨m_IM_X3_findEntry, m_SE_X3_findEntry, m_IN_X3, m_CO_X3_findEntry⟩
theorem sv_X3_isLast : Cond.instanceMethod yX3_isLast ∈ W0 ∧ Cond.selects RX3 yX3_isLast yX3_isLast ∈ W0 ∧ Cond.initialized RX3 ∈ W0 ∧ Cond.code yX3_isLast cX3_isLast 1 (some .boolean) ∈ W0 := ⟨m_IM_X3_isLast, m_SE_X3_isLast, m_IN_X3, m_CO_X3_isLast⟩
theorem sv_X3_keepRoom : Cond.instanceMethod yX3_keepRoom ∈ W0 ∧ Cond.selects RX3 yX3_keepRoom yX3_keepRoom ∈ W0 ∧ Cond.initialized RX3 ∈ W0 ∧ Cond.code yX3_keepRoom cX3_keepRoom 2 none ∈ W0 := ⟨m_IM_X3_keepRoom, m_SE_X3_keepRoom, m_IN_X3, m_CO_X3_keepRoom⟩
theorem sv_X3_step : Cond.instanceMethod yX3_step ∈ W0 ∧ Cond.selects RX3 yX3_step yX3_step ∈ W0 ∧ Cond.initialized RX3 ∈ W0 ∧ Cond.code yX3_step cX3_step 1 (some .int) ∈ W0 := ⟨m_IM_X3_step, m_SE_X3_step, m_IN_X3, m_CO_X3_step⟩
theorem sv_X3_storeLink : Cond.instanceMethod yX3_storeLink ∈ W0 ∧ Cond.selects RX3 yX3_storeLink yX3_storeLink ∈ W0 ∧ Cond.initialized RX3 ∈ W0 ∧ Cond.code yX3_storeLink cX3_storeLink 1 (some .int) ∈ W0 := ⟨m_IM_X3_storeLink, m_SE_X3_storeLink, m_IN_X3, m_CO_X3_storeLink⟩
theorem sv_X3_storeWithoutEntry : Cond.instanceMethod yX3_storeWithoutEntry ∈ W0 ∧ Cond.selects RX3 yX3_storeWithoutEntry yX3_storeWithoutEntry ∈ W0 ∧ Cond.initialized RX3 ∈ W0 ∧ Cond.code yX3_storeWithoutEntry cX3_storeWithoutEntry 1 (some .int) ∈ W0 := ⟨m_IM_X3_storeWithoutEntry, m_SE_X3_storeWithoutEntry, m_IN_X3, m_CO_X3_storeWithoutEntry⟩
theorem sv_X3_takeEntry : Cond.instanceMethod yX3_takeEntry ∈ W0 ∧ Cond.selects RX3 yX3_takeEntry yX3_takeEntry ∈ W0 ∧ Cond.initialized RX3 ∈ W0 ∧ Cond.code yX3_takeEntry cX3_takeEntry 3 (some .boolean) ∈ W0 := ⟨m_IM_X3_takeEntry, m_SE_X3_takeEntry, m_IN_X3, m_CO_X3_takeEntry⟩
theorem sv_X4_fillNew : Cond.instanceMethod yX4_fillNew ∈ W0 ∧ Cond.selects RX4 yX4_fillNew yX4_fillNew ∈ W0 ∧ Cond.initialized RX4 ∈ W0 ∧ Cond.code yX4_fillNew cX4_fillNew 7 none ∈ W0 := ⟨m_IM_X4_fillNew, m_SE_X4_fillNew, m_IN_X4, m_CO_X4_fillNew⟩
theorem sv_X4_freeBlocks : Cond.instanceMethod yX4_freeBlocks ∈ W0 ∧ Cond.selects RX4 yX4_freeBlocks yX4_freeBlocks ∈ W0 ∧ Cond.initialized RX4 ∈ W0 ∧ Cond.code yX4_freeBlocks cX4_freeBlocks 8 (some .int) ∈ W0 := ⟨m_IM_X4_freeBlocks, m_SE_X4_freeBlocks, m_IN_X4, m_CO_X4_freeBlocks⟩
theorem sv_X4_isFree : Cond.instanceMethod yX4_isFree ∈ W0 ∧ Cond.selects RX4 yX4_isFree yX4_isFree ∈ W0 ∧ Cond.initialized RX4 ∈ W0 ∧ Cond.code yX4_isFree cX4_isFree 3 (some .boolean) ∈ W0 := ⟨m_IM_X4_isFree, m_SE_X4_isFree, m_IN_X4, m_CO_X4_isFree⟩
theorem sv_X4_leastFree : Cond.instanceMethod yX4_leastFree ∈ W0 ∧ Cond.selects RX4 yX4_leastFree yX4_leastFree ∈ W0 ∧ Cond.initialized RX4 ∈ W0 ∧ Cond.code yX4_leastFree cX4_leastFree 4 (some .int) ∈ W0 := ⟨m_IM_X4_leastFree, m_SE_X4_leastFree, m_IN_X4, m_CO_X4_leastFree⟩
theorem sv_X4_setFree : Cond.instanceMethod yX4_setFree ∈ W0 ∧ Cond.selects RX4 yX4_setFree yX4_setFree ∈ W0 ∧ Cond.initialized RX4 ∈ W0 ∧ Cond.code yX4_setFree cX4_setFree 6 none ∈ W0 := ⟨m_IM_X4_setFree, m_SE_X4_setFree, m_IN_X4, m_CO_X4_setFree⟩
theorem sv_X5_byteAt : Cond.instanceMethod yX5_byteAt ∈ W0 ∧ Cond.selects RX5 yX5_byteAt yX5_byteAt ∈ W0 ∧ Cond.initialized RX5 ∈ W0 ∧ Cond.code yX5_byteAt cX5_byteAt 2 (some .int) ∈ W0 := ⟨m_IM_X5_byteAt, m_SE_X5_byteAt, m_IN_X5, m_CO_X5_byteAt⟩
theorem sv_X5_codedAt : Cond.instanceMethod yX5_codedAt ∈ W0 ∧ Cond.selects RX5 yX5_codedAt yX5_codedAt ∈ W0 ∧ Cond.initialized RX5 ∈ W0 ∧ Cond.code yX5_codedAt cX5_codedAt 10 (some .int) ∈ W0 := ⟨m_IM_X5_codedAt, m_SE_X5_codedAt, m_IN_X5, m_CO_X5_codedAt⟩
theorem sv_X5_fillGap : Cond.instanceMethod yX5_fillGap ∈ W0 ∧ Cond.selects RX5 yX5_fillGap yX5_fillGap ∈ W0 ∧ Cond.initialized RX5 ∈ W0 ∧ Cond.code yX5_fillGap cX5_fillGap 2 none ∈ W0 := ⟨m_IM_X5_fillGap, m_SE_X5_fillGap, m_IN_X5, m_CO_X5_fillGap⟩
theorem sv_X5_findSyncs : Cond.instanceMethod yX5_findSyncs ∈ W0 ∧ Cond.selects RX5 yX5_findSyncs yX5_findSyncs ∈ W0 ∧ Cond.initialized RX5 ∈ W0 ∧ Cond.code yX5_findSyncs cX5_findSyncs 6 (some .int) ∈ W0 := ⟨m_IM_X5_findSyncs, m_SE_X5_findSyncs, m_IN_X5, m_CO_X5_findSyncs⟩
theorem sv_X5_hasByte : Cond.instanceMethod yX5_hasByte ∈ W0 ∧ Cond.selects RX5 yX5_hasByte yX5_hasByte ∈ W0 ∧ Cond.initialized RX5 ∈ W0 ∧ Cond.code yX5_hasByte cX5_hasByte 2 (some .boolean) ∈ W0 := ⟨m_IM_X5_hasByte, m_SE_X5_hasByte, m_IN_X5, m_CO_X5_hasByte⟩
theorem sv_X5_layRing : Cond.instanceMethod yX5_layRing ∈ W0 ∧ Cond.selects RX5 yX5_layRing yX5_layRing ∈ W0 ∧ Cond.initialized RX5 ∈ W0 ∧ Cond.code yX5_layRing cX5_layRing 3 none ∈ W0 := ⟨m_IM_X5_layRing, m_SE_X5_layRing, m_IN_X5, m_CO_X5_layRing⟩
theorem sv_X5_putBits : Cond.instanceMethod yX5_putBits ∈ W0 ∧ Cond.selects RX5 yX5_putBits yX5_putBits ∈ W0 ∧ Cond.initialized RX5 ∈ W0 ∧ Cond.code yX5_putBits cX5_putBits 11 none ∈ W0 := ⟨m_IM_X5_putBits, m_SE_X5_putBits, m_IN_X5, m_CO_X5_putBits⟩
theorem sv_X5_putCoded : Cond.instanceMethod yX5_putCoded ∈ W0 ∧ Cond.selects RX5 yX5_putCoded yX5_putCoded ∈ W0 ∧ Cond.initialized RX5 ∈ W0 ∧ Cond.code yX5_putCoded cX5_putCoded 3 none ∈ W0 := ⟨m_IM_X5_putCoded, m_SE_X5_putCoded, m_IN_X5, m_CO_X5_putCoded⟩
theorem sv_X5_putData : Cond.instanceMethod yX5_putData ∈ W0 ∧ Cond.selects RX5 yX5_putData yX5_putData ∈ W0 ∧ Cond.initialized RX5 ∈ W0 ∧ Cond.code yX5_putData cX5_putData 6 none ∈ W0 := ⟨m_IM_X5_putData, m_SE_X5_putData, m_IN_X5, m_CO_X5_putData⟩
theorem sv_X5_putHeader : Cond.instanceMethod yX5_putHeader ∈ W0 ∧ Cond.selects RX5 yX5_putHeader yX5_putHeader ∈ W0 ∧ Cond.initialized RX5 ∈ W0 ∧ Cond.code yX5_putHeader cX5_putHeader 7 none ∈ W0 := ⟨m_IM_X5_putHeader, m_SE_X5_putHeader, m_IN_X5, m_CO_X5_putHeader⟩
theorem sv_X5_putSync : Cond.instanceMethod yX5_putSync ∈ W0 ∧ Cond.selects RX5 yX5_putSync yX5_putSync ∈ W0 ∧ Cond.initialized RX5 ∈ W0 ∧ Cond.code yX5_putSync cX5_putSync 3 none ∈ W0 := ⟨m_IM_X5_putSync, m_SE_X5_putSync, m_IN_X5, m_CO_X5_putSync⟩
theorem sv_X5_rotate : Cond.instanceMethod yX5_rotate ∈ W0 ∧ Cond.selects RX5 yX5_rotate yX5_rotate ∈ W0 ∧ Cond.initialized RX5 ∈ W0 ∧ Cond.code yX5_rotate cX5_rotate 10 none ∈ W0 := ⟨m_IM_X5_rotate, m_SE_X5_rotate, m_IN_X5, m_CO_X5_rotate⟩
theorem ss_X5_sizeOf : Cond.static yX5_sizeOf ∈ W0 ∧ Cond.initialized yX5_sizeOf.cls ∈ W0 ∧ Cond.code yX5_sizeOf cX5_sizeOf 1 (some .int) ∈ W0 := ⟨m_ST_X5_sizeOf, m_IN_X5, m_CO_X5_sizeOf⟩
theorem sv_X5_startOf : Cond.instanceMethod yX5_startOf ∈ W0 ∧ Cond.selects RX5 yX5_startOf yX5_startOf ∈ W0 ∧ Cond.initialized RX5 ∈ W0 ∧ Cond.code yX5_startOf cX5_startOf 2 (some .int) ∈ W0 := ⟨m_IM_X5_startOf, m_SE_X5_startOf, m_IN_X5, m_CO_X5_startOf⟩
theorem sv_X5_takeData : Cond.instanceMethod yX5_takeData ∈ W0 ∧ Cond.selects RX5 yX5_takeData yX5_takeData ∈ W0 ∧ Cond.initialized RX5 ∈ W0 ∧ Cond.code yX5_takeData cX5_takeData 7 (some .int) ∈ W0 := ⟨m_IM_X5_takeData, m_SE_X5_takeData, m_IN_X5, m_CO_X5_takeData⟩
theorem sv_X6_tell : Cond.instanceMethod yX6_tell ∈ W0 ∧ Cond.selects RX6 yX6_tell yX6_tell ∈ W0 ∧ Cond.initialized RX6 ∈ W0 ∧ Cond.code yX6_tell cX6_tell 4 (some .int) ∈ W0 := ⟨m_IM_X6_tell, m_SE_X6_tell, m_IN_X6, m_CO_X6_tell⟩
theorem ss_X7_blocksNeeded : Cond.static yX7_blocksNeeded ∈ W0 ∧ Cond.initialized yX7_blocksNeeded.cls ∈ W0 ∧ Cond.code yX7_blocksNeeded cX7_blocksNeeded 1 (some .int) ∈ W0 := ⟨m_ST_X7_blocksNeeded, m_IN_X7, m_CO_X7_blocksNeeded⟩
theorem ss_X7_clearRow : Cond.static yX7_clearRow ∈ W0 ∧ Cond.initialized yX7_clearRow.cls ∈ W0 ∧ Cond.code yX7_clearRow cX7_clearRow 4 none ∈ W0 := ⟨m_ST_X7_clearRow, m_IN_X7, m_CO_X7_clearRow⟩
theorem sv_X7_count : Cond.instanceMethod yX7_count ∈ W0 ∧ Cond.selects RX7 yX7_count yX7_count ∈ W0 ∧ Cond.initialized RX7 ∈ W0 ∧ Cond.code yX7_count cX7_count 2 (some .int) ∈ W0 := ⟨m_IM_X7_count, m_SE_X7_count, m_IN_X7, m_CO_X7_count⟩
theorem sv_X7_end : Cond.instanceMethod yX7_end ∈ W0 ∧ Cond.selects RX7 yX7_end yX7_end ∈ W0 ∧ Cond.initialized RX7 ∈ W0 ∧ Cond.code yX7_end cX7_end 2 (some .int) ∈ W0 := ⟨m_IM_X7_end, m_SE_X7_end, m_IN_X7, m_CO_X7_end⟩
theorem sv_X7_feed : Cond.instanceMethod yX7_feed ∈ W0 ∧ Cond.selects RX7 yX7_feed yX7_feed ∈ W0 ∧ Cond.initialized RX7 ∈ W0 ∧ Cond.code yX7_feed cX7_feed 6 (some .int) ∈ W0 := ⟨m_IM_X7_feed, m_SE_X7_feed, m_IN_X7, m_CO_X7_feed⟩
theorem sv_X7_fillEntry : Cond.instanceMethod yX7_fillEntry ∈ W0 ∧ Cond.selects RX7 yX7_fillEntry yX7_fillEntry ∈ W0 ∧ Cond.initialized RX7 ∈ W0 ∧ Cond.code yX7_fillEntry cX7_fillEntry 6 none ∈ W0 := ⟨m_IM_X7_fillEntry, m_SE_X7_fillEntry, m_IN_X7, m_CO_X7_fillEntry⟩
theorem ss_X7_fillName : Cond.static yX7_fillName ∈ W0 ∧ Cond.initialized yX7_fillName.cls ∈ W0 ∧ Cond.code yX7_fillName cX7_fillName 5 none ∈ W0 := ⟨m_ST_X7_fillName, m_IN_X7, m_CO_X7_fillName⟩
theorem sv_X7_format : Cond.instanceMethod yX7_format ∈ W0 ∧ Cond.selects RX7 yX7_format yX7_format ∈ W0 ∧ Cond.initialized RX7 ∈ W0 ∧ Cond.code yX7_format cX7_format 4 (some .int) ∈ W0 := ⟨m_IM_X7_format, m_SE_X7_format, m_IN_X7, m_CO_X7_format⟩
theorem ss_X7_hasName : Cond.static yX7_hasName ∈ W0 ∧ Cond.initialized yX7_hasName.cls ∈ W0 ∧ Cond.code yX7_hasName cX7_hasName 5 (some .boolean) ∈ W0 := ⟨m_ST_X7_hasName, m_IN_X7, m_CO_X7_hasName⟩
theorem sv_X7_info : Cond.instanceMethod yX7_info ∈ W0 ∧ Cond.selects RX7 yX7_info yX7_info ∈ W0 ∧ Cond.initialized RX7 ∈ W0 ∧ Cond.code yX7_info cX7_info 2 (some .int) ∈ W0 := ⟨m_IM_X7_info, m_SE_X7_info, m_IN_X7, m_CO_X7_info⟩
theorem sv_X7_list : Cond.instanceMethod yX7_list ∈ W0 ∧ Cond.selects RX7 yX7_list yX7_list ∈ W0 ∧ Cond.initialized RX7 ∈ W0 ∧ Cond.code yX7_list cX7_list 3 (some .int) ∈ W0 := ⟨m_IM_X7_list, m_SE_X7_list, m_IN_X7, m_CO_X7_list⟩
theorem sv_X7_load : Cond.instanceMethod yX7_load ∈ W0 ∧ Cond.selects RX7 yX7_load yX7_load ∈ W0 ∧ Cond.initialized RX7 ∈ W0 ∧ Cond.code yX7_load cX7_load 4 (some .int) ∈ W0 := ⟨m_IM_X7_load, m_SE_X7_load, m_IN_X7, m_CO_X7_load⟩
theorem sv_X7_lookFor : Cond.instanceMethod yX7_lookFor ∈ W0 ∧ Cond.selects RX7 yX7_lookFor yX7_lookFor ∈ W0 ∧ Cond.initialized RX7 ∈ W0 ∧ Cond.code yX7_lookFor cX7_lookFor 5 (some .int) ∈ W0 := ⟨m_IM_X7_lookFor, m_SE_X7_lookFor, m_IN_X7, m_CO_X7_lookFor⟩
theorem sv_X7_mount : Cond.instanceMethod yX7_mount ∈ W0 ∧ Cond.selects RX7 yX7_mount yX7_mount ∈ W0 ∧ Cond.initialized RX7 ∈ W0 ∧ Cond.code yX7_mount cX7_mount 2 (some .int) ∈ W0 := ⟨m_IM_X7_mount, m_SE_X7_mount, m_IN_X7, m_CO_X7_mount⟩
theorem ss_X7_nameByte : Cond.static yX7_nameByte ∈ W0 ∧ Cond.initialized yX7_nameByte.cls ∈ W0 ∧ Cond.code yX7_nameByte cX7_nameByte 3 (some .int) ∈ W0 := ⟨m_ST_X7_nameByte, m_IN_X7, m_CO_X7_nameByte⟩
theorem sv_X7_openDisk : Cond.instanceMethod yX7_openDisk ∈ W0 ∧ Cond.selects RX7 yX7_openDisk yX7_openDisk ∈ W0 ∧ Cond.initialized RX7 ∈ W0 ∧ Cond.code yX7_openDisk cX7_openDisk 1 (some .int) ∈ W0 := ⟨m_IM_X7_openDisk, m_SE_X7_openDisk, m_IN_X7, m_CO_X7_openDisk⟩
theorem sv_X7_out : Cond.instanceMethod yX7_out ∈ W0 ∧ Cond.selects RX7 yX7_out yX7_out ∈ W0 ∧ Cond.initialized RX7 ∈ W0 ∧ Cond.code yX7_out cX7_out 2 (some .int) ∈ W0 := ⟨m_IM_X7_out, m_SE_X7_out, m_IN_X7, m_CO_X7_out⟩
theorem sv_X7_outputOr : Cond.instanceMethod yX7_outputOr ∈ W0 ∧ Cond.selects RX7 yX7_outputOr yX7_outputOr ∈ W0 ∧ Cond.initialized RX7 ∈ W0 ∧ Cond.code yX7_outputOr cX7_outputOr 2 (some .int) ∈ W0 := ⟨m_IM_X7_outputOr, m_SE_X7_outputOr, m_IN_X7, m_CO_X7_outputOr⟩
theorem sv_X7_peek : Cond.instanceMethod yX7_peek ∈ W0 ∧ Cond.selects RX7 yX7_peek yX7_peek ∈ W0 ∧ Cond.initialized RX7 ∈ W0 ∧ Cond.code yX7_peek cX7_peek 4 (some .int) ∈ W0 := ⟨m_IM_X7_peek, m_SE_X7_peek, m_IN_X7, m_CO_X7_peek⟩
theorem sv_X7_poke : Cond.instanceMethod yX7_poke ∈ W0 ∧ Cond.selects RX7 yX7_poke yX7_poke ∈ W0 ∧ Cond.initialized RX7 ∈ W0 ∧ Cond.code yX7_poke cX7_poke 6 (some .int) ∈ W0 := ⟨m_IM_X7_poke, m_SE_X7_poke, m_IN_X7, m_CO_X7_poke⟩
theorem sv_X7_read : Cond.instanceMethod yX7_read ∈ W0 ∧ Cond.selects RX7 yX7_read yX7_read ∈ W0 ∧ Cond.initialized RX7 ∈ W0 ∧ Cond.code yX7_read cX7_read 4 (some .int) ∈ W0 := ⟨m_IM_X7_read, m_SE_X7_read, m_IN_X7, m_CO_X7_read⟩
theorem sv_X7_save : Cond.instanceMethod yX7_save ∈ W0 ∧ Cond.selects RX7 yX7_save yX7_save ∈ W0 ∧ Cond.initialized RX7 ∈ W0 ∧ Cond.code yX7_save cX7_save 5 (some .int) ∈ W0 := ⟨m_IM_X7_save, m_SE_X7_save, m_IN_X7, m_CO_X7_save⟩
theorem sv_X7_scratch : Cond.instanceMethod yX7_scratch ∈ W0 ∧ Cond.selects RX7 yX7_scratch yX7_scratch ∈ W0 ∧ Cond.initialized RX7 ∈ W0 ∧ Cond.code yX7_scratch cX7_scratch 4 (some .int) ∈ W0 := ⟨m_IM_X7_scratch, m_SE_X7_scratch, m_IN_X7, m_CO_X7_scratch⟩
theorem sv_X7_stamp : Cond.instanceMethod yX7_stamp ∈ W0 ∧ Cond.selects RX7 yX7_stamp yX7_stamp ∈ W0 ∧ Cond.initialized RX7 ∈ W0 ∧ Cond.code yX7_stamp cX7_stamp 5 (some .int) ∈ W0 := ⟨m_IM_X7_stamp, m_SE_X7_stamp, m_IN_X7, m_CO_X7_stamp⟩
theorem sv_X7_status : Cond.instanceMethod yX7_status ∈ W0 ∧ Cond.selects RX7 yX7_status yX7_status ∈ W0 ∧ Cond.initialized RX7 ∈ W0 ∧ Cond.code yX7_status cX7_status 2 (some .int) ∈ W0 := ⟨m_IM_X7_status, m_SE_X7_status, m_IN_X7, m_CO_X7_status⟩
theorem sv_X7_storeEntry : Cond.instanceMethod yX7_storeEntry ∈ W0 ∧ Cond.selects RX7 yX7_storeEntry yX7_storeEntry ∈ W0 ∧ Cond.initialized RX7 ∈ W0 ∧ Cond.code yX7_storeEntry cX7_storeEntry 5 (some .int) ∈ W0 := ⟨m_IM_X7_storeEntry, m_SE_X7_storeEntry, m_IN_X7, m_CO_X7_storeEntry⟩
theorem sv_X7_syncs : Cond.instanceMethod yX7_syncs ∈ W0 ∧ Cond.selects RX7 yX7_syncs yX7_syncs ∈ W0 ∧ Cond.initialized RX7 ∈ W0 ∧ Cond.code yX7_syncs cX7_syncs 3 (some .int) ∈ W0 := ⟨m_IM_X7_syncs, m_SE_X7_syncs, m_IN_X7, m_CO_X7_syncs⟩
theorem sv_X7_takeRoom : Cond.instanceMethod yX7_takeRoom ∈ W0 ∧ Cond.selects RX7 yX7_takeRoom yX7_takeRoom ∈ W0 ∧ Cond.initialized RX7 ∈ W0 ∧ Cond.code yX7_takeRoom cX7_takeRoom 1 (some .boolean) ∈ W0 := ⟨m_IM_X7_takeRoom, m_SE_X7_takeRoom, m_IN_X7, m_CO_X7_takeRoom⟩
theorem sv_X7_turn : Cond.instanceMethod yX7_turn ∈ W0 ∧ Cond.selects RX7 yX7_turn yX7_turn ∈ W0 ∧ Cond.initialized RX7 ∈ W0 ∧ Cond.code yX7_turn cX7_turn 4 (some .int) ∈ W0 := ⟨m_IM_X7_turn, m_SE_X7_turn, m_IN_X7, m_CO_X7_turn⟩
theorem sv_X7_write : Cond.instanceMethod yX7_write ∈ W0 ∧ Cond.selects RX7 yX7_write yX7_write ∈ W0 ∧ Cond.initialized RX7 ∈ W0 ∧ Cond.code yX7_write cX7_write 4 (some .int) ∈ W0 := ⟨m_IM_X7_write, m_SE_X7_write, m_IN_X7, m_CO_X7_write⟩
theorem sv_X8_begins : Cond.instanceMethod yX8_begins ∈ W0 ∧ Cond.selects RX8 yX8_begins yX8_begins ∈ W0 ∧ Cond.initialized RX8 ∈ W0 ∧ Cond.code yX8_begins cX8_begins 4 (some .boolean) ∈ W0 := ⟨m_IM_X8_begins, m_SE_X8_begins, m_IN_X8, m_CO_X8_begins⟩
theorem sv_X8_byteAt : Cond.instanceMethod yX8_byteAt ∈ W0 ∧ Cond.selects RX8 yX8_byteAt yX8_byteAt ∈ W0 ∧ Cond.initialized RX8 ∈ W0 ∧ Cond.code yX8_byteAt cX8_byteAt 6 (some .int) ∈ W0 := ⟨m_IM_X8_byteAt, m_SE_X8_byteAt, m_IN_X8, m_CO_X8_byteAt⟩
theorem ss_X8_bytesOf : Cond.static yX8_bytesOf ∈ W0 ∧ Cond.initialized yX8_bytesOf.cls ∈ W0 ∧ Cond.code yX8_bytesOf cX8_bytesOf 1 (some .int) ∈ W0 := ⟨m_ST_X8_bytesOf, m_IN_X8, m_CO_X8_bytesOf⟩
theorem sv_X8_count : Cond.instanceMethod yX8_count ∈ W0 ∧ Cond.selects RX8 yX8_count yX8_count ∈ W0 ∧ Cond.initialized RX8 ∈ W0 ∧ Cond.code yX8_count cX8_count 2 (some .int) ∈ W0 := ⟨m_IM_X8_count, m_SE_X8_count, m_IN_X8, m_CO_X8_count⟩
theorem sv_X8_dataOf : Cond.instanceMethod yX8_dataOf ∈ W0 ∧ Cond.selects RX8 yX8_dataOf yX8_dataOf ∈ W0 ∧ Cond.initialized RX8 ∈ W0 ∧ Cond.code yX8_dataOf cX8_dataOf 6 (some .int) ∈ W0 := ⟨m_IM_X8_dataOf, m_SE_X8_dataOf, m_IN_X8, m_CO_X8_dataOf⟩
theorem sv_X8_decoded : Cond.instanceMethod yX8_decoded ∈ W0 ∧ Cond.selects RX8 yX8_decoded yX8_decoded ∈ W0 ∧ Cond.initialized RX8 ∈ W0 ∧ Cond.code yX8_decoded cX8_decoded 8 (some .int) ∈ W0 := ⟨m_IM_X8_decoded, m_SE_X8_decoded, m_IN_X8, m_CO_X8_decoded⟩
theorem sv_X8_emptyEntry : Cond.instanceMethod yX8_emptyEntry ∈ W0 ∧ Cond.selects RX8 yX8_emptyEntry yX8_emptyEntry ∈ W0 ∧ Cond.initialized RX8 ∈ W0 ∧ Cond.code yX8_emptyEntry cX8_emptyEntry 3 (some .int) ∈ W0 := ⟨m_IM_X8_emptyEntry, m_SE_X8_emptyEntry, m_IN_X8, m_CO_X8_emptyEntry⟩
theorem sv_X8_end : Cond.instanceMethod yX8_end ∈ W0 ∧ Cond.selects RX8 yX8_end yX8_end ∈ W0 ∧ Cond.initialized RX8 ∈ W0 ∧ Cond.code yX8_end cX8_end 2 (some .int) ∈ W0 := ⟨m_IM_X8_end, m_SE_X8_end, m_IN_X8, m_CO_X8_end⟩
theorem sv_X8_ends : Cond.instanceMethod yX8_ends ∈ W0 ∧ Cond.selects RX8 yX8_ends yX8_ends ∈ W0 ∧ Cond.initialized RX8 ∈ W0 ∧ Cond.code yX8_ends cX8_ends 4 (some .int) ∈ W0 := ⟨m_IM_X8_ends, m_SE_X8_ends, m_IN_X8, m_CO_X8_ends⟩
theorem sv_X8_feed : Cond.instanceMethod yX8_feed ∈ W0 ∧ Cond.selects RX8 yX8_feed yX8_feed ∈ W0 ∧ Cond.initialized RX8 ∈ W0 ∧ Cond.code yX8_feed cX8_feed 8 (some .int) ∈ W0 := ⟨m_IM_X8_feed, m_SE_X8_feed, m_IN_X8, m_CO_X8_feed⟩
theorem sv_X8_findSyncs : Cond.instanceMethod yX8_findSyncs ∈ W0 ∧ Cond.selects RX8 yX8_findSyncs yX8_findSyncs ∈ W0 ∧ Cond.initialized RX8 ∈ W0 ∧ Cond.code yX8_findSyncs cX8_findSyncs 6 none ∈ W0 := ⟨m_IM_X8_findSyncs, m_SE_X8_findSyncs, m_IN_X8, m_CO_X8_findSyncs⟩
theorem sv_X8_format : Cond.instanceMethod yX8_format ∈ W0 ∧ Cond.selects RX8 yX8_format yX8_format ∈ W0 ∧ Cond.initialized RX8 ∈ W0 ∧ Cond.code yX8_format cX8_format 7 (some .int) ∈ W0 := ⟨m_IM_X8_format, m_SE_X8_format, m_IN_X8, m_CO_X8_format⟩
theorem sv_X8_freeOfDirectory : Cond.instanceMethod yX8_freeOfDirectory ∈ W0 ∧ Cond.selects RX8 yX8_freeOfDirectory yX8_freeOfDirectory ∈ W0 ∧ Cond.initialized RX8 ∈ W0 ∧ Cond.code yX8_freeOfDirectory cX8_freeOfDirectory 3 (some .int) ∈ W0 := ⟨m_IM_X8_freeOfDirectory, m_SE_X8_freeOfDirectory, m_IN_X8, m_CO_X8_freeOfDirectory⟩
theorem sv_X8_hasName : Cond.instanceMethod yX8_hasName ∈ W0 ∧ Cond.selects RX8 yX8_hasName yX8_hasName ∈ W0 ∧ Cond.initialized RX8 ∈ W0 ∧ Cond.code yX8_hasName cX8_hasName 6 (some .boolean) ∈ W0 := ⟨m_IM_X8_hasName, m_SE_X8_hasName, m_IN_X8, m_CO_X8_hasName⟩
theorem sv_X8_info : Cond.instanceMethod yX8_info ∈ W0 ∧ Cond.selects RX8 yX8_info yX8_info ∈ W0 ∧ Cond.initialized RX8 ∈ W0 ∧ Cond.code yX8_info cX8_info 4 (some .int) ∈ W0 := ⟨m_IM_X8_info, m_SE_X8_info, m_IN_X8, m_CO_X8_info⟩
theorem ss_X8_isBlock : Cond.static yX8_isBlock ∈ W0 ∧ Cond.initialized yX8_isBlock.cls ∈ W0 ∧ Cond.code yX8_isBlock cX8_isBlock 2 (some .boolean) ∈ W0 := ⟨m_ST_X8_isBlock, m_IN_X8, m_CO_X8_isBlock⟩
theorem ss_X8_isByte : Cond.static yX8_isByte ∈ W0 ∧ Cond.initialized yX8_isByte.cls ∈ W0 ∧ Cond.code yX8_isByte cX8_isByte 2 (some .boolean) ∈ W0 := ⟨m_ST_X8_isByte, m_IN_X8, m_CO_X8_isByte⟩
theorem sv_X8_isFree : Cond.instanceMethod yX8_isFree ∈ W0 ∧ Cond.selects RX8 yX8_isFree yX8_isFree ∈ W0 ∧ Cond.initialized RX8 ∈ W0 ∧ Cond.code yX8_isFree cX8_isFree 3 (some .boolean) ∈ W0 := ⟨m_IM_X8_isFree, m_SE_X8_isFree, m_IN_X8, m_CO_X8_isFree⟩
theorem sv_X8_isHeaderOf : Cond.instanceMethod yX8_isHeaderOf ∈ W0 ∧ Cond.selects RX8 yX8_isHeaderOf yX8_isHeaderOf ∈ W0 ∧ Cond.initialized RX8 ∈ W0 ∧ Cond.code yX8_isHeaderOf cX8_isHeaderOf 6 (some .boolean) ∈ W0 := ⟨m_IM_X8_isHeaderOf, m_SE_X8_isHeaderOf, m_IN_X8, m_CO_X8_isHeaderOf⟩
theorem ss_X8_isIn : Cond.static yX8_isIn ∈ W0 ∧ Cond.initialized yX8_isIn.cls ∈ W0 ∧ Cond.code yX8_isIn cX8_isIn 3 (some .boolean) ∈ W0 := ⟨m_ST_X8_isIn, m_IN_X8, m_CO_X8_isIn⟩
theorem ss_X8_isTrack : Cond.static yX8_isTrack ∈ W0 ∧ Cond.initialized yX8_isTrack.cls ∈ W0 ∧ Cond.code yX8_isTrack cX8_isTrack 1 (some .boolean) ∈ W0 := ⟨m_ST_X8_isTrack, m_IN_X8, m_CO_X8_isTrack⟩
theorem ss_X8_lengthOf : Cond.static yX8_lengthOf ∈ W0 ∧ Cond.initialized yX8_lengthOf.cls ∈ W0 ∧ Cond.code yX8_lengthOf cX8_lengthOf 1 (some .int) ∈ W0 := ⟨m_ST_X8_lengthOf, m_IN_X8, m_CO_X8_lengthOf⟩
theorem sv_X8_list : Cond.instanceMethod yX8_list ∈ W0 ∧ Cond.selects RX8 yX8_list yX8_list ∈ W0 ∧ Cond.initialized RX8 ∈ W0 ∧ Cond.code yX8_list cX8_list 4 (some .int) ∈ W0 := ⟨m_IM_X8_list, m_SE_X8_list, m_IN_X8, m_CO_X8_list⟩
theorem sv_X8_load : Cond.instanceMethod yX8_load ∈ W0 ∧ Cond.selects RX8 yX8_load yX8_load ∈ W0 ∧ Cond.initialized RX8 ∈ W0 ∧ Cond.code yX8_load cX8_load 3 (some .int) ∈ W0 := ⟨m_IM_X8_load, m_SE_X8_load, m_IN_X8, m_CO_X8_load⟩
theorem sv_X8_mount : Cond.instanceMethod yX8_mount ∈ W0 ∧ Cond.selects RX8 yX8_mount yX8_mount ∈ W0 ∧ Cond.initialized RX8 ∈ W0 ∧ Cond.code yX8_mount cX8_mount 2 (some .int) ∈ W0 := ⟨m_IM_X8_mount, m_SE_X8_mount, m_IN_X8, m_CO_X8_mount⟩
theorem ss_X8_nameByte : Cond.static yX8_nameByte ∈ W0 ∧ Cond.initialized yX8_nameByte.cls ∈ W0 ∧ Cond.code yX8_nameByte cX8_nameByte 3 (some .int) ∈ W0 := ⟨m_ST_X8_nameByte, m_IN_X8, m_CO_X8_nameByte⟩
theorem sv_X8_out : Cond.instanceMethod yX8_out ∈ W0 ∧ Cond.selects RX8 yX8_out yX8_out ∈ W0 ∧ Cond.initialized RX8 ∈ W0 ∧ Cond.code yX8_out cX8_out 2 (some .int) ∈ W0 := ⟨m_IM_X8_out, m_SE_X8_out, m_IN_X8, m_CO_X8_out⟩
theorem sv_X8_peek : Cond.instanceMethod yX8_peek ∈ W0 ∧ Cond.selects RX8 yX8_peek yX8_peek ∈ W0 ∧ Cond.initialized RX8 ∈ W0 ∧ Cond.code yX8_peek cX8_peek 3 (some .int) ∈ W0 := ⟨m_IM_X8_peek, m_SE_X8_peek, m_IN_X8, m_CO_X8_peek⟩
theorem sv_X8_poke : Cond.instanceMethod yX8_poke ∈ W0 ∧ Cond.selects RX8 yX8_poke yX8_poke ∈ W0 ∧ Cond.initialized RX8 ∈ W0 ∧ Cond.code yX8_poke cX8_poke 5 (some .int) ∈ W0 := ⟨m_IM_X8_poke, m_SE_X8_poke, m_IN_X8, m_CO_X8_poke⟩
theorem sv_X8_putBits : Cond.instanceMethod yX8_putBits ∈ W0 ∧ Cond.selects RX8 yX8_putBits yX8_putBits ∈ W0 ∧ Cond.initialized RX8 ∈ W0 ∧ Cond.code yX8_putBits cX8_putBits 6 none ∈ W0 := ⟨m_IM_X8_putBits, m_SE_X8_putBits, m_IN_X8, m_CO_X8_putBits⟩
theorem sv_X8_putCoded : Cond.instanceMethod yX8_putCoded ∈ W0 ∧ Cond.selects RX8 yX8_putCoded yX8_putCoded ∈ W0 ∧ Cond.initialized RX8 ∈ W0 ∧ Cond.code yX8_putCoded cX8_putCoded 2 none ∈ W0 := ⟨m_IM_X8_putCoded, m_SE_X8_putCoded, m_IN_X8, m_CO_X8_putCoded⟩
theorem sv_X8_putData : Cond.instanceMethod yX8_putData ∈ W0 ∧ Cond.selects RX8 yX8_putData yX8_putData ∈ W0 ∧ Cond.initialized RX8 ∈ W0 ∧ Cond.code yX8_putData cX8_putData 3 none ∈ W0 := ⟨m_IM_X8_putData, m_SE_X8_putData, m_IN_X8, m_CO_X8_putData⟩
theorem sv_X8_putSync : Cond.instanceMethod yX8_putSync ∈ W0 ∧ Cond.selects RX8 yX8_putSync yX8_putSync ∈ W0 ∧ Cond.initialized RX8 ∈ W0 ∧ Cond.code yX8_putSync cX8_putSync 1 none ∈ W0 := ⟨m_IM_X8_putSync, m_SE_X8_putSync, m_IN_X8, m_CO_X8_putSync⟩
theorem sv_X8_read : Cond.instanceMethod yX8_read ∈ W0 ∧ Cond.selects RX8 yX8_read yX8_read ∈ W0 ∧ Cond.initialized RX8 ∈ W0 ∧ Cond.code yX8_read cX8_read 5 (some .int) ∈ W0 := ⟨m_IM_X8_read, m_SE_X8_read, m_IN_X8, m_CO_X8_read⟩
theorem sv_X8_readBlock : Cond.instanceMethod yX8_readBlock ∈ W0 ∧ Cond.selects RX8 yX8_readBlock yX8_readBlock ∈ W0 ∧ Cond.initialized RX8 ∈ W0 ∧ Cond.code yX8_readBlock cX8_readBlock 4 (some .int) ∈ W0 := ⟨m_IM_X8_readBlock, m_SE_X8_readBlock, m_IN_X8, m_CO_X8_readBlock⟩
theorem sv_X8_readDirectory : Cond.instanceMethod yX8_readDirectory ∈ W0 ∧ Cond.selects RX8 yX8_readDirectory yX8_readDirectory ∈ W0 ∧ Cond.initialized RX8 ∈ W0 ∧ Cond.code yX8_readDirectory cX8_readDirectory 9 (some .boolean) ∈ W0 := ⟨m_IM_X8_readDirectory, m_SE_X8_readDirectory, m_IN_X8, m_CO_X8_readDirectory⟩
theorem sv_X8_readFile : Cond.instanceMethod yX8_readFile ∈ W0 ∧ Cond.selects RX8 yX8_readFile yX8_readFile ∈ W0 ∧ Cond.initialized RX8 ∈ W0 ∧ Cond.code yX8_readFile cX8_readFile 11 (some .boolean) ∈ W0 := ⟨m_IM_X8_readFile, m_SE_X8_readFile, m_IN_X8, m_CO_X8_readFile⟩
theorem sv_X8_save : Cond.instanceMethod yX8_save ∈ W0 ∧ Cond.selects RX8 yX8_save yX8_save ∈ W0 ∧ Cond.initialized RX8 ∈ W0 ∧ Cond.code yX8_save cX8_save 6 (some .int) ∈ W0 := ⟨m_IM_X8_save, m_SE_X8_save, m_IN_X8, m_CO_X8_save⟩
theorem sv_X8_saves : Cond.instanceMethod yX8_saves ∈ W0 ∧ Cond.selects RX8 yX8_saves yX8_saves ∈ W0 ∧ Cond.initialized RX8 ∈ W0 ∧ Cond.code yX8_saves cX8_saves 10 (some .boolean) ∈ W0 := ⟨m_IM_X8_saves, m_SE_X8_saves, m_IN_X8, m_CO_X8_saves⟩
theorem sv_X8_scratch : Cond.instanceMethod yX8_scratch ∈ W0 ∧ Cond.selects RX8 yX8_scratch yX8_scratch ∈ W0 ∧ Cond.initialized RX8 ∈ W0 ∧ Cond.code yX8_scratch cX8_scratch 4 (some .int) ∈ W0 := ⟨m_IM_X8_scratch, m_SE_X8_scratch, m_IN_X8, m_CO_X8_scratch⟩
theorem sv_X8_scratches : Cond.instanceMethod yX8_scratches ∈ W0 ∧ Cond.selects RX8 yX8_scratches yX8_scratches ∈ W0 ∧ Cond.initialized RX8 ∈ W0 ∧ Cond.code yX8_scratches cX8_scratches 4 (some .boolean) ∈ W0 := ⟨m_IM_X8_scratches, m_SE_X8_scratches, m_IN_X8, m_CO_X8_scratches⟩
theorem ss_X8_sectorsOf : Cond.static yX8_sectorsOf ∈ W0 ∧ Cond.initialized yX8_sectorsOf.cls ∈ W0 ∧ Cond.code yX8_sectorsOf cX8_sectorsOf 1 (some .int) ∈ W0 := ⟨m_ST_X8_sectorsOf, m_IN_X8, m_CO_X8_sectorsOf⟩
theorem sv_X8_seek : Cond.instanceMethod yX8_seek ∈ W0 ∧ Cond.selects RX8 yX8_seek yX8_seek ∈ W0 ∧ Cond.initialized RX8 ∈ W0 ∧ Cond.code yX8_seek cX8_seek 6 (some .int) ∈ W0 := ⟨m_IM_X8_seek, m_SE_X8_seek, m_IN_X8, m_CO_X8_seek⟩
theorem sv_X8_setByte : Cond.instanceMethod yX8_setByte ∈ W0 ∧ Cond.selects RX8 yX8_setByte yX8_setByte ∈ W0 ∧ Cond.initialized RX8 ∈ W0 ∧ Cond.code yX8_setByte cX8_setByte 6 none ∈ W0 := ⟨m_IM_X8_setByte, m_SE_X8_setByte, m_IN_X8, m_CO_X8_setByte⟩
theorem sv_X8_setCodes : Cond.instanceMethod yX8_setCodes ∈ W0 ∧ Cond.selects RX8 yX8_setCodes yX8_setCodes ∈ W0 ∧ Cond.initialized RX8 ∈ W0 ∧ Cond.code yX8_setCodes cX8_setCodes 6 none ∈ W0 := ⟨m_IM_X8_setCodes, m_SE_X8_setCodes, m_IN_X8, m_CO_X8_setCodes⟩
theorem sv_X8_setFree : Cond.instanceMethod yX8_setFree ∈ W0 ∧ Cond.selects RX8 yX8_setFree yX8_setFree ∈ W0 ∧ Cond.initialized RX8 ∈ W0 ∧ Cond.code yX8_setFree cX8_setFree 6 none ∈ W0 := ⟨m_IM_X8_setFree, m_SE_X8_setFree, m_IN_X8, m_CO_X8_setFree⟩
theorem sv_X8_stamp : Cond.instanceMethod yX8_stamp ∈ W0 ∧ Cond.selects RX8 yX8_stamp yX8_stamp ∈ W0 ∧ Cond.initialized RX8 ∈ W0 ∧ Cond.code yX8_stamp cX8_stamp 5 (some .int) ∈ W0 := ⟨m_IM_X8_stamp, m_SE_X8_stamp, m_IN_X8, m_CO_X8_stamp⟩
theorem ss_X8_startOf : Cond.static yX8_startOf ∈ W0 ∧ Cond.initialized yX8_startOf.cls ∈ W0 ∧ Cond.code yX8_startOf cX8_startOf 3 (some .int) ∈ W0 := ⟨m_ST_X8_startOf, m_IN_X8, m_CO_X8_startOf⟩
theorem sv_X8_status : Cond.instanceMethod yX8_status ∈ W0 ∧ Cond.selects RX8 yX8_status yX8_status ∈ W0 ∧ Cond.initialized RX8 ∈ W0 ∧ Cond.code yX8_status cX8_status 2 (some .int) ∈ W0 := ⟨m_IM_X8_status, m_SE_X8_status, m_IN_X8, m_CO_X8_status⟩
theorem sv_X8_syncs : Cond.instanceMethod yX8_syncs ∈ W0 ∧ Cond.selects RX8 yX8_syncs yX8_syncs ∈ W0 ∧ Cond.initialized RX8 ∈ W0 ∧ Cond.code yX8_syncs cX8_syncs 2 (some .int) ∈ W0 := ⟨m_IM_X8_syncs, m_SE_X8_syncs, m_IN_X8, m_CO_X8_syncs⟩
theorem sv_X8_takes : Cond.instanceMethod yX8_takes ∈ W0 ∧ Cond.selects RX8 yX8_takes yX8_takes ∈ W0 ∧ Cond.initialized RX8 ∈ W0 ∧ Cond.code yX8_takes cX8_takes 5 (some .boolean) ∈ W0 := ⟨m_IM_X8_takes, m_SE_X8_takes, m_IN_X8, m_CO_X8_takes⟩
theorem sv_X8_tell : Cond.instanceMethod yX8_tell ∈ W0 ∧ Cond.selects RX8 yX8_tell yX8_tell ∈ W0 ∧ Cond.initialized RX8 ∈ W0 ∧ Cond.code yX8_tell cX8_tell 2 none ∈ W0 := ⟨m_IM_X8_tell, m_SE_X8_tell, m_IN_X8, m_CO_X8_tell⟩
theorem sv_X8_turn : Cond.instanceMethod yX8_turn ∈ W0 ∧ Cond.selects RX8 yX8_turn yX8_turn ∈ W0 ∧ Cond.initialized RX8 ∈ W0 ∧ Cond.code yX8_turn cX8_turn 7 (some .int) ∈ W0 := ⟨m_IM_X8_turn, m_SE_X8_turn, m_IN_X8, m_CO_X8_turn⟩
theorem sv_X8_write : Cond.instanceMethod yX8_write ∈ W0 ∧ Cond.selects RX8 yX8_write yX8_write ∈ W0 ∧ Cond.initialized RX8 ∈ W0 ∧ Cond.code yX8_write cX8_write 5 (some .int) ∈ W0 := ⟨m_IM_X8_write, m_SE_X8_write, m_IN_X8, m_CO_X8_write⟩
theorem sv_X8_writeBlock : Cond.instanceMethod yX8_writeBlock ∈ W0 ∧ Cond.selects RX8 yX8_writeBlock yX8_writeBlock ∈ W0 ∧ Cond.initialized RX8 ∈ W0 ∧ Cond.code yX8_writeBlock cX8_writeBlock 4 (some .int) ∈ W0 := ⟨m_IM_X8_writeBlock, m_SE_X8_writeBlock, m_IN_X8, m_CO_X8_writeBlock⟩
theorem sv_X8_writeDirectory : Cond.instanceMethod yX8_writeDirectory ∈ W0 ∧ Cond.selects RX8 yX8_writeDirectory yX8_writeDirectory ∈ W0 ∧ Cond.initialized RX8 ∈ W0 ∧ Cond.code yX8_writeDirectory cX8_writeDirectory 3 (some .boolean) ∈ W0 := ⟨m_IM_X8_writeDirectory, m_SE_X8_writeDirectory, m_IN_X8, m_CO_X8_writeDirectory⟩
theorem sv_X8_writeFile : Cond.instanceMethod yX8_writeFile ∈ W0 ∧ Cond.selects RX8 yX8_writeFile yX8_writeFile ∈ W0 ∧ Cond.initialized RX8 ∈ W0 ∧ Cond.code yX8_writeFile cX8_writeFile 6 (some .boolean) ∈ W0 := ⟨m_IM_X8_writeFile, m_SE_X8_writeFile, m_IN_X8, m_CO_X8_writeFile⟩
theorem sv_X8_writeMap : Cond.instanceMethod yX8_writeMap ∈ W0 ∧ Cond.selects RX8 yX8_writeMap yX8_writeMap ∈ W0 ∧ Cond.initialized RX8 ∈ W0 ∧ Cond.code yX8_writeMap cX8_writeMap 2 (some .boolean) ∈ W0 := ⟨m_IM_X8_writeMap, m_SE_X8_writeMap, m_IN_X8, m_CO_X8_writeMap⟩
theorem u_X0 : ∀ w ∈ u_ws RX0 TX0 7, w ∈ W0 := by
  intro w hw
  obtain ⟨k, hk, rfl⟩ := List.mem_map.mp hw
  have hk := List.mem_range.mp hk
  match k, hk with
  | 0, _ => exact wT1 110 rfl rfl
  | 1, _ => exact wT1 112 rfl rfl
  | 2, _ => exact wT1 114 rfl rfl
  | 3, _ => exact wT1 116 rfl rfl
  | 4, _ => exact wT1 118 rfl rfl
  | 5, _ => exact wT1 120 rfl rfl
  | 6, _ => exact wT1 122 rfl rfl
  | k + 7, hk => exact absurd hk (by omega)
theorem u_X1 : ∀ w ∈ u_ws RX1 TX1 2, w ∈ W0 := by
  intro w hw
  obtain ⟨k, hk, rfl⟩ := List.mem_map.mp hw
  have hk := List.mem_range.mp hk
  match k, hk with
  | 0, _ => exact wT1 230 rfl rfl
  | 1, _ => exact wT1 232 rfl rfl
  | k + 2, hk => exact absurd hk (by omega)
theorem u_X2 : ∀ w ∈ u_ws RX2 TX2 6, w ∈ W0 := by
  intro w hw
  obtain ⟨k, hk, rfl⟩ := List.mem_map.mp hw
  have hk := List.mem_range.mp hk
  match k, hk with
  | 0, _ => exact wT1 206 rfl rfl
  | 1, _ => exact wT1 208 rfl rfl
  | 2, _ => exact wT1 210 rfl rfl
  | 3, _ => exact wT1 212 rfl rfl
  | 4, _ => exact wT1 214 rfl rfl
  | 5, _ => exact wT1 216 rfl rfl
  | k + 6, hk => exact absurd hk (by omega)
theorem u_X3 : ∀ w ∈ u_ws RX3 TX3 12, w ∈ W0 := by
  intro w hw
  obtain ⟨k, hk, rfl⟩ := List.mem_map.mp hw
  have hk := List.mem_range.mp hk
  match k, hk with
  | 0, _ => exact wT1 166 rfl rfl
  | 1, _ => exact wT1 168 rfl rfl
  | 2, _ => exact wT1 170 rfl rfl
  | 3, _ => exact wT1 172 rfl rfl
  | 4, _ => exact wT1 174 rfl rfl
  | 5, _ => exact wT1 176 rfl rfl
  | 6, _ => exact wT1 178 rfl rfl
  | 7, _ => exact wT1 180 rfl rfl
  | 8, _ => exact wT1 182 rfl rfl
  | 9, _ => exact wT1 184 rfl rfl
  | 10, _ => exact wT1 186 rfl rfl
  | 11, _ => exact wT1 188 rfl rfl
  | k + 12, hk => exact absurd hk (by omega)
theorem u_X4 : ∀ w ∈ u_ws RX4 TX4 1, w ∈ W0 := by
  intro w hw
  obtain ⟨k, hk, rfl⟩ := List.mem_map.mp hw
  have hk := List.mem_range.mp hk
  match k, hk with
  | 0, _ => exact wT1 133 rfl rfl
  | k + 1, hk => exact absurd hk (by omega)
theorem u_X5 : ∀ w ∈ u_ws RX5 TX5 5, w ∈ W0 := by
  intro w hw
  obtain ⟨k, hk, rfl⟩ := List.mem_map.mp hw
  have hk := List.mem_range.mp hk
  match k, hk with
  | 0, _ => exact wT1 64 rfl rfl
  | 1, _ => exact wT1 66 rfl rfl
  | 2, _ => exact wT1 68 rfl rfl
  | 3, _ => exact wT1 70 rfl rfl
  | 4, _ => exact wT1 72 rfl rfl
  | k + 5, hk => exact absurd hk (by omega)
theorem u_X6 : ∀ w ∈ u_ws RX6 TX6 3, w ∈ W0 := by
  intro w hw
  obtain ⟨k, hk, rfl⟩ := List.mem_map.mp hw
  have hk := List.mem_range.mp hk
  match k, hk with
  | 0, _ => exact wT1 32 rfl rfl
  | 1, _ => exact wT1 34 rfl rfl
  | 2, _ => exact wT1 36 rfl rfl
  | k + 3, hk => exact absurd hk (by omega)
theorem u_X7 : ∀ w ∈ u_ws RX7 TX7 10, w ∈ W0 := by
  intro w hw
  obtain ⟨k, hk, rfl⟩ := List.mem_map.mp hw
  have hk := List.mem_range.mp hk
  match k, hk with
  | 0, _ => exact wT2 6 rfl rfl
  | 1, _ => exact wT2 8 rfl rfl
  | 2, _ => exact wT2 10 rfl rfl
  | 3, _ => exact wT2 12 rfl rfl
  | 4, _ => exact wT2 14 rfl rfl
  | 5, _ => exact wT2 16 rfl rfl
  | 6, _ => exact wT2 18 rfl rfl
  | 7, _ => exact wT2 20 rfl rfl
  | 8, _ => exact wT2 22 rfl rfl
  | 9, _ => exact wT2 24 rfl rfl
  | k + 10, hk => exact absurd hk (by omega)
theorem u_X8 : ∀ w ∈ u_ws RX8 TX8 31, w ∈ W0 := by
  intro w hw
  obtain ⟨k, hk, rfl⟩ := List.mem_map.mp hw
  have hk := List.mem_range.mp hk
  match k, hk with
  | 0, _ => exact wT3 170 rfl rfl
  | 1, _ => exact wT3 172 rfl rfl
  | 2, _ => exact wT3 174 rfl rfl
  | 3, _ => exact wT3 176 rfl rfl
  | 4, _ => exact wT3 178 rfl rfl
  | 5, _ => exact wT3 180 rfl rfl
  | 6, _ => exact wT3 182 rfl rfl
  | 7, _ => exact wT3 184 rfl rfl
  | 8, _ => exact wT3 186 rfl rfl
  | 9, _ => exact wT3 188 rfl rfl
  | 10, _ => exact wT3 190 rfl rfl
  | 11, _ => exact wT3 192 rfl rfl
  | 12, _ => exact wT3 194 rfl rfl
  | 13, _ => exact wT3 196 rfl rfl
  | 14, _ => exact wT3 198 rfl rfl
  | 15, _ => exact wT3 200 rfl rfl
  | 16, _ => exact wT3 202 rfl rfl
  | 17, _ => exact wT3 204 rfl rfl
  | 18, _ => exact wT3 206 rfl rfl
  | 19, _ => exact wT3 208 rfl rfl
  | 20, _ => exact wT3 210 rfl rfl
  | 21, _ => exact wT3 212 rfl rfl
  | 22, _ => exact wT3 214 rfl rfl
  | 23, _ => exact wT3 216 rfl rfl
  | 24, _ => exact wT3 218 rfl rfl
  | 25, _ => exact wT3 220 rfl rfl
  | 26, _ => exact wT3 222 rfl rfl
  | 27, _ => exact wT3 224 rfl rfl
  | 28, _ => exact wT3 226 rfl rfl
  | 29, _ => exact wT3 228 rfl rfl
  | 30, _ => exact wT3 230 rfl rfl
  | k + 31, hk => exact absurd hk (by omega)
end
section
/-! CORE: the memory of a system by codes (a code is the number of a cell by the order of its making), its world, rows over it -/
abbrev Mm : Type := Nat → Nat → Int32
def upA (D : Mm) (c : Nat) (f : Nat → Int32) : Mm := fun c' => if c' = c then f else D c'
def up2 (D : Mm) (c k : Nat) (v : Int32) : Mm := upA D c (upd (D c) k v)
/-- the graph: how many cells, the kind of each, the length of each array, what each reference leads to -/
abbrev Gr : Type := Nat × (Nat → Nat) × (Nat → Nat) × (Nat → Nat → Option Nat)
def gn (G : Gr) : Nat := G.1
def gK (G : Gr) : Nat → Nat := G.2.1
def gN (G : Gr) : Nat → Nat := G.2.2.1
def gP (G : Gr) : Nat → Nat → Option Nat := G.2.2.2
abbrev Yc : Type := ClassId × ClassId × ClassId
abbrev tyL (Y : Yc) : List (ClassId × FieldType) := [(Y.1, .int), (Y.2.1, .boolean), (Y.2.2, .object RX5)]
def cE (Y : Yc) (k N : Nat) (p : Nat → Option Nat) (d : Nat → Int32) : va_E := match k with
  | 0 => .inr (0, [va_rf (p 0), va_rf (p 1), va_rf (p 2), .int (d 3), .int (d 4), .int (d 5), .int (d 6)])
  | 1 => .inr (1, [va_rf (p 0), .int (d 1)])
  | 2 => .inr (2, [va_rf (p 0), va_rf (p 1), va_rf (p 2), va_rf (p 3), .int (d 4), va_rf (p 5)])
  | 3 => .inr (3, [va_rf (p 0), va_rf (p 1), va_rf (p 2), .int (d 3), .int (d 4), .int (d 5), .int (d 6), .int (d 7), va_rf (p 8), .int (d 9), .int (d 10), .int (d 11)])
  | 4 => .inr (4, [va_rf (p 0)])
  | 5 => .inr (5, [va_rf (p 0), .int (d 1), va_rf (p 2), .int (d 3), .int (d 4)])
  | 6 => .inr (6, [.int (d 0), .int (d 1), .int (d 2)])
  | 7 => .inr (7, [va_rf (p 0), va_rf (p 1), va_rf (p 2), va_rf (p 3), va_rf (p 4), va_rf (p 5), va_rf (p 6), va_rf (p 7), va_rf (p 8), va_rf (p 9)])
  | 8 => .inr (8, [va_rf (p 0), va_rf (p 1), va_rf (p 2), va_rf (p 3), .int (d 4), va_rf (p 5), .int (d 6), va_rf (p 7), .int (d 8), .int (d 9), .int (d 10), .int (d 11), .int (d 12), .int (d 13), .int (d 14), va_rf (p 15), .int (d 16), .int (d 17), va_rf (p 18), va_rf (p 19), va_rf (p 20), va_rf (p 21), va_rf (p 22), .int (d 23), .int (d 24), .int (d 25), va_rf (p 26), va_rf (p 27), .int (d 28), .int (d 29), .int (d 30)])
  | 9 => .inl (Y.1, N, .inl d)
  | 10 => .inl (Y.2.1, N, .inl d)
  | _ => .inl (Y.2.2, N, .inr (.inr (.inr (.inr p))))
theorem ce0 {Y : Yc} {k N : Nat} {p : Nat → Option Nat} {d : Nat → Int32} (h : k = 0) : cE Y k N p d = .inr (0, [va_rf (p 0), va_rf (p 1), va_rf (p 2), .int (d 3), .int (d 4), .int (d 5), .int (d 6)]) := by subst h; rfl
theorem ce1 {Y : Yc} {k N : Nat} {p : Nat → Option Nat} {d : Nat → Int32} (h : k = 1) : cE Y k N p d = .inr (1, [va_rf (p 0), .int (d 1)]) := by subst h; rfl
theorem ce2 {Y : Yc} {k N : Nat} {p : Nat → Option Nat} {d : Nat → Int32} (h : k = 2) : cE Y k N p d = .inr (2, [va_rf (p 0), va_rf (p 1), va_rf (p 2), va_rf (p 3), .int (d 4), va_rf (p 5)]) := by subst h; rfl
theorem ce3 {Y : Yc} {k N : Nat} {p : Nat → Option Nat} {d : Nat → Int32} (h : k = 3) : cE Y k N p d = .inr (3, [va_rf (p 0), va_rf (p 1), va_rf (p 2), .int (d 3), .int (d 4), .int (d 5), .int (d 6), .int (d 7), va_rf (p 8), .int (d 9), .int (d 10), .int (d 11)]) := by subst h; rfl
theorem ce4 {Y : Yc} {k N : Nat} {p : Nat → Option Nat} {d : Nat → Int32} (h : k = 4) : cE Y k N p d = .inr (4, [va_rf (p 0)]) := by subst h; rfl
theorem ce5 {Y : Yc} {k N : Nat} {p : Nat → Option Nat} {d : Nat → Int32} (h : k = 5) : cE Y k N p d = .inr (5, [va_rf (p 0), .int (d 1), va_rf (p 2), .int (d 3), .int (d 4)]) := by subst h; rfl
theorem ce6 {Y : Yc} {k N : Nat} {p : Nat → Option Nat} {d : Nat → Int32} (h : k = 6) : cE Y k N p d = .inr (6, [.int (d 0), .int (d 1), .int (d 2)]) := by subst h; rfl
theorem ce7 {Y : Yc} {k N : Nat} {p : Nat → Option Nat} {d : Nat → Int32} (h : k = 7) : cE Y k N p d = .inr (7, [va_rf (p 0), va_rf (p 1), va_rf (p 2), va_rf (p 3), va_rf (p 4), va_rf (p 5), va_rf (p 6), va_rf (p 7), va_rf (p 8), va_rf (p 9)]) := by subst h; rfl
theorem ce8 {Y : Yc} {k N : Nat} {p : Nat → Option Nat} {d : Nat → Int32} (h : k = 8) : cE Y k N p d = .inr (8, [va_rf (p 0), va_rf (p 1), va_rf (p 2), va_rf (p 3), .int (d 4), va_rf (p 5), .int (d 6), va_rf (p 7), .int (d 8), .int (d 9), .int (d 10), .int (d 11), .int (d 12), .int (d 13), .int (d 14), va_rf (p 15), .int (d 16), .int (d 17), va_rf (p 18), va_rf (p 19), va_rf (p 20), va_rf (p 21), va_rf (p 22), .int (d 23), .int (d 24), .int (d 25), va_rf (p 26), va_rf (p 27), .int (d 28), .int (d 29), .int (d 30)]) := by subst h; rfl
def pE (G : Gr) (ad : Nat → Nat) (c : Nat) : Nat → Option Nat := fun i => (gP G c i).map ad
def wW (Y : Yc) (G : Gr) (ad : Nat → Nat) (D : Mm) : va_W := (List.range (gn G)).map (fun c => (ad c, cE Y (gK G c) (gN G c) (pE G ad c) (D c)))
theorem wW_at {Y : Yc} {G : Gr} {ad : Nat → Nat} {D : Mm} {c : Nat} {e : va_E} (h : c < gn G) (he : cE Y (gK G c) (gN G c) (pE G ad c) (D c) = e) : (wW Y G ad D)[c]? = some (ad c, e) := by
  subst he
  simp [wW, h]
theorem wW_set {Y : Yc} {G : Gr} {ad : Nat → Nat} {D D' : Mm} {c : Nat} {e : va_E} (h : c < gn G) (he : cE Y (gK G c) (gN G c) (pE G ad c) (D' c) = e) (ho : ∀ c', c' ≠ c → D' c' = D c') : (wW Y G ad D).set c (ad c, e) = wW Y G ad D' := by
  subst he
  apply List.ext_getElem?
  intro i
  rw [List.getElem?_set]
  by_cases hi : c = i
  · subst hi
    simp [wW, h]
  · rw [if_neg hi]
    by_cases hn : i < gn G
    · simp [wW, hn, ho i (fun q => hi q.symm)]
    · simp [wW, hn]
/-- what may change: the cells of the graph -/
def pA (G : Gr) (ad : Nat → Nat) : Nat → Prop := fun q => ∃ c, c < gn G ∧ ad c = q
abbrev Ij (G : Gr) (ad : Nat → Nat) : Prop := ∀ i j, i < gn G → j < gn G → ad i = ad j → i = j
theorem wW_D {Y : Yc} {G : Gr} {ad : Nat → Nat} {D : Mm} (ij : Ij G ad) : va_D (pA G ad) (wW Y G ad D) := by
  have key : ∀ (k : Nat) (q : Nat × va_E), (wW Y G ad D)[k]? = some q → k < gn G ∧ q.1 = ad k := by
    intro k q hq
    by_cases hn : k < gn G
    · simp [wW, hn] at hq
      exact ⟨hn, by rw [← hq]⟩
    · simp [wW, hn] at hq
  refine ⟨fun i j p q hp hq e => ?_, fun k q hq => ?_⟩
  · obtain ⟨a1, a2⟩ := key i p hp
    obtain ⟨b1, b2⟩ := key j q hq
    exact ij i j a1 b1 (by rw [← a2, ← b2, e])
  · obtain ⟨a1, a2⟩ := key k q hq
    exact ⟨k, a1, a2.symm⟩
def AtK (G : Gr) (c k : Nat) : Prop := c < gn G ∧ gK G c = k
theorem rfv {G : Gr} {ad : Nat → Nat} {c k c' : Nat} (h : gP G c k = some c') : some (va_rf (pE G ad c k)) = some (Value.ref (ad c')) := by
  unfold pE
  rw [h]
  rfl
-- tables of the class's constants
def tFIVES : Nat → Int32 := fun j => [10, 11, 18, 19, 14, 15, 22, 23, 9, 25, 26, 27, 13, 29, 30, 21].getD j 0
def tHALVES : Nat → Int32 := fun j => [-1, -1, -1, -1, -1, -1, -1, -1, -1, 8, 0, 1, -1, 12, 4, 5, -1, -1, 2, 3, -1, 15, 6, 7, -1, 9, 10, 11, -1, 13, 14, -1].getD j 0
def tFILES : Nat → Int32 := fun j => [8, 7, 6, 5, 4, 3, 2, 1, 10, 11, 12, 13, 14, 15, 16].getD j 0
/-- the words on nest mates -/
def Nst (U : State) : Prop :=
  va_Nw (.fieldLinkNest RX5 39 "BitDrive" "FIVES" "[I" "BitDrive") U ∧
  va_Nw (.fieldLinkNest RX5 46 "BitDrive" "HALVES" "[I" "BitDrive") U ∧
  va_Nw (.fieldLinkNest RX2 33 "BitDrive" "FILE_TRACKS" "[I" "BitDrive") U ∧
  va_Nw (.fieldLinkNest RX4 40 "BitDrive" "FILE_TRACKS" "[I" "BitDrive") U ∧
  va_Nw (.methodLinkNest RX7 11 yX6_init "BitDrive") U ∧
  va_Nw (.methodLinkNest RX7 27 yX4_init "BitDrive") U ∧
  va_Nw (.methodLinkNest RX4 15 yX7_clearRow "BitDrive") U ∧
  va_Nw (.methodLinkNest RX4 29 yX7_fillName "BitDrive") U ∧
  va_Nw (.methodLinkNest RX3 66 yX7_hasName "BitDrive") U ∧
  va_Nw (.methodLinkNest RX3 101 yX7_clearRow "BitDrive") U
theorem Nst.warm {s U : State} (hW : s.WarmedH U.vm) (h : Nst s) : Nst U := by
  obtain ⟨a1, a2, a3, a4, b1, b2, b3, b4, b5, b6⟩ := h
  exact ⟨a1.warmF hW, a2.warmF hW, a3.warmF hW, a4.warmF hW, b1.warmM hW, b2.warmM hW, b3.warmM hW, b4.warmM hW, b5.warmM hW, b6.warmM hW⟩
theorem Nst.same {s U : State} (hW : s.vm = U.vm) (h : Nst s) : Nst U := by
  obtain ⟨a1, a2, a3, a4, b1, b2, b3, b4, b5, b6⟩ := h
  exact ⟨a1.same rfl hW, a2.same rfl hW, a3.same rfl hW, a4.same rfl hW, b1.same rfl hW, b2.same rfl hW, b3.same rfl hW, b4.same rfl hW, b5.same rfl hW, b6.same rfl hW⟩
abbrev Ts3 : Type := Nat × Nat × Nat
/-- the static arrays, at t, outside of A -/
def Sta (t : Ts3) (A : Nat → Prop) (U : State) : Prop :=
  va_Z "BitDrive" "FIVES" "[I" (.ref t.1) A U U.heap ∧ va_T .int t.1 16 (fun j => .int (tFIVES j)) A U U.heap ∧
  va_Z "BitDrive" "HALVES" "[I" (.ref t.2.1) A U U.heap ∧ va_T .int t.2.1 32 (fun j => .int (tHALVES j)) A U U.heap ∧
  va_Z "BitDrive" "FILE_TRACKS" "[I" (.ref t.2.2) A U U.heap ∧ va_T .int t.2.2 15 (fun j => .int (tFILES j)) A U U.heap ∧ Nst U
theorem Sta.go {t : Ts3} {A : Nat → Prop} {s U : State} {H : Heap} {locs : List Loc} (hS : va_S A s.heap H locs) (hU : U.heap = H) (hW : s.WarmedH U.vm) (h : Sta t A s) : Sta t A U := by
  obtain ⟨a1, a2, a3, a4, a5, a6, a7⟩ := h
  have hq : ∀ a : Nat, a < s.heap.size → ¬ A a → U.heap[a]? = s.heap[a]? := fun a h1 h2 => by rw [hU]; exact hS.2.1 a h1 h2
  have al := hW.alike
  exact ⟨(a1.kept hq).moved al, (a2.kept hq).moved al, (a3.kept hq).moved al, (a4.kept hq).moved al, (a5.kept hq).moved al, (a6.kept hq).moved al, a7.warm hW⟩
theorem Sta.same {t : Ts3} {A : Nat → Prop} {s U : State} (hH : s.heap = U.heap) (hV : s.vm = U.vm) (h : Sta t A s) : Sta t A U := by
  obtain ⟨a1, a2, a3, a4, a5, a6, a7⟩ := h
  have al : s.vm.Alike U.vm := by rw [hV]; exact Vm.Alike.refl U.vm
  rw [hH] at a1 a2 a3 a4 a5 a6
  exact ⟨a1.moved al, a2.moved al, a3.moved al, a4.moved al, a5.moved al, a6.moved al, a7.same hV⟩
abbrev Dd : Type := va_G
/-- the world: the cells, the classes, the static arrays -/
def Wd (dd : Dd) (Y : Yc) (t : Ts3) (G : Gr) (ad : Nat → Nat) (D : Mm) (U : State) : Prop := va_P dd vwCl (wW Y G ad D) U.heap ∧ va_K dd vwCl (tyL Y) U ∧ Sta t (pA G ad) U
theorem Wd.blind {dd : Dd} {Y : Yc} {t : Ts3} {G : Gr} {ad : Nat → Nat} {D : Mm} {av : List Value} : FrameBlind (va_Pc av (Wd dd Y t G ad D)) := by
  intro a U g mk h
  obtain ⟨h1, h2, h3, h4⟩ := h
  exact ⟨h1, h2, va_K.moved (u := U) (U := U.calling g mk a) (Vm.Alike.refl U.vm) h3, h4.same rfl rfl⟩
theorem Wd.go {dd : Dd} {Y : Yc} {t : Ts3} {G : Gr} {ad : Nat → Nat} {D : Mm} {s U : State} {H : Heap} {locs : List Loc} (hP : va_P dd vwCl (wW Y G ad D) H) (hK : va_K dd vwCl (tyL Y) s) (hT : Sta t (pA G ad) s) (hS : va_S (pA G ad) s.heap H locs) (hU : U.heap = H) (hW : s.WarmedH U.vm) : Wd dd Y t G ad D U :=
  ⟨by rw [hU]; exact hP, va_K.moved hW.alike hK, hT.go hS hU hW⟩
/-- the end of a contract: the answer r0, the memory D' -/
abbrev Qi (dd : Dd) (Y : Yc) (G : Gr) (ad : Nat → Nat) (ty : FieldType) (r0 : Int32) (D' : Mm) : Array Value → State → Outcome → State → Prop := va_Qi (fun (r : Int32) (u : Mm) => r = r0 ∧ u = D' ∧ narrow ty (.int r) = .int r) (fun u t => va_P dd vwCl (wW Y G ad u) t.heap) (pA G ad)
abbrev Qv (dd : Dd) (Y : Yc) (G : Gr) (ad : Nat → Nat) (D' : Mm) : Array Value → State → Outcome → State → Prop := va_Qv (fun (u : Mm) => u = D') (fun u t => va_P dd vwCl (wW Y G ad u) t.heap) (pA G ad)
-- pure helpers
def inB (i : Int32) (n : Nat) : Bool := decide (¬ (i < 0 ∨ n ≤ i.toNatClampNeg))
theorem inB_in {i : Int32} {n : Nat} (h : inB i n = true) : vp_in i n := by
  have q : ¬ (i < 0 ∨ n ≤ i.toNatClampNeg) := of_decide_eq_true h
  exact q
theorem x_if {c : Prop} {α : Type} {a : Option α} {r : α} {_ : Decidable c} (h : (if c then a else none) = some r) : c ∧ a = some r := by
  by_cases hc : c
  · rw [if_pos hc] at h; exact ⟨hc, h⟩
  · rw [if_neg hc] at h; cases h
theorem x_ifn {c : Prop} {α : Type} {a : Option α} {r : α} {_ : Decidable c} (h : (if c then none else a) = some r) : ¬ c ∧ a = some r := by
  by_cases hc : c
  · rw [if_pos hc] at h; cases h
  · rw [if_neg hc] at h; exact ⟨hc, h⟩
theorem x_t {c : Prop} {α : Type} {a b r : α} {_ : Decidable c} (hc : c) (h : (if c then a else b) = r) : a = r := by rw [if_pos hc] at h; exact h
theorem x_f {c : Prop} {α : Type} {a b r : α} {_ : Decidable c} (hc : ¬ c) (h : (if c then a else b) = r) : b = r := by rw [if_neg hc] at h; exact h
abbrev Rs : Type := Option (Int32 × Mm)
def bi (x : Rs) (k : Int32 → Mm → Rs) : Rs := match x with
  | none => none
  | some q => k q.1 q.2
theorem bi_some {x : Rs} {k : Int32 → Mm → Rs} {r : Int32 × Mm} (h : bi x k = some r) : ∃ v D, x = some (v, D) ∧ k v D = some r := by
  cases x with
  | none => cases h
  | some q => exact ⟨q.1, q.2, rfl, h⟩
abbrev jrem (x y : Int32) : Int32 := x - x / y * y
abbrev jush (x y : Int32) : Int32 := (x.toUInt32 >>> (y.toUInt32 &&& Int32.toUInt32 31)).toInt32
section X1
variable {p : Program} {l : Launch} {e : Env} {R : Room} {s : State} {m : MethodId} {args : Array Value} {below : List Frame} {meth : Method} {c : Code} {H : Heap} {locs : List Loc} {cells slots : Nat} {Q : State → Prop} {cc : ByteArray} {pc : Nat} {ls : Array Slot} {rest st0 : List Value} {dd : Dd} {Y : Yc} {t : Ts3} {G : Gr} {ad : Nat → Nat} {D : Mm}
theorem x_get (hx : p.tables.exec = Jvm.exec) (hb : c.code = cc) {own ref C : String} {T : u_T} {N ci index : Nat} {Ts : List Cond} (hts : ∀ w ∈ Ts, w.before args s = true) (hin : ∀ w ∈ u_ws C T N, w ∈ Ts) (hown : s.vm.findClass own = some m.cls) (hK : va_K dd vwCl (tyL Y) s) (hP : va_P dd vwCl (wW Y G ad D) H) {q0 : Nat} {fs : List Value} (hn : q0 < gn G) (he : cE Y (gK G q0) (gN G q0) (pE G ad q0) (D q0) = .inr (ci, fs)) (hc : vwCl[ci]? = some (C, T, N)) (k : Nat) (hk : k < N) (hlink : (Cond.fieldLink own index ref (T k).2.1 (T k).2.2.1).before args s = true) (hsame : (T k).1 = ref) {v : Value} (hv : fs[k]? = some v) (hdg : decode cc pc = .ok (.getfield index, 3))
    (kk : W p l e R s m args below meth c H locs cells slots Q (F0 m (pc + 3) ls (v :: rest))) : W p l e R s m args below meth c H locs cells slots Q (F0 m pc ls (.ref (ad q0) :: rest)) :=
  va_get hx hb hts hin hown hK hP q0 (wW_at hn he) hc k hk hlink (fun x h => by rw [← hsame]; exact h) hv hdg kk
theorem x_put (hx : p.tables.exec = Jvm.exec) (hb : c.code = cc) {own ref C : String} {T : u_T} {N ci index : Nat} {Ts : List Cond} (hts : ∀ w ∈ Ts, w.before args s = true) (hin : ∀ w ∈ u_ws C T N, w ∈ Ts) (ty0 : Nat → FieldType) (hty : ∀ k, k < N → parseFieldDescriptor (T k).2.2.1 = some (ty0 k)) (hnm : ∀ a, a < N → ∀ b, b < N → a ≠ b → (T a).2.1 ≠ (T b).2.1) (hown : s.vm.findClass own = some m.cls) (hK : va_K dd vwCl (tyL Y) s) (ij : Ij G ad) (hP : va_P dd vwCl (wW Y G ad D) H) (hS : va_S (pA G ad) s.heap H locs) {q0 : Nat} {fs : List Value} (hn : q0 < gn G) (he : cE Y (gK G q0) (gN G q0) (pE G ad q0) (D q0) = .inr (ci, fs)) (hc : vwCl[ci]? = some (C, T, N)) (k : Nat) (hk : k < N) (hlink : (Cond.fieldLink own index ref (T k).2.1 (T k).2.2.1).before args s = true) (hsame : (T k).1 = ref) (hfin : (T k).2.2.2 = false) {ty : FieldType} {x : Int32} (hd : parseFieldDescriptor (T k).2.2.1 = some ty) (hnr : narrow ty (.int x) = .int x) (hfit : fits ty (.int x) = true) (hl : k < fs.length) (he2 : cE Y (gK G q0) (gN G q0) (pE G ad q0) (upd (D q0) k x) = .inr (ci, fs.set k (.int x)))
    (hdg : decode cc pc = .ok (.putfield index, 3)) (kk : ∀ (H1 : Heap) (locs1 : List Loc), va_P dd vwCl (wW Y G ad (up2 D q0 k x)) H1 → va_S (pA G ad) s.heap H1 locs1 → W p l e R s m args below meth c H1 locs1 cells slots Q (F0 m (pc + 3) ls rest)) : W p l e R s m args below meth c H locs cells slots Q (F0 m pc ls (.int x :: .ref (ad q0) :: rest)) := by
  refine va_put hx hb hts hin ty0 hty hnm hown hK hP (wW_D ij) hS q0 (wW_at hn he) hc k hk hlink (fun x h => by rw [← hsame]; exact h) hfin hd hnr hfit hl hdg (fun H1 locs1 hP1 _ hS1 => ?_)
  rw [wW_set (D' := up2 D q0 k x) hn (by simp [up2, upA]; exact he2) (fun c' hc' => by simp [up2, upA, hc'])] at hP1
  exact kk H1 locs1 hP1 hS1
theorem x_ald (hx : p.tables.exec = Jvm.exec) (hb : c.code = cc) (hK : va_K dd vwCl (tyL Y) s) (hP : va_P dd vwCl (wW Y G ad D) H) {q0 : Nat} (ha : AtK G q0 9) {i : Int32} (hin : inB i (gN G q0) = true) (hdg : decode cc pc = .ok (.iaload, 1))
    (kk : W p l e R s m args below meth c H locs cells slots Q (F0 m (pc + 1) ls (.int (D q0 i.toNatClampNeg) :: rest))) : W p l e R s m args below meth c H locs cells slots Q (F0 m pc ls (.int i :: .ref (ad q0) :: rest)) :=
  va_iald (cA := Y.1) (n := gN G q0) (f := D q0) hx hb hK hP q0 0 (wW_at ha.1 (by rw [ha.2]; rfl)) rfl (inB_in hin) hdg kk
theorem x_zld (hx : p.tables.exec = Jvm.exec) (hb : c.code = cc) (hK : va_K dd vwCl (tyL Y) s) (hP : va_P dd vwCl (wW Y G ad D) H) {q0 : Nat} (ha : AtK G q0 10) {i : Int32} (hin : inB i (gN G q0) = true) (hdg : decode cc pc = .ok (.baload, 1))
    (kk : W p l e R s m args below meth c H locs cells slots Q (F0 m (pc + 1) ls (.int (D q0 i.toNatClampNeg) :: rest))) : W p l e R s m args below meth c H locs cells slots Q (F0 m pc ls (.int i :: .ref (ad q0) :: rest)) :=
  va_zald (cA := Y.2.1) (n := gN G q0) (f := D q0) hx hb hK hP q0 1 (wW_at ha.1 (by rw [ha.2]; rfl)) rfl (inB_in hin) hdg kk
theorem x_ast (hx : p.tables.exec = Jvm.exec) (hb : c.code = cc) (hK : va_K dd vwCl (tyL Y) s) (ij : Ij G ad) (hP : va_P dd vwCl (wW Y G ad D) H) (hS : va_S (pA G ad) s.heap H locs) {q0 : Nat} (ha : AtK G q0 9) {i x : Int32} (hin : inB i (gN G q0) = true) (hdg : decode cc pc = .ok (.iastore, 1))
    (kk : ∀ (H1 : Heap) (locs1 : List Loc), va_P dd vwCl (wW Y G ad (up2 D q0 i.toNatClampNeg x)) H1 → va_S (pA G ad) s.heap H1 locs1 → W p l e R s m args below meth c H1 locs1 cells slots Q (F0 m (pc + 1) ls rest)) : W p l e R s m args below meth c H locs cells slots Q (F0 m pc ls (.int x :: .int i :: .ref (ad q0) :: rest)) := by
  refine va_iast (cA := Y.1) (n := gN G q0) (f := D q0) hx hb hK hP (wW_D ij) hS q0 0 (wW_at ha.1 (by rw [ha.2]; rfl)) rfl (inB_in hin) hdg (fun H1 locs1 hP1 _ hS1 => ?_)
  rw [wW_set (D' := up2 D q0 i.toNatClampNeg x) ha.1 (by rw [ha.2]; simp [up2, upA, cE]) (fun c' hc' => by simp [up2, upA, hc'])] at hP1
  exact kk H1 locs1 hP1 hS1
theorem x_zst (hx : p.tables.exec = Jvm.exec) (hb : c.code = cc) (hK : va_K dd vwCl (tyL Y) s) (ij : Ij G ad) (hP : va_P dd vwCl (wW Y G ad D) H) (hS : va_S (pA G ad) s.heap H locs) {q0 : Nat} (ha : AtK G q0 10) {i x : Int32} (hin : inB i (gN G q0) = true) (hdg : decode cc pc = .ok (.bastore, 1))
    (kk : ∀ (H1 : Heap) (locs1 : List Loc), va_P dd vwCl (wW Y G ad (up2 D q0 i.toNatClampNeg (vp_nar .boolean x))) H1 → va_S (pA G ad) s.heap H1 locs1 → W p l e R s m args below meth c H1 locs1 cells slots Q (F0 m (pc + 1) ls rest)) : W p l e R s m args below meth c H locs cells slots Q (F0 m pc ls (.int x :: .int i :: .ref (ad q0) :: rest)) := by
  refine va_zast (cA := Y.2.1) (n := gN G q0) (f := D q0) hx hb hK hP (wW_D ij) hS q0 1 (wW_at ha.1 (by rw [ha.2]; rfl)) rfl (inB_in hin) hdg (fun H1 locs1 hP1 _ hS1 => ?_)
  rw [wW_set (D' := up2 D q0 i.toNatClampNeg (vp_nar .boolean x)) ha.1 (by rw [ha.2]; simp [up2, upA, cE]) (fun c' hc' => by simp [up2, upA, hc'])] at hP1
  exact kk H1 locs1 hP1 hS1
theorem x_len (hx : p.tables.exec = Jvm.exec) (hb : c.code = cc) (hK : va_K dd vwCl (tyL Y) s) (hP : va_P dd vwCl (wW Y G ad D) H) {q0 : Nat} (ha : AtK G q0 9) (hdg : decode cc pc = .ok (.arraylength, 1))
    (kk : W p l e R s m args below meth c H locs cells slots Q (F0 m (pc + 1) ls (.int (nI (gN G q0)) :: rest))) : W p l e R s m args below meth c H locs cells slots Q (F0 m pc ls (.ref (ad q0) :: rest)) :=
  va_alen (cA := Y.1) (x := (gN G q0, .inl (D q0))) hx hb hK hP q0 0 (wW_at ha.1 (by rw [ha.2]; rfl)) rfl rfl hdg kk
theorem x_cpy (hx : p.tables.exec = Jvm.exec) (hb : c.code = cc) (hml : c.maxLocals = ls.size) {own : String} {index : Nat} (hown : s.vm.findClass own = some m.cls) (hlink : (Cond.methodLink own index arraycopyName).before args s = true) (hnat : (Cond.native arraycopyName).before args s = true) (hstat : (Cond.static arraycopyName).before args s = true) (hini : (Cond.initialized "java/lang/System").before args s = true) (hK : va_K dd vwCl (tyL Y) s) (ij : Ij G ad) (hP : va_P dd vwCl (wW Y G ad D) H) (hS : va_S (pA G ad) s.heap H locs) {q0 q1 : Nat} (ha : AtK G q0 9) (ha1 : AtK G q1 9) {sp dp n : Int32} (hc : (decide (¬ sp < 0 ∧ ¬ dp < 0 ∧ ¬ n < 0 ∧ sp.toNatClampNeg + n.toNatClampNeg ≤ gN G q0 ∧ dp.toNatClampNeg + n.toNatClampNeg ≤ gN G q1)) = true) (hfr : 1 ≤ R.frames) (hlo : (rest.map fun v => v.category).sum + (nativeFrameWords "java/lang/System" "arraycopy" 5 + 11) ≤ R.locals) (hdg : decode cc pc = .ok (.invokestatic index, 3))
    (kk : ∀ (H1 : Heap) (locs1 : List Loc), va_P dd vwCl (wW Y G ad (upA D q1 (va_cpy (D q0) (D q1) sp.toNatClampNeg dp.toNatClampNeg n.toNatClampNeg))) H1 → va_S (pA G ad) s.heap H1 locs1 → W p l e R s m args below meth c H1 locs1 cells slots Q (F0 m (pc + 3) ls rest)) : W p l e R s m args below meth c H locs cells slots Q (F0 m pc ls (.int n :: .int dp :: .ref (ad q1) :: .int sp :: .ref (ad q0) :: rest)) := by
  obtain ⟨h1, h2, h3, h4, h5⟩ := of_decide_eq_true hc
  refine va_copyi (c0 := Y.1) (c1 := Y.1) (n0 := gN G q0) (n1 := gN G q1) (f := D q0) (g := D q1) (ty := .int) hx hb hml hown hlink hnat hstat hini hK hP (wW_D ij) hS q0 q1 0 0 (wW_at ha.1 (by rw [ha.2]; rfl)) (wW_at ha1.1 (by rw [ha1.2]; rfl)) rfl rfl rfl h1 h2 h3 h4 h5 (fun _ _ => rfl) hfr hlo hdg (fun H1 locs1 hP1 _ hS1 => ?_)
  rw [wW_set (D' := upA D q1 (va_cpy (D q0) (D q1) sp.toNatClampNeg dp.toNatClampNeg n.toNatClampNeg)) ha1.1 (by rw [ha1.2]; simp [upA, cE]) (fun c' hc' => by simp [upA, hc'])] at hP1
  exact kk H1 locs1 hP1 hS1
theorem x_iret {ty : FieldType} {v r0 : Int32} {D' : Mm} (hx : p.tables.exec = Jvm.exec) (hb : c.code = cc) (hr : meth.sig.returnType = some ty) (hlocks : meth.locks = false) (hn : narrow ty (.int v) = .int v) (hP : va_P dd vwCl (wW Y G ad D) H) (hS : va_S (pA G ad) s.heap H locs) (h : some (v, D) = some (r0, D')) (hdg : decode cc pc = .ok (.ireturn, 1)) : W p l e R s m args below meth c H locs 0 0 (MQ below (Qi dd Y G ad ty r0 D') args s 0 0 (pA G ad)) (F0 m pc ls [.int v]) := by
  obtain ⟨e1, e2⟩ := Prod.mk.inj (Option.some.inj h)
  subst e1 e2
  exact W.zret hx hb hr hn (fun t ht hW => ⟨⟨v, D, rfl, ⟨rfl, rfl, hn⟩, by show va_P dd vwCl (wW Y G ad D) t.heap; rw [ht]; exact hP⟩, hS.F ht⟩) hS.2.2 hdg hlocks
theorem x_vret {r0 : Int32} {D' : Mm} (hx : p.tables.exec = Jvm.exec) (hb : c.code = cc) (hr : meth.sig.returnType = none) (hlocks : meth.locks = false) (hP : va_P dd vwCl (wW Y G ad D) H) (hS : va_S (pA G ad) s.heap H locs) (h : some ((0 : Int32), D) = some (r0, D')) (hdg : decode cc pc = .ok (.return_, 1)) : W p l e R s m args below meth c H locs 0 0 (MQ below (Qv dd Y G ad D') args s 0 0 (pA G ad)) (F0 m pc ls []) := by
  obtain ⟨e1, e2⟩ := Prod.mk.inj (Option.some.inj h)
  subst e2
  exact W.vret hx hb hr (fun t ht hW => ⟨⟨D, rfl, rfl, by show va_P dd vwCl (wW Y G ad D) t.heap; rw [ht]; exact hP⟩, hS.F ht⟩) hS.2.2 hdg hlocks
variable {y : MethodName} {bytes : ByteArray} {maxL nL n index : Nat} {ret : Option FieldType} {rm : Room} {own C : String} {h : Nat} {As : List Value} {D1 : Mm} {r0 : Int32} {ty : FieldType}
theorem x_callVi (S : CallFix p m c cc nL s args W0 own) (hK : va_K dd vwCl (tyL Y) s) (hT : Sta t (pA G ad) s) (hP : va_P dd vwCl (wW Y G ad D) H) (hS : va_S (pA G ad) s.heap H locs) (hM : Met l y (.code y bytes maxL ret :: W0) rm (va_Pc (.ref (ad h) :: As) (Wd dd Y t G ad D)) (Qi dd Y G ad ty r0 D1) 0 0 (pA G ad)) (h1 : Cond.methodLink own index y ∈ W0) (hs : Cond.instanceMethod y ∈ W0 ∧ Cond.selects C y y ∈ W0 ∧ Cond.initialized C ∈ W0 ∧ Cond.code y bytes maxL ret ∈ W0) (hd : y.cls = C ∧ y.cls ≠ "java/lang/invoke/MethodHandle" ∧ y.cls ≠ "java/lang/invoke/VarHandle" ∧ (parseMethodDescriptor y.desc).map (fun d => d.parameters.length) = some n) (hrc : rm.cells = 0) (hrs : rm.slots = 0) (hR : rm.frames + 1 ≤ R.frames ∧ 8 + (maxL + 11) + rm.locals ≤ R.locals)
    {ci : Nat} {T : u_T} {N : Nat} {fs : List Value} (hn : h < gn G) (he : cE Y (gK G h) (gN G h) (pE G ad h) (D h) = .inr (ci, fs)) (hc : vwCl[ci]? = some (C, T, N)) (hl : As.length = n) (hsize : ls.size = nL) (hst : st0 = As.reverse ++ .ref (ad h) :: rest) (hW : (rest.map fun v => v.category).sum ≤ 8) (hdg : decode cc pc = .ok (.invokevirtual index, 3)) (hcs : cells + 0 ≤ R.cells ∧ slots + 0 ≤ R.slots)
    (kk : ∀ (H1 : Heap) (locs1 : List Loc), narrow ty (.int r0) = .int r0 → va_P dd vwCl (wW Y G ad D1) H1 → va_S (pA G ad) s.heap H1 locs1 → W p l e R s m args below meth c H1 locs1 cells slots Q (F0 m (pc + 3) ls (.int r0 :: rest))) : W p l e R s m args below meth c H locs cells slots Q (F0 m pc ls st0) := by
  refine va_calli (va_runV (As := As) (rest := rest) S hM (cwV n S.2.2.2.2 (gV h1 hs.1 hs.2.1 hs.2.2.1 hs.2.2.2) rfl hrc hrs hd hR) ⟨Wd.blind, va_recv hK hP hc (wW_at hn he), fun U hU hW => ⟨rfl, Wd.go hP hK hT hS hU hW⟩⟩ rfl hl hsize hst (lv_room hW) hdg hcs) hS (fun _ _ h => h) (fun _ h => h) (fun r u t H1 locs1 ht _ hw hB _ _ hS1 => ?_)
  obtain ⟨rfl, rfl, hnr⟩ := hw
  rw [ht] at hB
  exact kk H1 locs1 hnr hB hS1
theorem x_callVv (S : CallFix p m c cc nL s args W0 own) (hK : va_K dd vwCl (tyL Y) s) (hT : Sta t (pA G ad) s) (hP : va_P dd vwCl (wW Y G ad D) H) (hS : va_S (pA G ad) s.heap H locs) (hM : Met l y (.code y bytes maxL ret :: W0) rm (va_Pc (.ref (ad h) :: As) (Wd dd Y t G ad D)) (Qv dd Y G ad D1) 0 0 (pA G ad)) (h1 : Cond.methodLink own index y ∈ W0) (hs : Cond.instanceMethod y ∈ W0 ∧ Cond.selects C y y ∈ W0 ∧ Cond.initialized C ∈ W0 ∧ Cond.code y bytes maxL ret ∈ W0) (hd : y.cls = C ∧ y.cls ≠ "java/lang/invoke/MethodHandle" ∧ y.cls ≠ "java/lang/invoke/VarHandle" ∧ (parseMethodDescriptor y.desc).map (fun d => d.parameters.length) = some n) (hrc : rm.cells = 0) (hrs : rm.slots = 0) (hR : rm.frames + 1 ≤ R.frames ∧ 8 + (maxL + 11) + rm.locals ≤ R.locals)
    {ci : Nat} {T : u_T} {N : Nat} {fs : List Value} (hn : h < gn G) (he : cE Y (gK G h) (gN G h) (pE G ad h) (D h) = .inr (ci, fs)) (hc : vwCl[ci]? = some (C, T, N)) (hl : As.length = n) (hsize : ls.size = nL) (hst : st0 = As.reverse ++ .ref (ad h) :: rest) (hW : (rest.map fun v => v.category).sum ≤ 8) (hdg : decode cc pc = .ok (.invokevirtual index, 3)) (hcs : cells + 0 ≤ R.cells ∧ slots + 0 ≤ R.slots)
    (kk : ∀ (H1 : Heap) (locs1 : List Loc), va_P dd vwCl (wW Y G ad D1) H1 → va_S (pA G ad) s.heap H1 locs1 → W p l e R s m args below meth c H1 locs1 cells slots Q (F0 m (pc + 3) ls rest)) : W p l e R s m args below meth c H locs cells slots Q (F0 m pc ls st0) := by
  refine va_callv (va_runV (As := As) (rest := rest) S hM (cwV n S.2.2.2.2 (gV h1 hs.1 hs.2.1 hs.2.2.1 hs.2.2.2) rfl hrc hrs hd hR) ⟨Wd.blind, va_recv hK hP hc (wW_at hn he), fun U hU hW => ⟨rfl, Wd.go hP hK hT hS hU hW⟩⟩ rfl hl hsize hst (lv_room hW) hdg hcs) hS (fun _ _ h => h) (fun _ h => h) (fun u t H1 locs1 ht _ hw hB _ _ hS1 => ?_)
  subst hw
  rw [ht] at hB
  exact kk H1 locs1 hB hS1
theorem x_callSi (S : CallFix p m c cc nL s args W0 own) (hK : va_K dd vwCl (tyL Y) s) (hT : Sta t (pA G ad) s) (hP : va_P dd vwCl (wW Y G ad D) H) (hS : va_S (pA G ad) s.heap H locs) (hM : Met l y (.code y bytes maxL ret :: W0) rm (va_Pc As (Wd dd Y t G ad D)) (Qi dd Y G ad ty r0 D1) 0 0 (pA G ad)) (h1 : Cond.methodLink own index y ∈ W0) (hs : Cond.static y ∈ W0 ∧ Cond.initialized y.cls ∈ W0 ∧ Cond.code y bytes maxL ret ∈ W0) (hd : y.cls = C ∧ y.cls ≠ "java/lang/invoke/MethodHandle" ∧ y.cls ≠ "java/lang/invoke/VarHandle" ∧ (parseMethodDescriptor y.desc).map (fun d => d.parameters.length) = some n) (hrc : rm.cells = 0) (hrs : rm.slots = 0) (hR : rm.frames + 1 ≤ R.frames ∧ 8 + (maxL + 11) + rm.locals ≤ R.locals)
    (hl : As.length = n) (hsize : ls.size = nL) (hst : st0 = As.reverse ++ rest) (hW : (rest.map fun v => v.category).sum ≤ 8) (hdg : decode cc pc = .ok (.invokestatic index, 3)) (hcs : cells + 0 ≤ R.cells ∧ slots + 0 ≤ R.slots)
    (kk : ∀ (H1 : Heap) (locs1 : List Loc), narrow ty (.int r0) = .int r0 → va_P dd vwCl (wW Y G ad D1) H1 → va_S (pA G ad) s.heap H1 locs1 → W p l e R s m args below meth c H1 locs1 cells slots Q (F0 m (pc + 3) ls (.int r0 :: rest))) : W p l e R s m args below meth c H locs cells slots Q (F0 m pc ls st0) := by
  refine va_calli (va_runS (As := As) (rest := rest) S hM (va_cwS n S.2.2.2.2 (gS h1 hs.1 hs.2.1 hs.2.2) rfl hrc hrs hd.2 hR) ⟨Wd.blind, fun U hU hW => ⟨rfl, Wd.go hP hK hT hS hU hW⟩⟩ rfl hl hsize hst (lv_room hW) hdg hcs) hS (fun _ _ h => h) (fun _ h => h) (fun r u t H1 locs1 ht _ hw hB _ _ hS1 => ?_)
  obtain ⟨rfl, rfl, hnr⟩ := hw
  rw [ht] at hB
  exact kk H1 locs1 hnr hB hS1
theorem x_callSv (S : CallFix p m c cc nL s args W0 own) (hK : va_K dd vwCl (tyL Y) s) (hT : Sta t (pA G ad) s) (hP : va_P dd vwCl (wW Y G ad D) H) (hS : va_S (pA G ad) s.heap H locs) (hM : Met l y (.code y bytes maxL ret :: W0) rm (va_Pc As (Wd dd Y t G ad D)) (Qv dd Y G ad D1) 0 0 (pA G ad)) (h1 : Cond.methodLink own index y ∈ W0) (hs : Cond.static y ∈ W0 ∧ Cond.initialized y.cls ∈ W0 ∧ Cond.code y bytes maxL ret ∈ W0) (hd : y.cls = C ∧ y.cls ≠ "java/lang/invoke/MethodHandle" ∧ y.cls ≠ "java/lang/invoke/VarHandle" ∧ (parseMethodDescriptor y.desc).map (fun d => d.parameters.length) = some n) (hrc : rm.cells = 0) (hrs : rm.slots = 0) (hR : rm.frames + 1 ≤ R.frames ∧ 8 + (maxL + 11) + rm.locals ≤ R.locals)
    (hl : As.length = n) (hsize : ls.size = nL) (hst : st0 = As.reverse ++ rest) (hW : (rest.map fun v => v.category).sum ≤ 8) (hdg : decode cc pc = .ok (.invokestatic index, 3)) (hcs : cells + 0 ≤ R.cells ∧ slots + 0 ≤ R.slots)
    (kk : ∀ (H1 : Heap) (locs1 : List Loc), va_P dd vwCl (wW Y G ad D1) H1 → va_S (pA G ad) s.heap H1 locs1 → W p l e R s m args below meth c H1 locs1 cells slots Q (F0 m (pc + 3) ls rest)) : W p l e R s m args below meth c H locs cells slots Q (F0 m pc ls st0) := by
  refine va_callv (va_runS (As := As) (rest := rest) S hM (va_cwS n S.2.2.2.2 (gS h1 hs.1 hs.2.1 hs.2.2) rfl hrc hrs hd.2 hR) ⟨Wd.blind, fun U hU hW => ⟨rfl, Wd.go hP hK hT hS hU hW⟩⟩ rfl hl hsize hst (lv_room hW) hdg hcs) hS (fun _ _ h => h) (fun _ h => h) (fun u t H1 locs1 ht _ hw hB _ _ hS1 => ?_)
  subst hw
  rw [ht] at hB
  exact kk H1 locs1 hB hS1
theorem x_callNi {host : String} (S : CallFix p m c cc nL s args W0 own) (hK : va_K dd vwCl (tyL Y) s) (hT : Sta t (pA G ad) s) (hP : va_P dd vwCl (wW Y G ad D) H) (hS : va_S (pA G ad) s.heap H locs) (hM : Met l y (.code y bytes maxL ret :: W0) rm (va_Pc As (Wd dd Y t G ad D)) (Qi dd Y G ad ty r0 D1) 0 0 (pA G ad)) (h1 : va_Nw (.methodLinkNest own index y host) s) (hs : Cond.static y ∈ W0 ∧ Cond.initialized y.cls ∈ W0 ∧ Cond.code y bytes maxL ret ∈ W0) (hd : y.cls = C ∧ y.cls ≠ "java/lang/invoke/MethodHandle" ∧ y.cls ≠ "java/lang/invoke/VarHandle" ∧ (parseMethodDescriptor y.desc).map (fun d => d.parameters.length) = some n) (hrc : rm.cells = 0) (hrs : rm.slots = 0) (hR : rm.frames + 1 ≤ R.frames ∧ 8 + (maxL + 11) + rm.locals ≤ R.locals)
    (hl : As.length = n) (hsize : ls.size = nL) (hst : st0 = As.reverse ++ rest) (hW : (rest.map fun v => v.category).sum ≤ 8) (hdg : decode cc pc = .ok (.invokestatic index, 3)) (hcs : cells + 0 ≤ R.cells ∧ slots + 0 ≤ R.slots)
    (kk : ∀ (H1 : Heap) (locs1 : List Loc), narrow ty (.int r0) = .int r0 → va_P dd vwCl (wW Y G ad D1) H1 → va_S (pA G ad) s.heap H1 locs1 → W p l e R s m args below meth c H1 locs1 cells slots Q (F0 m (pc + 3) ls (.int r0 :: rest))) : W p l e R s m args below meth c H locs cells slots Q (F0 m pc ls st0) := by
  refine va_calli (va_runSN (As := As) (rest := rest) S hM ⟨va_cnB n S.2.2.2.2 (gC hs.2.2) rfl hrc hrs h1 (S.2.2.2.2 _ hs.2.1) hd.2 hR, S.2.2.2.2 _ hs.1, trivial⟩ ⟨Wd.blind, fun U hU hW => ⟨rfl, Wd.go hP hK hT hS hU hW⟩⟩ rfl hl hsize hst (lv_room hW) hdg hcs) hS (fun _ _ h => h) (fun _ h => h) (fun r u t H1 locs1 ht _ hw hB _ _ hS1 => ?_)
  obtain ⟨rfl, rfl, hnr⟩ := hw
  rw [ht] at hB
  exact kk H1 locs1 hnr hB hS1
theorem x_callNv {host : String} (S : CallFix p m c cc nL s args W0 own) (hK : va_K dd vwCl (tyL Y) s) (hT : Sta t (pA G ad) s) (hP : va_P dd vwCl (wW Y G ad D) H) (hS : va_S (pA G ad) s.heap H locs) (hM : Met l y (.code y bytes maxL ret :: W0) rm (va_Pc As (Wd dd Y t G ad D)) (Qv dd Y G ad D1) 0 0 (pA G ad)) (h1 : va_Nw (.methodLinkNest own index y host) s) (hs : Cond.static y ∈ W0 ∧ Cond.initialized y.cls ∈ W0 ∧ Cond.code y bytes maxL ret ∈ W0) (hd : y.cls = C ∧ y.cls ≠ "java/lang/invoke/MethodHandle" ∧ y.cls ≠ "java/lang/invoke/VarHandle" ∧ (parseMethodDescriptor y.desc).map (fun d => d.parameters.length) = some n) (hrc : rm.cells = 0) (hrs : rm.slots = 0) (hR : rm.frames + 1 ≤ R.frames ∧ 8 + (maxL + 11) + rm.locals ≤ R.locals)
    (hl : As.length = n) (hsize : ls.size = nL) (hst : st0 = As.reverse ++ rest) (hW : (rest.map fun v => v.category).sum ≤ 8) (hdg : decode cc pc = .ok (.invokestatic index, 3)) (hcs : cells + 0 ≤ R.cells ∧ slots + 0 ≤ R.slots)
    (kk : ∀ (H1 : Heap) (locs1 : List Loc), va_P dd vwCl (wW Y G ad D1) H1 → va_S (pA G ad) s.heap H1 locs1 → W p l e R s m args below meth c H1 locs1 cells slots Q (F0 m (pc + 3) ls rest)) : W p l e R s m args below meth c H locs cells slots Q (F0 m pc ls st0) := by
  refine va_callv (va_runSN (As := As) (rest := rest) S hM ⟨va_cnB n S.2.2.2.2 (gC hs.2.2) rfl hrc hrs h1 (S.2.2.2.2 _ hs.2.1) hd.2 hR, S.2.2.2.2 _ hs.1, trivial⟩ ⟨Wd.blind, fun U hU hW => ⟨rfl, Wd.go hP hK hT hS hU hW⟩⟩ rfl hl hsize hst (lv_room hW) hdg hcs) hS (fun _ _ h => h) (fun _ h => h) (fun u t H1 locs1 ht _ hw hB _ _ hS1 => ?_)
  subst hw
  rw [ht] at hB
  exact kk H1 locs1 hB hS1
theorem x_callVq (S : CallFix p m c cc nL s args W0 own) (hK : va_K dd vwCl (tyL Y) s) (hT : Sta t (pA G ad) s) (hP : va_P dd vwCl (wW Y G ad D) H) (hS : va_S (pA G ad) s.heap H locs) {qo : Option Nat} (hM : Met l y (.code y bytes maxL ret :: W0) rm (va_Pc (.ref (ad h) :: As) (Wd dd Y t G ad D)) (va_Qq (fun (r : Option Nat) (u : Mm) => r = qo.map ad ∧ u = D1) (fun u t => va_P dd vwCl (wW Y G ad u) t.heap) (pA G ad)) 0 0 (pA G ad)) (h1 : Cond.methodLink own index y ∈ W0) (hs : Cond.instanceMethod y ∈ W0 ∧ Cond.selects C y y ∈ W0 ∧ Cond.initialized C ∈ W0 ∧ Cond.code y bytes maxL ret ∈ W0) (hd : y.cls = C ∧ y.cls ≠ "java/lang/invoke/MethodHandle" ∧ y.cls ≠ "java/lang/invoke/VarHandle" ∧ (parseMethodDescriptor y.desc).map (fun d => d.parameters.length) = some n) (hrc : rm.cells = 0) (hrs : rm.slots = 0) (hR : rm.frames + 1 ≤ R.frames ∧ 8 + (maxL + 11) + rm.locals ≤ R.locals)
    {ci : Nat} {T : u_T} {N : Nat} {fs : List Value} (hn : h < gn G) (he : cE Y (gK G h) (gN G h) (pE G ad h) (D h) = .inr (ci, fs)) (hc : vwCl[ci]? = some (C, T, N)) (hl : As.length = n) (hsize : ls.size = nL) (hst : st0 = As.reverse ++ .ref (ad h) :: rest) (hW : (rest.map fun v => v.category).sum ≤ 8) (hdg : decode cc pc = .ok (.invokevirtual index, 3)) (hcs : cells + 0 ≤ R.cells ∧ slots + 0 ≤ R.slots)
    (k0 : qo = none → ∀ (H1 : Heap) (locs1 : List Loc), va_P dd vwCl (wW Y G ad D1) H1 → va_S (pA G ad) s.heap H1 locs1 → W p l e R s m args below meth c H1 locs1 cells slots Q (F0 m (pc + 3) ls (.null :: rest)))
    (k1 : ∀ q, qo = some q → ∀ (H1 : Heap) (locs1 : List Loc), va_P dd vwCl (wW Y G ad D1) H1 → va_S (pA G ad) s.heap H1 locs1 → W p l e R s m args below meth c H1 locs1 cells slots Q (F0 m (pc + 3) ls (.ref (ad q) :: rest))) : W p l e R s m args below meth c H locs cells slots Q (F0 m pc ls st0) := by
  refine va_callq (va_runV (As := As) (rest := rest) S hM (cwV n S.2.2.2.2 (gV h1 hs.1 hs.2.1 hs.2.2.1 hs.2.2.2) rfl hrc hrs hd hR) ⟨Wd.blind, va_recv hK hP hc (wW_at hn he), fun U hU hW => ⟨rfl, Wd.go hP hK hT hS hU hW⟩⟩ rfl hl hsize hst (lv_room hW) hdg hcs) hS (fun _ _ h => h) (fun _ h => h) (fun r u t H1 locs1 ht _ hw hB _ _ hS1 => ?_)
  obtain ⟨rfl, rfl⟩ := hw
  rw [ht] at hB
  cases qo with
  | none => exact k0 rfl H1 locs1 hB hS1
  | some q => exact k1 q rfl H1 locs1 hB hS1
end X1
theorem x_sw {x : Int32} {k : Int32} (h : ¬ x = k) : x.toInt ≠ k.toInt := fun q => h (Int32.toInt_inj.mp q)
def bq (x : Option Nat) (a : Rs) (b : Nat → Rs) : Rs := match x with
  | none => a
  | some q => b q
theorem bq_n {x : Option Nat} {a : Rs} {b : Nat → Rs} {r : Int32 × Mm} (hq : x = none) (h : bq x a b = some r) : a = some r := by subst hq; exact h
theorem bq_s {x : Option Nat} {a : Rs} {b : Nat → Rs} {r : Int32 × Mm} {q : Nat} (hq : x = some q) (h : bq x a b = some r) : b q = some r := by subst hq; exact h

abbrev IArr (G : Gr) (c : Nat) : Prop := AtK G c 9
def RingAt (G : Gr) (h : Nat) : Prop := AtK G h 5 ∧ gP G h 0 = some (h + 1) ∧ gP G h 2 = some (h + 2) ∧ AtK G (h + 1) 9 ∧ AtK G (h + 2) 9
def BytesAt (G : Gr) (h : Nat) : Prop := AtK G h 1 ∧ gP G h 0 = some (h + 1) ∧ AtK G (h + 1) 9
end
