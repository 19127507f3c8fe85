section
-- ===== PART A: goes FIRST, ahead of the names: the tables' words, and 'selects' of the private methods out of them =====
/-- a private method of a class that the tables say can be made, by its rows of tables_1 -/
def lw_okq (q : MethodName × Nat) : Prop := (q.1.cls ≠ "java/lang/invoke/MethodHandle" ∧ q.1.cls ≠ "java/lang/invoke/VarHandle") ∧ Cond.instantiable q.1.cls q.2 ∈ tables_1 ∧ Cond.privateMethod q.1 ∈ tables_1 ∧ Cond.instanceMethod q.1 ∈ tables_1
theorem lw_p0 : lw_okq (⟨"SegmentReader$Parser", "fail", "(II)I"⟩, 11) := ⟨⟨by decide +kernel, by decide +kernel⟩, List.mem_of_getElem? (i := 109) (by decide +kernel), List.mem_of_getElem? (i := 239) (by decide +kernel), List.mem_of_getElem? (i := 240) (by decide +kernel)⟩
theorem lw_p1 : lw_okq (⟨"SegmentReader$Parser", "takeMarker", "()I"⟩, 11) := ⟨⟨by decide +kernel, by decide +kernel⟩, List.mem_of_getElem? (i := 109) (by decide +kernel), List.mem_of_getElem? (i := 251) (by decide +kernel), List.mem_of_getElem? (i := 252) (by decide +kernel)⟩
theorem lw_p2 : lw_okq (⟨"SegmentReader$Parser", "canStand", "(I)Z"⟩, 11) := ⟨⟨by decide +kernel, by decide +kernel⟩, List.mem_of_getElem? (i := 109) (by decide +kernel), List.mem_of_getElem? (i := 255) (by decide +kernel), List.mem_of_getElem? (i := 256) (by decide +kernel)⟩
theorem lw_p3 : lw_okq (⟨"SegmentReader$Parser", "allBegun", "()Z"⟩, 11) := ⟨⟨by decide +kernel, by decide +kernel⟩, List.mem_of_getElem? (i := 109) (by decide +kernel), List.mem_of_getElem? (i := 259) (by decide +kernel), List.mem_of_getElem? (i := 260) (by decide +kernel)⟩
theorem lw_p4 : lw_okq (⟨"SegmentReader$Parser", "latestOf", "(II)I"⟩, 11) := ⟨⟨by decide +kernel, by decide +kernel⟩, List.mem_of_getElem? (i := 109) (by decide +kernel), List.mem_of_getElem? (i := 263) (by decide +kernel), List.mem_of_getElem? (i := 264) (by decide +kernel)⟩
theorem lw_p5 : lw_okq (⟨"SegmentReader$Parser", "isFree", "(I)Z"⟩, 11) := ⟨⟨by decide +kernel, by decide +kernel⟩, List.mem_of_getElem? (i := 109) (by decide +kernel), List.mem_of_getElem? (i := 267) (by decide +kernel), List.mem_of_getElem? (i := 268) (by decide +kernel)⟩
theorem lw_p6 : lw_okq (⟨"SegmentReader$Parser", "takeLength", "()V"⟩, 11) := ⟨⟨by decide +kernel, by decide +kernel⟩, List.mem_of_getElem? (i := 109) (by decide +kernel), List.mem_of_getElem? (i := 271) (by decide +kernel), List.mem_of_getElem? (i := 272) (by decide +kernel)⟩
theorem lw_p7 : lw_okq (⟨"SegmentReader$Parser", "takePair", "(II)I"⟩, 11) := ⟨⟨by decide +kernel, by decide +kernel⟩, List.mem_of_getElem? (i := 109) (by decide +kernel), List.mem_of_getElem? (i := 276) (by decide +kernel), List.mem_of_getElem? (i := 277) (by decide +kernel)⟩
theorem lw_p8 : lw_okq (⟨"SegmentReader$Parser", "take", "(II)I"⟩, 11) := ⟨⟨by decide +kernel, by decide +kernel⟩, List.mem_of_getElem? (i := 109) (by decide +kernel), List.mem_of_getElem? (i := 280) (by decide +kernel), List.mem_of_getElem? (i := 281) (by decide +kernel)⟩
theorem lw_p9 : lw_okq (⟨"SegmentReader$Parser", "refuseTaken", "()V"⟩, 11) := ⟨⟨by decide +kernel, by decide +kernel⟩, List.mem_of_getElem? (i := 109) (by decide +kernel), List.mem_of_getElem? (i := 284) (by decide +kernel), List.mem_of_getElem? (i := 285) (by decide +kernel)⟩
theorem lw_p10 : lw_okq (⟨"SegmentReader$Parser", "readContents", "(I)V"⟩, 11) := ⟨⟨by decide +kernel, by decide +kernel⟩, List.mem_of_getElem? (i := 109) (by decide +kernel), List.mem_of_getElem? (i := 304) (by decide +kernel), List.mem_of_getElem? (i := 305) (by decide +kernel)⟩
theorem lw_p11 : lw_okq (⟨"SegmentReader$Parser", "readQuantisers", "()V"⟩, 11) := ⟨⟨by decide +kernel, by decide +kernel⟩, List.mem_of_getElem? (i := 109) (by decide +kernel), List.mem_of_getElem? (i := 308) (by decide +kernel), List.mem_of_getElem? (i := 309) (by decide +kernel)⟩
theorem lw_p12 : lw_okq (⟨"SegmentReader$Parser", "moreContents", "()Z"⟩, 11) := ⟨⟨by decide +kernel, by decide +kernel⟩, List.mem_of_getElem? (i := 109) (by decide +kernel), List.mem_of_getElem? (i := 316) (by decide +kernel), List.mem_of_getElem? (i := 317) (by decide +kernel)⟩
theorem lw_p13 : lw_okq (⟨"SegmentReader$Parser", "readWords", "()V"⟩, 11) := ⟨⟨by decide +kernel, by decide +kernel⟩, List.mem_of_getElem? (i := 109) (by decide +kernel), List.mem_of_getElem? (i := 320) (by decide +kernel), List.mem_of_getElem? (i := 321) (by decide +kernel)⟩
theorem lw_p14 : lw_okq (⟨"SegmentReader$Parser", "takeCounts", "()I"⟩, 11) := ⟨⟨by decide +kernel, by decide +kernel⟩, List.mem_of_getElem? (i := 109) (by decide +kernel), List.mem_of_getElem? (i := 324) (by decide +kernel), List.mem_of_getElem? (i := 325) (by decide +kernel)⟩
theorem lw_p15 : lw_okq (⟨"SegmentReader$Parser", "takeSymbols", "(II)V"⟩, 11) := ⟨⟨by decide +kernel, by decide +kernel⟩, List.mem_of_getElem? (i := 109) (by decide +kernel), List.mem_of_getElem? (i := 328) (by decide +kernel), List.mem_of_getElem? (i := 329) (by decide +kernel)⟩
def lw_privs_1 : List (MethodName × Nat) := [(⟨"SegmentReader$Parser", "fail", "(II)I"⟩, 11), (⟨"SegmentReader$Parser", "takeMarker", "()I"⟩, 11), (⟨"SegmentReader$Parser", "canStand", "(I)Z"⟩, 11), (⟨"SegmentReader$Parser", "allBegun", "()Z"⟩, 11), (⟨"SegmentReader$Parser", "latestOf", "(II)I"⟩, 11), (⟨"SegmentReader$Parser", "isFree", "(I)Z"⟩, 11), (⟨"SegmentReader$Parser", "takeLength", "()V"⟩, 11), (⟨"SegmentReader$Parser", "takePair", "(II)I"⟩, 11), (⟨"SegmentReader$Parser", "take", "(II)I"⟩, 11), (⟨"SegmentReader$Parser", "refuseTaken", "()V"⟩, 11), (⟨"SegmentReader$Parser", "readContents", "(I)V"⟩, 11), (⟨"SegmentReader$Parser", "readQuantisers", "()V"⟩, 11), (⟨"SegmentReader$Parser", "moreContents", "()Z"⟩, 11), (⟨"SegmentReader$Parser", "readWords", "()V"⟩, 11), (⟨"SegmentReader$Parser", "takeCounts", "()I"⟩, 11), (⟨"SegmentReader$Parser", "takeSymbols", "(II)V"⟩, 11)]
theorem lw_r1 : ∀ q ∈ lw_privs_1, lw_okq q := List.forall_mem_cons.mpr ⟨lw_p0, List.forall_mem_cons.mpr ⟨lw_p1, List.forall_mem_cons.mpr ⟨lw_p2, List.forall_mem_cons.mpr ⟨lw_p3, List.forall_mem_cons.mpr ⟨lw_p4, List.forall_mem_cons.mpr ⟨lw_p5, List.forall_mem_cons.mpr ⟨lw_p6, List.forall_mem_cons.mpr ⟨lw_p7, List.forall_mem_cons.mpr ⟨lw_p8, List.forall_mem_cons.mpr ⟨lw_p9, List.forall_mem_cons.mpr ⟨lw_p10, List.forall_mem_cons.mpr ⟨lw_p11, List.forall_mem_cons.mpr ⟨lw_p12, List.forall_mem_cons.mpr ⟨lw_p13, List.forall_mem_cons.mpr ⟨lw_p14, List.forall_mem_cons.mpr ⟨lw_p15, fun _ h => absurd h List.not_mem_nil⟩⟩⟩⟩⟩⟩⟩⟩⟩⟩⟩⟩⟩⟩⟩⟩
theorem lw_p16 : lw_okq (⟨"SegmentReader$Picture", "rowOfWords", "(I)I"⟩, 12) := ⟨⟨by decide +kernel, by decide +kernel⟩, List.mem_of_getElem? (i := 36) (by decide +kernel), List.mem_of_getElem? (i := 339) (by decide +kernel), List.mem_of_getElem? (i := 340) (by decide +kernel)⟩
theorem lw_p17 : lw_okq (⟨"SegmentReader$Parser", "readFrame", "(I)V"⟩, 11) := ⟨⟨by decide +kernel, by decide +kernel⟩, List.mem_of_getElem? (i := 109) (by decide +kernel), List.mem_of_getElem? (i := 343) (by decide +kernel), List.mem_of_getElem? (i := 344) (by decide +kernel)⟩
theorem lw_p18 : lw_okq (⟨"SegmentReader$Parser", "readComponent", "()V"⟩, 11) := ⟨⟨by decide +kernel, by decide +kernel⟩, List.mem_of_getElem? (i := 109) (by decide +kernel), List.mem_of_getElem? (i := 347) (by decide +kernel), List.mem_of_getElem? (i := 348) (by decide +kernel)⟩
theorem lw_p19 : lw_okq (⟨"SegmentReader$Parser", "readScan", "()V"⟩, 11) := ⟨⟨by decide +kernel, by decide +kernel⟩, List.mem_of_getElem? (i := 109) (by decide +kernel), List.mem_of_getElem? (i := 363) (by decide +kernel), List.mem_of_getElem? (i := 364) (by decide +kernel)⟩
theorem lw_p20 : lw_okq (⟨"SegmentReader$Parser", "takeScanComponents", "()V"⟩, 11) := ⟨⟨by decide +kernel, by decide +kernel⟩, List.mem_of_getElem? (i := 109) (by decide +kernel), List.mem_of_getElem? (i := 367) (by decide +kernel), List.mem_of_getElem? (i := 368) (by decide +kernel)⟩
theorem lw_p21 : lw_okq (⟨"SegmentReader$Parser", "takeBits", "(I)V"⟩, 11) := ⟨⟨by decide +kernel, by decide +kernel⟩, List.mem_of_getElem? (i := 109) (by decide +kernel), List.mem_of_getElem? (i := 372) (by decide +kernel), List.mem_of_getElem? (i := 373) (by decide +kernel)⟩
theorem lw_p22 : lw_okq (⟨"SegmentReader$Parser", "checkSent", "()V"⟩, 11) := ⟨⟨by decide +kernel, by decide +kernel⟩, List.mem_of_getElem? (i := 109) (by decide +kernel), List.mem_of_getElem? (i := 376) (by decide +kernel), List.mem_of_getElem? (i := 377) (by decide +kernel)⟩
theorem lw_p23 : lw_okq (⟨"SegmentReader$Parser", "checkTables", "()V"⟩, 11) := ⟨⟨by decide +kernel, by decide +kernel⟩, List.mem_of_getElem? (i := 109) (by decide +kernel), List.mem_of_getElem? (i := 388) (by decide +kernel), List.mem_of_getElem? (i := 389) (by decide +kernel)⟩
theorem lw_p24 : lw_okq (⟨"SegmentReader$Parser", "noteSent", "()V"⟩, 11) := ⟨⟨by decide +kernel, by decide +kernel⟩, List.mem_of_getElem? (i := 109) (by decide +kernel), List.mem_of_getElem? (i := 400) (by decide +kernel), List.mem_of_getElem? (i := 401) (by decide +kernel)⟩
theorem lw_p25 : lw_okq (⟨"SegmentReader$Parser", "skipContents", "()V"⟩, 11) := ⟨⟨by decide +kernel, by decide +kernel⟩, List.mem_of_getElem? (i := 109) (by decide +kernel), List.mem_of_getElem? (i := 404) (by decide +kernel), List.mem_of_getElem? (i := 405) (by decide +kernel)⟩
theorem lw_p26 : lw_okq (⟨"SegmentReader$Parser", "readData", "()V"⟩, 11) := ⟨⟨by decide +kernel, by decide +kernel⟩, List.mem_of_getElem? (i := 109) (by decide +kernel), List.mem_of_getElem? (i := 408) (by decide +kernel), List.mem_of_getElem? (i := 409) (by decide +kernel)⟩
theorem lw_p27 : lw_okq (⟨"SegmentReader$Parser", "endData", "(III)V"⟩, 11) := ⟨⟨by decide +kernel, by decide +kernel⟩, List.mem_of_getElem? (i := 109) (by decide +kernel), List.mem_of_getElem? (i := 412) (by decide +kernel), List.mem_of_getElem? (i := 413) (by decide +kernel)⟩
theorem lw_p28 : lw_okq (⟨"SegmentReader$Picture", "greatest", "(I)I"⟩, 12) := ⟨⟨by decide +kernel, by decide +kernel⟩, List.mem_of_getElem? (i := 36) (by decide +kernel), List.mem_of_getElem? (i := 453) (by decide +kernel), List.mem_of_getElem? (i := 454) (by decide +kernel)⟩
theorem lw_p29 : lw_okq (⟨"SegmentReader$Picture", "ofScanComponent", "(III)I"⟩, 12) := ⟨⟨by decide +kernel, by decide +kernel⟩, List.mem_of_getElem? (i := 36) (by decide +kernel), List.mem_of_getElem? (i := 474) (by decide +kernel), List.mem_of_getElem? (i := 475) (by decide +kernel)⟩
theorem lw_p30 : lw_okq (⟨"SegmentReader$Picture", "wordCount", "(I)I"⟩, 12) := ⟨⟨by decide +kernel, by decide +kernel⟩, List.mem_of_getElem? (i := 36) (by decide +kernel), List.mem_of_getElem? (i := 505) (by decide +kernel), List.mem_of_getElem? (i := 506) (by decide +kernel)⟩
theorem lw_p31 : lw_okq (⟨"SegmentReaderModel", "forget", "()V"⟩, 40) := ⟨⟨by decide +kernel, by decide +kernel⟩, List.mem_of_getElem? (i := 515) (by decide +kernel), List.mem_of_getElem? (i := 522) (by decide +kernel), List.mem_of_getElem? (i := 523) (by decide +kernel)⟩
def lw_privs_2 : List (MethodName × Nat) := [(⟨"SegmentReader$Picture", "rowOfWords", "(I)I"⟩, 12), (⟨"SegmentReader$Parser", "readFrame", "(I)V"⟩, 11), (⟨"SegmentReader$Parser", "readComponent", "()V"⟩, 11), (⟨"SegmentReader$Parser", "readScan", "()V"⟩, 11), (⟨"SegmentReader$Parser", "takeScanComponents", "()V"⟩, 11), (⟨"SegmentReader$Parser", "takeBits", "(I)V"⟩, 11), (⟨"SegmentReader$Parser", "checkSent", "()V"⟩, 11), (⟨"SegmentReader$Parser", "checkTables", "()V"⟩, 11), (⟨"SegmentReader$Parser", "noteSent", "()V"⟩, 11), (⟨"SegmentReader$Parser", "skipContents", "()V"⟩, 11), (⟨"SegmentReader$Parser", "readData", "()V"⟩, 11), (⟨"SegmentReader$Parser", "endData", "(III)V"⟩, 11), (⟨"SegmentReader$Picture", "greatest", "(I)I"⟩, 12), (⟨"SegmentReader$Picture", "ofScanComponent", "(III)I"⟩, 12), (⟨"SegmentReader$Picture", "wordCount", "(I)I"⟩, 12), (⟨"SegmentReaderModel", "forget", "()V"⟩, 40)]
theorem lw_r2 : ∀ q ∈ lw_privs_2, lw_okq q := List.forall_mem_cons.mpr ⟨lw_p16, List.forall_mem_cons.mpr ⟨lw_p17, List.forall_mem_cons.mpr ⟨lw_p18, List.forall_mem_cons.mpr ⟨lw_p19, List.forall_mem_cons.mpr ⟨lw_p20, List.forall_mem_cons.mpr ⟨lw_p21, List.forall_mem_cons.mpr ⟨lw_p22, List.forall_mem_cons.mpr ⟨lw_p23, List.forall_mem_cons.mpr ⟨lw_p24, List.forall_mem_cons.mpr ⟨lw_p25, List.forall_mem_cons.mpr ⟨lw_p26, List.forall_mem_cons.mpr ⟨lw_p27, List.forall_mem_cons.mpr ⟨lw_p28, List.forall_mem_cons.mpr ⟨lw_p29, List.forall_mem_cons.mpr ⟨lw_p30, List.forall_mem_cons.mpr ⟨lw_p31, fun _ h => absurd h List.not_mem_nil⟩⟩⟩⟩⟩⟩⟩⟩⟩⟩⟩⟩⟩⟩⟩⟩
theorem lw_p32 : lw_okq (⟨"SegmentReaderModel", "readFile", "()V"⟩, 40) := ⟨⟨by decide +kernel, by decide +kernel⟩, List.mem_of_getElem? (i := 515) (by decide +kernel), List.mem_of_getElem? (i := 660) (by decide +kernel), List.mem_of_getElem? (i := 661) (by decide +kernel)⟩
theorem lw_p33 : lw_okq (⟨"SegmentReaderModel", "next", "()I"⟩, 40) := ⟨⟨by decide +kernel, by decide +kernel⟩, List.mem_of_getElem? (i := 515) (by decide +kernel), List.mem_of_getElem? (i := 664) (by decide +kernel), List.mem_of_getElem? (i := 665) (by decide +kernel)⟩
theorem lw_p34 : lw_okq (⟨"SegmentReaderModel", "lengthAt", "()I"⟩, 40) := ⟨⟨by decide +kernel, by decide +kernel⟩, List.mem_of_getElem? (i := 515) (by decide +kernel), List.mem_of_getElem? (i := 668) (by decide +kernel), List.mem_of_getElem? (i := 669) (by decide +kernel)⟩
theorem lw_p35 : lw_okq (⟨"SegmentReaderModel", "wrong", "(II)I"⟩, 40) := ⟨⟨by decide +kernel, by decide +kernel⟩, List.mem_of_getElem? (i := 515) (by decide +kernel), List.mem_of_getElem? (i := 672) (by decide +kernel), List.mem_of_getElem? (i := 673) (by decide +kernel)⟩
theorem lw_p36 : lw_okq (⟨"SegmentReaderModel", "byteAt", "(I)I"⟩, 40) := ⟨⟨by decide +kernel, by decide +kernel⟩, List.mem_of_getElem? (i := 515) (by decide +kernel), List.mem_of_getElem? (i := 676) (by decide +kernel), List.mem_of_getElem? (i := 677) (by decide +kernel)⟩
theorem lw_p37 : lw_okq (⟨"SegmentReaderModel", "marker", "()I"⟩, 40) := ⟨⟨by decide +kernel, by decide +kernel⟩, List.mem_of_getElem? (i := 515) (by decide +kernel), List.mem_of_getElem? (i := 680) (by decide +kernel), List.mem_of_getElem? (i := 681) (by decide +kernel)⟩
theorem lw_p38 : lw_okq (⟨"SegmentReaderModel", "isSent", "()Z"⟩, 40) := ⟨⟨by decide +kernel, by decide +kernel⟩, List.mem_of_getElem? (i := 515) (by decide +kernel), List.mem_of_getElem? (i := 684) (by decide +kernel), List.mem_of_getElem? (i := 685) (by decide +kernel)⟩
theorem lw_p39 : lw_okq (⟨"SegmentReaderModel", "segment", "(I)Z"⟩, 40) := ⟨⟨by decide +kernel, by decide +kernel⟩, List.mem_of_getElem? (i := 515) (by decide +kernel), List.mem_of_getElem? (i := 688) (by decide +kernel), List.mem_of_getElem? (i := 689) (by decide +kernel)⟩
theorem lw_p40 : lw_okq (⟨"SegmentReaderModel", "open", "()V"⟩, 40) := ⟨⟨by decide +kernel, by decide +kernel⟩, List.mem_of_getElem? (i := 515) (by decide +kernel), List.mem_of_getElem? (i := 692) (by decide +kernel), List.mem_of_getElem? (i := 693) (by decide +kernel)⟩
theorem lw_p41 : lw_okq (⟨"SegmentReaderModel", "two", "()I"⟩, 40) := ⟨⟨by decide +kernel, by decide +kernel⟩, List.mem_of_getElem? (i := 515) (by decide +kernel), List.mem_of_getElem? (i := 696) (by decide +kernel), List.mem_of_getElem? (i := 697) (by decide +kernel)⟩
theorem lw_p42 : lw_okq (⟨"SegmentReaderModel", "readQuantisers", "()V"⟩, 40) := ⟨⟨by decide +kernel, by decide +kernel⟩, List.mem_of_getElem? (i := 515) (by decide +kernel), List.mem_of_getElem? (i := 700) (by decide +kernel), List.mem_of_getElem? (i := 701) (by decide +kernel)⟩
theorem lw_p43 : lw_okq (⟨"SegmentReaderModel", "must", "(Z)V"⟩, 40) := ⟨⟨by decide +kernel, by decide +kernel⟩, List.mem_of_getElem? (i := 515) (by decide +kernel), List.mem_of_getElem? (i := 704) (by decide +kernel), List.mem_of_getElem? (i := 705) (by decide +kernel)⟩
theorem lw_p44 : lw_okq (⟨"SegmentReaderModel", "readWords", "()V"⟩, 40) := ⟨⟨by decide +kernel, by decide +kernel⟩, List.mem_of_getElem? (i := 515) (by decide +kernel), List.mem_of_getElem? (i := 708) (by decide +kernel), List.mem_of_getElem? (i := 709) (by decide +kernel)⟩
theorem lw_p45 : lw_okq (⟨"SegmentReaderModel", "readTable", "(I)V"⟩, 40) := ⟨⟨by decide +kernel, by decide +kernel⟩, List.mem_of_getElem? (i := 515) (by decide +kernel), List.mem_of_getElem? (i := 712) (by decide +kernel), List.mem_of_getElem? (i := 713) (by decide +kernel)⟩
theorem lw_p46 : lw_okq (⟨"SegmentReaderModel", "readFrame", "(I)V"⟩, 40) := ⟨⟨by decide +kernel, by decide +kernel⟩, List.mem_of_getElem? (i := 515) (by decide +kernel), List.mem_of_getElem? (i := 717) (by decide +kernel), List.mem_of_getElem? (i := 718) (by decide +kernel)⟩
theorem lw_p47 : lw_okq (⟨"SegmentReaderModel", "readScan", "()V"⟩, 40) := ⟨⟨by decide +kernel, by decide +kernel⟩, List.mem_of_getElem? (i := 515) (by decide +kernel), List.mem_of_getElem? (i := 721) (by decide +kernel), List.mem_of_getElem? (i := 722) (by decide +kernel)⟩
def lw_privs_3 : List (MethodName × Nat) := [(⟨"SegmentReaderModel", "readFile", "()V"⟩, 40), (⟨"SegmentReaderModel", "next", "()I"⟩, 40), (⟨"SegmentReaderModel", "lengthAt", "()I"⟩, 40), (⟨"SegmentReaderModel", "wrong", "(II)I"⟩, 40), (⟨"SegmentReaderModel", "byteAt", "(I)I"⟩, 40), (⟨"SegmentReaderModel", "marker", "()I"⟩, 40), (⟨"SegmentReaderModel", "isSent", "()Z"⟩, 40), (⟨"SegmentReaderModel", "segment", "(I)Z"⟩, 40), (⟨"SegmentReaderModel", "open", "()V"⟩, 40), (⟨"SegmentReaderModel", "two", "()I"⟩, 40), (⟨"SegmentReaderModel", "readQuantisers", "()V"⟩, 40), (⟨"SegmentReaderModel", "must", "(Z)V"⟩, 40), (⟨"SegmentReaderModel", "readWords", "()V"⟩, 40), (⟨"SegmentReaderModel", "readTable", "(I)V"⟩, 40), (⟨"SegmentReaderModel", "readFrame", "(I)V"⟩, 40), (⟨"SegmentReaderModel", "readScan", "()V"⟩, 40)]
theorem lw_r3 : ∀ q ∈ lw_privs_3, lw_okq q := List.forall_mem_cons.mpr ⟨lw_p32, List.forall_mem_cons.mpr ⟨lw_p33, List.forall_mem_cons.mpr ⟨lw_p34, List.forall_mem_cons.mpr ⟨lw_p35, List.forall_mem_cons.mpr ⟨lw_p36, List.forall_mem_cons.mpr ⟨lw_p37, List.forall_mem_cons.mpr ⟨lw_p38, List.forall_mem_cons.mpr ⟨lw_p39, List.forall_mem_cons.mpr ⟨lw_p40, List.forall_mem_cons.mpr ⟨lw_p41, List.forall_mem_cons.mpr ⟨lw_p42, List.forall_mem_cons.mpr ⟨lw_p43, List.forall_mem_cons.mpr ⟨lw_p44, List.forall_mem_cons.mpr ⟨lw_p45, List.forall_mem_cons.mpr ⟨lw_p46, List.forall_mem_cons.mpr ⟨lw_p47, fun _ h => absurd h List.not_mem_nil⟩⟩⟩⟩⟩⟩⟩⟩⟩⟩⟩⟩⟩⟩⟩⟩
theorem lw_p48 : lw_okq (⟨"SegmentReaderModel", "named", "(I)I"⟩, 40) := ⟨⟨by decide +kernel, by decide +kernel⟩, List.mem_of_getElem? (i := 515) (by decide +kernel), List.mem_of_getElem? (i := 725) (by decide +kernel), List.mem_of_getElem? (i := 726) (by decide +kernel)⟩
theorem lw_p49 : lw_okq (⟨"SegmentReaderModel", "order", "(IZ)V"⟩, 40) := ⟨⟨by decide +kernel, by decide +kernel⟩, List.mem_of_getElem? (i := 515) (by decide +kernel), List.mem_of_getElem? (i := 729) (by decide +kernel), List.mem_of_getElem? (i := 730) (by decide +kernel)⟩
theorem lw_p50 : lw_okq (⟨"SegmentReaderModel", "needs", "(I)V"⟩, 40) := ⟨⟨by decide +kernel, by decide +kernel⟩, List.mem_of_getElem? (i := 515) (by decide +kernel), List.mem_of_getElem? (i := 733) (by decide +kernel), List.mem_of_getElem? (i := 734) (by decide +kernel)⟩
theorem lw_p51 : lw_okq (⟨"SegmentReaderModel", "any", "()V"⟩, 40) := ⟨⟨by decide +kernel, by decide +kernel⟩, List.mem_of_getElem? (i := 515) (by decide +kernel), List.mem_of_getElem? (i := 737) (by decide +kernel), List.mem_of_getElem? (i := 738) (by decide +kernel)⟩
theorem lw_p52 : lw_okq (⟨"SegmentReaderModel", "close", "(I)V"⟩, 40) := ⟨⟨by decide +kernel, by decide +kernel⟩, List.mem_of_getElem? (i := 515) (by decide +kernel), List.mem_of_getElem? (i := 741) (by decide +kernel), List.mem_of_getElem? (i := 742) (by decide +kernel)⟩
theorem lw_p53 : lw_okq (⟨"SegmentReaderModel", "keepScan", "()V"⟩, 40) := ⟨⟨by decide +kernel, by decide +kernel⟩, List.mem_of_getElem? (i := 515) (by decide +kernel), List.mem_of_getElem? (i := 745) (by decide +kernel), List.mem_of_getElem? (i := 746) (by decide +kernel)⟩
theorem lw_p54 : lw_okq (⟨"SegmentReaderModel", "readData", "(I)V"⟩, 40) := ⟨⟨by decide +kernel, by decide +kernel⟩, List.mem_of_getElem? (i := 515) (by decide +kernel), List.mem_of_getElem? (i := 749) (by decide +kernel), List.mem_of_getElem? (i := 750) (by decide +kernel)⟩
def lw_privs_4 : List (MethodName × Nat) := [(⟨"SegmentReaderModel", "named", "(I)I"⟩, 40), (⟨"SegmentReaderModel", "order", "(IZ)V"⟩, 40), (⟨"SegmentReaderModel", "needs", "(I)V"⟩, 40), (⟨"SegmentReaderModel", "any", "()V"⟩, 40), (⟨"SegmentReaderModel", "close", "(I)V"⟩, 40), (⟨"SegmentReaderModel", "keepScan", "()V"⟩, 40), (⟨"SegmentReaderModel", "readData", "(I)V"⟩, 40)]
theorem lw_r4 : ∀ q ∈ lw_privs_4, lw_okq q := List.forall_mem_cons.mpr ⟨lw_p48, List.forall_mem_cons.mpr ⟨lw_p49, List.forall_mem_cons.mpr ⟨lw_p50, List.forall_mem_cons.mpr ⟨lw_p51, List.forall_mem_cons.mpr ⟨lw_p52, List.forall_mem_cons.mpr ⟨lw_p53, List.forall_mem_cons.mpr ⟨lw_p54, fun _ h => absurd h List.not_mem_nil⟩⟩⟩⟩⟩⟩⟩
def lw_privs : List (MethodName × Nat) := lw_privs_1 ++ (lw_privs_2 ++ (lw_privs_3 ++ (lw_privs_4)))
def lw_tbl : List Cond := k2_sels lw_privs ++ tables_1
theorem lw_privs_ok : ∀ q ∈ lw_privs, lw_okq q := by
  show ∀ q ∈ lw_privs_1 ++ (lw_privs_2 ++ (lw_privs_3 ++ (lw_privs_4))), lw_okq q
  exact List.forall_mem_append.mpr ⟨lw_r1, List.forall_mem_append.mpr ⟨lw_r2, List.forall_mem_append.mpr ⟨lw_r3, lw_r4⟩⟩⟩
end
section
def jIsNest : Cond → Bool
  | .fieldLinkNest .. => true
  | .methodLinkNest .. => true
  | _ => false
def AW : List Cond := lw_tbl.filter goodWord
def nestL : List Cond := lw_tbl.filter jIsNest
theorem nestL_is : ∀ w ∈ nestL, jIsNest w = true := fun w h => (List.mem_filter.mp h).2
theorem nestL_on : ∀ w ∈ nestL, w.onTables = true := by
  intro w hw
  have h2 := nestL_is w hw
  cases w <;> first | rfl | exact absurd h2 (by simp [jIsNest])
end
section
/-! J: the kit's W with the locals, the world and the frame bundled; a rule an instruction. -/
section
variable {p : Program} {l : Launch} {e : Env} {R : Room} {s : State} {m : MethodId} {args : Array Value} {below : List Frame} {meth : Method} {c : Code} {Q : State → Prop} {cc : ByteArray} {nL : Nat} {Ts : List Cond} {own : String} {D : va_G} {cl : List vw_C} {tys : List (ClassId × FieldType)} {A : Nat → Prop} {cells slots pc : Nat} {lv lv' : List (Nat × Value)} {st : List Value} {ws ws' : va_W}
def jX (p : Program) (s : State) (m : MethodId) (args : Array Value) (c : Code) (cc : ByteArray) (nL : Nat) (Ts : List Cond) (own : String) (D : va_G) (cl : List vw_C) (tys : List (ClassId × FieldType)) (A : Nat → Prop) : Prop :=
  p.tables.exec = Jvm.exec ∧ c.code = cc ∧ c.maxLocals = nL ∧ s.vm.findClass own = some m.cls ∧ (∀ w ∈ Ts, w.before args s = true) ∧ va_K D cl tys s ∧ (∀ q : Nat, s.heap.size ≤ q → A q) ∧ (∀ w ∈ nestL, va_Nw w s)
def J (p : Program) (l : Launch) (e : Env) (R : Room) (s : State) (m : MethodId) (args : Array Value) (below : List Frame) (meth : Method) (c : Code) (nL : Nat) (D : va_G) (cl : List vw_C) (A : Nat → Prop) (Q : State → Prop) (cells slots pc : Nat) (lv : List (Nat × Value)) (st : List Value) (ws : va_W) : Prop :=
  ∀ (ls : Array Slot) (H : Heap) (locs : List Loc), lv_has ls nL lv → va_P D cl ws H → va_D A ws → va_S A s.heap H locs → W p l e R s m args below meth c H locs cells slots Q (F0 m pc ls st)
theorem jX.fix (X : jX p s m args c cc nL Ts own D cl tys A) : CallFix p m c cc nL s args Ts own := ⟨X.1, X.2.1, X.2.2.1, X.2.2.2.1, X.2.2.2.2.1⟩
theorem jX.hts (X : jX p s m args c cc nL Ts own D cl tys A) : ∀ w ∈ Ts, w.before args s = true := X.2.2.2.2.1
theorem jX.hown (X : jX p s m args c cc nL Ts own D cl tys A) : s.vm.findClass own = some m.cls := X.2.2.2.1
theorem jX.hK (X : jX p s m args c cc nL Ts own D cl tys A) : va_K D cl tys s := X.2.2.2.2.2.1
theorem jX.hA (X : jX p s m args c cc nL Ts own D cl tys A) : ∀ q : Nat, s.heap.size ≤ q → A q := X.2.2.2.2.2.2.1
theorem jX.hN (X : jX p s m args c cc nL Ts own D cl tys A) : ∀ w ∈ nestL, va_Nw w s := X.2.2.2.2.2.2.2
theorem J_iconst (X : jX p s m args c cc nL Ts own D cl tys A) {n : Int} {v : Int32} (hdg : decode cc pc = .ok (.iconst n, 1)) (hv : Int32.ofInt n = v) (kk : J p l e R s m args below meth c nL D cl A Q cells slots (pc + 1) lv (.int v :: st) ws) : J p l e R s m args below meth c nL D cl A Q cells slots pc lv st ws := fun ls H locs hl hP hD hS => lv_iconst X.1 X.2.1 hdg hv (kk ls H locs hl hP hD hS)
theorem J_bipush (X : jX p s m args c cc nL Ts own D cl tys A) {n : Int} {v : Int32} (hdg : decode cc pc = .ok (.bipush n, 2)) (hv : (Int8.ofInt n).toInt32 = v) (kk : J p l e R s m args below meth c nL D cl A Q cells slots (pc + 2) lv (.int v :: st) ws) : J p l e R s m args below meth c nL D cl A Q cells slots pc lv st ws := fun ls H locs hl hP hD hS => lv_bipush X.1 X.2.1 hdg hv (kk ls H locs hl hP hD hS)
theorem J_sipush (X : jX p s m args c cc nL Ts own D cl tys A) {n : Int} {v : Int32} (hdg : decode cc pc = .ok (.sipush n, 3)) (hv : (Int16.ofInt n).toInt32 = v) (kk : J p l e R s m args below meth c nL D cl A Q cells slots (pc + 3) lv (.int v :: st) ws) : J p l e R s m args below meth c nL D cl A Q cells slots pc lv st ws := fun ls H locs hl hP hD hS => lv_sipush X.1 X.2.1 hdg hv (kk ls H locs hl hP hD hS)
theorem J_lconst (X : jX p s m args c cc nL Ts own D cl tys A) {n : Fin 2} {v : Int64} (hdg : decode cc pc = .ok (.lconst n, 1)) (hv : Int64.ofNat (n : Nat) = v) (kk : J p l e R s m args below meth c nL D cl A Q cells slots (pc + 1) lv (.long v :: st) ws) : J p l e R s m args below meth c nL D cl A Q cells slots pc lv st ws := fun ls H locs hl hP hD hS => lv_lconst X.1 X.2.1 hdg hv (kk ls H locs hl hP hD hS)
theorem J_ldc (X : jX p s m args c cc nL Ts own D cl tys A) {index : Nat} {v : Int32} (hin : Cond.constant own index v ∈ Ts) (hdg : decode cc pc = .ok (.ldc index, 2)) (kk : J p l e R s m args below meth c nL D cl A Q cells slots (pc + 2) lv (.int v :: st) ws) : J p l e R s m args below meth c nL D cl A Q cells slots pc lv st ws := fun ls H locs hl hP hD hS => lv_ldc X.1 X.2.1 X.hown (X.hts _ hin) hdg (kk ls H locs hl hP hD hS)
theorem J_ldc2 (X : jX p s m args c cc nL Ts own D cl tys A) {index : Nat} {v : Int64} (hin : Cond.constantLong own index v ∈ Ts) (hdg : decode cc pc = .ok (.ldc2_w index, 3)) (kk : J p l e R s m args below meth c nL D cl A Q cells slots (pc + 3) lv (.long v :: st) ws) : J p l e R s m args below meth c nL D cl A Q cells slots pc lv st ws := fun ls H locs hl hP hD hS => lv_ldc2 X.1 X.2.1 X.hown (X.hts _ hin) hdg (kk ls H locs hl hP hD hS)
theorem J_iload_n (X : jX p s m args c cc nL Ts own D cl tys A) {k : Fin 4} {i : Nat} {x : Int32} (hdg : decode cc pc = .ok (.iload_n k, 1)) (j : Nat) (hi : (k : Nat) = i) (hj : lv[j]? = some (i, .int x)) (kk : J p l e R s m args below meth c nL D cl A Q cells slots (pc + 1) lv (.int x :: st) ws) : J p l e R s m args below meth c nL D cl A Q cells slots pc lv st ws := fun ls H locs hl hP hD hS => lv_iload_n X.1 X.2.1 hdg hi (lv_at hl j hj) (kk ls H locs hl hP hD hS)
theorem J_iload (X : jX p s m args c cc nL Ts own D cl tys A) {i : Nat} {x : Int32} (hdg : decode cc pc = .ok (.iload i, 2)) (j : Nat) (hj : lv[j]? = some (i, .int x)) (kk : J p l e R s m args below meth c nL D cl A Q cells slots (pc + 2) lv (.int x :: st) ws) : J p l e R s m args below meth c nL D cl A Q cells slots pc lv st ws := fun ls H locs hl hP hD hS => lv_iload X.1 X.2.1 hdg (lv_at hl j hj) (kk ls H locs hl hP hD hS)
theorem J_lload_n (X : jX p s m args c cc nL Ts own D cl tys A) {k : Fin 4} {i : Nat} {x : Int64} (hdg : decode cc pc = .ok (.lload_n k, 1)) (j : Nat) (hi : (k : Nat) = i) (hj : lv[j]? = some (i, .long x)) (kk : J p l e R s m args below meth c nL D cl A Q cells slots (pc + 1) lv (.long x :: st) ws) : J p l e R s m args below meth c nL D cl A Q cells slots pc lv st ws := fun ls H locs hl hP hD hS => lv_lload_n X.1 X.2.1 hdg hi (lv_at hl j hj) (kk ls H locs hl hP hD hS)
theorem J_lload (X : jX p s m args c cc nL Ts own D cl tys A) {i : Nat} {x : Int64} (hdg : decode cc pc = .ok (.lload i, 2)) (j : Nat) (hj : lv[j]? = some (i, .long x)) (kk : J p l e R s m args below meth c nL D cl A Q cells slots (pc + 2) lv (.long x :: st) ws) : J p l e R s m args below meth c nL D cl A Q cells slots pc lv st ws := fun ls H locs hl hP hD hS => lv_lload X.1 X.2.1 hdg (lv_at hl j hj) (kk ls H locs hl hP hD hS)
theorem J_aload_n (X : jX p s m args c cc nL Ts own D cl tys A) {k : Fin 4} {i : Nat} {x : Nat} (hdg : decode cc pc = .ok (.aload_n k, 1)) (j : Nat) (hi : (k : Nat) = i) (hj : lv[j]? = some (i, .ref x)) (kk : J p l e R s m args below meth c nL D cl A Q cells slots (pc + 1) lv (.ref x :: st) ws) : J p l e R s m args below meth c nL D cl A Q cells slots pc lv st ws := fun ls H locs hl hP hD hS => lv_aload_n X.1 X.2.1 hdg hi (lv_at hl j hj) (kk ls H locs hl hP hD hS)
theorem J_aload (X : jX p s m args c cc nL Ts own D cl tys A) {i : Nat} {x : Nat} (hdg : decode cc pc = .ok (.aload i, 2)) (j : Nat) (hj : lv[j]? = some (i, .ref x)) (kk : J p l e R s m args below meth c nL D cl A Q cells slots (pc + 2) lv (.ref x :: st) ws) : J p l e R s m args below meth c nL D cl A Q cells slots pc lv st ws := fun ls H locs hl hP hD hS => lv_aload X.1 X.2.1 hdg (lv_at hl j hj) (kk ls H locs hl hP hD hS)
theorem J_istore_n (X : jX p s m args c cc nL Ts own D cl tys A) {k : Fin 4} {i : Nat} {x : Int32} (lv' : List (Nat × Value)) (hdg : decode cc pc = .ok (.istore_n k, 1)) (hi : (k : Nat) = i) (hn : i < nL) (hl2 : (i, Value.int x) :: lv.filter (fun q => !(q.1 == i) && !(q.1 + 1 == i && q.2.category == 2)) = lv') (kk : J p l e R s m args below meth c nL D cl A Q cells slots (pc + 1) lv' st ws) : J p l e R s m args below meth c nL D cl A Q cells slots pc lv (.int x :: st) ws := fun ls H locs hl hP hD hS => lv_istore_n X.1 X.2.1 hdg hi hl hn hl2 (fun ls h2 => kk ls H locs h2 hP hD hS)
theorem J_istore (X : jX p s m args c cc nL Ts own D cl tys A) {i : Nat} {x : Int32} (lv' : List (Nat × Value)) (hdg : decode cc pc = .ok (.istore i, 2)) (hn : i < nL) (hl2 : (i, Value.int x) :: lv.filter (fun q => !(q.1 == i) && !(q.1 + 1 == i && q.2.category == 2)) = lv') (kk : J p l e R s m args below meth c nL D cl A Q cells slots (pc + 2) lv' st ws) : J p l e R s m args below meth c nL D cl A Q cells slots pc lv (.int x :: st) ws := fun ls H locs hl hP hD hS => lv_istore X.1 X.2.1 hdg hl hn hl2 (fun ls h2 => kk ls H locs h2 hP hD hS)
theorem J_lstore_n (X : jX p s m args c cc nL Ts own D cl tys A) {k : Fin 4} {i : Nat} {x : Int64} (lv' : List (Nat × Value)) (hdg : decode cc pc = .ok (.lstore_n k, 1)) (hi : (k : Nat) = i) (hn : i + 1 < nL) (hl2 : (i, Value.long x) :: lv.filter (fun q => !(q.1 == i) && (!(q.1 == i + 1) && !(q.1 + 1 == i && q.2.category == 2))) = lv') (kk : J p l e R s m args below meth c nL D cl A Q cells slots (pc + 1) lv' st ws) : J p l e R s m args below meth c nL D cl A Q cells slots pc lv (.long x :: st) ws := fun ls H locs hl hP hD hS => lv_lstore_n X.1 X.2.1 hdg hi hl hn hl2 (fun ls h2 => kk ls H locs h2 hP hD hS)
theorem J_lstore (X : jX p s m args c cc nL Ts own D cl tys A) {i : Nat} {x : Int64} (lv' : List (Nat × Value)) (hdg : decode cc pc = .ok (.lstore i, 2)) (hn : i + 1 < nL) (hl2 : (i, Value.long x) :: lv.filter (fun q => !(q.1 == i) && (!(q.1 == i + 1) && !(q.1 + 1 == i && q.2.category == 2))) = lv') (kk : J p l e R s m args below meth c nL D cl A Q cells slots (pc + 2) lv' st ws) : J p l e R s m args below meth c nL D cl A Q cells slots pc lv (.long x :: st) ws := fun ls H locs hl hP hD hS => lv_lstore X.1 X.2.1 hdg hl hn hl2 (fun ls h2 => kk ls H locs h2 hP hD hS)
theorem J_astore_n (X : jX p s m args c cc nL Ts own D cl tys A) {k : Fin 4} {i : Nat} {x : Nat} (lv' : List (Nat × Value)) (hdg : decode cc pc = .ok (.astore_n k, 1)) (hi : (k : Nat) = i) (hn : i < nL) (hl2 : (i, Value.ref x) :: lv.filter (fun q => !(q.1 == i) && !(q.1 + 1 == i && q.2.category == 2)) = lv') (kk : J p l e R s m args below meth c nL D cl A Q cells slots (pc + 1) lv' st ws) : J p l e R s m args below meth c nL D cl A Q cells slots pc lv (.ref x :: st) ws := fun ls H locs hl hP hD hS => lv_astore_n X.1 X.2.1 hdg hi hl hn hl2 (fun ls h2 => kk ls H locs h2 hP hD hS)
theorem J_astore (X : jX p s m args c cc nL Ts own D cl tys A) {i : Nat} {x : Nat} (lv' : List (Nat × Value)) (hdg : decode cc pc = .ok (.astore i, 2)) (hn : i < nL) (hl2 : (i, Value.ref x) :: lv.filter (fun q => !(q.1 == i) && !(q.1 + 1 == i && q.2.category == 2)) = lv') (kk : J p l e R s m args below meth c nL D cl A Q cells slots (pc + 2) lv' st ws) : J p l e R s m args below meth c nL D cl A Q cells slots pc lv (.ref x :: st) ws := fun ls H locs hl hP hD hS => lv_astore X.1 X.2.1 hdg hl hn hl2 (fun ls h2 => kk ls H locs h2 hP hD hS)
theorem J_iinc (X : jX p s m args c cc nL Ts own D cl tys A) {i : Nat} {n : Int} {x v : Int32} (lv' : List (Nat × Value)) (hdg : decode cc pc = .ok (.iinc i n, 3)) (j : Nat) (hj : lv[j]? = some (i, .int x)) (hv : x + Int32.ofInt n = v) (hn : i < nL) (hl2 : (i, Value.int v) :: lv.filter (fun q => !(q.1 == i) && !(q.1 + 1 == i && q.2.category == 2)) = lv') (kk : J p l e R s m args below meth c nL D cl A Q cells slots (pc + 3) lv' st ws) : J p l e R s m args below meth c nL D cl A Q cells slots pc lv st ws := fun ls H locs hl hP hD hS => lv_iinc X.1 X.2.1 hdg hl hj hv hn hl2 (fun ls h2 => kk ls H locs h2 hP hD hS)
theorem J_iadd (X : jX p s m args c cc nL Ts own D cl tys A) {x y : Int32} (hdg : decode cc pc = .ok (.iadd, 1)) (kk : J p l e R s m args below meth c nL D cl A Q cells slots (pc + 1) lv (.int (x + y) :: st) ws) : J p l e R s m args below meth c nL D cl A Q cells slots pc lv (.int y :: .int x :: st) ws := fun ls H locs hl hP hD hS => lv_iadd X.1 X.2.1 hdg (kk ls H locs hl hP hD hS)
theorem J_isub (X : jX p s m args c cc nL Ts own D cl tys A) {x y : Int32} (hdg : decode cc pc = .ok (.isub, 1)) (kk : J p l e R s m args below meth c nL D cl A Q cells slots (pc + 1) lv (.int (x - y) :: st) ws) : J p l e R s m args below meth c nL D cl A Q cells slots pc lv (.int y :: .int x :: st) ws := fun ls H locs hl hP hD hS => lv_isub X.1 X.2.1 hdg (kk ls H locs hl hP hD hS)
theorem J_imul (X : jX p s m args c cc nL Ts own D cl tys A) {x y : Int32} (hdg : decode cc pc = .ok (.imul, 1)) (kk : J p l e R s m args below meth c nL D cl A Q cells slots (pc + 1) lv (.int (x * y) :: st) ws) : J p l e R s m args below meth c nL D cl A Q cells slots pc lv (.int y :: .int x :: st) ws := fun ls H locs hl hP hD hS => lv_imul X.1 X.2.1 hdg (kk ls H locs hl hP hD hS)
theorem J_iand (X : jX p s m args c cc nL Ts own D cl tys A) {x y : Int32} (hdg : decode cc pc = .ok (.iand, 1)) (kk : J p l e R s m args below meth c nL D cl A Q cells slots (pc + 1) lv (.int (x &&& y) :: st) ws) : J p l e R s m args below meth c nL D cl A Q cells slots pc lv (.int y :: .int x :: st) ws := fun ls H locs hl hP hD hS => lv_iand X.1 X.2.1 hdg (kk ls H locs hl hP hD hS)
theorem J_ior (X : jX p s m args c cc nL Ts own D cl tys A) {x y : Int32} (hdg : decode cc pc = .ok (.ior, 1)) (kk : J p l e R s m args below meth c nL D cl A Q cells slots (pc + 1) lv (.int (x ||| y) :: st) ws) : J p l e R s m args below meth c nL D cl A Q cells slots pc lv (.int y :: .int x :: st) ws := fun ls H locs hl hP hD hS => lv_ior X.1 X.2.1 hdg (kk ls H locs hl hP hD hS)
theorem J_ixor (X : jX p s m args c cc nL Ts own D cl tys A) {x y : Int32} (hdg : decode cc pc = .ok (.ixor, 1)) (kk : J p l e R s m args below meth c nL D cl A Q cells slots (pc + 1) lv (.int (x ^^^ y) :: st) ws) : J p l e R s m args below meth c nL D cl A Q cells slots pc lv (.int y :: .int x :: st) ws := fun ls H locs hl hP hD hS => lv_ixor X.1 X.2.1 hdg (kk ls H locs hl hP hD hS)
theorem J_ishl (X : jX p s m args c cc nL Ts own D cl tys A) {x y : Int32} (hdg : decode cc pc = .ok (.ishl, 1)) (kk : J p l e R s m args below meth c nL D cl A Q cells slots (pc + 1) lv (.int (x <<< (y &&& 31)) :: st) ws) : J p l e R s m args below meth c nL D cl A Q cells slots pc lv (.int y :: .int x :: st) ws := fun ls H locs hl hP hD hS => lv_ishl X.1 X.2.1 hdg (kk ls H locs hl hP hD hS)
theorem J_ishr (X : jX p s m args c cc nL Ts own D cl tys A) {x y : Int32} (hdg : decode cc pc = .ok (.ishr, 1)) (kk : J p l e R s m args below meth c nL D cl A Q cells slots (pc + 1) lv (.int (x >>> (y &&& 31)) :: st) ws) : J p l e R s m args below meth c nL D cl A Q cells slots pc lv (.int y :: .int x :: st) ws := fun ls H locs hl hP hD hS => lv_ishr X.1 X.2.1 hdg (kk ls H locs hl hP hD hS)
theorem J_iushr (X : jX p s m args c cc nL Ts own D cl tys A) {x y : Int32} (hdg : decode cc pc = .ok (.iushr, 1)) (kk : J p l e R s m args below meth c nL D cl A Q cells slots (pc + 1) lv (.int ((x.toUInt32 >>> (y.toUInt32 &&& Int32.toUInt32 31)).toInt32) :: st) ws) : J p l e R s m args below meth c nL D cl A Q cells slots pc lv (.int y :: .int x :: st) ws := fun ls H locs hl hP hD hS => lv_iushr X.1 X.2.1 hdg rfl (kk ls H locs hl hP hD hS)
theorem J_idiv (X : jX p s m args c cc nL Ts own D cl tys A) {x y : Int32} (hdg : decode cc pc = .ok (.idiv, 1)) (hne : ¬ y = 0) (kk : J p l e R s m args below meth c nL D cl A Q cells slots (pc + 1) lv (.int (x / y) :: st) ws) : J p l e R s m args below meth c nL D cl A Q cells slots pc lv (.int y :: .int x :: st) ws := fun ls H locs hl hP hD hS => lv_idiv X.1 X.2.1 hdg hne (kk ls H locs hl hP hD hS)
theorem J_irem (X : jX p s m args c cc nL Ts own D cl tys A) {x y : Int32} (hdg : decode cc pc = .ok (.irem, 1)) (hne : ¬ y = 0) (kk : J p l e R s m args below meth c nL D cl A Q cells slots (pc + 1) lv (.int (x - x / y * y) :: st) ws) : J p l e R s m args below meth c nL D cl A Q cells slots pc lv (.int y :: .int x :: st) ws := fun ls H locs hl hP hD hS => lv_irem X.1 X.2.1 hdg hne (kk ls H locs hl hP hD hS)
theorem J_ineg (X : jX p s m args c cc nL Ts own D cl tys A) {x : Int32} (hdg : decode cc pc = .ok (.ineg, 1)) (kk : J p l e R s m args below meth c nL D cl A Q cells slots (pc + 1) lv (.int (-x) :: st) ws) : J p l e R s m args below meth c nL D cl A Q cells slots pc lv (.int x :: st) ws := fun ls H locs hl hP hD hS => lv_ineg X.1 X.2.1 hdg (kk ls H locs hl hP hD hS)
theorem J_ladd (X : jX p s m args c cc nL Ts own D cl tys A) {x y : Int64} (hdg : decode cc pc = .ok (.ladd, 1)) (kk : J p l e R s m args below meth c nL D cl A Q cells slots (pc + 1) lv (.long (x + y) :: st) ws) : J p l e R s m args below meth c nL D cl A Q cells slots pc lv (.long y :: .long x :: st) ws := fun ls H locs hl hP hD hS => lv_ladd X.1 X.2.1 hdg (kk ls H locs hl hP hD hS)
theorem J_lsub (X : jX p s m args c cc nL Ts own D cl tys A) {x y : Int64} (hdg : decode cc pc = .ok (.lsub, 1)) (kk : J p l e R s m args below meth c nL D cl A Q cells slots (pc + 1) lv (.long (x - y) :: st) ws) : J p l e R s m args below meth c nL D cl A Q cells slots pc lv (.long y :: .long x :: st) ws := fun ls H locs hl hP hD hS => lv_lsub X.1 X.2.1 hdg (kk ls H locs hl hP hD hS)
theorem J_lmul (X : jX p s m args c cc nL Ts own D cl tys A) {x y : Int64} (hdg : decode cc pc = .ok (.lmul, 1)) (kk : J p l e R s m args below meth c nL D cl A Q cells slots (pc + 1) lv (.long (x * y) :: st) ws) : J p l e R s m args below meth c nL D cl A Q cells slots pc lv (.long y :: .long x :: st) ws := fun ls H locs hl hP hD hS => lv_lmul X.1 X.2.1 hdg (kk ls H locs hl hP hD hS)
theorem J_land (X : jX p s m args c cc nL Ts own D cl tys A) {x y : Int64} (hdg : decode cc pc = .ok (.land, 1)) (kk : J p l e R s m args below meth c nL D cl A Q cells slots (pc + 1) lv (.long (x &&& y) :: st) ws) : J p l e R s m args below meth c nL D cl A Q cells slots pc lv (.long y :: .long x :: st) ws := fun ls H locs hl hP hD hS => lv_land X.1 X.2.1 hdg (kk ls H locs hl hP hD hS)
theorem J_lor (X : jX p s m args c cc nL Ts own D cl tys A) {x y : Int64} (hdg : decode cc pc = .ok (.lor, 1)) (kk : J p l e R s m args below meth c nL D cl A Q cells slots (pc + 1) lv (.long (x ||| y) :: st) ws) : J p l e R s m args below meth c nL D cl A Q cells slots pc lv (.long y :: .long x :: st) ws := fun ls H locs hl hP hD hS => lv_lor X.1 X.2.1 hdg (kk ls H locs hl hP hD hS)
theorem J_lxor (X : jX p s m args c cc nL Ts own D cl tys A) {x y : Int64} (hdg : decode cc pc = .ok (.lxor, 1)) (kk : J p l e R s m args below meth c nL D cl A Q cells slots (pc + 1) lv (.long (x ^^^ y) :: st) ws) : J p l e R s m args below meth c nL D cl A Q cells slots pc lv (.long y :: .long x :: st) ws := fun ls H locs hl hP hD hS => lv_lxor X.1 X.2.1 hdg (kk ls H locs hl hP hD hS)
theorem J_lushr (X : jX p s m args c cc nL Ts own D cl tys A) {x : Int64} {y : Int32} (hdg : decode cc pc = .ok (.lushr, 1)) (kk : J p l e R s m args below meth c nL D cl A Q cells slots (pc + 1) lv (.long ((x.toUInt64 >>> (y.toInt64.toUInt64 &&& Int64.toUInt64 63)).toInt64) :: st) ws) : J p l e R s m args below meth c nL D cl A Q cells slots pc lv (.int y :: .long x :: st) ws := fun ls H locs hl hP hD hS => lv_lushr X.1 X.2.1 hdg rfl (kk ls H locs hl hP hD hS)
theorem J_lshl (X : jX p s m args c cc nL Ts own D cl tys A) {x : Int64} {y : Int32} (hdg : decode cc pc = .ok (.lshl, 1)) (kk : J p l e R s m args below meth c nL D cl A Q cells slots (pc + 1) lv (.long (x <<< (y.toInt64 &&& 63)) :: st) ws) : J p l e R s m args below meth c nL D cl A Q cells slots pc lv (.int y :: .long x :: st) ws := fun ls H locs hl hP hD hS => lv_lshl X.1 X.2.1 hdg rfl (kk ls H locs hl hP hD hS)
theorem J_lshr (X : jX p s m args c cc nL Ts own D cl tys A) {x : Int64} {y : Int32} (hdg : decode cc pc = .ok (.lshr, 1)) (kk : J p l e R s m args below meth c nL D cl A Q cells slots (pc + 1) lv (.long (x >>> (y.toInt64 &&& 63)) :: st) ws) : J p l e R s m args below meth c nL D cl A Q cells slots pc lv (.int y :: .long x :: st) ws := fun ls H locs hl hP hD hS => lv_lshr X.1 X.2.1 hdg rfl (kk ls H locs hl hP hD hS)
theorem J_i2l (X : jX p s m args c cc nL Ts own D cl tys A) {x : Int32} (hdg : decode cc pc = .ok (.i2l, 1)) (kk : J p l e R s m args below meth c nL D cl A Q cells slots (pc + 1) lv (.long (x.toInt64) :: st) ws) : J p l e R s m args below meth c nL D cl A Q cells slots pc lv (.int x :: st) ws := fun ls H locs hl hP hD hS => lv_i2l X.1 X.2.1 hdg rfl (kk ls H locs hl hP hD hS)
theorem J_l2i (X : jX p s m args c cc nL Ts own D cl tys A) {x : Int64} (hdg : decode cc pc = .ok (.l2i, 1)) (kk : J p l e R s m args below meth c nL D cl A Q cells slots (pc + 1) lv (.int (x.toInt32) :: st) ws) : J p l e R s m args below meth c nL D cl A Q cells slots pc lv (.long x :: st) ws := fun ls H locs hl hP hD hS => lv_l2i X.1 X.2.1 hdg rfl (kk ls H locs hl hP hD hS)
theorem J_i2b (X : jX p s m args c cc nL Ts own D cl tys A) {x : Int32} (hdg : decode cc pc = .ok (.i2b, 1)) (kk : J p l e R s m args below meth c nL D cl A Q cells slots (pc + 1) lv (.int (x.toInt8.toInt32) :: st) ws) : J p l e R s m args below meth c nL D cl A Q cells slots pc lv (.int x :: st) ws := fun ls H locs hl hP hD hS => lv_i2b X.1 X.2.1 hdg rfl (kk ls H locs hl hP hD hS)
theorem J_lcmp (X : jX p s m args c cc nL Ts own D cl tys A) {x y : Int64} (hdg : decode cc pc = .ok (.lcmp, 1)) (kk : J p l e R s m args below meth c nL D cl A Q cells slots (pc + 1) lv (.int (lg_cmp x y) :: st) ws) : J p l e R s m args below meth c nL D cl A Q cells slots pc lv (.long y :: .long x :: st) ws := fun ls H locs hl hP hD hS => W.lcmp X.1 X.2.1 hdg (kk ls H locs hl hP hD hS)
theorem J_dup (X : jX p s m args c cc nL Ts own D cl tys A) {va : Value} (hdg : decode cc pc = .ok (.dup, 1)) (hva : va.category = 1) (kk : J p l e R s m args below meth c nL D cl A Q cells slots (pc + 1) lv (va :: va :: st) ws) : J p l e R s m args below meth c nL D cl A Q cells slots pc lv (va :: st) ws := fun ls H locs hl hP hD hS => lv_dup X.1 X.2.1 hdg hva (kk ls H locs hl hP hD hS)
theorem J_pop (X : jX p s m args c cc nL Ts own D cl tys A) {va : Value} (hdg : decode cc pc = .ok (.pop, 1)) (hva : va.category = 1) (kk : J p l e R s m args below meth c nL D cl A Q cells slots (pc + 1) lv st ws) : J p l e R s m args below meth c nL D cl A Q cells slots pc lv (va :: st) ws := fun ls H locs hl hP hD hS => lv_pop X.1 X.2.1 hdg hva (kk ls H locs hl hP hD hS)
theorem J_dup2 (X : jX p s m args c cc nL Ts own D cl tys A) {va vb : Value} (hdg : decode cc pc = .ok (.dup2, 1)) (hva : va.category = 1) (hvb : vb.category = 1) (kk : J p l e R s m args below meth c nL D cl A Q cells slots (pc + 1) lv (va :: vb :: va :: vb :: st) ws) : J p l e R s m args below meth c nL D cl A Q cells slots pc lv (va :: vb :: st) ws := fun ls H locs hl hP hD hS => lv_dup2_11 X.1 X.2.1 hdg hva hvb (kk ls H locs hl hP hD hS)
theorem J_dup_x1 (X : jX p s m args c cc nL Ts own D cl tys A) {va vb : Value} (hdg : decode cc pc = .ok (.dup_x1, 1)) (hva : va.category = 1) (hvb : vb.category = 1) (kk : J p l e R s m args below meth c nL D cl A Q cells slots (pc + 1) lv (va :: vb :: va :: st) ws) : J p l e R s m args below meth c nL D cl A Q cells slots pc lv (va :: vb :: st) ws := fun ls H locs hl hP hD hS => lv_dup_x1 X.1 X.2.1 hdg hva hvb (kk ls H locs hl hP hD hS)
theorem J_dup_x2 (X : jX p s m args c cc nL Ts own D cl tys A) {va vb vd : Value} (hdg : decode cc pc = .ok (.dup_x2, 1)) (hva : va.category = 1) (hvb : vb.category = 1) (hvd : vd.category = 1) (kk : J p l e R s m args below meth c nL D cl A Q cells slots (pc + 1) lv (va :: vb :: vd :: va :: st) ws) : J p l e R s m args below meth c nL D cl A Q cells slots pc lv (va :: vb :: vd :: st) ws := fun ls H locs hl hP hD hS => lv_dup_x2 X.1 X.2.1 hdg hva hvb hvd (kk ls H locs hl hP hD hS)
theorem J_if_eq (X : jX p s m args c cc nL Ts own D cl tys A) {x : Int32} {off : Int} (tgt : Nat) (hdg : decode cc pc = .ok (.ifCond .eq off, 3)) (ht : (pc : Int) + off = (tgt : Int)) (kt : x = 0 → J p l e R s m args below meth c nL D cl A Q cells slots tgt lv st ws) (kf : ¬ x = 0 → J p l e R s m args below meth c nL D cl A Q cells slots (pc + 3) lv st ws) : J p l e R s m args below meth c nL D cl A Q cells slots pc lv (.int x :: st) ws := fun ls H locs hl hP hD hS => lv_if_eq X.1 X.2.1 hdg ht (fun q => kt q ls H locs hl hP hD hS) (fun q => kf q ls H locs hl hP hD hS)
theorem J_if_ne (X : jX p s m args c cc nL Ts own D cl tys A) {x : Int32} {off : Int} (tgt : Nat) (hdg : decode cc pc = .ok (.ifCond .ne off, 3)) (ht : (pc : Int) + off = (tgt : Int)) (kt : ¬ x = 0 → J p l e R s m args below meth c nL D cl A Q cells slots tgt lv st ws) (kf : x = 0 → J p l e R s m args below meth c nL D cl A Q cells slots (pc + 3) lv st ws) : J p l e R s m args below meth c nL D cl A Q cells slots pc lv (.int x :: st) ws := fun ls H locs hl hP hD hS => lv_if_ne X.1 X.2.1 hdg ht (fun q => kt q ls H locs hl hP hD hS) (fun q => kf q ls H locs hl hP hD hS)
theorem J_if_lt (X : jX p s m args c cc nL Ts own D cl tys A) {x : Int32} {off : Int} (tgt : Nat) (hdg : decode cc pc = .ok (.ifCond .lt off, 3)) (ht : (pc : Int) + off = (tgt : Int)) (kt : x < 0 → J p l e R s m args below meth c nL D cl A Q cells slots tgt lv st ws) (kf : ¬ x < 0 → J p l e R s m args below meth c nL D cl A Q cells slots (pc + 3) lv st ws) : J p l e R s m args below meth c nL D cl A Q cells slots pc lv (.int x :: st) ws := fun ls H locs hl hP hD hS => lv_if_lt X.1 X.2.1 hdg ht (fun q => kt q ls H locs hl hP hD hS) (fun q => kf q ls H locs hl hP hD hS)
theorem J_if_ge (X : jX p s m args c cc nL Ts own D cl tys A) {x : Int32} {off : Int} (tgt : Nat) (hdg : decode cc pc = .ok (.ifCond .ge off, 3)) (ht : (pc : Int) + off = (tgt : Int)) (kt : 0 ≤ x → J p l e R s m args below meth c nL D cl A Q cells slots tgt lv st ws) (kf : ¬ 0 ≤ x → J p l e R s m args below meth c nL D cl A Q cells slots (pc + 3) lv st ws) : J p l e R s m args below meth c nL D cl A Q cells slots pc lv (.int x :: st) ws := fun ls H locs hl hP hD hS => lv_if_ge X.1 X.2.1 hdg ht (fun q => kt q ls H locs hl hP hD hS) (fun q => kf q ls H locs hl hP hD hS)
theorem J_if_gt (X : jX p s m args c cc nL Ts own D cl tys A) {x : Int32} {off : Int} (tgt : Nat) (hdg : decode cc pc = .ok (.ifCond .gt off, 3)) (ht : (pc : Int) + off = (tgt : Int)) (kt : 0 < x → J p l e R s m args below meth c nL D cl A Q cells slots tgt lv st ws) (kf : ¬ 0 < x → J p l e R s m args below meth c nL D cl A Q cells slots (pc + 3) lv st ws) : J p l e R s m args below meth c nL D cl A Q cells slots pc lv (.int x :: st) ws := fun ls H locs hl hP hD hS => lv_if_gt X.1 X.2.1 hdg ht (fun q => kt q ls H locs hl hP hD hS) (fun q => kf q ls H locs hl hP hD hS)
theorem J_if_le (X : jX p s m args c cc nL Ts own D cl tys A) {x : Int32} {off : Int} (tgt : Nat) (hdg : decode cc pc = .ok (.ifCond .le off, 3)) (ht : (pc : Int) + off = (tgt : Int)) (kt : x ≤ 0 → J p l e R s m args below meth c nL D cl A Q cells slots tgt lv st ws) (kf : ¬ x ≤ 0 → J p l e R s m args below meth c nL D cl A Q cells slots (pc + 3) lv st ws) : J p l e R s m args below meth c nL D cl A Q cells slots pc lv (.int x :: st) ws := fun ls H locs hl hP hD hS => lv_if_le X.1 X.2.1 hdg ht (fun q => kt q ls H locs hl hP hD hS) (fun q => kf q ls H locs hl hP hD hS)
theorem J_icmp_eq (X : jX p s m args c cc nL Ts own D cl tys A) {x y : Int32} {off : Int} (tgt : Nat) (hdg : decode cc pc = .ok (.if_icmp .eq off, 3)) (ht : (pc : Int) + off = (tgt : Int)) (kt : x = y → J p l e R s m args below meth c nL D cl A Q cells slots tgt lv st ws) (kf : ¬ x = y → J p l e R s m args below meth c nL D cl A Q cells slots (pc + 3) lv st ws) : J p l e R s m args below meth c nL D cl A Q cells slots pc lv (.int y :: .int x :: st) ws := fun ls H locs hl hP hD hS => lv_icmp_eq X.1 X.2.1 hdg ht (fun q => kt q ls H locs hl hP hD hS) (fun q => kf q ls H locs hl hP hD hS)
theorem J_icmp_ne (X : jX p s m args c cc nL Ts own D cl tys A) {x y : Int32} {off : Int} (tgt : Nat) (hdg : decode cc pc = .ok (.if_icmp .ne off, 3)) (ht : (pc : Int) + off = (tgt : Int)) (kt : ¬ x = y → J p l e R s m args below meth c nL D cl A Q cells slots tgt lv st ws) (kf : x = y → J p l e R s m args below meth c nL D cl A Q cells slots (pc + 3) lv st ws) : J p l e R s m args below meth c nL D cl A Q cells slots pc lv (.int y :: .int x :: st) ws := fun ls H locs hl hP hD hS => lv_icmp_ne X.1 X.2.1 hdg ht (fun q => kt q ls H locs hl hP hD hS) (fun q => kf q ls H locs hl hP hD hS)
theorem J_icmp_lt (X : jX p s m args c cc nL Ts own D cl tys A) {x y : Int32} {off : Int} (tgt : Nat) (hdg : decode cc pc = .ok (.if_icmp .lt off, 3)) (ht : (pc : Int) + off = (tgt : Int)) (kt : x < y → J p l e R s m args below meth c nL D cl A Q cells slots tgt lv st ws) (kf : ¬ x < y → J p l e R s m args below meth c nL D cl A Q cells slots (pc + 3) lv st ws) : J p l e R s m args below meth c nL D cl A Q cells slots pc lv (.int y :: .int x :: st) ws := fun ls H locs hl hP hD hS => lv_icmp_lt X.1 X.2.1 hdg ht (fun q => kt q ls H locs hl hP hD hS) (fun q => kf q ls H locs hl hP hD hS)
theorem J_icmp_ge (X : jX p s m args c cc nL Ts own D cl tys A) {x y : Int32} {off : Int} (tgt : Nat) (hdg : decode cc pc = .ok (.if_icmp .ge off, 3)) (ht : (pc : Int) + off = (tgt : Int)) (kt : y ≤ x → J p l e R s m args below meth c nL D cl A Q cells slots tgt lv st ws) (kf : ¬ y ≤ x → J p l e R s m args below meth c nL D cl A Q cells slots (pc + 3) lv st ws) : J p l e R s m args below meth c nL D cl A Q cells slots pc lv (.int y :: .int x :: st) ws := fun ls H locs hl hP hD hS => lv_icmp_ge X.1 X.2.1 hdg ht (fun q => kt q ls H locs hl hP hD hS) (fun q => kf q ls H locs hl hP hD hS)
theorem J_icmp_gt (X : jX p s m args c cc nL Ts own D cl tys A) {x y : Int32} {off : Int} (tgt : Nat) (hdg : decode cc pc = .ok (.if_icmp .gt off, 3)) (ht : (pc : Int) + off = (tgt : Int)) (kt : y < x → J p l e R s m args below meth c nL D cl A Q cells slots tgt lv st ws) (kf : ¬ y < x → J p l e R s m args below meth c nL D cl A Q cells slots (pc + 3) lv st ws) : J p l e R s m args below meth c nL D cl A Q cells slots pc lv (.int y :: .int x :: st) ws := fun ls H locs hl hP hD hS => lv_icmp_gt X.1 X.2.1 hdg ht (fun q => kt q ls H locs hl hP hD hS) (fun q => kf q ls H locs hl hP hD hS)
theorem J_icmp_le (X : jX p s m args c cc nL Ts own D cl tys A) {x y : Int32} {off : Int} (tgt : Nat) (hdg : decode cc pc = .ok (.if_icmp .le off, 3)) (ht : (pc : Int) + off = (tgt : Int)) (kt : x ≤ y → J p l e R s m args below meth c nL D cl A Q cells slots tgt lv st ws) (kf : ¬ x ≤ y → J p l e R s m args below meth c nL D cl A Q cells slots (pc + 3) lv st ws) : J p l e R s m args below meth c nL D cl A Q cells slots pc lv (.int y :: .int x :: st) ws := fun ls H locs hl hP hD hS => lv_icmp_le X.1 X.2.1 hdg ht (fun q => kt q ls H locs hl hP hD hS) (fun q => kf q ls H locs hl hP hD hS)
theorem J_goto (X : jX p s m args c cc nL Ts own D cl tys A) {off : Int} (tgt : Nat) (hdg : decode cc pc = .ok (.goto off, 3)) (ht : (pc : Int) + off = (tgt : Int)) (kk : J p l e R s m args below meth c nL D cl A Q cells slots tgt lv st ws) : J p l e R s m args below meth c nL D cl A Q cells slots pc lv st ws := fun ls H locs hl hP hD hS => lv_goto X.1 X.2.1 hdg ht (kk ls H locs hl hP hD hS)
theorem J_lookup (X : jX p s m args c cc nL Ts own D cl tys A) {dflt : Int} {ps : Array (Int × Int)} {len : Nat} {x : Int32} {off : Int} (tgt : Nat) (hdg : decode cc pc = .ok (.lookupswitch dflt ps, len)) (hp : (ps.toList.zip (ps.toList.drop 1)).all (fun (a, next) => a.1 < next.1) = true) (ho : Op.lookupswitch.offset ps.toList dflt x.toInt = off) (ht : (pc : Int) + off = (tgt : Int)) (kk : J p l e R s m args below meth c nL D cl A Q cells slots tgt lv st ws) : J p l e R s m args below meth c nL D cl A Q cells slots pc lv (.int x :: st) ws := fun ls H locs hl hP hD hS => lv_lookup X.1 X.2.1 hdg hp ho ht (kk ls H locs hl hP hD hS)
theorem J_tableOut (X : jX p s m args c cc nL Ts own D cl tys A) {dflt lo hi : Int} {offs : Array Int} {len : Nat} {x : Int32} (tgt : Nat) (hdg : decode cc pc = .ok (.tableswitch dflt lo hi offs, len)) (h : x.toInt < lo ∨ hi < x.toInt) (ht : (pc : Int) + dflt = (tgt : Int)) (kk : J p l e R s m args below meth c nL D cl A Q cells slots tgt lv st ws) : J p l e R s m args below meth c nL D cl A Q cells slots pc lv (.int x :: st) ws := fun ls H locs hl hP hD hS => lv_tableOut X.1 X.2.1 hdg h ht (kk ls H locs hl hP hD hS)
theorem J_tableIn (X : jX p s m args c cc nL Ts own D cl tys A) {dflt lo hi : Int} {offs : Array Int} {len : Nat} {x : Int32} {off : Int} (tgt : Nat) (hdg : decode cc pc = .ok (.tableswitch dflt lo hi offs, len)) (h1 : ¬ x.toInt < lo) (h2 : ¬ hi < x.toInt) (ho : offs[(x.toInt - lo).toNat]? = some off) (ht : (pc : Int) + off = (tgt : Int)) (kk : J p l e R s m args below meth c nL D cl A Q cells slots tgt lv st ws) : J p l e R s m args below meth c nL D cl A Q cells slots pc lv (.int x :: st) ws := fun ls H locs hl hP hD hS => lv_tableIn X.1 X.2.1 hdg h1 h2 ho ht (kk ls H locs hl hP hD hS)
theorem J_get (X : jX p s m args c cc nL Ts own D cl tys A) {ref C : String} {T : u_T} {N ci index : Nat} {a : Nat} (hin : ∀ w ∈ u_ws C T N, w ∈ Ts) (q0 : Nat) {fs : List Value} (he : ws[q0]? = some (a, .inr (ci, fs))) (hc : cl[ci]? = some (C, T, N)) (k : Nat) (hk : k < N) (hlink : Cond.fieldLink own index ref (T k).2.1 (T k).2.2.1 ∈ Ts) (hr : (T k).1 = ref) {v : Value} (hv : fs[k]? = some v) (hdg : decode cc pc = .ok (.getfield index, 3)) (kk : J p l e R s m args below meth c nL D cl A Q cells slots (pc + 3) lv (v :: st) ws) : J p l e R s m args below meth c nL D cl A Q cells slots pc lv (.ref a :: st) ws := fun ls H locs hl hP hD hS => va_get X.1 X.2.1 X.hts hin X.hown X.hK hP q0 he hc k hk (X.hts _ hlink) (fun x h => by rw [← hr]; exact h) hv hdg (kk ls H locs hl hP hD hS)
theorem J_getN (X : jX p s m args c cc nL Ts own D cl tys A) {host : String} {ref C : String} {T : u_T} {N ci index : Nat} {a : Nat} (hin : ∀ w ∈ u_ws C T N, w ∈ Ts) (q0 : Nat) {fs : List Value} (he : ws[q0]? = some (a, .inr (ci, fs))) (hc : cl[ci]? = some (C, T, N)) (k : Nat) (hk : k < N) (hlink : Cond.fieldLinkNest own index ref (T k).2.1 (T k).2.2.1 host ∈ nestL) (hr : (T k).1 = ref) {v : Value} (hv : fs[k]? = some v) (hdg : decode cc pc = .ok (.getfield index, 3)) (kk : J p l e R s m args below meth c nL D cl A Q cells slots (pc + 3) lv (v :: st) ws) : J p l e R s m args below meth c nL D cl A Q cells slots pc lv (.ref a :: st) ws := fun ls H locs hl hP hD hS => va_getN X.1 X.2.1 X.hts hin X.hown X.hK hP q0 he hc k hk (va_Nw.use rfl (X.hN _ hlink)) (fun x h => by rw [← hr]; exact h) hv hdg (kk ls H locs hl hP hD hS)
theorem J_put (X : jX p s m args c cc nL Ts own D cl tys A) {ref C : String} {T : u_T} {N ci index : Nat} {a : Nat} (hin : ∀ w ∈ u_ws C T N, w ∈ Ts) (ty0 : Nat → FieldType) (hty : ∀ k, k < N → parseFieldDescriptor (T k).2.2.1 = some (ty0 k)) (hnm : ∀ a, a < N → ∀ b, b < N → a ≠ b → (T a).2.1 ≠ (T b).2.1) (q0 : Nat) {fs : List Value} (he : ws[q0]? = some (a, .inr (ci, fs))) (hc : cl[ci]? = some (C, T, N)) (k : Nat) (hk : k < N) (hlink : Cond.fieldLink own index ref (T k).2.1 (T k).2.2.1 ∈ Ts) (hr : (T k).1 = ref) (hfin : (T k).2.2.2 = false) {ty : FieldType} {v : Value} (hd : parseFieldDescriptor (T k).2.2.1 = some ty) (hn : narrow ty v = v) (hfit : fits ty v = true) (hl2 : k < fs.length) (hdg : decode cc pc = .ok (.putfield index, 3)) (ws' : va_W) (hw : ws.set q0 (a, .inr (ci, fs.set k v)) = ws') (kk : J p l e R s m args below meth c nL D cl A Q cells slots (pc + 3) lv st ws') : J p l e R s m args below meth c nL D cl A Q cells slots pc lv (v :: .ref a :: st) ws := fun ls H locs hl hP hD hS => va_put X.1 X.2.1 X.hts hin ty0 hty hnm X.hown X.hK hP hD hS q0 he hc k hk (X.hts _ hlink) (fun x h => by rw [← hr]; exact h) hfin hd hn hfit hl2 hdg (fun H1 locs1 hP1 hD1 hS1 => kk ls H1 locs1 hl (hw ▸ hP1) (hw ▸ hD1) hS1)
theorem J_putN (X : jX p s m args c cc nL Ts own D cl tys A) {host : String} {ref C : String} {T : u_T} {N ci index : Nat} {a : Nat} (hin : ∀ w ∈ u_ws C T N, w ∈ Ts) (ty0 : Nat → FieldType) (hty : ∀ k, k < N → parseFieldDescriptor (T k).2.2.1 = some (ty0 k)) (hnm : ∀ a, a < N → ∀ b, b < N → a ≠ b → (T a).2.1 ≠ (T b).2.1) (q0 : Nat) {fs : List Value} (he : ws[q0]? = some (a, .inr (ci, fs))) (hc : cl[ci]? = some (C, T, N)) (k : Nat) (hk : k < N) (hlink : Cond.fieldLinkNest own index ref (T k).2.1 (T k).2.2.1 host ∈ nestL) (hr : (T k).1 = ref) (hfin : (T k).2.2.2 = false) {ty : FieldType} {v : Value} (hd : parseFieldDescriptor (T k).2.2.1 = some ty) (hn : narrow ty v = v) (hfit : fits ty v = true) (hl2 : k < fs.length) (hdg : decode cc pc = .ok (.putfield index, 3)) (ws' : va_W) (hw : ws.set q0 (a, .inr (ci, fs.set k v)) = ws') (kk : J p l e R s m args below meth c nL D cl A Q cells slots (pc + 3) lv st ws') : J p l e R s m args below meth c nL D cl A Q cells slots pc lv (v :: .ref a :: st) ws := fun ls H locs hl hP hD hS => va_putN X.1 X.2.1 X.hts hin ty0 hty hnm X.hown X.hK hP hD hS q0 he hc k hk (va_Nw.use rfl (X.hN _ hlink)) (fun x h => by rw [← hr]; exact h) hfin hd hn hfit hl2 hdg (fun H1 locs1 hP1 hD1 hS1 => kk ls H1 locs1 hl (hw ▸ hP1) (hw ▸ hD1) hS1)
theorem J_putF (X : jX p s m args c cc nL Ts own D cl tys A) {ref C : String} {T : u_T} {N ci index : Nat} {a : Nat} (hin : ∀ w ∈ u_ws C T N, w ∈ Ts) (ty0 : Nat → FieldType) (hty : ∀ k, k < N → parseFieldDescriptor (T k).2.2.1 = some (ty0 k)) (hnm : ∀ a, a < N → ∀ b, b < N → a ≠ b → (T a).2.1 ≠ (T b).2.1) (q0 : Nat) {fs : List Value} (he : ws[q0]? = some (a, .inr (ci, fs))) (hc : cl[ci]? = some (C, T, N)) (k : Nat) (hk : k < N) (hlink : Cond.fieldLink own index ref (T k).2.1 (T k).2.2.1 ∈ Ts) (hr : (T k).1 = ref) (hfin : (T k).2.2.2 = true) (hin2 : meth.name = "<init>") (hdecl : (T k).1 = own) {ty : FieldType} {v : Value} (hd : parseFieldDescriptor (T k).2.2.1 = some ty) (hn : narrow ty v = v) (hfit : fits ty v = true) (hl2 : k < fs.length) (hdg : decode cc pc = .ok (.putfield index, 3)) (ws' : va_W) (hw : ws.set q0 (a, .inr (ci, fs.set k v)) = ws') (kk : J p l e R s m args below meth c nL D cl A Q cells slots (pc + 3) lv st ws') : J p l e R s m args below meth c nL D cl A Q cells slots pc lv (v :: .ref a :: st) ws := fun ls H locs hl hP hD hS => va_putF X.1 X.2.1 X.hts hin ty0 hty hnm X.hown X.hK hP hD hS q0 he hc k hk (X.hts _ hlink) (fun x h => by rw [← hr]; exact h) hfin hin2 hdecl hd hn hfit hl2 hdg (fun H1 locs1 hP1 hD1 hS1 => kk ls H1 locs1 hl (hw ▸ hP1) (hw ▸ hD1) hS1)
theorem J_iald (X : jX p s m args c cc nL Ts own D cl tys A) {a : Nat} (q0 t0 : Nat) {cA : ClassId} {n : Nat} {f : Nat → Int32} (ha : ws[q0]? = some (a, .inl (cA, n, .inl f))) (ht : tys[t0]? = some (cA, .int)) {i : Int32} (hin : ¬ (i < 0 ∨ n ≤ i.toNatClampNeg)) (hdg : decode cc pc = .ok (.iaload, 1)) (kk : J p l e R s m args below meth c nL D cl A Q cells slots (pc + 1) lv (.int (f i.toNatClampNeg) :: st) ws) : J p l e R s m args below meth c nL D cl A Q cells slots pc lv (.int i :: .ref a :: st) ws := fun ls H locs hl hP hD hS => va_iald X.1 X.2.1 X.hK hP q0 t0 ha ht hin hdg (kk ls H locs hl hP hD hS)
theorem J_bald (X : jX p s m args c cc nL Ts own D cl tys A) {a : Nat} (q0 t0 : Nat) {cA : ClassId} {n : Nat} {f : Nat → Int32} (ha : ws[q0]? = some (a, .inl (cA, n, .inl f))) (ht : tys[t0]? = some (cA, .byte)) {i : Int32} (hin : ¬ (i < 0 ∨ n ≤ i.toNatClampNeg)) (hdg : decode cc pc = .ok (.baload, 1)) (kk : J p l e R s m args below meth c nL D cl A Q cells slots (pc + 1) lv (.int (f i.toNatClampNeg) :: st) ws) : J p l e R s m args below meth c nL D cl A Q cells slots pc lv (.int i :: .ref a :: st) ws := fun ls H locs hl hP hD hS => va_bald X.1 X.2.1 X.hK hP q0 t0 ha ht hin hdg (kk ls H locs hl hP hD hS)
theorem J_zald (X : jX p s m args c cc nL Ts own D cl tys A) {a : Nat} (q0 t0 : Nat) {cA : ClassId} {n : Nat} {f : Nat → Int32} (ha : ws[q0]? = some (a, .inl (cA, n, .inl f))) (ht : tys[t0]? = some (cA, .boolean)) {i : Int32} (hin : ¬ (i < 0 ∨ n ≤ i.toNatClampNeg)) (hdg : decode cc pc = .ok (.baload, 1)) (kk : J p l e R s m args below meth c nL D cl A Q cells slots (pc + 1) lv (.int (f i.toNatClampNeg) :: st) ws) : J p l e R s m args below meth c nL D cl A Q cells slots pc lv (.int i :: .ref a :: st) ws := fun ls H locs hl hP hD hS => va_zald X.1 X.2.1 X.hK hP q0 t0 ha ht hin hdg (kk ls H locs hl hP hD hS)
theorem J_cald (X : jX p s m args c cc nL Ts own D cl tys A) {a : Nat} (q0 t0 : Nat) {cA : ClassId} {n : Nat} {f : Nat → Int32} (ha : ws[q0]? = some (a, .inl (cA, n, .inl f))) (ht : tys[t0]? = some (cA, .char)) {i : Int32} (hin : ¬ (i < 0 ∨ n ≤ i.toNatClampNeg)) (hdg : decode cc pc = .ok (.caload, 1)) (kk : J p l e R s m args below meth c nL D cl A Q cells slots (pc + 1) lv (.int (f i.toNatClampNeg) :: st) ws) : J p l e R s m args below meth c nL D cl A Q cells slots pc lv (.int i :: .ref a :: st) ws := fun ls H locs hl hP hD hS => va_cald X.1 X.2.1 X.hK hP q0 t0 ha ht hin hdg (kk ls H locs hl hP hD hS)
theorem J_lald (X : jX p s m args c cc nL Ts own D cl tys A) {a : Nat} (q0 t0 : Nat) {cA : ClassId} {n : Nat} {f : Nat → Int64} (ha : ws[q0]? = some (a, .inl (cA, n, .inr (.inl f)))) (ht : tys[t0]? = some (cA, .long)) {i : Int32} (hin : ¬ (i < 0 ∨ n ≤ i.toNatClampNeg)) (hdg : decode cc pc = .ok (.laload, 1)) (kk : J p l e R s m args below meth c nL D cl A Q cells slots (pc + 1) lv (.long (f i.toNatClampNeg) :: st) ws) : J p l e R s m args below meth c nL D cl A Q cells slots pc lv (.int i :: .ref a :: st) ws := fun ls H locs hl hP hD hS => va_lald X.1 X.2.1 X.hK hP q0 t0 ha ht hin hdg (kk ls H locs hl hP hD hS)
theorem J_iast (X : jX p s m args c cc nL Ts own D cl tys A) {a : Nat} (q0 t0 : Nat) {cA : ClassId} {n : Nat} {f : Nat → Int32} (ha : ws[q0]? = some (a, .inl (cA, n, .inl f))) (ht : tys[t0]? = some (cA, .int)) {i : Int32} {x : Int32} (hin : ¬ (i < 0 ∨ n ≤ i.toNatClampNeg)) (hdg : decode cc pc = .ok (.iastore, 1)) (ws' : va_W) (hw : ws.set q0 (a, .inl (cA, n, .inl (upd f i.toNatClampNeg x))) = ws') (kk : J p l e R s m args below meth c nL D cl A Q cells slots (pc + 1) lv st ws') : J p l e R s m args below meth c nL D cl A Q cells slots pc lv (.int x :: .int i :: .ref a :: st) ws := fun ls H locs hl hP hD hS => va_iast X.1 X.2.1 X.hK hP hD hS q0 t0 ha ht hin hdg (fun H1 locs1 hP1 hD1 hS1 => kk ls H1 locs1 hl (hw ▸ hP1) (hw ▸ hD1) hS1)
theorem J_bast (X : jX p s m args c cc nL Ts own D cl tys A) {a : Nat} (q0 t0 : Nat) {cA : ClassId} {n : Nat} {f : Nat → Int32} (ha : ws[q0]? = some (a, .inl (cA, n, .inl f))) (ht : tys[t0]? = some (cA, .byte)) {i : Int32} {x : Int32} (hin : ¬ (i < 0 ∨ n ≤ i.toNatClampNeg)) (hdg : decode cc pc = .ok (.bastore, 1)) (ws' : va_W) (hw : ws.set q0 (a, .inl (cA, n, .inl (upd f i.toNatClampNeg (vp_nar .byte x)))) = ws') (kk : J p l e R s m args below meth c nL D cl A Q cells slots (pc + 1) lv st ws') : J p l e R s m args below meth c nL D cl A Q cells slots pc lv (.int x :: .int i :: .ref a :: st) ws := fun ls H locs hl hP hD hS => va_bast X.1 X.2.1 X.hK hP hD hS q0 t0 ha ht hin hdg (fun H1 locs1 hP1 hD1 hS1 => kk ls H1 locs1 hl (hw ▸ hP1) (hw ▸ hD1) hS1)
theorem J_zast (X : jX p s m args c cc nL Ts own D cl tys A) {a : Nat} (q0 t0 : Nat) {cA : ClassId} {n : Nat} {f : Nat → Int32} (ha : ws[q0]? = some (a, .inl (cA, n, .inl f))) (ht : tys[t0]? = some (cA, .boolean)) {i : Int32} {x : Int32} (hin : ¬ (i < 0 ∨ n ≤ i.toNatClampNeg)) (hdg : decode cc pc = .ok (.bastore, 1)) (ws' : va_W) (hw : ws.set q0 (a, .inl (cA, n, .inl (upd f i.toNatClampNeg (vp_nar .boolean x)))) = ws') (kk : J p l e R s m args below meth c nL D cl A Q cells slots (pc + 1) lv st ws') : J p l e R s m args below meth c nL D cl A Q cells slots pc lv (.int x :: .int i :: .ref a :: st) ws := fun ls H locs hl hP hD hS => va_zast X.1 X.2.1 X.hK hP hD hS q0 t0 ha ht hin hdg (fun H1 locs1 hP1 hD1 hS1 => kk ls H1 locs1 hl (hw ▸ hP1) (hw ▸ hD1) hS1)
theorem J_cast (X : jX p s m args c cc nL Ts own D cl tys A) {a : Nat} (q0 t0 : Nat) {cA : ClassId} {n : Nat} {f : Nat → Int32} (ha : ws[q0]? = some (a, .inl (cA, n, .inl f))) (ht : tys[t0]? = some (cA, .char)) {i : Int32} {x : Int32} (hin : ¬ (i < 0 ∨ n ≤ i.toNatClampNeg)) (hdg : decode cc pc = .ok (.castore, 1)) (ws' : va_W) (hw : ws.set q0 (a, .inl (cA, n, .inl (upd f i.toNatClampNeg (vp_nar .char x)))) = ws') (kk : J p l e R s m args below meth c nL D cl A Q cells slots (pc + 1) lv st ws') : J p l e R s m args below meth c nL D cl A Q cells slots pc lv (.int x :: .int i :: .ref a :: st) ws := fun ls H locs hl hP hD hS => va_cast X.1 X.2.1 X.hK hP hD hS q0 t0 ha ht hin hdg (fun H1 locs1 hP1 hD1 hS1 => kk ls H1 locs1 hl (hw ▸ hP1) (hw ▸ hD1) hS1)
theorem J_last (X : jX p s m args c cc nL Ts own D cl tys A) {a : Nat} (q0 t0 : Nat) {cA : ClassId} {n : Nat} {f : Nat → Int64} (ha : ws[q0]? = some (a, .inl (cA, n, .inr (.inl f)))) (ht : tys[t0]? = some (cA, .long)) {i : Int32} {x : Int64} (hin : ¬ (i < 0 ∨ n ≤ i.toNatClampNeg)) (hdg : decode cc pc = .ok (.lastore, 1)) (ws' : va_W) (hw : ws.set q0 (a, .inl (cA, n, .inr (.inl (vp_updL f i.toNatClampNeg x)))) = ws') (kk : J p l e R s m args below meth c nL D cl A Q cells slots (pc + 1) lv st ws') : J p l e R s m args below meth c nL D cl A Q cells slots pc lv (.long x :: .int i :: .ref a :: st) ws := fun ls H locs hl hP hD hS => va_last X.1 X.2.1 X.hK hP hD hS q0 t0 ha ht hin hdg (fun H1 locs1 hP1 hD1 hS1 => kk ls H1 locs1 hl (hw ▸ hP1) (hw ▸ hD1) hS1)
theorem J_alen (X : jX p s m args c cc nL Ts own D cl tys A) {a : Nat} (q0 t0 : Nat) {cA : ClassId} {x : vp_A} (ha : ws[q0]? = some (a, .inl (cA, x))) {ty : FieldType} (ht : tys[t0]? = some (cA, ty)) {v : Int32} (hv : Int32.ofNat x.1 = v) (hdg : decode cc pc = .ok (.arraylength, 1)) (kk : J p l e R s m args below meth c nL D cl A Q cells slots (pc + 1) lv (.int v :: st) ws) : J p l e R s m args below meth c nL D cl A Q cells slots pc lv (.ref a :: st) ws := fun ls H locs hl hP hD hS => va_alen X.1 X.2.1 X.hK hP q0 t0 ha ht hv hdg (kk ls H locs hl hP hD hS)
theorem J_sub (is : List Nat) (ws' : va_W) (hn : va_nd is = true) (h1 : is.filterMap (fun i => ws[i]?) = ws') (h2 : is.map (fun i => ws[i]?) = ws'.map some) (kk : J p l e R s m args below meth c nL D cl A Q cells slots pc lv st ws') : J p l e R s m args below meth c nL D cl A Q cells slots pc lv st ws := fun ls H locs hl hP hD hS => kk ls H locs hl (hP.sub is h1) (hD.sub is hn h2) hS
theorem J_lv (ks : List Nat) (lv' : List (Nat × Value)) (h : lv_pick lv ks = lv') (kk : J p l e R s m args below meth c nL D cl A Q cells slots pc lv' st ws) : J p l e R s m args below meth c nL D cl A Q cells slots pc lv st ws := fun ls H locs hl hP hD hS => kk ls H locs (lv_sub hl ks h) hP hD hS
theorem J_widen (k n : Nat) (h1 : cells ≤ k) (h2 : slots ≤ n) (kk : J p l e R s m args below meth c nL D cl A Q k n pc lv st ws) : J p l e R s m args below meth c nL D cl A Q cells slots pc lv st ws := fun ls H locs hl hP hD hS => W.widen h1 h2 (kk ls H locs hl hP hD hS)
theorem J_to (pc2 : Nat) (st2 : List Value) (ws2 : va_W) (h1 : pc = pc2) (h2 : st = st2) (h3 : ws = ws2) (kk : J p l e R s m args below meth c nL D cl A Q cells slots pc2 lv st2 ws2) : J p l e R s m args below meth c nL D cl A Q cells slots pc lv st ws := by subst h1; subst h2; subst h3; exact kk
theorem J_mmax (X : jX p s m args c cc nL Ts own D cl tys A) {index : Nat} (hl1 : Cond.methodLink own index Lib.Math.max.name ∈ Ts) (hl2 : Cond.static Lib.Math.max.name ∈ Ts) (hl3 : Cond.initialized "java/lang/Math" ∈ Ts) (hl4 : Cond.code Lib.Math.max.name Lib.Math.max.code 2 (some .int) ∈ Ts) (hframes : 1 ≤ R.frames) (hlocals : (st.map fun v => v.category).sum + 13 ≤ R.locals) (hc : cells ≤ R.cells) (hs : slots ≤ R.slots) {x y : Int32} (hdg : decode cc pc = .ok (.invokestatic index, 3)) (kk : J p l e R s m args below meth c nL D cl A Q cells slots (pc + 3) lv (.int (if x < y then y else x) :: st) ws) : J p l e R s m args below meth c nL D cl A Q cells slots pc lv (.int y :: .int x :: st) ws := fun ls H locs hl hP hD hS => va_mmax X.1 X.2.1 (X.2.2.1.trans hl.1.symm) X.hown (X.hts _ hl1) (X.hts _ hl2) (X.hts _ hl3) (X.hts _ hl4) hframes hlocals hc hs hdg (kk ls H locs hl hP hD hS)
theorem J_mmin (X : jX p s m args c cc nL Ts own D cl tys A) {index : Nat} (hl1 : Cond.methodLink own index Lib.Math.min.name ∈ Ts) (hl2 : Cond.static Lib.Math.min.name ∈ Ts) (hl3 : Cond.initialized "java/lang/Math" ∈ Ts) (hl4 : Cond.code Lib.Math.min.name Lib.Math.min.code 2 (some .int) ∈ Ts) (hframes : 1 ≤ R.frames) (hlocals : (st.map fun v => v.category).sum + 13 ≤ R.locals) (hc : cells ≤ R.cells) (hs : slots ≤ R.slots) {x y : Int32} (hdg : decode cc pc = .ok (.invokestatic index, 3)) (kk : J p l e R s m args below meth c nL D cl A Q cells slots (pc + 3) lv (.int (if y < x then y else x) :: st) ws) : J p l e R s m args below meth c nL D cl A Q cells slots pc lv (.int y :: .int x :: st) ws := fun ls H locs hl hP hD hS => va_mmin X.1 X.2.1 (X.2.2.1.trans hl.1.symm) X.hown (X.hts _ hl1) (X.hts _ hl2) (X.hts _ hl3) (X.hts _ hl4) hframes hlocals hc hs hdg (kk ls H locs hl hP hD hS)
end
end
section
section
variable {p : Program} {l : Launch} {e : Env} {R : Room} {s : State} {m : MethodId} {args : Array Value} {below : List Frame} {meth : Method} {c : Code} {Q : State → Prop} {cc : ByteArray} {nL : Nat} {Ts : List Cond} {own : String} {D : va_G} {cl : List vw_C} {tys : List (ClassId × FieldType)} {A : Nat → Prop} {cells slots pc : Nat} {lv lv' : List (Nat × Value)} {st : List Value} {ws ws' : va_W}
def jB (D : va_G) (cl : List vw_C) (tys : List (ClassId × FieldType)) (A : Nat → Prop) (w : va_W) (t : State) : Prop := va_P D cl w t.heap ∧ va_K D cl tys t ∧ va_D A w
def jPre (D : va_G) (cl : List vw_C) (tys : List (ClassId × FieldType)) (wc : va_W) (sz : Nat) : State → Prop := fun U => U.heap.size = sz ∧ jB D cl tys (fun _ => True) wc U ∧ ∀ w ∈ nestL, va_Nw w U
def jQi (D : va_G) (cl : List vw_C) (tys : List (ClassId × FieldType)) (r : Int32) {S : Type} (w1 : S → va_W) (A : Nat → Prop) : Array Value → State → Outcome → State → Prop := va_Qi (fun (r2 : Int32) (_ : S) => r2 = r) (fun u t => jB D cl tys A (w1 u) t) A
def jQv (D : va_G) (cl : List vw_C) (tys : List (ClassId × FieldType)) {S : Type} (w1 : S → va_W) (A : Nat → Prop) : Array Value → State → Outcome → State → Prop := va_Qv (fun (_ : S) => True) (fun u t => jB D cl tys A (w1 u) t) A
def jQr (D : va_G) (cl : List vw_C) (tys : List (ClassId × FieldType)) {S : Type} (w1 : S → Nat → va_W) (A : Nat → Prop) : Array Value → State → Outcome → State → Prop := va_Qr (fun (_ : S) => True) (fun u a t => jB D cl tys A (w1 u a) t) A
/-- y, from the cells wc: it answers r, and the cells are w1 u for some u -/
def jMi (l : Launch) (y : MethodName) (wy : List Cond) (rm : Room) (D : va_G) (cl : List vw_C) (tys : List (ClassId × FieldType)) (av : List Value) (wc : va_W) (r : Int32) {S : Type} (w1 : S → va_W) : Prop :=
  ∀ sz : Nat, Met l y wy rm (va_Pc av (jPre D cl tys wc sz)) (jQi D cl tys r w1 (va_A wc sz)) rm.cells rm.slots (va_A wc sz)
def jMv (l : Launch) (y : MethodName) (wy : List Cond) (rm : Room) (D : va_G) (cl : List vw_C) (tys : List (ClassId × FieldType)) (av : List Value) (wc : va_W) {S : Type} (w1 : S → va_W) : Prop :=
  ∀ sz : Nat, Met l y wy rm (va_Pc av (jPre D cl tys wc sz)) (jQv D cl tys w1 (va_A wc sz)) rm.cells rm.slots (va_A wc sz)
def jMr (l : Launch) (y : MethodName) (wy : List Cond) (rm : Room) (D : va_G) (cl : List vw_C) (tys : List (ClassId × FieldType)) (av : List Value) (wc : va_W) {S : Type} (w1 : S → Nat → va_W) : Prop :=
  ∀ sz : Nat, Met l y wy rm (va_Pc av (jPre D cl tys wc sz)) (jQr D cl tys w1 (va_A wc sz)) rm.cells rm.slots (va_A wc sz)
theorem jBlind {av : List Value} {wc : va_W} {sz : Nat} : FrameBlind (va_Pc av (jPre D cl tys wc sz)) := fun a U g mk q => by
  obtain ⟨q0, q1, ⟨qP, qK, qD⟩, qN⟩ := q
  exact ⟨q0, q1, ⟨qP, va_K.moved (u := U) (U := U.calling g mk a) (Vm.Alike.refl U.vm) qK, qD⟩, fun w hw => va_Nw.same (u := U) (U := U.calling g mk a) (nestL_on w hw) rfl (qN w hw)⟩
theorem jN.warm {s U : State} (hW : s.WarmedH U.vm) (h : ∀ w ∈ nestL, va_Nw w s) : ∀ w ∈ nestL, va_Nw w U := by
  intro w hw
  have h1 := h w hw
  have h2 := nestL_is w hw
  cases w <;> first | exact va_Nw.warmF hW h1 | exact va_Nw.warmM hW h1 | exact absurd h2 (by simp [jIsNest])
theorem jPreS {H : Heap} {As : List Value} {wc : va_W} (hN : ∀ w ∈ nestL, va_Nw w s) (hK : va_K D cl tys s) (hP : va_P D cl wc H) (hD : va_D A wc) : PreS s H (va_Pc As (jPre D cl tys wc H.size)) As :=
  ⟨jBlind, fun U hU hW => ⟨rfl, by rw [hU], ⟨by rw [hU]; exact hP, va_K.moved hW.alike hK, hD.weaken (fun _ _ _ _ => trivial)⟩, jN.warm hW hN⟩⟩
theorem jPreV {H : Heap} {As : List Value} {wc : va_W} {b ci q0 : Nat} {fs : List Value} {C : String} {T : u_T} {N : Nat} (hN : ∀ w ∈ nestL, va_Nw w s) (hK : va_K D cl tys s) (hP : va_P D cl wc H) (hD : va_D A wc) (hc : cl[ci]? = some (C, T, N)) (he : wc[q0]? = some (b, .inr (ci, fs))) : PreV s H C b (va_Pc (.ref b :: As) (jPre D cl tys wc H.size)) As :=
  ⟨jBlind, va_recv hK hP hc he, fun U hU hW => ⟨rfl, by rw [hU], ⟨by rw [hU]; exact hP, va_K.moved hW.alike hK, hD.weaken (fun _ _ _ _ => trivial)⟩, jN.warm hW hN⟩⟩
theorem jMi.of {y : MethodName} {wy wy2 : List Cond} {rm : Room} {ret : Option FieldType} {maxL : Nat} {av : List Value} {wc : va_W} {r : Int32} {S : Type} {w1 : S → va_W} (hy : plainName y.cls = true) (hw : wy = Cond.code y cc maxL ret :: wy2) (hav : (lg_sl av).length ≤ maxL)
    (body : ∀ (p : Program) (e : Env) (s : State) (m : MethodId) (args : Array Value) (below : List Frame) (meth : Method) (c : Code) (A : Nat → Prop), jX p s m args c cc maxL wy y.cls D cl tys A → meth.sig.returnType = ret → meth.locks = false → meth.name = y.name → J p l e rm s m args below meth c maxL D cl A (MQ below (jQi D cl tys r w1 A) args s rm.cells rm.slots A) 0 0 0 (lv_args 0 av) [] wc) : jMi l y wy rm D cl tys av wc r w1 := by
  intro sz
  refine Met.ofW (cc := cc) (maxL := maxL) (ret := ret) hy hw ?_
  intro p e s m args below meth c s₁ B hml hv
  obtain ⟨rfl, hsz, ⟨hP, hK, hD0⟩, hN⟩ := hv
  subst hsz
  have hts := atoms_spec (ws := wy) B.pre
  have hown : s.vm.findClass y.cls = some m.cls := findClass_of_methodNamed B.named
  have hD := hD0.self (sz := s.heap.size)
  have X : jX p s m av.toArray c cc maxL wy y.cls D cl tys (va_A wc s.heap.size) := ⟨B.exec, B.bytes, hml, hown, hts, hK, fun q h => Or.inr h, hN⟩
  rw [lg_entry_eq]
  exact body p e s m _ below meth c _ X B.returns B.notSynchronized (name_of_methodNamed B.named B.method).1 _ s.heap [] (lv_entry av hav) hP hD va_S.rf
theorem jMv.of {y : MethodName} {wy wy2 : List Cond} {rm : Room} {ret : Option FieldType} {maxL : Nat} {av : List Value} {wc : va_W} {S : Type} {w1 : S → va_W} (hy : plainName y.cls = true) (hw : wy = Cond.code y cc maxL ret :: wy2) (hav : (lg_sl av).length ≤ maxL)
    (body : ∀ (p : Program) (e : Env) (s : State) (m : MethodId) (args : Array Value) (below : List Frame) (meth : Method) (c : Code) (A : Nat → Prop), jX p s m args c cc maxL wy y.cls D cl tys A → meth.sig.returnType = ret → meth.locks = false → meth.name = y.name → J p l e rm s m args below meth c maxL D cl A (MQ below (jQv D cl tys w1 A) args s rm.cells rm.slots A) 0 0 0 (lv_args 0 av) [] wc) : jMv l y wy rm D cl tys av wc w1 := by
  intro sz
  refine Met.ofW (cc := cc) (maxL := maxL) (ret := ret) hy hw ?_
  intro p e s m args below meth c s₁ B hml hv
  obtain ⟨rfl, hsz, ⟨hP, hK, hD0⟩, hN⟩ := hv
  subst hsz
  have hts := atoms_spec (ws := wy) B.pre
  have hown : s.vm.findClass y.cls = some m.cls := findClass_of_methodNamed B.named
  have hD := hD0.self (sz := s.heap.size)
  have X : jX p s m av.toArray c cc maxL wy y.cls D cl tys (va_A wc s.heap.size) := ⟨B.exec, B.bytes, hml, hown, hts, hK, fun q h => Or.inr h, hN⟩
  rw [lg_entry_eq]
  exact body p e s m _ below meth c _ X B.returns B.notSynchronized (name_of_methodNamed B.named B.method).1 _ s.heap [] (lv_entry av hav) hP hD va_S.rf
theorem jMr.of {y : MethodName} {wy wy2 : List Cond} {rm : Room} {ret : Option FieldType} {maxL : Nat} {av : List Value} {wc : va_W} {S : Type} {w1 : S → Nat → va_W} (hy : plainName y.cls = true) (hw : wy = Cond.code y cc maxL ret :: wy2) (hav : (lg_sl av).length ≤ maxL)
    (body : ∀ (p : Program) (e : Env) (s : State) (m : MethodId) (args : Array Value) (below : List Frame) (meth : Method) (c : Code) (A : Nat → Prop), jX p s m args c cc maxL wy y.cls D cl tys A → meth.sig.returnType = ret → meth.locks = false → meth.name = y.name → J p l e rm s m args below meth c maxL D cl A (MQ below (jQr D cl tys w1 A) args s rm.cells rm.slots A) 0 0 0 (lv_args 0 av) [] wc) : jMr l y wy rm D cl tys av wc w1 := by
  intro sz
  refine Met.ofW (cc := cc) (maxL := maxL) (ret := ret) hy hw ?_
  intro p e s m args below meth c s₁ B hml hv
  obtain ⟨rfl, hsz, ⟨hP, hK, hD0⟩, hN⟩ := hv
  subst hsz
  have hts := atoms_spec (ws := wy) B.pre
  have hown : s.vm.findClass y.cls = some m.cls := findClass_of_methodNamed B.named
  have hD := hD0.self (sz := s.heap.size)
  have X : jX p s m av.toArray c cc maxL wy y.cls D cl tys (va_A wc s.heap.size) := ⟨B.exec, B.bytes, hml, hown, hts, hK, fun q h => Or.inr h, hN⟩
  rw [lg_entry_eq]
  exact body p e s m _ below meth c _ X B.returns B.notSynchronized (name_of_methodNamed B.named B.method).1 _ s.heap [] (lv_entry av hav) hP hD va_S.rf
theorem J_iret (X : jX p s m args c cc nL Ts own D cl tys A) (hr : meth.sig.returnType = some .int) (hlk : meth.locks = false) {S : Type} {w1 : S → va_W} {v r : Int32} {mc ms : Nat} (u : S) (hc : cells ≤ mc) (hs : slots ≤ ms) (hv : v = r) (hw : ws = w1 u) (hdg : decode cc pc = .ok (.ireturn, 1)) : J p l e R s m args below meth c nL D cl A (MQ below (jQi D cl tys r w1 A) args s mc ms A) cells slots pc lv [.int v] ws :=
  fun _ H locs _ hP hD hS => W.widen hc hs (W.iret (v := v) X.1 X.2.1 hr (fun t ht hW => ⟨⟨v, u, rfl, hv, by rw [ht, ← hw]; exact hP, va_K.moved hW.alike X.hK, hw ▸ hD⟩, hS.F ht⟩) hS.2.2 hdg hlk)
theorem J_zret (X : jX p s m args c cc nL Ts own D cl tys A) {ty : FieldType} (hr : meth.sig.returnType = some ty) (hlk : meth.locks = false) {S : Type} {w1 : S → va_W} {v r : Int32} {mc ms : Nat} (u : S) (hn : narrow ty (.int v) = .int v) (hc : cells ≤ mc) (hs : slots ≤ ms) (hv : v = r) (hw : ws = w1 u) (hdg : decode cc pc = .ok (.ireturn, 1)) : J p l e R s m args below meth c nL D cl A (MQ below (jQi D cl tys r w1 A) args s mc ms A) cells slots pc lv [.int v] ws :=
  fun _ H locs _ hP hD hS => W.widen hc hs (W.zret (v := v) X.1 X.2.1 hr hn (fun t ht hW => ⟨⟨v, u, rfl, hv, by rw [ht, ← hw]; exact hP, va_K.moved hW.alike X.hK, hw ▸ hD⟩, hS.F ht⟩) hS.2.2 hdg hlk)
theorem J_vret (X : jX p s m args c cc nL Ts own D cl tys A) (hr : meth.sig.returnType = none) (hlk : meth.locks = false) {S : Type} {w1 : S → va_W} {mc ms : Nat} (u : S) (hc : cells ≤ mc) (hs : slots ≤ ms) (hw : ws = w1 u) (hdg : decode cc pc = .ok (.return_, 1)) : J p l e R s m args below meth c nL D cl A (MQ below (jQv D cl tys w1 A) args s mc ms A) cells slots pc lv [] ws :=
  fun _ H locs _ hP hD hS => W.widen hc hs (W.vret X.1 X.2.1 hr (fun t ht hW => ⟨⟨u, rfl, trivial, by rw [ht, ← hw]; exact hP, va_K.moved hW.alike X.hK, hw ▸ hD⟩, hS.F ht⟩) hS.2.2 hdg hlk)
theorem J_aret (X : jX p s m args c cc nL Ts own D cl tys A) {rt : FieldType} (hr : meth.sig.returnType = some rt) (hrt : (∃ n, rt = .object n) ∨ ∃ t, rt = .array t) (hlk : meth.locks = false) {S : Type} {w1 : S → Nat → va_W} {v : Nat} {mc ms : Nat} (u : S) (hc : cells ≤ mc) (hs : slots ≤ ms) (hw : ws = w1 u v) (hdg : decode cc pc = .ok (.areturn, 1)) : J p l e R s m args below meth c nL D cl A (MQ below (jQr D cl tys w1 A) args s mc ms A) cells slots pc lv [.ref v] ws :=
  fun _ H locs _ hP hD hS => W.widen hc hs (W.aret (v := .ref v) X.1 X.2.1 hr hrt (Or.inr ⟨v, rfl⟩) (fun t ht hW => ⟨⟨u, v, rfl, trivial, by rw [ht, ← hw]; exact hP, va_K.moved hW.alike X.hK, hw ▸ hD⟩, hS.F ht⟩) hS.2.2 hdg hlk)
theorem J_goi (X : jX p s m args c cc nL Ts own D cl tys A) {mc ms : Nat} {rest : List Value} {av : Array Value} {r : Int32} {S : Type} {w1 : S → va_W} {wc wr : va_W} (isC isR : List Nat) (hC : isC.map (fun i => ws[i]?) = wc.map some) (hCs : isC.filterMap (fun i => ws[i]?) = wc) (hnC : va_nd isC = true) (hR : isR.map (fun i => ws[i]?) = wr.map some) (hnR : va_nd isR = true) (hdis : ∀ i ∈ isR, i ∉ isC)
    (hrun : ∀ (ls : Array Slot) (H : Heap) (locs : List Loc), lv_has ls nL lv → va_P D cl wc H → va_D A wc → va_Run p l e R s m args below meth c H locs cells slots mc ms (F0 m pc ls st) rest (jQi D cl tys r w1 (va_A wc H.size) av) (va_A wc H.size))
    (kk : ∀ u : S, J p l e R s m args below meth c nL D cl A Q (cells + mc) (slots + ms) (pc + 3) lv (.int r :: rest) (wr ++ w1 u)) : J p l e R s m args below meth c nL D cl A Q cells slots pc lv st ws := by
  intro ls H locs hl hP hD hS
  have hPc := hP.sub isC hCs
  have hDc := hD.sub isC hnC hC
  have hFc := va_free (wc := wc) hD hS X.hA isC hC
  refine va_calli (hrun ls H locs hl hPc hDc) hS (fun q _ h => hFc q h) hFc (fun r2 u t H1 locs1 ht hvm hw hB _ hk1 hS1 => ?_)
  obtain rfl : r2 = r := hw
  obtain ⟨hP1, hK1, hD1⟩ := hB
  rw [ht] at hP1
  obtain ⟨hP2, hD2⟩ := va_join (wr := wr) (w1 := w1 u) hP hD isC isR hC hR hnR hdis hk1 hFc hP1 hD1
  exact kk u ls H1 locs1 hl hP2 hD2 hS1
theorem J_callVi (X : jX p s m args c cc nL Ts own D cl tys A) {y : MethodName} {wy wy2 : List Cond} {rm : Room} {bytes : ByteArray} {maxL n index : Nat} {ret : Option FieldType} {b ci q0 : Nat} {fs : List Value} {C : String} {T : u_T} {N : Nat} {r : Int32} {S : Type} {w1 : S → va_W} {wc wr : va_W} (isC isR : List Nat) (hC : isC.map (fun i => ws[i]?) = wc.map some) (hCs : isC.filterMap (fun i => ws[i]?) = wc) (hnC : va_nd isC = true) (hR : isR.map (fun i => ws[i]?) = wr.map some) (hnR : va_nd isR = true) (hdis : ∀ i ∈ isR, i ∉ isC) (As rest : List Value) (hM : jMi l y wy rm D cl tys (.ref b :: As) wc r w1) (hT : GoodIn Ts (wsV own index C y wy)) (hw : wy = Cond.code y bytes maxL ret :: wy2) (hd : y.cls = C ∧ y.cls ≠ "java/lang/invoke/MethodHandle" ∧ y.cls ≠ "java/lang/invoke/VarHandle" ∧ (parseMethodDescriptor y.desc).map (fun d => d.parameters.length) = some n) (hRm : rm.frames + 1 ≤ R.frames ∧ 8 + (maxL + 11) + rm.locals ≤ R.locals) (he : wc[q0]? = some (b, .inr (ci, fs))) (hc : cl[ci]? = some (C, T, N)) (hn : As.length = n) (hst : st = As.reverse ++ .ref b :: rest) (hW : (rest.map fun v => v.category).sum ≤ 8) (hdg : decode cc pc = .ok (.invokevirtual index, 3)) (hf : cells + rm.cells ≤ R.cells ∧ slots + rm.slots ≤ R.slots)
    (kk : ∀ u : S, J p l e R s m args below meth c nL D cl A Q (cells + rm.cells) (slots + rm.slots) (pc + 3) lv (.int r :: rest) (wr ++ w1 u)) : J p l e R s m args below meth c nL D cl A Q cells slots pc lv st ws :=
  J_goi X isC isR hC hCs hnC hR hnR hdis (fun ls H locs hl hP hD => va_runV (As := As) (rest := rest) X.fix (hM H.size) (cwV n X.hts hT hw rfl rfl hd hRm) (jPreV X.hN X.hK hP hD hc he) rfl hn hl.1 hst (lv_room hW) hdg hf) kk
theorem J_callVNi (X : jX p s m args c cc nL Ts own D cl tys A) {host : String} {y : MethodName} {wy wy2 : List Cond} {rm : Room} {bytes : ByteArray} {maxL n index : Nat} {ret : Option FieldType} {b ci q0 : Nat} {fs : List Value} {C : String} {T : u_T} {N : Nat} {r : Int32} {S : Type} {w1 : S → va_W} {wc wr : va_W} (isC isR : List Nat) (hC : isC.map (fun i => ws[i]?) = wc.map some) (hCs : isC.filterMap (fun i => ws[i]?) = wc) (hnC : va_nd isC = true) (hR : isR.map (fun i => ws[i]?) = wr.map some) (hnR : va_nd isR = true) (hdis : ∀ i ∈ isR, i ∉ isC) (As rest : List Value) (hM : jMi l y wy rm D cl tys (.ref b :: As) wc r w1) (hG : GoodIn Ts wy) (hw : wy = Cond.code y bytes maxL ret :: wy2) (hlk : Cond.methodLinkNest own index y host ∈ nestL) (hini : Cond.initialized y.cls ∈ Ts) (him : Cond.instanceMethod y ∈ Ts) (hsel : Cond.selects C y y ∈ Ts) (hd : y.cls ≠ "java/lang/invoke/MethodHandle" ∧ y.cls ≠ "java/lang/invoke/VarHandle" ∧ (parseMethodDescriptor y.desc).map (fun d => d.parameters.length) = some n) (hRm : rm.frames + 1 ≤ R.frames ∧ 8 + (maxL + 11) + rm.locals ≤ R.locals) (he : wc[q0]? = some (b, .inr (ci, fs))) (hc : cl[ci]? = some (C, T, N)) (hn : As.length = n) (hst : st = As.reverse ++ .ref b :: rest) (hW : (rest.map fun v => v.category).sum ≤ 8) (hdg : decode cc pc = .ok (.invokevirtual index, 3)) (hf : cells + rm.cells ≤ R.cells ∧ slots + rm.slots ≤ R.slots)
    (kk : ∀ u : S, J p l e R s m args below meth c nL D cl A Q (cells + rm.cells) (slots + rm.slots) (pc + 3) lv (.int r :: rest) (wr ++ w1 u)) : J p l e R s m args below meth c nL D cl A Q cells slots pc lv st ws :=
  J_goi X isC isR hC hCs hnC hR hnR hdis (fun ls H locs hl hP hD => va_runVN (As := As) (rest := rest) X.fix (hM H.size) ⟨va_cnB n X.hts hG hw rfl rfl (X.hN _ hlk) (X.hts _ hini) hd hRm, X.hts _ him, X.hts _ hsel⟩ (jPreV X.hN X.hK hP hD hc he) rfl hn hl.1 hst (lv_room hW) hdg hf) kk
theorem J_callSi (X : jX p s m args c cc nL Ts own D cl tys A) {y : MethodName} {wy wy2 : List Cond} {rm : Room} {bytes : ByteArray} {maxL n index : Nat} {ret : Option FieldType} {r : Int32} {S : Type} {w1 : S → va_W} {wc wr : va_W} (isC isR : List Nat) (hC : isC.map (fun i => ws[i]?) = wc.map some) (hCs : isC.filterMap (fun i => ws[i]?) = wc) (hnC : va_nd isC = true) (hR : isR.map (fun i => ws[i]?) = wr.map some) (hnR : va_nd isR = true) (hdis : ∀ i ∈ isR, i ∉ isC) (As rest : List Value) (hM : jMi l y wy rm D cl tys As wc r w1) (hT : GoodIn Ts (va_wsS own index y wy)) (hw : wy = Cond.code y bytes maxL ret :: wy2) (hd : y.cls ≠ "java/lang/invoke/MethodHandle" ∧ y.cls ≠ "java/lang/invoke/VarHandle" ∧ (parseMethodDescriptor y.desc).map (fun d => d.parameters.length) = some n) (hRm : rm.frames + 1 ≤ R.frames ∧ 8 + (maxL + 11) + rm.locals ≤ R.locals) (hn : As.length = n) (hst : st = As.reverse ++ rest) (hW : (rest.map fun v => v.category).sum ≤ 8) (hdg : decode cc pc = .ok (.invokestatic index, 3)) (hf : cells + rm.cells ≤ R.cells ∧ slots + rm.slots ≤ R.slots)
    (kk : ∀ u : S, J p l e R s m args below meth c nL D cl A Q (cells + rm.cells) (slots + rm.slots) (pc + 3) lv (.int r :: rest) (wr ++ w1 u)) : J p l e R s m args below meth c nL D cl A Q cells slots pc lv st ws :=
  J_goi X isC isR hC hCs hnC hR hnR hdis (fun ls H locs hl hP hD => va_runS (As := As) (rest := rest) X.fix (hM H.size) (va_cwS n X.hts hT hw rfl rfl hd hRm) (jPreS X.hN X.hK hP hD) rfl hn hl.1 hst (lv_room hW) hdg hf) kk
theorem J_gov (X : jX p s m args c cc nL Ts own D cl tys A) {mc ms : Nat} {rest : List Value} {av : Array Value} {S : Type} {w1 : S → va_W} {wc wr : va_W} (isC isR : List Nat) (hC : isC.map (fun i => ws[i]?) = wc.map some) (hCs : isC.filterMap (fun i => ws[i]?) = wc) (hnC : va_nd isC = true) (hR : isR.map (fun i => ws[i]?) = wr.map some) (hnR : va_nd isR = true) (hdis : ∀ i ∈ isR, i ∉ isC)
    (hrun : ∀ (ls : Array Slot) (H : Heap) (locs : List Loc), lv_has ls nL lv → va_P D cl wc H → va_D A wc → va_Run p l e R s m args below meth c H locs cells slots mc ms (F0 m pc ls st) rest (jQv D cl tys w1 (va_A wc H.size) av) (va_A wc H.size))
    (kk : ∀ u : S, J p l e R s m args below meth c nL D cl A Q (cells + mc) (slots + ms) (pc + 3) lv rest (wr ++ w1 u)) : J p l e R s m args below meth c nL D cl A Q cells slots pc lv st ws := by
  intro ls H locs hl hP hD hS
  have hPc := hP.sub isC hCs
  have hDc := hD.sub isC hnC hC
  have hFc := va_free (wc := wc) hD hS X.hA isC hC
  refine va_callv (hrun ls H locs hl hPc hDc) hS (fun q _ h => hFc q h) hFc (fun u t H1 locs1 ht hvm hw hB _ hk1 hS1 => ?_)
  skip
  obtain ⟨hP1, hK1, hD1⟩ := hB
  rw [ht] at hP1
  obtain ⟨hP2, hD2⟩ := va_join (wr := wr) (w1 := w1 u) hP hD isC isR hC hR hnR hdis hk1 hFc hP1 hD1
  exact kk u ls H1 locs1 hl hP2 hD2 hS1
theorem J_callVv (X : jX p s m args c cc nL Ts own D cl tys A) {y : MethodName} {wy wy2 : List Cond} {rm : Room} {bytes : ByteArray} {maxL n index : Nat} {ret : Option FieldType} {b ci q0 : Nat} {fs : List Value} {C : String} {T : u_T} {N : Nat} {S : Type} {w1 : S → va_W} {wc wr : va_W} (isC isR : List Nat) (hC : isC.map (fun i => ws[i]?) = wc.map some) (hCs : isC.filterMap (fun i => ws[i]?) = wc) (hnC : va_nd isC = true) (hR : isR.map (fun i => ws[i]?) = wr.map some) (hnR : va_nd isR = true) (hdis : ∀ i ∈ isR, i ∉ isC) (As rest : List Value) (hM : jMv l y wy rm D cl tys (.ref b :: As) wc w1) (hT : GoodIn Ts (wsV own index C y wy)) (hw : wy = Cond.code y bytes maxL ret :: wy2) (hd : y.cls = C ∧ y.cls ≠ "java/lang/invoke/MethodHandle" ∧ y.cls ≠ "java/lang/invoke/VarHandle" ∧ (parseMethodDescriptor y.desc).map (fun d => d.parameters.length) = some n) (hRm : rm.frames + 1 ≤ R.frames ∧ 8 + (maxL + 11) + rm.locals ≤ R.locals) (he : wc[q0]? = some (b, .inr (ci, fs))) (hc : cl[ci]? = some (C, T, N)) (hn : As.length = n) (hst : st = As.reverse ++ .ref b :: rest) (hW : (rest.map fun v => v.category).sum ≤ 8) (hdg : decode cc pc = .ok (.invokevirtual index, 3)) (hf : cells + rm.cells ≤ R.cells ∧ slots + rm.slots ≤ R.slots)
    (kk : ∀ u : S, J p l e R s m args below meth c nL D cl A Q (cells + rm.cells) (slots + rm.slots) (pc + 3) lv rest (wr ++ w1 u)) : J p l e R s m args below meth c nL D cl A Q cells slots pc lv st ws :=
  J_gov X isC isR hC hCs hnC hR hnR hdis (fun ls H locs hl hP hD => va_runV (As := As) (rest := rest) X.fix (hM H.size) (cwV n X.hts hT hw rfl rfl hd hRm) (jPreV X.hN X.hK hP hD hc he) rfl hn hl.1 hst (lv_room hW) hdg hf) kk
theorem J_callVNv (X : jX p s m args c cc nL Ts own D cl tys A) {host : String} {y : MethodName} {wy wy2 : List Cond} {rm : Room} {bytes : ByteArray} {maxL n index : Nat} {ret : Option FieldType} {b ci q0 : Nat} {fs : List Value} {C : String} {T : u_T} {N : Nat} {S : Type} {w1 : S → va_W} {wc wr : va_W} (isC isR : List Nat) (hC : isC.map (fun i => ws[i]?) = wc.map some) (hCs : isC.filterMap (fun i => ws[i]?) = wc) (hnC : va_nd isC = true) (hR : isR.map (fun i => ws[i]?) = wr.map some) (hnR : va_nd isR = true) (hdis : ∀ i ∈ isR, i ∉ isC) (As rest : List Value) (hM : jMv l y wy rm D cl tys (.ref b :: As) wc w1) (hG : GoodIn Ts wy) (hw : wy = Cond.code y bytes maxL ret :: wy2) (hlk : Cond.methodLinkNest own index y host ∈ nestL) (hini : Cond.initialized y.cls ∈ Ts) (him : Cond.instanceMethod y ∈ Ts) (hsel : Cond.selects C y y ∈ Ts) (hd : y.cls ≠ "java/lang/invoke/MethodHandle" ∧ y.cls ≠ "java/lang/invoke/VarHandle" ∧ (parseMethodDescriptor y.desc).map (fun d => d.parameters.length) = some n) (hRm : rm.frames + 1 ≤ R.frames ∧ 8 + (maxL + 11) + rm.locals ≤ R.locals) (he : wc[q0]? = some (b, .inr (ci, fs))) (hc : cl[ci]? = some (C, T, N)) (hn : As.length = n) (hst : st = As.reverse ++ .ref b :: rest) (hW : (rest.map fun v => v.category).sum ≤ 8) (hdg : decode cc pc = .ok (.invokevirtual index, 3)) (hf : cells + rm.cells ≤ R.cells ∧ slots + rm.slots ≤ R.slots)
    (kk : ∀ u : S, J p l e R s m args below meth c nL D cl A Q (cells + rm.cells) (slots + rm.slots) (pc + 3) lv rest (wr ++ w1 u)) : J p l e R s m args below meth c nL D cl A Q cells slots pc lv st ws :=
  J_gov X isC isR hC hCs hnC hR hnR hdis (fun ls H locs hl hP hD => va_runVN (As := As) (rest := rest) X.fix (hM H.size) ⟨va_cnB n X.hts hG hw rfl rfl (X.hN _ hlk) (X.hts _ hini) hd hRm, X.hts _ him, X.hts _ hsel⟩ (jPreV X.hN X.hK hP hD hc he) rfl hn hl.1 hst (lv_room hW) hdg hf) kk
theorem J_callSv (X : jX p s m args c cc nL Ts own D cl tys A) {y : MethodName} {wy wy2 : List Cond} {rm : Room} {bytes : ByteArray} {maxL n index : Nat} {ret : Option FieldType} {S : Type} {w1 : S → va_W} {wc wr : va_W} (isC isR : List Nat) (hC : isC.map (fun i => ws[i]?) = wc.map some) (hCs : isC.filterMap (fun i => ws[i]?) = wc) (hnC : va_nd isC = true) (hR : isR.map (fun i => ws[i]?) = wr.map some) (hnR : va_nd isR = true) (hdis : ∀ i ∈ isR, i ∉ isC) (As rest : List Value) (hM : jMv l y wy rm D cl tys As wc w1) (hT : GoodIn Ts (va_wsS own index y wy)) (hw : wy = Cond.code y bytes maxL ret :: wy2) (hd : y.cls ≠ "java/lang/invoke/MethodHandle" ∧ y.cls ≠ "java/lang/invoke/VarHandle" ∧ (parseMethodDescriptor y.desc).map (fun d => d.parameters.length) = some n) (hRm : rm.frames + 1 ≤ R.frames ∧ 8 + (maxL + 11) + rm.locals ≤ R.locals) (hn : As.length = n) (hst : st = As.reverse ++ rest) (hW : (rest.map fun v => v.category).sum ≤ 8) (hdg : decode cc pc = .ok (.invokestatic index, 3)) (hf : cells + rm.cells ≤ R.cells ∧ slots + rm.slots ≤ R.slots)
    (kk : ∀ u : S, J p l e R s m args below meth c nL D cl A Q (cells + rm.cells) (slots + rm.slots) (pc + 3) lv rest (wr ++ w1 u)) : J p l e R s m args below meth c nL D cl A Q cells slots pc lv st ws :=
  J_gov X isC isR hC hCs hnC hR hnR hdis (fun ls H locs hl hP hD => va_runS (As := As) (rest := rest) X.fix (hM H.size) (va_cwS n X.hts hT hw rfl rfl hd hRm) (jPreS X.hN X.hK hP hD) rfl hn hl.1 hst (lv_room hW) hdg hf) kk
theorem J_gor (X : jX p s m args c cc nL Ts own D cl tys A) {mc ms : Nat} {rest : List Value} {av : Array Value} {S : Type} {w1 : S → Nat → va_W} {wc wr : va_W} (isC isR : List Nat) (hC : isC.map (fun i => ws[i]?) = wc.map some) (hCs : isC.filterMap (fun i => ws[i]?) = wc) (hnC : va_nd isC = true) (hR : isR.map (fun i => ws[i]?) = wr.map some) (hnR : va_nd isR = true) (hdis : ∀ i ∈ isR, i ∉ isC)
    (hrun : ∀ (ls : Array Slot) (H : Heap) (locs : List Loc), lv_has ls nL lv → va_P D cl wc H → va_D A wc → va_Run p l e R s m args below meth c H locs cells slots mc ms (F0 m pc ls st) rest (jQr D cl tys w1 (va_A wc H.size) av) (va_A wc H.size))
    (kk : ∀ (u : S) (ra : Nat), J p l e R s m args below meth c nL D cl A Q (cells + mc) (slots + ms) (pc + 3) lv (.ref ra :: rest) (wr ++ w1 u ra)) : J p l e R s m args below meth c nL D cl A Q cells slots pc lv st ws := by
  intro ls H locs hl hP hD hS
  have hPc := hP.sub isC hCs
  have hDc := hD.sub isC hnC hC
  have hFc := va_free (wc := wc) hD hS X.hA isC hC
  refine va_callr (hrun ls H locs hl hPc hDc) hS (fun q _ h => hFc q h) hFc (fun u ra t H1 locs1 ht hvm hw hB _ hk1 hS1 => ?_)
  skip
  obtain ⟨hP1, hK1, hD1⟩ := hB
  rw [ht] at hP1
  obtain ⟨hP2, hD2⟩ := va_join (wr := wr) (w1 := w1 u ra) hP hD isC isR hC hR hnR hdis hk1 hFc hP1 hD1
  exact kk u ra ls H1 locs1 hl hP2 hD2 hS1
theorem J_callVr (X : jX p s m args c cc nL Ts own D cl tys A) {y : MethodName} {wy wy2 : List Cond} {rm : Room} {bytes : ByteArray} {maxL n index : Nat} {ret : Option FieldType} {b ci q0 : Nat} {fs : List Value} {C : String} {T : u_T} {N : Nat} {S : Type} {w1 : S → Nat → va_W} {wc wr : va_W} (isC isR : List Nat) (hC : isC.map (fun i => ws[i]?) = wc.map some) (hCs : isC.filterMap (fun i => ws[i]?) = wc) (hnC : va_nd isC = true) (hR : isR.map (fun i => ws[i]?) = wr.map some) (hnR : va_nd isR = true) (hdis : ∀ i ∈ isR, i ∉ isC) (As rest : List Value) (hM : jMr l y wy rm D cl tys (.ref b :: As) wc w1) (hT : GoodIn Ts (wsV own index C y wy)) (hw : wy = Cond.code y bytes maxL ret :: wy2) (hd : y.cls = C ∧ y.cls ≠ "java/lang/invoke/MethodHandle" ∧ y.cls ≠ "java/lang/invoke/VarHandle" ∧ (parseMethodDescriptor y.desc).map (fun d => d.parameters.length) = some n) (hRm : rm.frames + 1 ≤ R.frames ∧ 8 + (maxL + 11) + rm.locals ≤ R.locals) (he : wc[q0]? = some (b, .inr (ci, fs))) (hc : cl[ci]? = some (C, T, N)) (hn : As.length = n) (hst : st = As.reverse ++ .ref b :: rest) (hW : (rest.map fun v => v.category).sum ≤ 8) (hdg : decode cc pc = .ok (.invokevirtual index, 3)) (hf : cells + rm.cells ≤ R.cells ∧ slots + rm.slots ≤ R.slots)
    (kk : ∀ (u : S) (ra : Nat), J p l e R s m args below meth c nL D cl A Q (cells + rm.cells) (slots + rm.slots) (pc + 3) lv (.ref ra :: rest) (wr ++ w1 u ra)) : J p l e R s m args below meth c nL D cl A Q cells slots pc lv st ws :=
  J_gor X isC isR hC hCs hnC hR hnR hdis (fun ls H locs hl hP hD => va_runV (As := As) (rest := rest) X.fix (hM H.size) (cwV n X.hts hT hw rfl rfl hd hRm) (jPreV X.hN X.hK hP hD hc he) rfl hn hl.1 hst (lv_room hW) hdg hf) kk
theorem J_callVNr (X : jX p s m args c cc nL Ts own D cl tys A) {host : String} {y : MethodName} {wy wy2 : List Cond} {rm : Room} {bytes : ByteArray} {maxL n index : Nat} {ret : Option FieldType} {b ci q0 : Nat} {fs : List Value} {C : String} {T : u_T} {N : Nat} {S : Type} {w1 : S → Nat → va_W} {wc wr : va_W} (isC isR : List Nat) (hC : isC.map (fun i => ws[i]?) = wc.map some) (hCs : isC.filterMap (fun i => ws[i]?) = wc) (hnC : va_nd isC = true) (hR : isR.map (fun i => ws[i]?) = wr.map some) (hnR : va_nd isR = true) (hdis : ∀ i ∈ isR, i ∉ isC) (As rest : List Value) (hM : jMr l y wy rm D cl tys (.ref b :: As) wc w1) (hG : GoodIn Ts wy) (hw : wy = Cond.code y bytes maxL ret :: wy2) (hlk : Cond.methodLinkNest own index y host ∈ nestL) (hini : Cond.initialized y.cls ∈ Ts) (him : Cond.instanceMethod y ∈ Ts) (hsel : Cond.selects C y y ∈ Ts) (hd : y.cls ≠ "java/lang/invoke/MethodHandle" ∧ y.cls ≠ "java/lang/invoke/VarHandle" ∧ (parseMethodDescriptor y.desc).map (fun d => d.parameters.length) = some n) (hRm : rm.frames + 1 ≤ R.frames ∧ 8 + (maxL + 11) + rm.locals ≤ R.locals) (he : wc[q0]? = some (b, .inr (ci, fs))) (hc : cl[ci]? = some (C, T, N)) (hn : As.length = n) (hst : st = As.reverse ++ .ref b :: rest) (hW : (rest.map fun v => v.category).sum ≤ 8) (hdg : decode cc pc = .ok (.invokevirtual index, 3)) (hf : cells + rm.cells ≤ R.cells ∧ slots + rm.slots ≤ R.slots)
    (kk : ∀ (u : S) (ra : Nat), J p l e R s m args below meth c nL D cl A Q (cells + rm.cells) (slots + rm.slots) (pc + 3) lv (.ref ra :: rest) (wr ++ w1 u ra)) : J p l e R s m args below meth c nL D cl A Q cells slots pc lv st ws :=
  J_gor X isC isR hC hCs hnC hR hnR hdis (fun ls H locs hl hP hD => va_runVN (As := As) (rest := rest) X.fix (hM H.size) ⟨va_cnB n X.hts hG hw rfl rfl (X.hN _ hlk) (X.hts _ hini) hd hRm, X.hts _ him, X.hts _ hsel⟩ (jPreV X.hN X.hK hP hD hc he) rfl hn hl.1 hst (lv_room hW) hdg hf) kk
theorem J_callSr (X : jX p s m args c cc nL Ts own D cl tys A) {y : MethodName} {wy wy2 : List Cond} {rm : Room} {bytes : ByteArray} {maxL n index : Nat} {ret : Option FieldType} {S : Type} {w1 : S → Nat → va_W} {wc wr : va_W} (isC isR : List Nat) (hC : isC.map (fun i => ws[i]?) = wc.map some) (hCs : isC.filterMap (fun i => ws[i]?) = wc) (hnC : va_nd isC = true) (hR : isR.map (fun i => ws[i]?) = wr.map some) (hnR : va_nd isR = true) (hdis : ∀ i ∈ isR, i ∉ isC) (As rest : List Value) (hM : jMr l y wy rm D cl tys As wc w1) (hT : GoodIn Ts (va_wsS own index y wy)) (hw : wy = Cond.code y bytes maxL ret :: wy2) (hd : y.cls ≠ "java/lang/invoke/MethodHandle" ∧ y.cls ≠ "java/lang/invoke/VarHandle" ∧ (parseMethodDescriptor y.desc).map (fun d => d.parameters.length) = some n) (hRm : rm.frames + 1 ≤ R.frames ∧ 8 + (maxL + 11) + rm.locals ≤ R.locals) (hn : As.length = n) (hst : st = As.reverse ++ rest) (hW : (rest.map fun v => v.category).sum ≤ 8) (hdg : decode cc pc = .ok (.invokestatic index, 3)) (hf : cells + rm.cells ≤ R.cells ∧ slots + rm.slots ≤ R.slots)
    (kk : ∀ (u : S) (ra : Nat), J p l e R s m args below meth c nL D cl A Q (cells + rm.cells) (slots + rm.slots) (pc + 3) lv (.ref ra :: rest) (wr ++ w1 u ra)) : J p l e R s m args below meth c nL D cl A Q cells slots pc lv st ws :=
  J_gor X isC isR hC hCs hnC hR hnR hdis (fun ls H locs hl hP hD => va_runS (As := As) (rest := rest) X.fix (hM H.size) (va_cwS n X.hts hT hw rfl rfl hd hRm) (jPreS X.hN X.hK hP hD) rfl hn hl.1 hst (lv_room hW) hdg hf) kk
theorem J_callI (X : jX p s m args c cc nL Ts own D cl tys A) {y : MethodName} {wy wy2 : List Cond} {rm : Room} {bytes : ByteArray} {maxL n index : Nat} {S : Type} {w1 : S → va_W} {b : Nat} {wc wr : va_W} (isC isR : List Nat) (hC : isC.map (fun i => ws[i]?) = wc.map some) (hCs : isC.filterMap (fun i => ws[i]?) = wc) (hnC : va_nd isC = true) (hR : isR.map (fun i => ws[i]?) = wr.map some) (hnR : va_nd isR = true) (hdis : ∀ i ∈ isR, i ∉ isC) (As rest : List Value) (hM : jMv l y wy rm D cl tys (.ref b :: As) wc w1) (hG : GoodIn Ts wy) (hw : wy = Cond.code y bytes maxL none :: wy2) (hini : Cond.initialized y.cls ∈ Ts) (hlk : Cond.methodLink own index y ∈ Ts) (him : Cond.instanceMethod y ∈ Ts) (hy1 : y.name = "<init>") (hd : y.cls ≠ "java/lang/invoke/MethodHandle" ∧ y.cls ≠ "java/lang/invoke/VarHandle" ∧ (parseMethodDescriptor y.desc).map (fun d => d.parameters.length) = some n) (hRm : rm.frames + 1 ≤ R.frames ∧ 8 + (maxL + 11) + rm.locals ≤ R.locals) (hn : As.length = n) (hst : st = As.reverse ++ .ref b :: rest) (hW : (rest.map fun v => v.category).sum ≤ 8) (hdg : decode cc pc = .ok (.invokespecial index, 3)) (hf : cells + rm.cells ≤ R.cells ∧ slots + rm.slots ≤ R.slots)
    (kk : ∀ u : S, J p l e R s m args below meth c nL D cl A Q (cells + rm.cells) (slots + rm.slots) (pc + 3) lv rest (wr ++ w1 u)) : J p l e R s m args below meth c nL D cl A Q cells slots pc lv st ws :=
  J_gov X isC isR hC hCs hnC hR hnR hdis (fun ls H locs hl hP hD => va_runI (As := As) (rest := rest) X.fix (hM H.size) (cwI n X.hts hG hw rfl rfl (X.hts _ hini) (X.hts _ hlk) (X.hts _ him) hy1 hd hRm) (jPreS X.hN X.hK hP hD) rfl hn hl.1 hst (lv_room hW) hdg hf) kk
theorem J_callIN (X : jX p s m args c cc nL Ts own D cl tys A) {host : String} {y : MethodName} {wy wy2 : List Cond} {rm : Room} {bytes : ByteArray} {maxL n index : Nat} {S : Type} {w1 : S → va_W} {b : Nat} {wc wr : va_W} (isC isR : List Nat) (hC : isC.map (fun i => ws[i]?) = wc.map some) (hCs : isC.filterMap (fun i => ws[i]?) = wc) (hnC : va_nd isC = true) (hR : isR.map (fun i => ws[i]?) = wr.map some) (hnR : va_nd isR = true) (hdis : ∀ i ∈ isR, i ∉ isC) (As rest : List Value) (hM : jMv l y wy rm D cl tys (.ref b :: As) wc w1) (hG : GoodIn Ts wy) (hw : wy = Cond.code y bytes maxL none :: wy2) (hlk : Cond.methodLinkNest own index y host ∈ nestL) (hini : Cond.initialized y.cls ∈ Ts) (him : Cond.instanceMethod y ∈ Ts) (hy1 : y.name = "<init>") (hd : y.cls ≠ "java/lang/invoke/MethodHandle" ∧ y.cls ≠ "java/lang/invoke/VarHandle" ∧ (parseMethodDescriptor y.desc).map (fun d => d.parameters.length) = some n) (hRm : rm.frames + 1 ≤ R.frames ∧ 8 + (maxL + 11) + rm.locals ≤ R.locals) (hn : As.length = n) (hst : st = As.reverse ++ .ref b :: rest) (hW : (rest.map fun v => v.category).sum ≤ 8) (hdg : decode cc pc = .ok (.invokespecial index, 3)) (hf : cells + rm.cells ≤ R.cells ∧ slots + rm.slots ≤ R.slots)
    (kk : ∀ u : S, J p l e R s m args below meth c nL D cl A Q (cells + rm.cells) (slots + rm.slots) (pc + 3) lv rest (wr ++ w1 u)) : J p l e R s m args below meth c nL D cl A Q cells slots pc lv st ws :=
  J_gov X isC isR hC hCs hnC hR hnR hdis (fun ls H locs hl hP hD => va_runIN (As := As) (rest := rest) X.fix (hM H.size) ⟨va_cnB n X.hts hG hw rfl rfl (X.hN _ hlk) (X.hts _ hini) hd hRm, hy1, X.hts _ him⟩ (jPreS X.hN X.hK hP hD) rfl hn hl.1 hst (lv_room hW) hdg hf) kk
theorem J_callVi0 (X : jX p s m args c cc nL Ts own D cl tys A) {y : MethodName} {wy wy2 : List Cond} {rm : Room} {bytes : ByteArray} {maxL n index : Nat} {ret : Option FieldType} {b ci q0 : Nat} {fs : List Value} {C : String} {T : u_T} {N : Nat} {r : Int32} {S : Type} {w1 : S → va_W} {wc : va_W} (isC : List Nat) (hC : isC.map (fun i => ws[i]?) = wc.map some) (hCs : isC.filterMap (fun i => ws[i]?) = wc) (hnC : va_nd isC = true) (As rest : List Value) (hM : jMi l y wy rm D cl tys (.ref b :: As) wc r w1) (hT : GoodIn Ts (wsV own index C y wy)) (hw : wy = Cond.code y bytes maxL ret :: wy2) (hd : y.cls = C ∧ y.cls ≠ "java/lang/invoke/MethodHandle" ∧ y.cls ≠ "java/lang/invoke/VarHandle" ∧ (parseMethodDescriptor y.desc).map (fun d => d.parameters.length) = some n) (hRm : rm.frames + 1 ≤ R.frames ∧ 8 + (maxL + 11) + rm.locals ≤ R.locals) (he : wc[q0]? = some (b, .inr (ci, fs))) (hc : cl[ci]? = some (C, T, N)) (hn : As.length = n) (hst : st = As.reverse ++ .ref b :: rest) (hW : (rest.map fun v => v.category).sum ≤ 8) (hdg : decode cc pc = .ok (.invokevirtual index, 3)) (hf : cells + rm.cells ≤ R.cells ∧ slots + rm.slots ≤ R.slots)
    (kk : ∀ u : S, J p l e R s m args below meth c nL D cl A Q (cells + rm.cells) (slots + rm.slots) (pc + 3) lv (.int r :: rest) (w1 u)) : J p l e R s m args below meth c nL D cl A Q cells slots pc lv st ws :=
  J_callVi X isC [] hC hCs hnC (wr := []) rfl rfl (fun _ h => absurd h List.not_mem_nil) As rest hM hT hw hd hRm he hc hn hst hW hdg hf kk
theorem J_callVNi0 (X : jX p s m args c cc nL Ts own D cl tys A) {host : String} {y : MethodName} {wy wy2 : List Cond} {rm : Room} {bytes : ByteArray} {maxL n index : Nat} {ret : Option FieldType} {b ci q0 : Nat} {fs : List Value} {C : String} {T : u_T} {N : Nat} {r : Int32} {S : Type} {w1 : S → va_W} {wc : va_W} (isC : List Nat) (hC : isC.map (fun i => ws[i]?) = wc.map some) (hCs : isC.filterMap (fun i => ws[i]?) = wc) (hnC : va_nd isC = true) (As rest : List Value) (hM : jMi l y wy rm D cl tys (.ref b :: As) wc r w1) (hG : GoodIn Ts wy) (hw : wy = Cond.code y bytes maxL ret :: wy2) (hlk : Cond.methodLinkNest own index y host ∈ nestL) (hini : Cond.initialized y.cls ∈ Ts) (him : Cond.instanceMethod y ∈ Ts) (hsel : Cond.selects C y y ∈ Ts) (hd : y.cls ≠ "java/lang/invoke/MethodHandle" ∧ y.cls ≠ "java/lang/invoke/VarHandle" ∧ (parseMethodDescriptor y.desc).map (fun d => d.parameters.length) = some n) (hRm : rm.frames + 1 ≤ R.frames ∧ 8 + (maxL + 11) + rm.locals ≤ R.locals) (he : wc[q0]? = some (b, .inr (ci, fs))) (hc : cl[ci]? = some (C, T, N)) (hn : As.length = n) (hst : st = As.reverse ++ .ref b :: rest) (hW : (rest.map fun v => v.category).sum ≤ 8) (hdg : decode cc pc = .ok (.invokevirtual index, 3)) (hf : cells + rm.cells ≤ R.cells ∧ slots + rm.slots ≤ R.slots)
    (kk : ∀ u : S, J p l e R s m args below meth c nL D cl A Q (cells + rm.cells) (slots + rm.slots) (pc + 3) lv (.int r :: rest) (w1 u)) : J p l e R s m args below meth c nL D cl A Q cells slots pc lv st ws :=
  J_callVNi X isC [] hC hCs hnC (wr := []) rfl rfl (fun _ h => absurd h List.not_mem_nil) As rest hM hG hw hlk hini him hsel hd hRm he hc hn hst hW hdg hf kk
theorem J_callSi0 (X : jX p s m args c cc nL Ts own D cl tys A) {y : MethodName} {wy wy2 : List Cond} {rm : Room} {bytes : ByteArray} {maxL n index : Nat} {ret : Option FieldType} {r : Int32} {S : Type} {w1 : S → va_W} {wc : va_W} (isC : List Nat) (hC : isC.map (fun i => ws[i]?) = wc.map some) (hCs : isC.filterMap (fun i => ws[i]?) = wc) (hnC : va_nd isC = true) (As rest : List Value) (hM : jMi l y wy rm D cl tys As wc r w1) (hT : GoodIn Ts (va_wsS own index y wy)) (hw : wy = Cond.code y bytes maxL ret :: wy2) (hd : y.cls ≠ "java/lang/invoke/MethodHandle" ∧ y.cls ≠ "java/lang/invoke/VarHandle" ∧ (parseMethodDescriptor y.desc).map (fun d => d.parameters.length) = some n) (hRm : rm.frames + 1 ≤ R.frames ∧ 8 + (maxL + 11) + rm.locals ≤ R.locals) (hn : As.length = n) (hst : st = As.reverse ++ rest) (hW : (rest.map fun v => v.category).sum ≤ 8) (hdg : decode cc pc = .ok (.invokestatic index, 3)) (hf : cells + rm.cells ≤ R.cells ∧ slots + rm.slots ≤ R.slots)
    (kk : ∀ u : S, J p l e R s m args below meth c nL D cl A Q (cells + rm.cells) (slots + rm.slots) (pc + 3) lv (.int r :: rest) (w1 u)) : J p l e R s m args below meth c nL D cl A Q cells slots pc lv st ws :=
  J_callSi X isC [] hC hCs hnC (wr := []) rfl rfl (fun _ h => absurd h List.not_mem_nil) As rest hM hT hw hd hRm hn hst hW hdg hf kk
theorem J_callVv0 (X : jX p s m args c cc nL Ts own D cl tys A) {y : MethodName} {wy wy2 : List Cond} {rm : Room} {bytes : ByteArray} {maxL n index : Nat} {ret : Option FieldType} {b ci q0 : Nat} {fs : List Value} {C : String} {T : u_T} {N : Nat} {S : Type} {w1 : S → va_W} {wc : va_W} (isC : List Nat) (hC : isC.map (fun i => ws[i]?) = wc.map some) (hCs : isC.filterMap (fun i => ws[i]?) = wc) (hnC : va_nd isC = true) (As rest : List Value) (hM : jMv l y wy rm D cl tys (.ref b :: As) wc w1) (hT : GoodIn Ts (wsV own index C y wy)) (hw : wy = Cond.code y bytes maxL ret :: wy2) (hd : y.cls = C ∧ y.cls ≠ "java/lang/invoke/MethodHandle" ∧ y.cls ≠ "java/lang/invoke/VarHandle" ∧ (parseMethodDescriptor y.desc).map (fun d => d.parameters.length) = some n) (hRm : rm.frames + 1 ≤ R.frames ∧ 8 + (maxL + 11) + rm.locals ≤ R.locals) (he : wc[q0]? = some (b, .inr (ci, fs))) (hc : cl[ci]? = some (C, T, N)) (hn : As.length = n) (hst : st = As.reverse ++ .ref b :: rest) (hW : (rest.map fun v => v.category).sum ≤ 8) (hdg : decode cc pc = .ok (.invokevirtual index, 3)) (hf : cells + rm.cells ≤ R.cells ∧ slots + rm.slots ≤ R.slots)
    (kk : ∀ u : S, J p l e R s m args below meth c nL D cl A Q (cells + rm.cells) (slots + rm.slots) (pc + 3) lv rest (w1 u)) : J p l e R s m args below meth c nL D cl A Q cells slots pc lv st ws :=
  J_callVv X isC [] hC hCs hnC (wr := []) rfl rfl (fun _ h => absurd h List.not_mem_nil) As rest hM hT hw hd hRm he hc hn hst hW hdg hf kk
theorem J_callVNv0 (X : jX p s m args c cc nL Ts own D cl tys A) {host : String} {y : MethodName} {wy wy2 : List Cond} {rm : Room} {bytes : ByteArray} {maxL n index : Nat} {ret : Option FieldType} {b ci q0 : Nat} {fs : List Value} {C : String} {T : u_T} {N : Nat} {S : Type} {w1 : S → va_W} {wc : va_W} (isC : List Nat) (hC : isC.map (fun i => ws[i]?) = wc.map some) (hCs : isC.filterMap (fun i => ws[i]?) = wc) (hnC : va_nd isC = true) (As rest : List Value) (hM : jMv l y wy rm D cl tys (.ref b :: As) wc w1) (hG : GoodIn Ts wy) (hw : wy = Cond.code y bytes maxL ret :: wy2) (hlk : Cond.methodLinkNest own index y host ∈ nestL) (hini : Cond.initialized y.cls ∈ Ts) (him : Cond.instanceMethod y ∈ Ts) (hsel : Cond.selects C y y ∈ Ts) (hd : y.cls ≠ "java/lang/invoke/MethodHandle" ∧ y.cls ≠ "java/lang/invoke/VarHandle" ∧ (parseMethodDescriptor y.desc).map (fun d => d.parameters.length) = some n) (hRm : rm.frames + 1 ≤ R.frames ∧ 8 + (maxL + 11) + rm.locals ≤ R.locals) (he : wc[q0]? = some (b, .inr (ci, fs))) (hc : cl[ci]? = some (C, T, N)) (hn : As.length = n) (hst : st = As.reverse ++ .ref b :: rest) (hW : (rest.map fun v => v.category).sum ≤ 8) (hdg : decode cc pc = .ok (.invokevirtual index, 3)) (hf : cells + rm.cells ≤ R.cells ∧ slots + rm.slots ≤ R.slots)
    (kk : ∀ u : S, J p l e R s m args below meth c nL D cl A Q (cells + rm.cells) (slots + rm.slots) (pc + 3) lv rest (w1 u)) : J p l e R s m args below meth c nL D cl A Q cells slots pc lv st ws :=
  J_callVNv X isC [] hC hCs hnC (wr := []) rfl rfl (fun _ h => absurd h List.not_mem_nil) As rest hM hG hw hlk hini him hsel hd hRm he hc hn hst hW hdg hf kk
theorem J_callSv0 (X : jX p s m args c cc nL Ts own D cl tys A) {y : MethodName} {wy wy2 : List Cond} {rm : Room} {bytes : ByteArray} {maxL n index : Nat} {ret : Option FieldType} {S : Type} {w1 : S → va_W} {wc : va_W} (isC : List Nat) (hC : isC.map (fun i => ws[i]?) = wc.map some) (hCs : isC.filterMap (fun i => ws[i]?) = wc) (hnC : va_nd isC = true) (As rest : List Value) (hM : jMv l y wy rm D cl tys As wc w1) (hT : GoodIn Ts (va_wsS own index y wy)) (hw : wy = Cond.code y bytes maxL ret :: wy2) (hd : y.cls ≠ "java/lang/invoke/MethodHandle" ∧ y.cls ≠ "java/lang/invoke/VarHandle" ∧ (parseMethodDescriptor y.desc).map (fun d => d.parameters.length) = some n) (hRm : rm.frames + 1 ≤ R.frames ∧ 8 + (maxL + 11) + rm.locals ≤ R.locals) (hn : As.length = n) (hst : st = As.reverse ++ rest) (hW : (rest.map fun v => v.category).sum ≤ 8) (hdg : decode cc pc = .ok (.invokestatic index, 3)) (hf : cells + rm.cells ≤ R.cells ∧ slots + rm.slots ≤ R.slots)
    (kk : ∀ u : S, J p l e R s m args below meth c nL D cl A Q (cells + rm.cells) (slots + rm.slots) (pc + 3) lv rest (w1 u)) : J p l e R s m args below meth c nL D cl A Q cells slots pc lv st ws :=
  J_callSv X isC [] hC hCs hnC (wr := []) rfl rfl (fun _ h => absurd h List.not_mem_nil) As rest hM hT hw hd hRm hn hst hW hdg hf kk
theorem j_nz {v : Int32} (h : ¬ ¬ (v = 0 ∨ v = 1)) : narrow .boolean (.int v) = .int v := by
  rcases Classical.not_not.mp h with rfl | rfl <;> rfl
theorem j_fz {v : Int32} (h : ¬ ¬ (v = 0 ∨ v = 1)) : fits .boolean (.int v) = true := by
  rcases Classical.not_not.mp h with rfl | rfl <;> rfl
theorem j_ifn {α : Type} {c : Prop} [Decidable c] {x : Option α} {y : α} (h : (if c then none else x) = some y) : ¬ c ∧ x = some y := by
  by_cases hc : c
  · rw [if_pos hc] at h; cases h
  · rw [if_neg hc] at h; exact ⟨hc, h⟩
theorem j_bind {α β : Type} {x : Option α} {f : α → Option β} {y : β} (h : x.bind f = some y) : ∃ z, x = some z ∧ f z = some y := by
  cases x with
  | none => cases h
  | some z => exact ⟨z, rfl, h⟩
theorem j_pr {α β : Type} {a c : α} {b d : β} (h : some (a, b) = some (c, d)) : a = c ∧ b = d := by cases h; exact ⟨rfl, rfl⟩
theorem j_s {α : Type} {a c : α} (h : some a = some c) : a = c := by cases h; rfl
end
end
section
def R_Bytes : String := "SegmentReader$Bytes"
def T_Bytes : u_T := fun k => match k with
  | 0 => ("SegmentReader$Bytes", "held", "[B", false)
  | _ => ("SegmentReader$Bytes", "size", "I", false)
def ty_Bytes : Nat → FieldType := fun k => match k with
  | 0 => .array .byte
  | _ => .int
theorem nm_Bytes : ∀ a, a < 2 → ∀ b, b < 2 → a ≠ b → (T_Bytes a).2.1 ≠ (T_Bytes b).2.1 := by decide +kernel
theorem tyk_Bytes : ∀ k, k < 2 → parseFieldDescriptor (T_Bytes k).2.2.1 = some (ty_Bytes k) := by decide +kernel
def R_Numbers : String := "SegmentReader$Numbers"
def T_Numbers : u_T := fun k => match k with
  | 0 => ("SegmentReader$Numbers", "held", "[I", false)
  | _ => ("SegmentReader$Numbers", "size", "I", false)
def ty_Numbers : Nat → FieldType := fun k => match k with
  | 0 => .array .int
  | _ => .int
theorem nm_Numbers : ∀ a, a < 2 → ∀ b, b < 2 → a ≠ b → (T_Numbers a).2.1 ≠ (T_Numbers b).2.1 := by decide +kernel
theorem tyk_Numbers : ∀ k, k < 2 → parseFieldDescriptor (T_Numbers k).2.2.1 = some (ty_Numbers k) := by decide +kernel
def R_Parser : String := "SegmentReader$Parser"
def T_Parser : u_T := fun k => match k with
  | 0 => ("SegmentReader$Parser", "input", "LSegmentReader$Bytes;", true)
  | 1 => ("SegmentReader$Parser", "picture", "LSegmentReader$Picture;", true)
  | 2 => ("SegmentReader$Parser", "scan", "LSegmentReader$Scan;", true)
  | 3 => ("SegmentReader$Parser", "latestBits", "[I", true)
  | 4 => ("SegmentReader$Parser", "seen", "[J", true)
  | 5 => ("SegmentReader$Parser", "place", "I", false)
  | 6 => ("SegmentReader$Parser", "lengthPlace", "I", false)
  | 7 => ("SegmentReader$Parser", "contentsEnd", "I", false)
  | 8 => ("SegmentReader$Parser", "linesDue", "Z", false)
  | 9 => ("SegmentReader$Parser", "fault", "I", false)
  | _ => ("SegmentReader$Parser", "faultPlace", "I", false)
def ty_Parser : Nat → FieldType := fun k => match k with
  | 0 => .object "SegmentReader$Bytes"
  | 1 => .object "SegmentReader$Picture"
  | 2 => .object "SegmentReader$Scan"
  | 3 => .array .int
  | 4 => .array .long
  | 5 => .int
  | 6 => .int
  | 7 => .int
  | 8 => .boolean
  | 9 => .int
  | _ => .int
theorem nm_Parser : ∀ a, a < 11 → ∀ b, b < 11 → a ≠ b → (T_Parser a).2.1 ≠ (T_Parser b).2.1 := by decide +kernel
theorem tyk_Parser : ∀ k, k < 11 → parseFieldDescriptor (T_Parser k).2.2.1 = some (ty_Parser k) := by decide +kernel
def R_Picture : String := "SegmentReader$Picture"
def T_Picture : u_T := fun k => match k with
  | 0 => ("SegmentReader$Picture", "input", "LSegmentReader$Bytes;", true)
  | 1 => ("SegmentReader$Picture", "segments", "LSegmentReader$Numbers;", true)
  | 2 => ("SegmentReader$Picture", "scans", "LSegmentReader$Numbers;", true)
  | 3 => ("SegmentReader$Picture", "components", "[I", true)
  | 4 => ("SegmentReader$Picture", "quantisersAt", "[I", true)
  | 5 => ("SegmentReader$Picture", "wordsAt", "[I", true)
  | 6 => ("SegmentReader$Picture", "frameCode", "I", false)
  | 7 => ("SegmentReader$Picture", "width", "I", false)
  | 8 => ("SegmentReader$Picture", "height", "I", false)
  | 9 => ("SegmentReader$Picture", "componentCount", "I", false)
  | 10 => ("SegmentReader$Picture", "interval", "I", false)
  | _ => ("SegmentReader$Picture", "end", "I", false)
def ty_Picture : Nat → FieldType := fun k => match k with
  | 0 => .object "SegmentReader$Bytes"
  | 1 => .object "SegmentReader$Numbers"
  | 2 => .object "SegmentReader$Numbers"
  | 3 => .array .int
  | 4 => .array .int
  | 5 => .array .int
  | 6 => .int
  | 7 => .int
  | 8 => .int
  | 9 => .int
  | 10 => .int
  | _ => .int
theorem nm_Picture : ∀ a, a < 12 → ∀ b, b < 12 → a ≠ b → (T_Picture a).2.1 ≠ (T_Picture b).2.1 := by decide +kernel
theorem tyk_Picture : ∀ k, k < 12 → parseFieldDescriptor (T_Picture k).2.2.1 = some (ty_Picture k) := by decide +kernel
def R_Scan : String := "SegmentReader$Scan"
def T_Scan : u_T := fun k => match k with
  | 0 => ("SegmentReader$Scan", "contents", "I", false)
  | 1 => ("SegmentReader$Scan", "count", "I", false)
  | 2 => ("SegmentReader$Scan", "first", "I", false)
  | 3 => ("SegmentReader$Scan", "last", "I", false)
  | 4 => ("SegmentReader$Scan", "before", "I", false)
  | 5 => ("SegmentReader$Scan", "bits", "I", false)
  | _ => ("SegmentReader$Scan", "places", "[I", true)
def ty_Scan : Nat → FieldType := fun k => match k with
  | 0 => .int
  | 1 => .int
  | 2 => .int
  | 3 => .int
  | 4 => .int
  | 5 => .int
  | _ => .array .int
theorem nm_Scan : ∀ a, a < 7 → ∀ b, b < 7 → a ≠ b → (T_Scan a).2.1 ≠ (T_Scan b).2.1 := by decide +kernel
theorem tyk_Scan : ∀ k, k < 7 → parseFieldDescriptor (T_Scan k).2.2.1 = some (ty_Scan k) := by decide +kernel
def R_Reader : String := "SegmentReader"
def T_Reader : u_T := fun k => match k with
  | 0 => ("SegmentReader", "input", "LSegmentReader$Bytes;", true)
  | 1 => ("SegmentReader", "picture", "LSegmentReader$Picture;", true)
  | _ => ("SegmentReader", "parser", "LSegmentReader$Parser;", true)
def ty_Reader : Nat → FieldType := fun k => match k with
  | 0 => .object "SegmentReader$Bytes"
  | 1 => .object "SegmentReader$Picture"
  | _ => .object "SegmentReader$Parser"
theorem nm_Reader : ∀ a, a < 3 → ∀ b, b < 3 → a ≠ b → (T_Reader a).2.1 ≠ (T_Reader b).2.1 := by decide +kernel
theorem tyk_Reader : ∀ k, k < 3 → parseFieldDescriptor (T_Reader k).2.2.1 = some (ty_Reader k) := by decide +kernel
def R_Model : String := "SegmentReaderModel"
def T_Model : u_T := fun k => match k with
  | 0 => ("SegmentReaderModel", "thrown", "I", false)
  | 1 => ("SegmentReaderModel", "input", "[B", true)
  | 2 => ("SegmentReaderModel", "size", "I", false)
  | 3 => ("SegmentReaderModel", "fault", "I", false)
  | 4 => ("SegmentReaderModel", "place", "I", false)
  | 5 => ("SegmentReaderModel", "p", "I", false)
  | 6 => ("SegmentReaderModel", "end", "I", false)
  | 7 => ("SegmentReaderModel", "first", "I", false)
  | 8 => ("SegmentReaderModel", "ends", "I", false)
  | 9 => ("SegmentReaderModel", "segments", "I", false)
  | 10 => ("SegmentReaderModel", "segmentRows", "[I", true)
  | 11 => ("SegmentReaderModel", "frameCode", "I", false)
  | 12 => ("SegmentReaderModel", "width", "I", false)
  | 13 => ("SegmentReaderModel", "height", "I", false)
  | 14 => ("SegmentReaderModel", "components", "I", false)
  | 15 => ("SegmentReaderModel", "names", "[I", true)
  | 16 => ("SegmentReaderModel", "across", "[I", true)
  | 17 => ("SegmentReaderModel", "down", "[I", true)
  | 18 => ("SegmentReaderModel", "tables", "[I", true)
  | 19 => ("SegmentReaderModel", "interval", "I", false)
  | 20 => ("SegmentReaderModel", "hasQuantiser", "[Z", true)
  | 21 => ("SegmentReaderModel", "quantisers", "[I", true)
  | 22 => ("SegmentReaderModel", "hasWords", "[Z", true)
  | 23 => ("SegmentReaderModel", "counts", "[I", true)
  | 24 => ("SegmentReaderModel", "symbols", "[I", true)
  | 25 => ("SegmentReaderModel", "symbolMany", "[I", true)
  | 26 => ("SegmentReaderModel", "scans", "I", false)
  | 27 => ("SegmentReaderModel", "scanRows", "[I", true)
  | 28 => ("SegmentReaderModel", "latest", "[I", true)
  | 29 => ("SegmentReaderModel", "many", "I", false)
  | 30 => ("SegmentReaderModel", "which", "[I", true)
  | 31 => ("SegmentReaderModel", "dc", "[I", true)
  | 32 => ("SegmentReaderModel", "ac", "[I", true)
  | 33 => ("SegmentReaderModel", "nameAt", "[I", true)
  | 34 => ("SegmentReaderModel", "seen", "[Z", true)
  | 35 => ("SegmentReaderModel", "begins", "I", false)
  | 36 => ("SegmentReaderModel", "startScan", "I", false)
  | 37 => ("SegmentReaderModel", "endScan", "I", false)
  | 38 => ("SegmentReaderModel", "before", "I", false)
  | _ => ("SegmentReaderModel", "bits", "I", false)
def ty_Model : Nat → FieldType := fun k => match k with
  | 0 => .int
  | 1 => .array .byte
  | 2 => .int
  | 3 => .int
  | 4 => .int
  | 5 => .int
  | 6 => .int
  | 7 => .int
  | 8 => .int
  | 9 => .int
  | 10 => .array .int
  | 11 => .int
  | 12 => .int
  | 13 => .int
  | 14 => .int
  | 15 => .array .int
  | 16 => .array .int
  | 17 => .array .int
  | 18 => .array .int
  | 19 => .int
  | 20 => .array .boolean
  | 21 => .array .int
  | 22 => .array .boolean
  | 23 => .array .int
  | 24 => .array .int
  | 25 => .array .int
  | 26 => .int
  | 27 => .array .int
  | 28 => .array .int
  | 29 => .int
  | 30 => .array .int
  | 31 => .array .int
  | 32 => .array .int
  | 33 => .array .int
  | 34 => .array .boolean
  | 35 => .int
  | 36 => .int
  | 37 => .int
  | 38 => .int
  | _ => .int
theorem nm_Model : ∀ a, a < 40 → ∀ b, b < 40 → a ≠ b → (T_Model a).2.1 ≠ (T_Model b).2.1 := by decide +kernel
theorem tyk_Model : ∀ k, k < 40 → parseFieldDescriptor (T_Model k).2.2.1 = some (ty_Model k) := by decide +kernel
def R_Law : String := "SegmentReaderLaw"
abbrev vwCl : List vw_C := [(R_Bytes, T_Bytes, 2), (R_Numbers, T_Numbers, 2), (R_Parser, T_Parser, 11), (R_Picture, T_Picture, 12), (R_Scan, T_Scan, 7), (R_Reader, T_Reader, 3), (R_Model, T_Model, 40)]
abbrev c_Reader_init : ByteArray := prog_1_method_1_code
def y_Reader_init : MethodName := ⟨"SegmentReader", "<init>", "()V"⟩
abbrev w_Reader_init : List Cond := Cond.code y_Reader_init c_Reader_init 1 none :: AW
abbrev c_Bytes_init : ByteArray := prog_2_method_1_code
def y_Bytes_init : MethodName := ⟨"SegmentReader$Bytes", "<init>", "()V"⟩
abbrev w_Bytes_init : List Cond := Cond.code y_Bytes_init c_Bytes_init 1 none :: AW
abbrev c_Picture_init : ByteArray := prog_5_method_1_code
def y_Picture_init : MethodName := ⟨"SegmentReader$Picture", "<init>", "(LSegmentReader$Bytes;)V"⟩
abbrev w_Picture_init : List Cond := Cond.code y_Picture_init c_Picture_init 2 none :: AW
abbrev c_Numbers_init : ByteArray := prog_3_method_1_code
def y_Numbers_init : MethodName := ⟨"SegmentReader$Numbers", "<init>", "()V"⟩
abbrev w_Numbers_init : List Cond := Cond.code y_Numbers_init c_Numbers_init 1 none :: AW
abbrev c_Picture_clear : ByteArray := prog_5_method_2_code
def y_Picture_clear : MethodName := ⟨"SegmentReader$Picture", "clear", "()V"⟩
abbrev w_Picture_clear : List Cond := Cond.code y_Picture_clear c_Picture_clear 1 none :: AW
abbrev c_Arrays_fillI : ByteArray := prog_12_method_103_code
def y_Arrays_fillI : MethodName := ⟨"java/util/Arrays", "fill", "([II)V"⟩
abbrev w_Arrays_fillI : List Cond := Cond.code y_Arrays_fillI c_Arrays_fillI 4 none :: AW
abbrev c_Parser_init : ByteArray := prog_4_method_1_code
def y_Parser_init : MethodName := ⟨"SegmentReader$Parser", "<init>", "(LSegmentReader$Bytes;LSegmentReader$Picture;)V"⟩
abbrev w_Parser_init : List Cond := Cond.code y_Parser_init c_Parser_init 3 none :: AW
abbrev c_Scan_init : ByteArray := prog_6_method_1_code
def y_Scan_init : MethodName := ⟨"SegmentReader$Scan", "<init>", "()V"⟩
abbrev w_Scan_init : List Cond := Cond.code y_Scan_init c_Scan_init 1 none :: AW
abbrev c_Reader_give : ByteArray := prog_1_method_2_code
def y_Reader_give : MethodName := ⟨"SegmentReader", "give", "(JI)Z"⟩
abbrev w_Reader_give : List Cond := Cond.code y_Reader_give c_Reader_give 5 (some .boolean) :: AW
abbrev c_Bytes_add : ByteArray := prog_2_method_2_code
def y_Bytes_add : MethodName := ⟨"SegmentReader$Bytes", "add", "(I)V"⟩
abbrev w_Bytes_add : List Cond := Cond.code y_Bytes_add c_Bytes_add 2 none :: AW
abbrev c_Arrays_copyOfB : ByteArray := prog_12_method_121_code
def y_Arrays_copyOfB : MethodName := ⟨"java/util/Arrays", "copyOf", "([BI)[B"⟩
abbrev w_Arrays_copyOfB : List Cond := Cond.code y_Arrays_copyOfB c_Arrays_copyOfB 3 (some (.array .byte)) :: AW
abbrev c_Math_min : ByteArray := prog_10_method_69_code
def y_Math_min : MethodName := ⟨"java/lang/Math", "min", "(II)I"⟩
abbrev w_Math_min : List Cond := Cond.code y_Math_min c_Math_min 2 (some .int) :: AW
abbrev c_Parser_forget : ByteArray := prog_4_method_2_code
def y_Parser_forget : MethodName := ⟨"SegmentReader$Parser", "forget", "()V"⟩
abbrev w_Parser_forget : List Cond := Cond.code y_Parser_forget c_Parser_forget 1 none :: AW
abbrev c_Reader_wipe : ByteArray := prog_1_method_3_code
def y_Reader_wipe : MethodName := ⟨"SegmentReader", "wipe", "()V"⟩
abbrev w_Reader_wipe : List Cond := Cond.code y_Reader_wipe c_Reader_wipe 1 none :: AW
abbrev c_Reader_read : ByteArray := prog_1_method_4_code
def y_Reader_read : MethodName := ⟨"SegmentReader", "read", "()I"⟩
abbrev w_Reader_read : List Cond := Cond.code y_Reader_read c_Reader_read 2 (some .int) :: AW
abbrev c_Parser_begin : ByteArray := prog_4_method_3_code
def y_Parser_begin : MethodName := ⟨"SegmentReader$Parser", "begin", "()V"⟩
abbrev w_Parser_begin : List Cond := Cond.code y_Parser_begin c_Parser_begin 1 none :: AW
abbrev c_Bytes_at : ByteArray := prog_2_method_3_code
def y_Bytes_at : MethodName := ⟨"SegmentReader$Bytes", "at", "(I)I"⟩
abbrev w_Bytes_at : List Cond := Cond.code y_Bytes_at c_Bytes_at 2 (some .int) :: AW
abbrev c_Parser_fail : ByteArray := prog_4_method_6_code
def y_Parser_fail : MethodName := ⟨"SegmentReader$Parser", "fail", "(II)I"⟩
abbrev w_Parser_fail : List Cond := Cond.code y_Parser_fail c_Parser_fail 3 (some .int) :: AW
abbrev c_Parser_goesOn : ByteArray := prog_4_method_4_code
def y_Parser_goesOn : MethodName := ⟨"SegmentReader$Parser", "goesOn", "()Z"⟩
abbrev w_Parser_goesOn : List Cond := Cond.code y_Parser_goesOn c_Parser_goesOn 1 (some .boolean) :: AW
abbrev c_Parser_readNext : ByteArray := prog_4_method_7_code
def y_Parser_readNext : MethodName := ⟨"SegmentReader$Parser", "readNext", "()V"⟩
abbrev w_Parser_readNext : List Cond := Cond.code y_Parser_readNext c_Parser_readNext 3 none :: AW
abbrev c_Parser_takeMarker : ByteArray := prog_4_method_8_code
def y_Parser_takeMarker : MethodName := ⟨"SegmentReader$Parser", "takeMarker", "()I"⟩
abbrev w_Parser_takeMarker : List Cond := Cond.code y_Parser_takeMarker c_Parser_takeMarker 3 (some .int) :: AW
abbrev c_Parser_canStand : ByteArray := prog_4_method_9_code
def y_Parser_canStand : MethodName := ⟨"SegmentReader$Parser", "canStand", "(I)Z"⟩
abbrev w_Parser_canStand : List Cond := Cond.code y_Parser_canStand c_Parser_canStand 2 (some .boolean) :: AW
abbrev c_Parser_allBegun : ByteArray := prog_4_method_11_code
def y_Parser_allBegun : MethodName := ⟨"SegmentReader$Parser", "allBegun", "()Z"⟩
abbrev w_Parser_allBegun : List Cond := Cond.code y_Parser_allBegun c_Parser_allBegun 2 (some .boolean) :: AW
abbrev c_Parser_latestOf : ByteArray := prog_4_method_28_code
def y_Parser_latestOf : MethodName := ⟨"SegmentReader$Parser", "latestOf", "(II)I"⟩
abbrev w_Parser_latestOf : List Cond := Cond.code y_Parser_latestOf c_Parser_latestOf 4 (some .int) :: AW
abbrev c_Parser_isFree : ByteArray := prog_4_method_10_code
def y_Parser_isFree : MethodName := ⟨"SegmentReader$Parser", "isFree", "(I)Z"⟩
abbrev w_Parser_isFree : List Cond := Cond.code y_Parser_isFree c_Parser_isFree 2 (some .boolean) :: AW
abbrev c_Parser_takeLength : ByteArray := prog_4_method_12_code
def y_Parser_takeLength : MethodName := ⟨"SegmentReader$Parser", "takeLength", "()V"⟩
abbrev w_Parser_takeLength : List Cond := Cond.code y_Parser_takeLength c_Parser_takeLength 2 none :: AW
abbrev c_Parser_takePair : ByteArray := prog_4_method_16_code
def y_Parser_takePair : MethodName := ⟨"SegmentReader$Parser", "takePair", "(II)I"⟩
abbrev w_Parser_takePair : List Cond := Cond.code y_Parser_takePair c_Parser_takePair 6 (some .int) :: AW
abbrev c_Parser_take : ByteArray := prog_4_method_15_code
def y_Parser_take : MethodName := ⟨"SegmentReader$Parser", "take", "(II)I"⟩
abbrev w_Parser_take : List Cond := Cond.code y_Parser_take c_Parser_take 4 (some .int) :: AW
abbrev c_Parser_refuseTaken : ByteArray := prog_4_method_17_code
def y_Parser_refuseTaken : MethodName := ⟨"SegmentReader$Parser", "refuseTaken", "()V"⟩
abbrev w_Parser_refuseTaken : List Cond := Cond.code y_Parser_refuseTaken c_Parser_refuseTaken 1 none :: AW
abbrev c_Picture_addSegment : ByteArray := prog_5_method_5_code
def y_Picture_addSegment : MethodName := ⟨"SegmentReader$Picture", "addSegment", "(II)V"⟩
abbrev w_Picture_addSegment : List Cond := Cond.code y_Picture_addSegment c_Picture_addSegment 3 none :: AW
abbrev c_Numbers_add : ByteArray := prog_3_method_2_code
def y_Numbers_add : MethodName := ⟨"SegmentReader$Numbers", "add", "(I)V"⟩
abbrev w_Numbers_add : List Cond := Cond.code y_Numbers_add c_Numbers_add 2 none :: AW
abbrev c_Arrays_copyOfI : ByteArray := prog_12_method_123_code
def y_Arrays_copyOfI : MethodName := ⟨"java/util/Arrays", "copyOf", "([II)[I"⟩
abbrev w_Arrays_copyOfI : List Cond := Cond.code y_Arrays_copyOfI c_Arrays_copyOfI 3 (some (.array .int)) :: AW
abbrev c_Parser_readContents : ByteArray := prog_4_method_13_code
def y_Parser_readContents : MethodName := ⟨"SegmentReader$Parser", "readContents", "(I)V"⟩
abbrev w_Parser_readContents : List Cond := Cond.code y_Parser_readContents c_Parser_readContents 2 none :: AW
abbrev c_Parser_readQuantisers : ByteArray := prog_4_method_19_code
def y_Parser_readQuantisers : MethodName := ⟨"SegmentReader$Parser", "readQuantisers", "()V"⟩
abbrev w_Parser_readQuantisers : List Cond := Cond.code y_Parser_readQuantisers c_Parser_readQuantisers 6 none :: AW
abbrev c_Picture_setQuantisers : ByteArray := prog_5_method_18_code
def y_Picture_setQuantisers : MethodName := ⟨"SegmentReader$Picture", "setQuantisers", "(II)V"⟩
abbrev w_Picture_setQuantisers : List Cond := Cond.code y_Picture_setQuantisers c_Picture_setQuantisers 3 none :: AW
abbrev c_Parser_moreContents : ByteArray := prog_4_method_18_code
def y_Parser_moreContents : MethodName := ⟨"SegmentReader$Parser", "moreContents", "()Z"⟩
abbrev w_Parser_moreContents : List Cond := Cond.code y_Parser_moreContents c_Parser_moreContents 1 (some .boolean) :: AW
abbrev c_Parser_readWords : ByteArray := prog_4_method_20_code
def y_Parser_readWords : MethodName := ⟨"SegmentReader$Parser", "readWords", "()V"⟩
abbrev w_Parser_readWords : List Cond := Cond.code y_Parser_readWords c_Parser_readWords 6 none :: AW
abbrev c_Parser_takeCounts : ByteArray := prog_4_method_21_code
def y_Parser_takeCounts : MethodName := ⟨"SegmentReader$Parser", "takeCounts", "()I"⟩
abbrev w_Parser_takeCounts : List Cond := Cond.code y_Parser_takeCounts c_Parser_takeCounts 5 (some .int) :: AW
abbrev c_Parser_takeSymbols : ByteArray := prog_4_method_22_code
def y_Parser_takeSymbols : MethodName := ⟨"SegmentReader$Parser", "takeSymbols", "(II)V"⟩
abbrev w_Parser_takeSymbols : List Cond := Cond.code y_Parser_takeSymbols c_Parser_takeSymbols 8 none :: AW
abbrev c_Arrays_fillJ : ByteArray := prog_12_method_101_code
def y_Arrays_fillJ : MethodName := ⟨"java/util/Arrays", "fill", "([JJ)V"⟩
abbrev w_Arrays_fillJ : List Cond := Cond.code y_Arrays_fillJ c_Arrays_fillJ 5 none :: AW
abbrev c_Picture_setWords : ByteArray := prog_5_method_21_code
def y_Picture_setWords : MethodName := ⟨"SegmentReader$Picture", "setWords", "(II)V"⟩
abbrev w_Picture_setWords : List Cond := Cond.code y_Picture_setWords c_Picture_setWords 4 none :: AW
abbrev c_Picture_rowOfWords : ByteArray := prog_5_method_22_code
def y_Picture_rowOfWords : MethodName := ⟨"SegmentReader$Picture", "rowOfWords", "(I)I"⟩
abbrev w_Picture_rowOfWords : List Cond := Cond.code y_Picture_rowOfWords c_Picture_rowOfWords 2 (some .int) :: AW
abbrev c_Parser_readFrame : ByteArray := prog_4_method_23_code
def y_Parser_readFrame : MethodName := ⟨"SegmentReader$Parser", "readFrame", "(I)V"⟩
abbrev w_Parser_readFrame : List Cond := Cond.code y_Parser_readFrame c_Parser_readFrame 4 none :: AW
abbrev c_Parser_readComponent : ByteArray := prog_4_method_24_code
def y_Parser_readComponent : MethodName := ⟨"SegmentReader$Parser", "readComponent", "()V"⟩
abbrev w_Parser_readComponent : List Cond := Cond.code y_Parser_readComponent c_Parser_readComponent 5 none :: AW
abbrev c_Picture_placeOfName : ByteArray := prog_5_method_12_code
def y_Picture_placeOfName : MethodName := ⟨"SegmentReader$Picture", "placeOfName", "(I)I"⟩
abbrev w_Picture_placeOfName : List Cond := Cond.code y_Picture_placeOfName c_Picture_placeOfName 3 (some .int) :: AW
abbrev c_Picture_ofComponent : ByteArray := prog_5_method_11_code
def y_Picture_ofComponent : MethodName := ⟨"SegmentReader$Picture", "ofComponent", "(II)I"⟩
abbrev w_Picture_ofComponent : List Cond := Cond.code y_Picture_ofComponent c_Picture_ofComponent 3 (some .int) :: AW
abbrev c_Picture_addComponent : ByteArray := prog_5_method_7_code
def y_Picture_addComponent : MethodName := ⟨"SegmentReader$Picture", "addComponent", "(IIII)V"⟩
abbrev w_Picture_addComponent : List Cond := Cond.code y_Picture_addComponent c_Picture_addComponent 6 none :: AW
abbrev c_Parser_readScan : ByteArray := prog_4_method_25_code
def y_Parser_readScan : MethodName := ⟨"SegmentReader$Parser", "readScan", "()V"⟩
abbrev w_Parser_readScan : List Cond := Cond.code y_Parser_readScan c_Parser_readScan 1 none :: AW
abbrev c_Parser_takeScanComponents : ByteArray := prog_4_method_26_code
def y_Parser_takeScanComponents : MethodName := ⟨"SegmentReader$Parser", "takeScanComponents", "()V"⟩
abbrev w_Parser_takeScanComponents : List Cond := Cond.code y_Parser_takeScanComponents c_Parser_takeScanComponents 6 none :: AW
abbrev c_Parser_takeBits : ByteArray := prog_4_method_27_code
def y_Parser_takeBits : MethodName := ⟨"SegmentReader$Parser", "takeBits", "(I)V"⟩
abbrev w_Parser_takeBits : List Cond := Cond.code y_Parser_takeBits c_Parser_takeBits 3 none :: AW
abbrev c_Parser_checkSent : ByteArray := prog_4_method_29_code
def y_Parser_checkSent : MethodName := ⟨"SegmentReader$Parser", "checkSent", "()V"⟩
abbrev w_Parser_checkSent : List Cond := Cond.code y_Parser_checkSent c_Parser_checkSent 7 none :: AW
abbrev c_Scan_placeAt : ByteArray := prog_6_method_2_code
def y_Scan_placeAt : MethodName := ⟨"SegmentReader$Scan", "placeAt", "(I)I"⟩
abbrev w_Scan_placeAt : List Cond := Cond.code y_Scan_placeAt c_Scan_placeAt 2 (some .int) :: AW
abbrev c_Scan_nameAt : ByteArray := prog_6_method_3_code
def y_Scan_nameAt : MethodName := ⟨"SegmentReader$Scan", "nameAt", "(I)I"⟩
abbrev w_Scan_nameAt : List Cond := Cond.code y_Scan_nameAt c_Scan_nameAt 2 (some .int) :: AW
abbrev c_Parser_checkTables : ByteArray := prog_4_method_30_code
def y_Parser_checkTables : MethodName := ⟨"SegmentReader$Parser", "checkTables", "()V"⟩
abbrev w_Parser_checkTables : List Cond := Cond.code y_Parser_checkTables c_Parser_checkTables 5 none :: AW
abbrev c_Picture_hasQuantisers : ByteArray := prog_5_method_17_code
def y_Picture_hasQuantisers : MethodName := ⟨"SegmentReader$Picture", "hasQuantisers", "(I)Z"⟩
abbrev w_Picture_hasQuantisers : List Cond := Cond.code y_Picture_hasQuantisers c_Picture_hasQuantisers 2 (some .boolean) :: AW
abbrev c_Picture_placeOfWords : ByteArray := prog_5_method_20_code
def y_Picture_placeOfWords : MethodName := ⟨"SegmentReader$Picture", "placeOfWords", "(I)I"⟩
abbrev w_Picture_placeOfWords : List Cond := Cond.code y_Picture_placeOfWords c_Picture_placeOfWords 3 (some .int) :: AW
abbrev c_Parser_noteSent : ByteArray := prog_4_method_31_code
def y_Parser_noteSent : MethodName := ⟨"SegmentReader$Parser", "noteSent", "()V"⟩
abbrev w_Parser_noteSent : List Cond := Cond.code y_Parser_noteSent c_Parser_noteSent 5 none :: AW
abbrev c_Parser_skipContents : ByteArray := prog_4_method_14_code
def y_Parser_skipContents : MethodName := ⟨"SegmentReader$Parser", "skipContents", "()V"⟩
abbrev w_Parser_skipContents : List Cond := Cond.code y_Parser_skipContents c_Parser_skipContents 1 none :: AW
abbrev c_Parser_readData : ByteArray := prog_4_method_32_code
def y_Parser_readData : MethodName := ⟨"SegmentReader$Parser", "readData", "()V"⟩
abbrev w_Parser_readData : List Cond := Cond.code y_Parser_readData c_Parser_readData 5 none :: AW
abbrev c_Parser_endData : ByteArray := prog_4_method_33_code
def y_Parser_endData : MethodName := ⟨"SegmentReader$Parser", "endData", "(III)V"⟩
abbrev w_Parser_endData : List Cond := Cond.code y_Parser_endData c_Parser_endData 4 none :: AW
abbrev c_Picture_scanCount : ByteArray := prog_5_method_4_code
def y_Picture_scanCount : MethodName := ⟨"SegmentReader$Picture", "scanCount", "()I"⟩
abbrev w_Picture_scanCount : List Cond := Cond.code y_Picture_scanCount c_Picture_scanCount 1 (some .int) :: AW
abbrev c_Picture_addScan : ByteArray := prog_5_method_6_code
def y_Picture_addScan : MethodName := ⟨"SegmentReader$Picture", "addScan", "(IIII)V"⟩
abbrev w_Picture_addScan : List Cond := Cond.code y_Picture_addScan c_Picture_addScan 5 none :: AW
abbrev c_Parser_finish : ByteArray := prog_4_method_5_code
def y_Parser_finish : MethodName := ⟨"SegmentReader$Parser", "finish", "()I"⟩
abbrev w_Parser_finish : List Cond := Cond.code y_Parser_finish c_Parser_finish 1 (some .int) :: AW
abbrev c_Reader_segment : ByteArray := prog_1_method_5_code
def y_Reader_segment : MethodName := ⟨"SegmentReader", "segment", "(II)I"⟩
abbrev w_Reader_segment : List Cond := Cond.code y_Reader_segment c_Reader_segment 3 (some .int) :: AW
abbrev c_Picture_ofSegment : ByteArray := prog_5_method_8_code
def y_Picture_ofSegment : MethodName := ⟨"SegmentReader$Picture", "ofSegment", "(II)I"⟩
abbrev w_Picture_ofSegment : List Cond := Cond.code y_Picture_ofSegment c_Picture_ofSegment 4 (some .int) :: AW
abbrev c_Picture_segmentCount : ByteArray := prog_5_method_3_code
def y_Picture_segmentCount : MethodName := ⟨"SegmentReader$Picture", "segmentCount", "()I"⟩
abbrev w_Picture_segmentCount : List Cond := Cond.code y_Picture_segmentCount c_Picture_segmentCount 1 (some .int) :: AW
abbrev c_Numbers_at : ByteArray := prog_3_method_3_code
def y_Numbers_at : MethodName := ⟨"SegmentReader$Numbers", "at", "(I)I"⟩
abbrev w_Numbers_at : List Cond := Cond.code y_Numbers_at c_Numbers_at 2 (some .int) :: AW
abbrev c_Reader_frame : ByteArray := prog_1_method_6_code
def y_Reader_frame : MethodName := ⟨"SegmentReader", "frame", "(I)I"⟩
abbrev w_Reader_frame : List Cond := Cond.code y_Reader_frame c_Reader_frame 2 (some .int) :: AW
abbrev c_Picture_ofFrame : ByteArray := prog_5_method_9_code
def y_Picture_ofFrame : MethodName := ⟨"SegmentReader$Picture", "ofFrame", "(I)I"⟩
abbrev w_Picture_ofFrame : List Cond := Cond.code y_Picture_ofFrame c_Picture_ofFrame 2 (some .int) :: AW
abbrev c_Picture_greatest : ByteArray := prog_5_method_10_code
def y_Picture_greatest : MethodName := ⟨"SegmentReader$Picture", "greatest", "(I)I"⟩
abbrev w_Picture_greatest : List Cond := Cond.code y_Picture_greatest c_Picture_greatest 4 (some .int) :: AW
abbrev c_Math_max : ByteArray := prog_10_method_65_code
def y_Math_max : MethodName := ⟨"java/lang/Math", "max", "(II)I"⟩
abbrev w_Math_max : List Cond := Cond.code y_Math_max c_Math_max 2 (some .int) :: AW
abbrev c_Reader_component : ByteArray := prog_1_method_7_code
def y_Reader_component : MethodName := ⟨"SegmentReader", "component", "(II)I"⟩
abbrev w_Reader_component : List Cond := Cond.code y_Reader_component c_Reader_component 3 (some .int) :: AW
abbrev c_Reader_scan : ByteArray := prog_1_method_8_code
def y_Reader_scan : MethodName := ⟨"SegmentReader", "scan", "(II)I"⟩
abbrev w_Reader_scan : List Cond := Cond.code y_Reader_scan c_Reader_scan 3 (some .int) :: AW
abbrev c_Picture_ofScan : ByteArray := prog_5_method_13_code
def y_Picture_ofScan : MethodName := ⟨"SegmentReader$Picture", "ofScan", "(II)I"⟩
abbrev w_Picture_ofScan : List Cond := Cond.code y_Picture_ofScan c_Picture_ofScan 7 (some .int) :: AW
abbrev c_Picture_ofScanComponent : ByteArray := prog_5_method_14_code
def y_Picture_ofScanComponent : MethodName := ⟨"SegmentReader$Picture", "ofScanComponent", "(III)I"⟩
abbrev w_Picture_ofScanComponent : List Cond := Cond.code y_Picture_ofScanComponent c_Picture_ofScanComponent 6 (some .int) :: AW
abbrev c_Reader_data : ByteArray := prog_1_method_9_code
def y_Reader_data : MethodName := ⟨"SegmentReader", "data", "(II)I"⟩
abbrev w_Reader_data : List Cond := Cond.code y_Reader_data c_Reader_data 3 (some .int) :: AW
abbrev c_Picture_dataByte : ByteArray := prog_5_method_15_code
def y_Picture_dataByte : MethodName := ⟨"SegmentReader$Picture", "dataByte", "(II)I"⟩
abbrev w_Picture_dataByte : List Cond := Cond.code y_Picture_dataByte c_Picture_dataByte 8 (some .int) :: AW
abbrev c_Reader_quantiser : ByteArray := prog_1_method_10_code
def y_Reader_quantiser : MethodName := ⟨"SegmentReader", "quantiser", "(II)I"⟩
abbrev w_Reader_quantiser : List Cond := Cond.code y_Reader_quantiser c_Reader_quantiser 3 (some .int) :: AW
abbrev c_Picture_quantiserValue : ByteArray := prog_5_method_16_code
def y_Picture_quantiserValue : MethodName := ⟨"SegmentReader$Picture", "quantiserValue", "(II)I"⟩
abbrev w_Picture_quantiserValue : List Cond := Cond.code y_Picture_quantiserValue c_Picture_quantiserValue 3 (some .int) :: AW
abbrev c_Reader_word : ByteArray := prog_1_method_11_code
def y_Reader_word : MethodName := ⟨"SegmentReader", "word", "(III)I"⟩
abbrev w_Reader_word : List Cond := Cond.code y_Reader_word c_Reader_word 4 (some .int) :: AW
abbrev c_Picture_ofWords : ByteArray := prog_5_method_19_code
def y_Picture_ofWords : MethodName := ⟨"SegmentReader$Picture", "ofWords", "(III)I"⟩
abbrev w_Picture_ofWords : List Cond := Cond.code y_Picture_ofWords c_Picture_ofWords 5 (some .int) :: AW
abbrev c_Picture_wordCount : ByteArray := prog_5_method_23_code
def y_Picture_wordCount : MethodName := ⟨"SegmentReader$Picture", "wordCount", "(I)I"⟩
abbrev w_Picture_wordCount : List Cond := Cond.code y_Picture_wordCount c_Picture_wordCount 4 (some .int) :: AW
abbrev c_Reader_look : ByteArray := prog_1_method_12_code
def y_Reader_look : MethodName := ⟨"SegmentReader", "look", "(I)I"⟩
abbrev w_Reader_look : List Cond := Cond.code y_Reader_look c_Reader_look 2 (some .int) :: AW
abbrev c_Model_init : ByteArray := prog_8_method_1_code
def y_Model_init : MethodName := ⟨"SegmentReaderModel", "<init>", "()V"⟩
abbrev w_Model_init : List Cond := Cond.code y_Model_init c_Model_init 1 none :: AW
abbrev c_Model_forget : ByteArray := prog_8_method_3_code
def y_Model_forget : MethodName := ⟨"SegmentReaderModel", "forget", "()V"⟩
abbrev w_Model_forget : List Cond := Cond.code y_Model_forget c_Model_forget 2 none :: AW
abbrev c_Model_give : ByteArray := prog_8_method_4_code
def y_Model_give : MethodName := ⟨"SegmentReaderModel", "give", "(JI)Z"⟩
abbrev w_Model_give : List Cond := Cond.code y_Model_give c_Model_give 5 (some .boolean) :: AW
abbrev c_Model_wipe : ByteArray := prog_8_method_5_code
def y_Model_wipe : MethodName := ⟨"SegmentReaderModel", "wipe", "()V"⟩
abbrev w_Model_wipe : List Cond := Cond.code y_Model_wipe c_Model_wipe 1 none :: AW
abbrev c_Model_read : ByteArray := prog_8_method_29_code
def y_Model_read : MethodName := ⟨"SegmentReaderModel", "read", "()I"⟩
abbrev w_Model_read : List Cond := Cond.code y_Model_read c_Model_read 1 (some .int) :: AW
abbrev c_Model_readFile : ByteArray := prog_8_method_27_code
def y_Model_readFile : MethodName := ⟨"SegmentReaderModel", "readFile", "()V"⟩
abbrev w_Model_readFile : List Cond := Cond.code y_Model_readFile c_Model_readFile 9 none :: AW
abbrev c_Model_next : ByteArray := prog_8_method_8_code
def y_Model_next : MethodName := ⟨"SegmentReaderModel", "next", "()I"⟩
abbrev w_Model_next : List Cond := Cond.code y_Model_next c_Model_next 1 (some .int) :: AW
abbrev c_Model_lengthAt : ByteArray := prog_8_method_11_code
def y_Model_lengthAt : MethodName := ⟨"SegmentReaderModel", "lengthAt", "()I"⟩
abbrev w_Model_lengthAt : List Cond := Cond.code y_Model_lengthAt c_Model_lengthAt 1 (some .int) :: AW
abbrev c_Model_wrong : ByteArray := prog_8_method_6_code
def y_Model_wrong : MethodName := ⟨"SegmentReaderModel", "wrong", "(II)I"⟩
abbrev w_Model_wrong : List Cond := Cond.code y_Model_wrong c_Model_wrong 3 (some .int) :: AW
abbrev c_Model_byteAt : ByteArray := prog_8_method_7_code
def y_Model_byteAt : MethodName := ⟨"SegmentReaderModel", "byteAt", "(I)I"⟩
abbrev w_Model_byteAt : List Cond := Cond.code y_Model_byteAt c_Model_byteAt 2 (some .int) :: AW
abbrev c_Model_marker : ByteArray := prog_8_method_12_code
def y_Model_marker : MethodName := ⟨"SegmentReaderModel", "marker", "()I"⟩
abbrev w_Model_marker : List Cond := Cond.code y_Model_marker c_Model_marker 2 (some .int) :: AW
abbrev c_Model_isSent : ByteArray := prog_8_method_26_code
def y_Model_isSent : MethodName := ⟨"SegmentReaderModel", "isSent", "()Z"⟩
abbrev w_Model_isSent : List Cond := Cond.code y_Model_isSent c_Model_isSent 3 (some .boolean) :: AW
abbrev c_Model_segment1 : ByteArray := prog_8_method_28_code
def y_Model_segment1 : MethodName := ⟨"SegmentReaderModel", "segment", "(I)Z"⟩
abbrev w_Model_segment1 : List Cond := Cond.code y_Model_segment1 c_Model_segment1 3 (some .boolean) :: AW
abbrev c_Model_open : ByteArray := prog_8_method_13_code
def y_Model_open : MethodName := ⟨"SegmentReaderModel", "open", "()V"⟩
abbrev w_Model_open : List Cond := Cond.code y_Model_open c_Model_open 3 none :: AW
abbrev c_Model_two : ByteArray := prog_8_method_9_code
def y_Model_two : MethodName := ⟨"SegmentReaderModel", "two", "()I"⟩
abbrev w_Model_two : List Cond := Cond.code y_Model_two c_Model_two 2 (some .int) :: AW
abbrev c_Model_readQuantisers : ByteArray := prog_8_method_16_code
def y_Model_readQuantisers : MethodName := ⟨"SegmentReaderModel", "readQuantisers", "()V"⟩
abbrev w_Model_readQuantisers : List Cond := Cond.code y_Model_readQuantisers c_Model_readQuantisers 5 none :: AW
abbrev c_Model_must : ByteArray := prog_8_method_10_code
def y_Model_must : MethodName := ⟨"SegmentReaderModel", "must", "(Z)V"⟩
abbrev w_Model_must : List Cond := Cond.code y_Model_must c_Model_must 3 none :: AW
abbrev c_Model_readWords : ByteArray := prog_8_method_17_code
def y_Model_readWords : MethodName := ⟨"SegmentReaderModel", "readWords", "()V"⟩
abbrev w_Model_readWords : List Cond := Cond.code y_Model_readWords c_Model_readWords 4 none :: AW
abbrev c_Model_readTable : ByteArray := prog_8_method_18_code
def y_Model_readTable : MethodName := ⟨"SegmentReaderModel", "readTable", "(I)V"⟩
abbrev w_Model_readTable : List Cond := Cond.code y_Model_readTable c_Model_readTable 7 none :: AW
abbrev c_Model_readFrame : ByteArray := prog_8_method_19_code
def y_Model_readFrame : MethodName := ⟨"SegmentReaderModel", "readFrame", "(I)V"⟩
abbrev w_Model_readFrame : List Cond := Cond.code y_Model_readFrame c_Model_readFrame 6 none :: AW
abbrev c_Model_readScan : ByteArray := prog_8_method_21_code
def y_Model_readScan : MethodName := ⟨"SegmentReaderModel", "readScan", "()V"⟩
abbrev w_Model_readScan : List Cond := Cond.code y_Model_readScan c_Model_readScan 6 none :: AW
abbrev c_Model_named : ByteArray := prog_8_method_20_code
def y_Model_named : MethodName := ⟨"SegmentReaderModel", "named", "(I)I"⟩
abbrev w_Model_named : List Cond := Cond.code y_Model_named c_Model_named 4 (some .int) :: AW
abbrev c_Model_order : ByteArray := prog_8_method_22_code
def y_Model_order : MethodName := ⟨"SegmentReaderModel", "order", "(IZ)V"⟩
abbrev w_Model_order : List Cond := Cond.code y_Model_order c_Model_order 7 none :: AW
abbrev c_Model_needs : ByteArray := prog_8_method_23_code
def y_Model_needs : MethodName := ⟨"SegmentReaderModel", "needs", "(I)V"⟩
abbrev w_Model_needs : List Cond := Cond.code y_Model_needs c_Model_needs 4 none :: AW
abbrev c_Model_any : ByteArray := prog_8_method_15_code
def y_Model_any : MethodName := ⟨"SegmentReaderModel", "any", "()V"⟩
abbrev w_Model_any : List Cond := Cond.code y_Model_any c_Model_any 2 none :: AW
abbrev c_Model_close : ByteArray := prog_8_method_14_code
def y_Model_close : MethodName := ⟨"SegmentReaderModel", "close", "(I)V"⟩
abbrev w_Model_close : List Cond := Cond.code y_Model_close c_Model_close 3 none :: AW
abbrev c_Model_keepScan : ByteArray := prog_8_method_24_code
def y_Model_keepScan : MethodName := ⟨"SegmentReaderModel", "keepScan", "()V"⟩
abbrev w_Model_keepScan : List Cond := Cond.code y_Model_keepScan c_Model_keepScan 4 none :: AW
abbrev c_Model_readData : ByteArray := prog_8_method_25_code
def y_Model_readData : MethodName := ⟨"SegmentReaderModel", "readData", "(I)V"⟩
abbrev w_Model_readData : List Cond := Cond.code y_Model_readData c_Model_readData 8 none :: AW
abbrev c_Model_segment : ByteArray := prog_8_method_30_code
def y_Model_segment : MethodName := ⟨"SegmentReaderModel", "segment", "(II)I"⟩
abbrev w_Model_segment : List Cond := Cond.code y_Model_segment c_Model_segment 3 (some .int) :: AW
abbrev c_Model_frame : ByteArray := prog_8_method_31_code
def y_Model_frame : MethodName := ⟨"SegmentReaderModel", "frame", "(I)I"⟩
abbrev w_Model_frame : List Cond := Cond.code y_Model_frame c_Model_frame 5 (some .int) :: AW
abbrev c_Model_component : ByteArray := prog_8_method_32_code
def y_Model_component : MethodName := ⟨"SegmentReaderModel", "component", "(II)I"⟩
abbrev w_Model_component : List Cond := Cond.code y_Model_component c_Model_component 3 (some .int) :: AW
abbrev c_Model_scan : ByteArray := prog_8_method_33_code
def y_Model_scan : MethodName := ⟨"SegmentReaderModel", "scan", "(II)I"⟩
abbrev w_Model_scan : List Cond := Cond.code y_Model_scan c_Model_scan 4 (some .int) :: AW
abbrev c_Model_data : ByteArray := prog_8_method_34_code
def y_Model_data : MethodName := ⟨"SegmentReaderModel", "data", "(II)I"⟩
abbrev w_Model_data : List Cond := Cond.code y_Model_data c_Model_data 8 (some .int) :: AW
abbrev c_Model_quantiser : ByteArray := prog_8_method_35_code
def y_Model_quantiser : MethodName := ⟨"SegmentReaderModel", "quantiser", "(II)I"⟩
abbrev w_Model_quantiser : List Cond := Cond.code y_Model_quantiser c_Model_quantiser 4 (some .int) :: AW
abbrev c_Model_word : ByteArray := prog_8_method_36_code
def y_Model_word : MethodName := ⟨"SegmentReaderModel", "word", "(III)I"⟩
abbrev w_Model_word : List Cond := Cond.code y_Model_word c_Model_word 6 (some .int) :: AW
abbrev c_Model_look : ByteArray := prog_8_method_37_code
def y_Model_look : MethodName := ⟨"SegmentReaderModel", "look", "(I)I"⟩
abbrev w_Model_look : List Cond := Cond.code y_Model_look c_Model_look 2 (some .int) :: AW
end
section
theorem tt1 {w : Cond} (h : w ∈ tables_1_1) : w ∈ lw_tbl := List.mem_append_right _ (List.mem_append_left _ h)
theorem tb1 {w : Cond} (h : w ∈ tables_1_1) (g : goodWord w = true) : w ∈ AW := List.mem_filter.mpr ⟨tt1 h, g⟩
theorem tn1 {w : Cond} (h : w ∈ tables_1_1) (g : jIsNest w = true) : w ∈ nestL := List.mem_filter.mpr ⟨tt1 h, g⟩
theorem tt2 {w : Cond} (h : w ∈ tables_1_2) : w ∈ lw_tbl := List.mem_append_right _ (List.mem_append_right _ (List.mem_append_left _ h))
theorem tb2 {w : Cond} (h : w ∈ tables_1_2) (g : goodWord w = true) : w ∈ AW := List.mem_filter.mpr ⟨tt2 h, g⟩
theorem tn2 {w : Cond} (h : w ∈ tables_1_2) (g : jIsNest w = true) : w ∈ nestL := List.mem_filter.mpr ⟨tt2 h, g⟩
theorem tt3 {w : Cond} (h : w ∈ tables_1_3) : w ∈ lw_tbl := List.mem_append_right _ (List.mem_append_right _ (List.mem_append_right _ (List.mem_append_left _ h)))
theorem tb3 {w : Cond} (h : w ∈ tables_1_3) (g : goodWord w = true) : w ∈ AW := List.mem_filter.mpr ⟨tt3 h, g⟩
theorem tn3 {w : Cond} (h : w ∈ tables_1_3) (g : jIsNest w = true) : w ∈ nestL := List.mem_filter.mpr ⟨tt3 h, g⟩
theorem tt4 {w : Cond} (h : w ∈ tables_1_4) : w ∈ lw_tbl := List.mem_append_right _ (List.mem_append_right _ (List.mem_append_right _ (List.mem_append_right _ h)))
theorem tb4 {w : Cond} (h : w ∈ tables_1_4) (g : goodWord w = true) : w ∈ AW := List.mem_filter.mpr ⟨tt4 h, g⟩
theorem tn4 {w : Cond} (h : w ∈ tables_1_4) (g : jIsNest w = true) : w ∈ nestL := List.mem_filter.mpr ⟨tt4 h, g⟩
theorem tp1 {q : MethodName × Nat} (h : q ∈ lw_privs_1) : Cond.selects q.1.cls q.1 q.1 ∈ AW := List.mem_filter.mpr ⟨List.mem_append_left _ (List.mem_map.mpr ⟨q, (List.mem_append_left _ h), rfl⟩), rfl⟩
theorem tp2 {q : MethodName × Nat} (h : q ∈ lw_privs_2) : Cond.selects q.1.cls q.1 q.1 ∈ AW := List.mem_filter.mpr ⟨List.mem_append_left _ (List.mem_map.mpr ⟨q, (List.mem_append_right _ (List.mem_append_left _ h)), rfl⟩), rfl⟩
theorem tp3 {q : MethodName × Nat} (h : q ∈ lw_privs_3) : Cond.selects q.1.cls q.1 q.1 ∈ AW := List.mem_filter.mpr ⟨List.mem_append_left _ (List.mem_map.mpr ⟨q, (List.mem_append_right _ (List.mem_append_right _ (List.mem_append_left _ h))), rfl⟩), rfl⟩
theorem tp4 {q : MethodName × Nat} (h : q ∈ lw_privs_4) : Cond.selects q.1.cls q.1 q.1 ∈ AW := List.mem_filter.mpr ⟨List.mem_append_left _ (List.mem_map.mpr ⟨q, (List.mem_append_right _ (List.mem_append_right _ (List.mem_append_right _ h))), rfl⟩), rfl⟩
theorem mm {w c : Cond} (h : w ∈ AW) : w ∈ c :: AW := List.mem_cons_of_mem _ h
theorem aw_sub {Ts ex : List Cond} {cd : Cond} (hs : ∀ w ∈ AW, w ∈ Ts) (hx : ∀ w ∈ ex, w ∈ AW) (hc : cd ∈ AW) : GoodIn Ts (ex ++ (cd :: AW)) := by
  intro w hw
  have h : w ∈ AW := by
    rcases List.mem_append.mp hw with h | h
    · exact hx w h
    · rcases List.mem_cons.mp h with h | h
      · rw [h]; exact hc
      · exact h
  exact ⟨hs w h, good_of_word (List.mem_filter.mp h).2⟩
theorem aw_V {Ts : List Cond} {own C : String} {idx : Nat} {y : MethodName} {cd : Cond} (hs : ∀ w ∈ AW, w ∈ Ts) (h1 : Cond.methodLink own idx y ∈ AW) (h2 : Cond.instanceMethod y ∈ AW) (h3 : Cond.selects C y y ∈ AW) (h4 : Cond.initialized C ∈ AW) (hc : cd ∈ AW) : GoodIn Ts (wsV own idx C y (cd :: AW)) := aw_sub hs (List.forall_mem_cons.mpr ⟨h1, List.forall_mem_cons.mpr ⟨h2, List.forall_mem_cons.mpr ⟨h3, List.forall_mem_cons.mpr ⟨h4, fun _ h => absurd h List.not_mem_nil⟩⟩⟩⟩) hc
theorem aw_S {Ts : List Cond} {own : String} {idx : Nat} {y : MethodName} {cd : Cond} (hs : ∀ w ∈ AW, w ∈ Ts) (h1 : Cond.methodLink own idx y ∈ AW) (h2 : Cond.static y ∈ AW) (h4 : Cond.initialized y.cls ∈ AW) (hc : cd ∈ AW) : GoodIn Ts (va_wsS own idx y (cd :: AW)) := aw_sub hs (List.forall_mem_cons.mpr ⟨h1, List.forall_mem_cons.mpr ⟨h2, List.forall_mem_cons.mpr ⟨h4, fun _ h => absurd h List.not_mem_nil⟩⟩⟩) hc
theorem aw_I {Ts : List Cond} {cd : Cond} (hs : ∀ w ∈ AW, w ∈ Ts) (hc : cd ∈ AW) : GoodIn Ts (cd :: AW) := aw_sub (ex := []) hs (fun _ h => absurd h List.not_mem_nil) hc
theorem in_Bytes : ∀ w ∈ u_ws R_Bytes T_Bytes 2, w ∈ AW := (show ∀ w ∈ [Cond.lays "SegmentReader$Bytes" "SegmentReader$Bytes" "held" "[B", Cond.lays "SegmentReader$Bytes" "SegmentReader$Bytes" "size" "I"], w ∈ AW from List.forall_mem_cons.mpr ⟨tb1 (List.mem_of_getElem? (i := 29) rfl) rfl, List.forall_mem_cons.mpr ⟨tb1 (List.mem_of_getElem? (i := 31) rfl) rfl, fun _ h => absurd h List.not_mem_nil⟩⟩)
theorem in_Numbers : ∀ w ∈ u_ws R_Numbers T_Numbers 2, w ∈ AW := (show ∀ w ∈ [Cond.lays "SegmentReader$Numbers" "SegmentReader$Numbers" "held" "[I", Cond.lays "SegmentReader$Numbers" "SegmentReader$Numbers" "size" "I"], w ∈ AW from List.forall_mem_cons.mpr ⟨tb1 (List.mem_of_getElem? (i := 50) rfl) rfl, List.forall_mem_cons.mpr ⟨tb1 (List.mem_of_getElem? (i := 52) rfl) rfl, fun _ h => absurd h List.not_mem_nil⟩⟩)
theorem in_Parser : ∀ w ∈ u_ws R_Parser T_Parser 11, w ∈ AW := (show ∀ w ∈ [Cond.laysFinal "SegmentReader$Parser" "SegmentReader$Parser" "input" "LSegmentReader$Bytes;", Cond.laysFinal "SegmentReader$Parser" "SegmentReader$Parser" "picture" "LSegmentReader$Picture;", Cond.laysFinal "SegmentReader$Parser" "SegmentReader$Parser" "scan" "LSegmentReader$Scan;", Cond.laysFinal "SegmentReader$Parser" "SegmentReader$Parser" "latestBits" "[I", Cond.laysFinal "SegmentReader$Parser" "SegmentReader$Parser" "seen" "[J", Cond.lays "SegmentReader$Parser" "SegmentReader$Parser" "place" "I", Cond.lays "SegmentReader$Parser" "SegmentReader$Parser" "lengthPlace" "I", Cond.lays "SegmentReader$Parser" "SegmentReader$Parser" "contentsEnd" "I", Cond.lays "SegmentReader$Parser" "SegmentReader$Parser" "linesDue" "Z", Cond.lays "SegmentReader$Parser" "SegmentReader$Parser" "fault" "I", Cond.lays "SegmentReader$Parser" "SegmentReader$Parser" "faultPlace" "I"], w ∈ AW from List.forall_mem_cons.mpr ⟨tb1 (List.mem_of_getElem? (i := 157) rfl) rfl, List.forall_mem_cons.mpr ⟨tb1 (List.mem_of_getElem? (i := 159) rfl) rfl, List.forall_mem_cons.mpr ⟨tb1 (List.mem_of_getElem? (i := 161) rfl) rfl, List.forall_mem_cons.mpr ⟨tb1 (List.mem_of_getElem? (i := 163) rfl) rfl, List.forall_mem_cons.mpr ⟨tb1 (List.mem_of_getElem? (i := 165) rfl) rfl, List.forall_mem_cons.mpr ⟨tb1 (List.mem_of_getElem? (i := 167) rfl) rfl, List.forall_mem_cons.mpr ⟨tb1 (List.mem_of_getElem? (i := 169) rfl) rfl, List.forall_mem_cons.mpr ⟨tb1 (List.mem_of_getElem? (i := 171) rfl) rfl, List.forall_mem_cons.mpr ⟨tb1 (List.mem_of_getElem? (i := 173) rfl) rfl, List.forall_mem_cons.mpr ⟨tb1 (List.mem_of_getElem? (i := 175) rfl) rfl, List.forall_mem_cons.mpr ⟨tb1 (List.mem_of_getElem? (i := 177) rfl) rfl, fun _ h => absurd h List.not_mem_nil⟩⟩⟩⟩⟩⟩⟩⟩⟩⟩⟩)
theorem in_Picture : ∀ w ∈ u_ws R_Picture T_Picture 12, w ∈ AW := (show ∀ w ∈ [Cond.laysFinal "SegmentReader$Picture" "SegmentReader$Picture" "input" "LSegmentReader$Bytes;", Cond.laysFinal "SegmentReader$Picture" "SegmentReader$Picture" "segments" "LSegmentReader$Numbers;", Cond.laysFinal "SegmentReader$Picture" "SegmentReader$Picture" "scans" "LSegmentReader$Numbers;", Cond.laysFinal "SegmentReader$Picture" "SegmentReader$Picture" "components" "[I", Cond.laysFinal "SegmentReader$Picture" "SegmentReader$Picture" "quantisersAt" "[I", Cond.laysFinal "SegmentReader$Picture" "SegmentReader$Picture" "wordsAt" "[I", Cond.lays "SegmentReader$Picture" "SegmentReader$Picture" "frameCode" "I", Cond.lays "SegmentReader$Picture" "SegmentReader$Picture" "width" "I", Cond.lays "SegmentReader$Picture" "SegmentReader$Picture" "height" "I", Cond.lays "SegmentReader$Picture" "SegmentReader$Picture" "componentCount" "I", Cond.lays "SegmentReader$Picture" "SegmentReader$Picture" "interval" "I", Cond.lays "SegmentReader$Picture" "SegmentReader$Picture" "end" "I"], w ∈ AW from List.forall_mem_cons.mpr ⟨tb1 (List.mem_of_getElem? (i := 83) rfl) rfl, List.forall_mem_cons.mpr ⟨tb1 (List.mem_of_getElem? (i := 85) rfl) rfl, List.forall_mem_cons.mpr ⟨tb1 (List.mem_of_getElem? (i := 87) rfl) rfl, List.forall_mem_cons.mpr ⟨tb1 (List.mem_of_getElem? (i := 89) rfl) rfl, List.forall_mem_cons.mpr ⟨tb1 (List.mem_of_getElem? (i := 91) rfl) rfl, List.forall_mem_cons.mpr ⟨tb1 (List.mem_of_getElem? (i := 93) rfl) rfl, List.forall_mem_cons.mpr ⟨tb1 (List.mem_of_getElem? (i := 95) rfl) rfl, List.forall_mem_cons.mpr ⟨tb1 (List.mem_of_getElem? (i := 97) rfl) rfl, List.forall_mem_cons.mpr ⟨tb1 (List.mem_of_getElem? (i := 99) rfl) rfl, List.forall_mem_cons.mpr ⟨tb1 (List.mem_of_getElem? (i := 101) rfl) rfl, List.forall_mem_cons.mpr ⟨tb1 (List.mem_of_getElem? (i := 103) rfl) rfl, List.forall_mem_cons.mpr ⟨tb1 (List.mem_of_getElem? (i := 105) rfl) rfl, fun _ h => absurd h List.not_mem_nil⟩⟩⟩⟩⟩⟩⟩⟩⟩⟩⟩⟩)
theorem in_Scan : ∀ w ∈ u_ws R_Scan T_Scan 7, w ∈ AW := (show ∀ w ∈ [Cond.lays "SegmentReader$Scan" "SegmentReader$Scan" "contents" "I", Cond.lays "SegmentReader$Scan" "SegmentReader$Scan" "count" "I", Cond.lays "SegmentReader$Scan" "SegmentReader$Scan" "first" "I", Cond.lays "SegmentReader$Scan" "SegmentReader$Scan" "last" "I", Cond.lays "SegmentReader$Scan" "SegmentReader$Scan" "before" "I", Cond.lays "SegmentReader$Scan" "SegmentReader$Scan" "bits" "I", Cond.laysFinal "SegmentReader$Scan" "SegmentReader$Scan" "places" "[I"], w ∈ AW from List.forall_mem_cons.mpr ⟨tb1 (List.mem_of_getElem? (i := 129) rfl) rfl, List.forall_mem_cons.mpr ⟨tb1 (List.mem_of_getElem? (i := 131) rfl) rfl, List.forall_mem_cons.mpr ⟨tb1 (List.mem_of_getElem? (i := 133) rfl) rfl, List.forall_mem_cons.mpr ⟨tb1 (List.mem_of_getElem? (i := 135) rfl) rfl, List.forall_mem_cons.mpr ⟨tb1 (List.mem_of_getElem? (i := 137) rfl) rfl, List.forall_mem_cons.mpr ⟨tb1 (List.mem_of_getElem? (i := 139) rfl) rfl, List.forall_mem_cons.mpr ⟨tb1 (List.mem_of_getElem? (i := 141) rfl) rfl, fun _ h => absurd h List.not_mem_nil⟩⟩⟩⟩⟩⟩⟩)
theorem in_Reader : ∀ w ∈ u_ws R_Reader T_Reader 3, w ∈ AW := (show ∀ w ∈ [Cond.laysFinal "SegmentReader" "SegmentReader" "input" "LSegmentReader$Bytes;", Cond.laysFinal "SegmentReader" "SegmentReader" "picture" "LSegmentReader$Picture;", Cond.laysFinal "SegmentReader" "SegmentReader" "parser" "LSegmentReader$Parser;"], w ∈ AW from List.forall_mem_cons.mpr ⟨tb1 (List.mem_of_getElem? (i := 184) rfl) rfl, List.forall_mem_cons.mpr ⟨tb1 (List.mem_of_getElem? (i := 186) rfl) rfl, List.forall_mem_cons.mpr ⟨tb1 (List.mem_of_getElem? (i := 188) rfl) rfl, fun _ h => absurd h List.not_mem_nil⟩⟩⟩)
theorem in_Model : ∀ w ∈ u_ws R_Model T_Model 40, w ∈ AW := (show ∀ w ∈ [Cond.lays "SegmentReaderModel" "SegmentReaderModel" "thrown" "I", Cond.laysFinal "SegmentReaderModel" "SegmentReaderModel" "input" "[B", Cond.lays "SegmentReaderModel" "SegmentReaderModel" "size" "I", Cond.lays "SegmentReaderModel" "SegmentReaderModel" "fault" "I", Cond.lays "SegmentReaderModel" "SegmentReaderModel" "place" "I", Cond.lays "SegmentReaderModel" "SegmentReaderModel" "p" "I", Cond.lays "SegmentReaderModel" "SegmentReaderModel" "end" "I", Cond.lays "SegmentReaderModel" "SegmentReaderModel" "first" "I", Cond.lays "SegmentReaderModel" "SegmentReaderModel" "ends" "I", Cond.lays "SegmentReaderModel" "SegmentReaderModel" "segments" "I", Cond.laysFinal "SegmentReaderModel" "SegmentReaderModel" "segmentRows" "[I", Cond.lays "SegmentReaderModel" "SegmentReaderModel" "frameCode" "I", Cond.lays "SegmentReaderModel" "SegmentReaderModel" "width" "I", Cond.lays "SegmentReaderModel" "SegmentReaderModel" "height" "I", Cond.lays "SegmentReaderModel" "SegmentReaderModel" "components" "I", Cond.laysFinal "SegmentReaderModel" "SegmentReaderModel" "names" "[I", Cond.laysFinal "SegmentReaderModel" "SegmentReaderModel" "across" "[I", Cond.laysFinal "SegmentReaderModel" "SegmentReaderModel" "down" "[I", Cond.laysFinal "SegmentReaderModel" "SegmentReaderModel" "tables" "[I", Cond.lays "SegmentReaderModel" "SegmentReaderModel" "interval" "I", Cond.laysFinal "SegmentReaderModel" "SegmentReaderModel" "hasQuantiser" "[Z", Cond.laysFinal "SegmentReaderModel" "SegmentReaderModel" "quantisers" "[I", Cond.laysFinal "SegmentReaderModel" "SegmentReaderModel" "hasWords" "[Z", Cond.laysFinal "SegmentReaderModel" "SegmentReaderModel" "counts" "[I", Cond.laysFinal "SegmentReaderModel" "SegmentReaderModel" "symbols" "[I", Cond.laysFinal "SegmentReaderModel" "SegmentReaderModel" "symbolMany" "[I", Cond.lays "SegmentReaderModel" "SegmentReaderModel" "scans" "I", Cond.laysFinal "SegmentReaderModel" "SegmentReaderModel" "scanRows" "[I", Cond.laysFinal "SegmentReaderModel" "SegmentReaderModel" "latest" "[I", Cond.lays "SegmentReaderModel" "SegmentReaderModel" "many" "I", Cond.laysFinal "SegmentReaderModel" "SegmentReaderModel" "which" "[I", Cond.laysFinal "SegmentReaderModel" "SegmentReaderModel" "dc" "[I", Cond.laysFinal "SegmentReaderModel" "SegmentReaderModel" "ac" "[I", Cond.laysFinal "SegmentReaderModel" "SegmentReaderModel" "nameAt" "[I", Cond.laysFinal "SegmentReaderModel" "SegmentReaderModel" "seen" "[Z", Cond.lays "SegmentReaderModel" "SegmentReaderModel" "begins" "I", Cond.lays "SegmentReaderModel" "SegmentReaderModel" "startScan" "I", Cond.lays "SegmentReaderModel" "SegmentReaderModel" "endScan" "I", Cond.lays "SegmentReaderModel" "SegmentReaderModel" "before" "I", Cond.lays "SegmentReaderModel" "SegmentReaderModel" "bits" "I"], w ∈ AW from List.forall_mem_cons.mpr ⟨tb3 (List.mem_of_getElem? (i := 85) rfl) rfl, List.forall_mem_cons.mpr ⟨tb3 (List.mem_of_getElem? (i := 87) rfl) rfl, List.forall_mem_cons.mpr ⟨tb3 (List.mem_of_getElem? (i := 89) rfl) rfl, List.forall_mem_cons.mpr ⟨tb3 (List.mem_of_getElem? (i := 91) rfl) rfl, List.forall_mem_cons.mpr ⟨tb3 (List.mem_of_getElem? (i := 93) rfl) rfl, List.forall_mem_cons.mpr ⟨tb3 (List.mem_of_getElem? (i := 95) rfl) rfl, List.forall_mem_cons.mpr ⟨tb3 (List.mem_of_getElem? (i := 97) rfl) rfl, List.forall_mem_cons.mpr ⟨tb3 (List.mem_of_getElem? (i := 99) rfl) rfl, List.forall_mem_cons.mpr ⟨tb3 (List.mem_of_getElem? (i := 101) rfl) rfl, List.forall_mem_cons.mpr ⟨tb3 (List.mem_of_getElem? (i := 103) rfl) rfl, List.forall_mem_cons.mpr ⟨tb3 (List.mem_of_getElem? (i := 105) rfl) rfl, List.forall_mem_cons.mpr ⟨tb3 (List.mem_of_getElem? (i := 107) rfl) rfl, List.forall_mem_cons.mpr ⟨tb3 (List.mem_of_getElem? (i := 109) rfl) rfl, List.forall_mem_cons.mpr ⟨tb3 (List.mem_of_getElem? (i := 111) rfl) rfl, List.forall_mem_cons.mpr ⟨tb3 (List.mem_of_getElem? (i := 113) rfl) rfl, List.forall_mem_cons.mpr ⟨tb3 (List.mem_of_getElem? (i := 115) rfl) rfl, List.forall_mem_cons.mpr ⟨tb3 (List.mem_of_getElem? (i := 117) rfl) rfl, List.forall_mem_cons.mpr ⟨tb3 (List.mem_of_getElem? (i := 119) rfl) rfl, List.forall_mem_cons.mpr ⟨tb3 (List.mem_of_getElem? (i := 121) rfl) rfl, List.forall_mem_cons.mpr ⟨tb3 (List.mem_of_getElem? (i := 123) rfl) rfl, List.forall_mem_cons.mpr ⟨tb3 (List.mem_of_getElem? (i := 125) rfl) rfl, List.forall_mem_cons.mpr ⟨tb3 (List.mem_of_getElem? (i := 127) rfl) rfl, List.forall_mem_cons.mpr ⟨tb3 (List.mem_of_getElem? (i := 129) rfl) rfl, List.forall_mem_cons.mpr ⟨tb3 (List.mem_of_getElem? (i := 131) rfl) rfl, List.forall_mem_cons.mpr ⟨tb3 (List.mem_of_getElem? (i := 133) rfl) rfl, List.forall_mem_cons.mpr ⟨tb3 (List.mem_of_getElem? (i := 135) rfl) rfl, List.forall_mem_cons.mpr ⟨tb3 (List.mem_of_getElem? (i := 137) rfl) rfl, List.forall_mem_cons.mpr ⟨tb3 (List.mem_of_getElem? (i := 139) rfl) rfl, List.forall_mem_cons.mpr ⟨tb3 (List.mem_of_getElem? (i := 141) rfl) rfl, List.forall_mem_cons.mpr ⟨tb3 (List.mem_of_getElem? (i := 143) rfl) rfl, List.forall_mem_cons.mpr ⟨tb3 (List.mem_of_getElem? (i := 145) rfl) rfl, List.forall_mem_cons.mpr ⟨tb3 (List.mem_of_getElem? (i := 147) rfl) rfl, List.forall_mem_cons.mpr ⟨tb3 (List.mem_of_getElem? (i := 149) rfl) rfl, List.forall_mem_cons.mpr ⟨tb3 (List.mem_of_getElem? (i := 151) rfl) rfl, List.forall_mem_cons.mpr ⟨tb3 (List.mem_of_getElem? (i := 153) rfl) rfl, List.forall_mem_cons.mpr ⟨tb3 (List.mem_of_getElem? (i := 155) rfl) rfl, List.forall_mem_cons.mpr ⟨tb3 (List.mem_of_getElem? (i := 157) rfl) rfl, List.forall_mem_cons.mpr ⟨tb3 (List.mem_of_getElem? (i := 159) rfl) rfl, List.forall_mem_cons.mpr ⟨tb3 (List.mem_of_getElem? (i := 161) rfl) rfl, List.forall_mem_cons.mpr ⟨tb3 (List.mem_of_getElem? (i := 163) rfl) rfl, fun _ h => absurd h List.not_mem_nil⟩⟩⟩⟩⟩⟩⟩⟩⟩⟩⟩⟩⟩⟩⟩⟩⟩⟩⟩⟩⟩⟩⟩⟩⟩⟩⟩⟩⟩⟩⟩⟩⟩⟩⟩⟩⟩⟩⟩⟩)
theorem k_se_Parser_fail : Cond.selects "SegmentReader$Parser" y_Parser_fail y_Parser_fail ∈ AW := tp1 (q := (y_Parser_fail, 11)) (List.mem_of_getElem? (i := 0) rfl)
theorem k_se_Parser_takeMarker : Cond.selects "SegmentReader$Parser" y_Parser_takeMarker y_Parser_takeMarker ∈ AW := tp1 (q := (y_Parser_takeMarker, 11)) (List.mem_of_getElem? (i := 1) rfl)
theorem k_se_Parser_canStand : Cond.selects "SegmentReader$Parser" y_Parser_canStand y_Parser_canStand ∈ AW := tp1 (q := (y_Parser_canStand, 11)) (List.mem_of_getElem? (i := 2) rfl)
theorem k_se_Parser_allBegun : Cond.selects "SegmentReader$Parser" y_Parser_allBegun y_Parser_allBegun ∈ AW := tp1 (q := (y_Parser_allBegun, 11)) (List.mem_of_getElem? (i := 3) rfl)
theorem k_se_Parser_latestOf : Cond.selects "SegmentReader$Parser" y_Parser_latestOf y_Parser_latestOf ∈ AW := tp1 (q := (y_Parser_latestOf, 11)) (List.mem_of_getElem? (i := 4) rfl)
theorem k_se_Parser_isFree : Cond.selects "SegmentReader$Parser" y_Parser_isFree y_Parser_isFree ∈ AW := tp1 (q := (y_Parser_isFree, 11)) (List.mem_of_getElem? (i := 5) rfl)
theorem k_se_Parser_takeLength : Cond.selects "SegmentReader$Parser" y_Parser_takeLength y_Parser_takeLength ∈ AW := tp1 (q := (y_Parser_takeLength, 11)) (List.mem_of_getElem? (i := 6) rfl)
theorem k_se_Parser_takePair : Cond.selects "SegmentReader$Parser" y_Parser_takePair y_Parser_takePair ∈ AW := tp1 (q := (y_Parser_takePair, 11)) (List.mem_of_getElem? (i := 7) rfl)
theorem k_se_Parser_take : Cond.selects "SegmentReader$Parser" y_Parser_take y_Parser_take ∈ AW := tp1 (q := (y_Parser_take, 11)) (List.mem_of_getElem? (i := 8) rfl)
theorem k_se_Parser_refuseTaken : Cond.selects "SegmentReader$Parser" y_Parser_refuseTaken y_Parser_refuseTaken ∈ AW := tp1 (q := (y_Parser_refuseTaken, 11)) (List.mem_of_getElem? (i := 9) rfl)
theorem k_se_Parser_readContents : Cond.selects "SegmentReader$Parser" y_Parser_readContents y_Parser_readContents ∈ AW := tp1 (q := (y_Parser_readContents, 11)) (List.mem_of_getElem? (i := 10) rfl)
theorem k_se_Parser_readQuantisers : Cond.selects "SegmentReader$Parser" y_Parser_readQuantisers y_Parser_readQuantisers ∈ AW := tp1 (q := (y_Parser_readQuantisers, 11)) (List.mem_of_getElem? (i := 11) rfl)
theorem k_se_Parser_moreContents : Cond.selects "SegmentReader$Parser" y_Parser_moreContents y_Parser_moreContents ∈ AW := tp1 (q := (y_Parser_moreContents, 11)) (List.mem_of_getElem? (i := 12) rfl)
theorem k_se_Parser_readWords : Cond.selects "SegmentReader$Parser" y_Parser_readWords y_Parser_readWords ∈ AW := tp1 (q := (y_Parser_readWords, 11)) (List.mem_of_getElem? (i := 13) rfl)
theorem k_se_Parser_takeCounts : Cond.selects "SegmentReader$Parser" y_Parser_takeCounts y_Parser_takeCounts ∈ AW := tp1 (q := (y_Parser_takeCounts, 11)) (List.mem_of_getElem? (i := 14) rfl)
theorem k_se_Parser_takeSymbols : Cond.selects "SegmentReader$Parser" y_Parser_takeSymbols y_Parser_takeSymbols ∈ AW := tp1 (q := (y_Parser_takeSymbols, 11)) (List.mem_of_getElem? (i := 15) rfl)
theorem k_se_Picture_rowOfWords : Cond.selects "SegmentReader$Picture" y_Picture_rowOfWords y_Picture_rowOfWords ∈ AW := tp2 (q := (y_Picture_rowOfWords, 12)) (List.mem_of_getElem? (i := 0) rfl)
theorem k_se_Parser_readFrame : Cond.selects "SegmentReader$Parser" y_Parser_readFrame y_Parser_readFrame ∈ AW := tp2 (q := (y_Parser_readFrame, 11)) (List.mem_of_getElem? (i := 1) rfl)
theorem k_se_Parser_readComponent : Cond.selects "SegmentReader$Parser" y_Parser_readComponent y_Parser_readComponent ∈ AW := tp2 (q := (y_Parser_readComponent, 11)) (List.mem_of_getElem? (i := 2) rfl)
theorem k_se_Parser_readScan : Cond.selects "SegmentReader$Parser" y_Parser_readScan y_Parser_readScan ∈ AW := tp2 (q := (y_Parser_readScan, 11)) (List.mem_of_getElem? (i := 3) rfl)
theorem k_se_Parser_takeScanComponents : Cond.selects "SegmentReader$Parser" y_Parser_takeScanComponents y_Parser_takeScanComponents ∈ AW := tp2 (q := (y_Parser_takeScanComponents, 11)) (List.mem_of_getElem? (i := 4) rfl)
theorem k_se_Parser_takeBits : Cond.selects "SegmentReader$Parser" y_Parser_takeBits y_Parser_takeBits ∈ AW := tp2 (q := (y_Parser_takeBits, 11)) (List.mem_of_getElem? (i := 5) rfl)
theorem k_se_Parser_checkSent : Cond.selects "SegmentReader$Parser" y_Parser_checkSent y_Parser_checkSent ∈ AW := tp2 (q := (y_Parser_checkSent, 11)) (List.mem_of_getElem? (i := 6) rfl)
theorem k_se_Parser_checkTables : Cond.selects "SegmentReader$Parser" y_Parser_checkTables y_Parser_checkTables ∈ AW := tp2 (q := (y_Parser_checkTables, 11)) (List.mem_of_getElem? (i := 7) rfl)
theorem k_se_Parser_noteSent : Cond.selects "SegmentReader$Parser" y_Parser_noteSent y_Parser_noteSent ∈ AW := tp2 (q := (y_Parser_noteSent, 11)) (List.mem_of_getElem? (i := 8) rfl)
theorem k_se_Parser_skipContents : Cond.selects "SegmentReader$Parser" y_Parser_skipContents y_Parser_skipContents ∈ AW := tp2 (q := (y_Parser_skipContents, 11)) (List.mem_of_getElem? (i := 9) rfl)
theorem k_se_Parser_readData : Cond.selects "SegmentReader$Parser" y_Parser_readData y_Parser_readData ∈ AW := tp2 (q := (y_Parser_readData, 11)) (List.mem_of_getElem? (i := 10) rfl)
theorem k_se_Parser_endData : Cond.selects "SegmentReader$Parser" y_Parser_endData y_Parser_endData ∈ AW := tp2 (q := (y_Parser_endData, 11)) (List.mem_of_getElem? (i := 11) rfl)
theorem k_se_Picture_greatest : Cond.selects "SegmentReader$Picture" y_Picture_greatest y_Picture_greatest ∈ AW := tp2 (q := (y_Picture_greatest, 12)) (List.mem_of_getElem? (i := 12) rfl)
theorem k_se_Picture_ofScanComponent : Cond.selects "SegmentReader$Picture" y_Picture_ofScanComponent y_Picture_ofScanComponent ∈ AW := tp2 (q := (y_Picture_ofScanComponent, 12)) (List.mem_of_getElem? (i := 13) rfl)
theorem k_se_Picture_wordCount : Cond.selects "SegmentReader$Picture" y_Picture_wordCount y_Picture_wordCount ∈ AW := tp2 (q := (y_Picture_wordCount, 12)) (List.mem_of_getElem? (i := 14) rfl)
theorem k_se_Model_forget : Cond.selects "SegmentReaderModel" y_Model_forget y_Model_forget ∈ AW := tp2 (q := (y_Model_forget, 40)) (List.mem_of_getElem? (i := 15) rfl)
theorem k_se_Model_readFile : Cond.selects "SegmentReaderModel" y_Model_readFile y_Model_readFile ∈ AW := tp3 (q := (y_Model_readFile, 40)) (List.mem_of_getElem? (i := 0) rfl)
theorem k_se_Model_next : Cond.selects "SegmentReaderModel" y_Model_next y_Model_next ∈ AW := tp3 (q := (y_Model_next, 40)) (List.mem_of_getElem? (i := 1) rfl)
theorem k_se_Model_lengthAt : Cond.selects "SegmentReaderModel" y_Model_lengthAt y_Model_lengthAt ∈ AW := tp3 (q := (y_Model_lengthAt, 40)) (List.mem_of_getElem? (i := 2) rfl)
theorem k_se_Model_wrong : Cond.selects "SegmentReaderModel" y_Model_wrong y_Model_wrong ∈ AW := tp3 (q := (y_Model_wrong, 40)) (List.mem_of_getElem? (i := 3) rfl)
theorem k_se_Model_byteAt : Cond.selects "SegmentReaderModel" y_Model_byteAt y_Model_byteAt ∈ AW := tp3 (q := (y_Model_byteAt, 40)) (List.mem_of_getElem? (i := 4) rfl)
theorem k_se_Model_marker : Cond.selects "SegmentReaderModel" y_Model_marker y_Model_marker ∈ AW := tp3 (q := (y_Model_marker, 40)) (List.mem_of_getElem? (i := 5) rfl)
theorem k_se_Model_isSent : Cond.selects "SegmentReaderModel" y_Model_isSent y_Model_isSent ∈ AW := tp3 (q := (y_Model_isSent, 40)) (List.mem_of_getElem? (i := 6) rfl)
theorem k_se_Model_segment1 : Cond.selects "SegmentReaderModel" y_Model_segment1 y_Model_segment1 ∈ AW := tp3 (q := (y_Model_segment1, 40)) (List.mem_of_getElem? (i := 7) rfl)
theorem k_se_Model_open : Cond.selects "SegmentReaderModel" y_Model_open y_Model_open ∈ AW := tp3 (q := (y_Model_open, 40)) (List.mem_of_getElem? (i := 8) rfl)
theorem k_se_Model_two : Cond.selects "SegmentReaderModel" y_Model_two y_Model_two ∈ AW := tp3 (q := (y_Model_two, 40)) (List.mem_of_getElem? (i := 9) rfl)
theorem k_se_Model_readQuantisers : Cond.selects "SegmentReaderModel" y_Model_readQuantisers y_Model_readQuantisers ∈ AW := tp3 (q := (y_Model_readQuantisers, 40)) (List.mem_of_getElem? (i := 10) rfl)
theorem k_se_Model_must : Cond.selects "SegmentReaderModel" y_Model_must y_Model_must ∈ AW := tp3 (q := (y_Model_must, 40)) (List.mem_of_getElem? (i := 11) rfl)
theorem k_se_Model_readWords : Cond.selects "SegmentReaderModel" y_Model_readWords y_Model_readWords ∈ AW := tp3 (q := (y_Model_readWords, 40)) (List.mem_of_getElem? (i := 12) rfl)
theorem k_se_Model_readTable : Cond.selects "SegmentReaderModel" y_Model_readTable y_Model_readTable ∈ AW := tp3 (q := (y_Model_readTable, 40)) (List.mem_of_getElem? (i := 13) rfl)
theorem k_se_Model_readFrame : Cond.selects "SegmentReaderModel" y_Model_readFrame y_Model_readFrame ∈ AW := tp3 (q := (y_Model_readFrame, 40)) (List.mem_of_getElem? (i := 14) rfl)
theorem k_se_Model_readScan : Cond.selects "SegmentReaderModel" y_Model_readScan y_Model_readScan ∈ AW := tp3 (q := (y_Model_readScan, 40)) (List.mem_of_getElem? (i := 15) rfl)
theorem k_se_Model_named : Cond.selects "SegmentReaderModel" y_Model_named y_Model_named ∈ AW := tp4 (q := (y_Model_named, 40)) (List.mem_of_getElem? (i := 0) rfl)
theorem k_se_Model_order : Cond.selects "SegmentReaderModel" y_Model_order y_Model_order ∈ AW := tp4 (q := (y_Model_order, 40)) (List.mem_of_getElem? (i := 1) rfl)
theorem k_se_Model_needs : Cond.selects "SegmentReaderModel" y_Model_needs y_Model_needs ∈ AW := tp4 (q := (y_Model_needs, 40)) (List.mem_of_getElem? (i := 2) rfl)
theorem k_se_Model_any : Cond.selects "SegmentReaderModel" y_Model_any y_Model_any ∈ AW := tp4 (q := (y_Model_any, 40)) (List.mem_of_getElem? (i := 3) rfl)
theorem k_se_Model_close : Cond.selects "SegmentReaderModel" y_Model_close y_Model_close ∈ AW := tp4 (q := (y_Model_close, 40)) (List.mem_of_getElem? (i := 4) rfl)
theorem k_se_Model_keepScan : Cond.selects "SegmentReaderModel" y_Model_keepScan y_Model_keepScan ∈ AW := tp4 (q := (y_Model_keepScan, 40)) (List.mem_of_getElem? (i := 5) rfl)
theorem k_se_Model_readData : Cond.selects "SegmentReaderModel" y_Model_readData y_Model_readData ∈ AW := tp4 (q := (y_Model_readData, 40)) (List.mem_of_getElem? (i := 6) rfl)
theorem k_in_Law : Cond.initialized "SegmentReaderLaw" ∈ AW := tb1 (List.mem_of_getElem? (i := 0) rfl) rfl
theorem k_in_Reader : Cond.initialized "SegmentReader" ∈ AW := tb1 (List.mem_of_getElem? (i := 1) rfl) rfl
theorem k_in_Bytes : Cond.initialized "SegmentReader$Bytes" ∈ AW := tb1 (List.mem_of_getElem? (i := 2) rfl) rfl
theorem k_in_Picture : Cond.initialized "SegmentReader$Picture" ∈ AW := tb1 (List.mem_of_getElem? (i := 3) rfl) rfl
theorem k_in_Numbers : Cond.initialized "SegmentReader$Numbers" ∈ AW := tb1 (List.mem_of_getElem? (i := 4) rfl) rfl
theorem k_in_Arrays : Cond.initialized "java/util/Arrays" ∈ AW := tb1 (List.mem_of_getElem? (i := 5) rfl) rfl
theorem k_in_Parser : Cond.initialized "SegmentReader$Parser" ∈ AW := tb1 (List.mem_of_getElem? (i := 6) rfl) rfl
theorem k_in_Scan : Cond.initialized "SegmentReader$Scan" ∈ AW := tb1 (List.mem_of_getElem? (i := 7) rfl) rfl
theorem k_in_Model : Cond.initialized "SegmentReaderModel" ∈ AW := tb1 (List.mem_of_getElem? (i := 8) rfl) rfl
theorem k_in_Math : Cond.initialized "java/lang/Math" ∈ AW := tb1 (List.mem_of_getElem? (i := 9) rfl) rfl
theorem k_in_java_lang_System : Cond.initialized "java/lang/System" ∈ AW := tb1 (List.mem_of_getElem? (i := 10) rfl) rfl
theorem k_cl_Law_7 : Cond.classLink "SegmentReaderLaw" 7 "SegmentReader" ∈ AW := tb1 (List.mem_of_getElem? (i := 11) rfl) rfl
theorem k_is_Reader : Cond.instantiable "SegmentReader" 3 ∈ AW := tb1 (List.mem_of_getElem? (i := 12) rfl) rfl
theorem k_ml_Law_9 : Cond.methodLink "SegmentReaderLaw" 9 y_Reader_init ∈ AW := tb1 (List.mem_of_getElem? (i := 13) rfl) rfl
theorem k_im_Reader_init : Cond.instanceMethod y_Reader_init ∈ AW := tb1 (List.mem_of_getElem? (i := 14) rfl) rfl
theorem k_cd_Reader_init : Cond.code y_Reader_init c_Reader_init 1 none ∈ AW := tb1 (List.mem_of_getElem? (i := 15) rfl) rfl
theorem k_ml_Reader_1 : Cond.methodLink "SegmentReader" 1 ⟨"java/lang/Object", "<init>", "()V"⟩ ∈ AW := tb1 (List.mem_of_getElem? (i := 16) rfl) rfl
theorem k_im_Object_init : Cond.instanceMethod ⟨"java/lang/Object", "<init>", "()V"⟩ ∈ AW := tb1 (List.mem_of_getElem? (i := 17) rfl) rfl
theorem k_cd_Object_init : Cond.code objectInit ⟨#[0xb1]⟩ 1 none ∈ AW := tb1 (List.mem_of_getElem? (i := 18) rfl) rfl
theorem k_cl_Reader_7 : Cond.classLink "SegmentReader" 7 "SegmentReader$Bytes" ∈ AW := tb1 (List.mem_of_getElem? (i := 19) rfl) rfl
theorem k_is_Bytes : Cond.instantiable "SegmentReader$Bytes" 2 ∈ AW := tb1 (List.mem_of_getElem? (i := 20) rfl) rfl
theorem k_mln_Reader_9 : Cond.methodLinkNest "SegmentReader" 9 y_Bytes_init "SegmentReader" ∈ nestL := tn1 (List.mem_of_getElem? (i := 21) rfl) rfl
theorem k_im_Bytes_init : Cond.instanceMethod y_Bytes_init ∈ AW := tb1 (List.mem_of_getElem? (i := 22) rfl) rfl
theorem k_cd_Bytes_init : Cond.code y_Bytes_init c_Bytes_init 1 none ∈ AW := tb1 (List.mem_of_getElem? (i := 23) rfl) rfl
theorem k_ml_Bytes_3 : Cond.methodLink "SegmentReader$Bytes" 3 ⟨"java/lang/Object", "<init>", "()V"⟩ ∈ AW := tb1 (List.mem_of_getElem? (i := 24) rfl) rfl
theorem k_fl_Bytes_9 : Cond.fieldLink "SegmentReader$Bytes" 9 "SegmentReader$Bytes" "held" "[B" ∈ AW := tb1 (List.mem_of_getElem? (i := 25) rfl) rfl
theorem k_fl_Bytes_15 : Cond.fieldLink "SegmentReader$Bytes" 15 "SegmentReader$Bytes" "size" "I" ∈ AW := tb1 (List.mem_of_getElem? (i := 26) rfl) rfl
theorem k_fln_Reader_34 : Cond.fieldLinkNest "SegmentReader" 34 "SegmentReader$Bytes" "size" "I" "SegmentReader" ∈ nestL := tn1 (List.mem_of_getElem? (i := 27) rfl) rfl
theorem k_fln_Parser_68 : Cond.fieldLinkNest "SegmentReader$Parser" 68 "SegmentReader$Bytes" "size" "I" "SegmentReader" ∈ nestL := tn1 (List.mem_of_getElem? (i := 28) rfl) rfl
theorem k_ac_byte : Cond.arrayClass .byte ∈ AW := tb1 (List.mem_of_getElem? (i := 34) rfl) rfl
theorem k_cl_Reader_16 : Cond.classLink "SegmentReader" 16 "SegmentReader$Picture" ∈ AW := tb1 (List.mem_of_getElem? (i := 35) rfl) rfl
theorem k_is_Picture : Cond.instantiable "SegmentReader$Picture" 12 ∈ AW := tb1 (List.mem_of_getElem? (i := 36) rfl) rfl
theorem k_ml_Reader_18 : Cond.methodLink "SegmentReader" 18 y_Picture_init ∈ AW := tb1 (List.mem_of_getElem? (i := 37) rfl) rfl
theorem k_im_Picture_init : Cond.instanceMethod y_Picture_init ∈ AW := tb1 (List.mem_of_getElem? (i := 38) rfl) rfl
theorem k_cd_Picture_init : Cond.code y_Picture_init c_Picture_init 2 none ∈ AW := tb1 (List.mem_of_getElem? (i := 39) rfl) rfl
theorem k_ml_Picture_3 : Cond.methodLink "SegmentReader$Picture" 3 ⟨"java/lang/Object", "<init>", "()V"⟩ ∈ AW := tb1 (List.mem_of_getElem? (i := 40) rfl) rfl
theorem k_cl_Picture_9 : Cond.classLink "SegmentReader$Picture" 9 "SegmentReader$Numbers" ∈ AW := tb1 (List.mem_of_getElem? (i := 41) rfl) rfl
theorem k_is_Numbers : Cond.instantiable "SegmentReader$Numbers" 2 ∈ AW := tb1 (List.mem_of_getElem? (i := 42) rfl) rfl
theorem k_mln_Picture_11 : Cond.methodLinkNest "SegmentReader$Picture" 11 y_Numbers_init "SegmentReader" ∈ nestL := tn1 (List.mem_of_getElem? (i := 43) rfl) rfl
theorem k_im_Numbers_init : Cond.instanceMethod y_Numbers_init ∈ AW := tb1 (List.mem_of_getElem? (i := 44) rfl) rfl
theorem k_cd_Numbers_init : Cond.code y_Numbers_init c_Numbers_init 1 none ∈ AW := tb1 (List.mem_of_getElem? (i := 45) rfl) rfl
theorem k_ml_Numbers_3 : Cond.methodLink "SegmentReader$Numbers" 3 ⟨"java/lang/Object", "<init>", "()V"⟩ ∈ AW := tb1 (List.mem_of_getElem? (i := 46) rfl) rfl
theorem k_fl_Numbers_9 : Cond.fieldLink "SegmentReader$Numbers" 9 "SegmentReader$Numbers" "held" "[I" ∈ AW := tb1 (List.mem_of_getElem? (i := 47) rfl) rfl
theorem k_fl_Numbers_15 : Cond.fieldLink "SegmentReader$Numbers" 15 "SegmentReader$Numbers" "size" "I" ∈ AW := tb1 (List.mem_of_getElem? (i := 48) rfl) rfl
theorem k_fln_Picture_38 : Cond.fieldLinkNest "SegmentReader$Picture" 38 "SegmentReader$Numbers" "size" "I" "SegmentReader" ∈ nestL := tn1 (List.mem_of_getElem? (i := 49) rfl) rfl
theorem k_ac_int : Cond.arrayClass .int ∈ AW := tb1 (List.mem_of_getElem? (i := 55) rfl) rfl
theorem k_ml_Picture_35 : Cond.methodLink "SegmentReader$Picture" 35 y_Picture_clear ∈ AW := tb1 (List.mem_of_getElem? (i := 56) rfl) rfl
theorem k_im_Picture_clear : Cond.instanceMethod y_Picture_clear ∈ AW := tb1 (List.mem_of_getElem? (i := 57) rfl) rfl
theorem k_se_Picture_clear : Cond.selects "SegmentReader$Picture" y_Picture_clear y_Picture_clear ∈ AW := tb1 (List.mem_of_getElem? (i := 58) rfl) rfl
theorem k_cd_Picture_clear : Cond.code y_Picture_clear c_Picture_clear 1 none ∈ AW := tb1 (List.mem_of_getElem? (i := 59) rfl) rfl
theorem k_ml_Picture_42 : Cond.methodLink "SegmentReader$Picture" 42 y_Arrays_fillI ∈ AW := tb1 (List.mem_of_getElem? (i := 60) rfl) rfl
theorem k_st_Arrays_fillI : Cond.static y_Arrays_fillI ∈ AW := tb1 (List.mem_of_getElem? (i := 61) rfl) rfl
theorem k_cd_Arrays_fillI : Cond.code y_Arrays_fillI c_Arrays_fillI 4 none ∈ AW := tb1 (List.mem_of_getElem? (i := 62) rfl) rfl
theorem k_fl_Picture_31 : Cond.fieldLink "SegmentReader$Picture" 31 "SegmentReader$Picture" "input" "LSegmentReader$Bytes;" ∈ AW := tb1 (List.mem_of_getElem? (i := 63) rfl) rfl
theorem k_fl_Picture_12 : Cond.fieldLink "SegmentReader$Picture" 12 "SegmentReader$Picture" "segments" "LSegmentReader$Numbers;" ∈ AW := tb1 (List.mem_of_getElem? (i := 64) rfl) rfl
theorem k_fl_Picture_18 : Cond.fieldLink "SegmentReader$Picture" 18 "SegmentReader$Picture" "scans" "LSegmentReader$Numbers;" ∈ AW := tb1 (List.mem_of_getElem? (i := 65) rfl) rfl
theorem k_fl_Picture_21 : Cond.fieldLink "SegmentReader$Picture" 21 "SegmentReader$Picture" "components" "[I" ∈ AW := tb1 (List.mem_of_getElem? (i := 66) rfl) rfl
theorem k_fl_Picture_25 : Cond.fieldLink "SegmentReader$Picture" 25 "SegmentReader$Picture" "quantisersAt" "[I" ∈ AW := tb1 (List.mem_of_getElem? (i := 67) rfl) rfl
theorem k_fl_Picture_28 : Cond.fieldLink "SegmentReader$Picture" 28 "SegmentReader$Picture" "wordsAt" "[I" ∈ AW := tb1 (List.mem_of_getElem? (i := 68) rfl) rfl
theorem k_fl_Picture_48 : Cond.fieldLink "SegmentReader$Picture" 48 "SegmentReader$Picture" "frameCode" "I" ∈ AW := tb1 (List.mem_of_getElem? (i := 69) rfl) rfl
theorem k_fln_Parser_106 : Cond.fieldLinkNest "SegmentReader$Parser" 106 "SegmentReader$Picture" "frameCode" "I" "SegmentReader" ∈ nestL := tn1 (List.mem_of_getElem? (i := 70) rfl) rfl
theorem k_fl_Picture_51 : Cond.fieldLink "SegmentReader$Picture" 51 "SegmentReader$Picture" "width" "I" ∈ AW := tb1 (List.mem_of_getElem? (i := 71) rfl) rfl
theorem k_fln_Parser_171 : Cond.fieldLinkNest "SegmentReader$Parser" 171 "SegmentReader$Picture" "width" "I" "SegmentReader" ∈ nestL := tn1 (List.mem_of_getElem? (i := 72) rfl) rfl
theorem k_fl_Picture_54 : Cond.fieldLink "SegmentReader$Picture" 54 "SegmentReader$Picture" "height" "I" ∈ AW := tb1 (List.mem_of_getElem? (i := 73) rfl) rfl
theorem k_fln_Parser_141 : Cond.fieldLinkNest "SegmentReader$Parser" 141 "SegmentReader$Picture" "height" "I" "SegmentReader" ∈ nestL := tn1 (List.mem_of_getElem? (i := 74) rfl) rfl
theorem k_fl_Picture_57 : Cond.fieldLink "SegmentReader$Picture" 57 "SegmentReader$Picture" "componentCount" "I" ∈ AW := tb1 (List.mem_of_getElem? (i := 75) rfl) rfl
theorem k_fln_Parser_116 : Cond.fieldLinkNest "SegmentReader$Parser" 116 "SegmentReader$Picture" "componentCount" "I" "SegmentReader" ∈ nestL := tn1 (List.mem_of_getElem? (i := 76) rfl) rfl
theorem k_fl_Picture_60 : Cond.fieldLink "SegmentReader$Picture" 60 "SegmentReader$Picture" "interval" "I" ∈ AW := tb1 (List.mem_of_getElem? (i := 77) rfl) rfl
theorem k_fln_Reader_95 : Cond.fieldLinkNest "SegmentReader" 95 "SegmentReader$Picture" "interval" "I" "SegmentReader" ∈ nestL := tn1 (List.mem_of_getElem? (i := 78) rfl) rfl
theorem k_fln_Parser_132 : Cond.fieldLinkNest "SegmentReader$Parser" 132 "SegmentReader$Picture" "interval" "I" "SegmentReader" ∈ nestL := tn1 (List.mem_of_getElem? (i := 79) rfl) rfl
theorem k_fl_Picture_63 : Cond.fieldLink "SegmentReader$Picture" 63 "SegmentReader$Picture" "end" "I" ∈ AW := tb1 (List.mem_of_getElem? (i := 80) rfl) rfl
theorem k_fln_Parser_81 : Cond.fieldLinkNest "SegmentReader$Parser" 81 "SegmentReader$Picture" "end" "I" "SegmentReader" ∈ nestL := tn1 (List.mem_of_getElem? (i := 81) rfl) rfl
theorem k_fln_Reader_98 : Cond.fieldLinkNest "SegmentReader" 98 "SegmentReader$Picture" "end" "I" "SegmentReader" ∈ nestL := tn1 (List.mem_of_getElem? (i := 82) rfl) rfl
theorem k_cl_Reader_25 : Cond.classLink "SegmentReader" 25 "SegmentReader$Parser" ∈ AW := tb1 (List.mem_of_getElem? (i := 108) rfl) rfl
theorem k_is_Parser : Cond.instantiable "SegmentReader$Parser" 11 ∈ AW := tb1 (List.mem_of_getElem? (i := 109) rfl) rfl
theorem k_ml_Reader_27 : Cond.methodLink "SegmentReader" 27 y_Parser_init ∈ AW := tb1 (List.mem_of_getElem? (i := 110) rfl) rfl
theorem k_im_Parser_init : Cond.instanceMethod y_Parser_init ∈ AW := tb1 (List.mem_of_getElem? (i := 111) rfl) rfl
theorem k_cd_Parser_init : Cond.code y_Parser_init c_Parser_init 3 none ∈ AW := tb1 (List.mem_of_getElem? (i := 112) rfl) rfl
theorem k_ml_Parser_3 : Cond.methodLink "SegmentReader$Parser" 3 ⟨"java/lang/Object", "<init>", "()V"⟩ ∈ AW := tb1 (List.mem_of_getElem? (i := 113) rfl) rfl
theorem k_cl_Parser_9 : Cond.classLink "SegmentReader$Parser" 9 "SegmentReader$Scan" ∈ AW := tb1 (List.mem_of_getElem? (i := 114) rfl) rfl
theorem k_is_Scan : Cond.instantiable "SegmentReader$Scan" 7 ∈ AW := tb1 (List.mem_of_getElem? (i := 115) rfl) rfl
theorem k_mln_Parser_11 : Cond.methodLinkNest "SegmentReader$Parser" 11 y_Scan_init "SegmentReader" ∈ nestL := tn1 (List.mem_of_getElem? (i := 116) rfl) rfl
theorem k_im_Scan_init : Cond.instanceMethod y_Scan_init ∈ AW := tb1 (List.mem_of_getElem? (i := 117) rfl) rfl
theorem k_cd_Scan_init : Cond.code y_Scan_init c_Scan_init 1 none ∈ AW := tb1 (List.mem_of_getElem? (i := 118) rfl) rfl
theorem k_ml_Scan_3 : Cond.methodLink "SegmentReader$Scan" 3 ⟨"java/lang/Object", "<init>", "()V"⟩ ∈ AW := tb1 (List.mem_of_getElem? (i := 119) rfl) rfl
theorem k_fl_Scan_15 : Cond.fieldLink "SegmentReader$Scan" 15 "SegmentReader$Scan" "contents" "I" ∈ AW := tb1 (List.mem_of_getElem? (i := 120) rfl) rfl
theorem k_fln_Parser_184 : Cond.fieldLinkNest "SegmentReader$Parser" 184 "SegmentReader$Scan" "contents" "I" "SegmentReader" ∈ nestL := tn1 (List.mem_of_getElem? (i := 121) rfl) rfl
theorem k_fln_Parser_187 : Cond.fieldLinkNest "SegmentReader$Parser" 187 "SegmentReader$Scan" "count" "I" "SegmentReader" ∈ nestL := tn1 (List.mem_of_getElem? (i := 122) rfl) rfl
theorem k_fln_Parser_193 : Cond.fieldLinkNest "SegmentReader$Parser" 193 "SegmentReader$Scan" "first" "I" "SegmentReader" ∈ nestL := tn1 (List.mem_of_getElem? (i := 123) rfl) rfl
theorem k_fln_Parser_196 : Cond.fieldLinkNest "SegmentReader$Parser" 196 "SegmentReader$Scan" "last" "I" "SegmentReader" ∈ nestL := tn1 (List.mem_of_getElem? (i := 124) rfl) rfl
theorem k_fln_Parser_217 : Cond.fieldLinkNest "SegmentReader$Parser" 217 "SegmentReader$Scan" "before" "I" "SegmentReader" ∈ nestL := tn1 (List.mem_of_getElem? (i := 125) rfl) rfl
theorem k_fln_Parser_220 : Cond.fieldLinkNest "SegmentReader$Parser" 220 "SegmentReader$Scan" "bits" "I" "SegmentReader" ∈ nestL := tn1 (List.mem_of_getElem? (i := 126) rfl) rfl
theorem k_fl_Scan_9 : Cond.fieldLink "SegmentReader$Scan" 9 "SegmentReader$Scan" "places" "[I" ∈ AW := tb1 (List.mem_of_getElem? (i := 127) rfl) rfl
theorem k_fln_Parser_214 : Cond.fieldLinkNest "SegmentReader$Parser" 214 "SegmentReader$Scan" "places" "[I" "SegmentReader" ∈ nestL := tn1 (List.mem_of_getElem? (i := 128) rfl) rfl
theorem k_fl_Parser_46 : Cond.fieldLink "SegmentReader$Parser" 46 "SegmentReader$Parser" "input" "LSegmentReader$Bytes;" ∈ AW := tb1 (List.mem_of_getElem? (i := 144) rfl) rfl
theorem k_fl_Parser_50 : Cond.fieldLink "SegmentReader$Parser" 50 "SegmentReader$Parser" "picture" "LSegmentReader$Picture;" ∈ AW := tb1 (List.mem_of_getElem? (i := 145) rfl) rfl
theorem k_fl_Parser_12 : Cond.fieldLink "SegmentReader$Parser" 12 "SegmentReader$Parser" "scan" "LSegmentReader$Scan;" ∈ AW := tb1 (List.mem_of_getElem? (i := 146) rfl) rfl
theorem k_fl_Parser_18 : Cond.fieldLink "SegmentReader$Parser" 18 "SegmentReader$Parser" "latestBits" "[I" ∈ AW := tb1 (List.mem_of_getElem? (i := 147) rfl) rfl
theorem k_fl_Parser_22 : Cond.fieldLink "SegmentReader$Parser" 22 "SegmentReader$Parser" "seen" "[J" ∈ AW := tb1 (List.mem_of_getElem? (i := 148) rfl) rfl
theorem k_fl_Parser_26 : Cond.fieldLink "SegmentReader$Parser" 26 "SegmentReader$Parser" "place" "I" ∈ AW := tb1 (List.mem_of_getElem? (i := 149) rfl) rfl
theorem k_fl_Parser_30 : Cond.fieldLink "SegmentReader$Parser" 30 "SegmentReader$Parser" "lengthPlace" "I" ∈ AW := tb1 (List.mem_of_getElem? (i := 150) rfl) rfl
theorem k_fl_Parser_33 : Cond.fieldLink "SegmentReader$Parser" 33 "SegmentReader$Parser" "contentsEnd" "I" ∈ AW := tb1 (List.mem_of_getElem? (i := 151) rfl) rfl
theorem k_fl_Parser_36 : Cond.fieldLink "SegmentReader$Parser" 36 "SegmentReader$Parser" "linesDue" "Z" ∈ AW := tb1 (List.mem_of_getElem? (i := 152) rfl) rfl
theorem k_fl_Parser_40 : Cond.fieldLink "SegmentReader$Parser" 40 "SegmentReader$Parser" "fault" "I" ∈ AW := tb1 (List.mem_of_getElem? (i := 153) rfl) rfl
theorem k_fln_Reader_83 : Cond.fieldLinkNest "SegmentReader" 83 "SegmentReader$Parser" "fault" "I" "SegmentReader" ∈ nestL := tn1 (List.mem_of_getElem? (i := 154) rfl) rfl
theorem k_fl_Parser_43 : Cond.fieldLink "SegmentReader$Parser" 43 "SegmentReader$Parser" "faultPlace" "I" ∈ AW := tb1 (List.mem_of_getElem? (i := 155) rfl) rfl
theorem k_fln_Reader_86 : Cond.fieldLinkNest "SegmentReader" 86 "SegmentReader$Parser" "faultPlace" "I" "SegmentReader" ∈ nestL := tn1 (List.mem_of_getElem? (i := 156) rfl) rfl
theorem k_ac_long : Cond.arrayClass .long ∈ AW := tb1 (List.mem_of_getElem? (i := 180) rfl) rfl
theorem k_fl_Reader_10 : Cond.fieldLink "SegmentReader" 10 "SegmentReader" "input" "LSegmentReader$Bytes;" ∈ AW := tb1 (List.mem_of_getElem? (i := 181) rfl) rfl
theorem k_fl_Reader_21 : Cond.fieldLink "SegmentReader" 21 "SegmentReader" "picture" "LSegmentReader$Picture;" ∈ AW := tb1 (List.mem_of_getElem? (i := 182) rfl) rfl
theorem k_fl_Reader_30 : Cond.fieldLink "SegmentReader" 30 "SegmentReader" "parser" "LSegmentReader$Parser;" ∈ AW := tb1 (List.mem_of_getElem? (i := 183) rfl) rfl
theorem k_ml_Law_15 : Cond.methodLink "SegmentReaderLaw" 15 y_Reader_give ∈ AW := tb1 (List.mem_of_getElem? (i := 191) rfl) rfl
theorem k_im_Reader_give : Cond.instanceMethod y_Reader_give ∈ AW := tb1 (List.mem_of_getElem? (i := 192) rfl) rfl
theorem k_se_Reader_give : Cond.selects "SegmentReader" y_Reader_give y_Reader_give ∈ AW := tb1 (List.mem_of_getElem? (i := 193) rfl) rfl
theorem k_cd_Reader_give : Cond.code y_Reader_give c_Reader_give 5 (some .boolean) ∈ AW := tb1 (List.mem_of_getElem? (i := 194) rfl) rfl
theorem k_ml_Reader_38 : Cond.methodLink "SegmentReader" 38 y_Bytes_add ∈ AW := tb1 (List.mem_of_getElem? (i := 195) rfl) rfl
theorem k_im_Bytes_add : Cond.instanceMethod y_Bytes_add ∈ AW := tb1 (List.mem_of_getElem? (i := 196) rfl) rfl
theorem k_se_Bytes_add : Cond.selects "SegmentReader$Bytes" y_Bytes_add y_Bytes_add ∈ AW := tb1 (List.mem_of_getElem? (i := 197) rfl) rfl
theorem k_cd_Bytes_add : Cond.code y_Bytes_add c_Bytes_add 2 none ∈ AW := tb1 (List.mem_of_getElem? (i := 198) rfl) rfl
theorem k_ml_Bytes_19 : Cond.methodLink "SegmentReader$Bytes" 19 y_Arrays_copyOfB ∈ AW := tb1 (List.mem_of_getElem? (i := 199) rfl) rfl
theorem k_st_Arrays_copyOfB : Cond.static y_Arrays_copyOfB ∈ AW := tb1 (List.mem_of_getElem? (i := 200) rfl) rfl
theorem k_cd_Arrays_copyOfB : Cond.code y_Arrays_copyOfB c_Arrays_copyOfB 3 (some (.array .byte)) ∈ AW := tb1 (List.mem_of_getElem? (i := 201) rfl) rfl
theorem k_ml_Arrays_310 : Cond.methodLink "java/util/Arrays" 310 ⟨"[B", "clone", "()Ljava/lang/Object;"⟩ ∈ AW := tb1 (List.mem_of_getElem? (i := 202) rfl) rfl
theorem k_na_Object_clone : Cond.native ⟨"java/lang/Object", "clone", "()Ljava/lang/Object;"⟩ ∈ AW := tb1 (List.mem_of_getElem? (i := 204) rfl) rfl
theorem k_im_Object_clone : Cond.instanceMethod ⟨"java/lang/Object", "clone", "()Ljava/lang/Object;"⟩ ∈ AW := tb1 (List.mem_of_getElem? (i := 205) rfl) rfl
theorem k_se_AB_clone : Cond.selects "[B" ⟨"[B", "clone", "()Ljava/lang/Object;"⟩ ⟨"java/lang/Object", "clone", "()Ljava/lang/Object;"⟩ ∈ AW := tb1 (List.mem_of_getElem? (i := 206) rfl) rfl
theorem k_cl_Arrays_311 : Cond.classLink "java/util/Arrays" 311 "[B" ∈ AW := tb1 (List.mem_of_getElem? (i := 208) rfl) rfl
theorem k_ml_Arrays_304 : Cond.methodLink "java/util/Arrays" 304 y_Math_min ∈ AW := tb1 (List.mem_of_getElem? (i := 209) rfl) rfl
theorem k_st_Math_min : Cond.static y_Math_min ∈ AW := tb1 (List.mem_of_getElem? (i := 210) rfl) rfl
theorem k_cd_Math_min : Cond.code y_Math_min c_Math_min 2 (some .int) ∈ AW := tb1 (List.mem_of_getElem? (i := 211) rfl) rfl
theorem k_ml_Arrays_150 : Cond.methodLink "java/util/Arrays" 150 ⟨"java/lang/System", "arraycopy", "(Ljava/lang/Object;ILjava/lang/Object;II)V"⟩ ∈ AW := tb1 (List.mem_of_getElem? (i := 212) rfl) rfl
theorem k_st_java_lang_System_arraycopy : Cond.static ⟨"java/lang/System", "arraycopy", "(Ljava/lang/Object;ILjava/lang/Object;II)V"⟩ ∈ AW := tb1 (List.mem_of_getElem? (i := 213) rfl) rfl
theorem k_na_java_lang_System_arraycopy : Cond.native ⟨"java/lang/System", "arraycopy", "(Ljava/lang/Object;ILjava/lang/Object;II)V"⟩ ∈ AW := tb1 (List.mem_of_getElem? (i := 214) rfl) rfl
theorem k_ml_Reader_42 : Cond.methodLink "SegmentReader" 42 y_Parser_forget ∈ AW := tb1 (List.mem_of_getElem? (i := 215) rfl) rfl
theorem k_im_Parser_forget : Cond.instanceMethod y_Parser_forget ∈ AW := tb1 (List.mem_of_getElem? (i := 216) rfl) rfl
theorem k_se_Parser_forget : Cond.selects "SegmentReader$Parser" y_Parser_forget y_Parser_forget ∈ AW := tb1 (List.mem_of_getElem? (i := 217) rfl) rfl
theorem k_cd_Parser_forget : Cond.code y_Parser_forget c_Parser_forget 1 none ∈ AW := tb1 (List.mem_of_getElem? (i := 218) rfl) rfl
theorem k_ml_Parser_54 : Cond.methodLink "SegmentReader$Parser" 54 y_Picture_clear ∈ AW := tb1 (List.mem_of_getElem? (i := 219) rfl) rfl
theorem k_ml_Law_20 : Cond.methodLink "SegmentReaderLaw" 20 y_Reader_wipe ∈ AW := tb1 (List.mem_of_getElem? (i := 220) rfl) rfl
theorem k_im_Reader_wipe : Cond.instanceMethod y_Reader_wipe ∈ AW := tb1 (List.mem_of_getElem? (i := 221) rfl) rfl
theorem k_se_Reader_wipe : Cond.selects "SegmentReader" y_Reader_wipe y_Reader_wipe ∈ AW := tb1 (List.mem_of_getElem? (i := 222) rfl) rfl
theorem k_cd_Reader_wipe : Cond.code y_Reader_wipe c_Reader_wipe 1 none ∈ AW := tb1 (List.mem_of_getElem? (i := 223) rfl) rfl
theorem k_ml_Law_24 : Cond.methodLink "SegmentReaderLaw" 24 y_Reader_read ∈ AW := tb1 (List.mem_of_getElem? (i := 224) rfl) rfl
theorem k_im_Reader_read : Cond.instanceMethod y_Reader_read ∈ AW := tb1 (List.mem_of_getElem? (i := 225) rfl) rfl
theorem k_se_Reader_read : Cond.selects "SegmentReader" y_Reader_read y_Reader_read ∈ AW := tb1 (List.mem_of_getElem? (i := 226) rfl) rfl
theorem k_cd_Reader_read : Cond.code y_Reader_read c_Reader_read 2 (some .int) ∈ AW := tb1 (List.mem_of_getElem? (i := 227) rfl) rfl
theorem k_ml_Reader_45 : Cond.methodLink "SegmentReader" 45 y_Parser_begin ∈ AW := tb1 (List.mem_of_getElem? (i := 228) rfl) rfl
theorem k_im_Parser_begin : Cond.instanceMethod y_Parser_begin ∈ AW := tb1 (List.mem_of_getElem? (i := 229) rfl) rfl
theorem k_se_Parser_begin : Cond.selects "SegmentReader$Parser" y_Parser_begin y_Parser_begin ∈ AW := tb1 (List.mem_of_getElem? (i := 230) rfl) rfl
theorem k_cd_Parser_begin : Cond.code y_Parser_begin c_Parser_begin 1 none ∈ AW := tb1 (List.mem_of_getElem? (i := 231) rfl) rfl
theorem k_ml_Parser_59 : Cond.methodLink "SegmentReader$Parser" 59 y_Parser_forget ∈ AW := tb1 (List.mem_of_getElem? (i := 232) rfl) rfl
theorem k_ml_Parser_62 : Cond.methodLink "SegmentReader$Parser" 62 y_Arrays_fillI ∈ AW := tb1 (List.mem_of_getElem? (i := 233) rfl) rfl
theorem k_ml_Parser_73 : Cond.methodLink "SegmentReader$Parser" 73 y_Bytes_at ∈ AW := tb1 (List.mem_of_getElem? (i := 234) rfl) rfl
theorem k_im_Bytes_at : Cond.instanceMethod y_Bytes_at ∈ AW := tb1 (List.mem_of_getElem? (i := 235) rfl) rfl
theorem k_se_Bytes_at : Cond.selects "SegmentReader$Bytes" y_Bytes_at y_Bytes_at ∈ AW := tb1 (List.mem_of_getElem? (i := 236) rfl) rfl
theorem k_cd_Bytes_at : Cond.code y_Bytes_at c_Bytes_at 2 (some .int) ∈ AW := tb1 (List.mem_of_getElem? (i := 237) rfl) rfl
theorem k_ml_Parser_77 : Cond.methodLink "SegmentReader$Parser" 77 y_Parser_fail ∈ AW := tb1 (List.mem_of_getElem? (i := 238) rfl) rfl
theorem k_im_Parser_fail : Cond.instanceMethod y_Parser_fail ∈ AW := tb2 (List.mem_of_getElem? (i := 0) rfl) rfl
theorem k_cd_Parser_fail : Cond.code y_Parser_fail c_Parser_fail 3 (some .int) ∈ AW := tb2 (List.mem_of_getElem? (i := 1) rfl) rfl
theorem k_ml_Reader_48 : Cond.methodLink "SegmentReader" 48 y_Parser_goesOn ∈ AW := tb2 (List.mem_of_getElem? (i := 2) rfl) rfl
theorem k_im_Parser_goesOn : Cond.instanceMethod y_Parser_goesOn ∈ AW := tb2 (List.mem_of_getElem? (i := 3) rfl) rfl
theorem k_se_Parser_goesOn : Cond.selects "SegmentReader$Parser" y_Parser_goesOn y_Parser_goesOn ∈ AW := tb2 (List.mem_of_getElem? (i := 4) rfl) rfl
theorem k_cd_Parser_goesOn : Cond.code y_Parser_goesOn c_Parser_goesOn 1 (some .boolean) ∈ AW := tb2 (List.mem_of_getElem? (i := 5) rfl) rfl
theorem k_ml_Reader_52 : Cond.methodLink "SegmentReader" 52 y_Parser_readNext ∈ AW := tb2 (List.mem_of_getElem? (i := 6) rfl) rfl
theorem k_im_Parser_readNext : Cond.instanceMethod y_Parser_readNext ∈ AW := tb2 (List.mem_of_getElem? (i := 7) rfl) rfl
theorem k_se_Parser_readNext : Cond.selects "SegmentReader$Parser" y_Parser_readNext y_Parser_readNext ∈ AW := tb2 (List.mem_of_getElem? (i := 8) rfl) rfl
theorem k_cd_Parser_readNext : Cond.code y_Parser_readNext c_Parser_readNext 3 none ∈ AW := tb2 (List.mem_of_getElem? (i := 9) rfl) rfl
theorem k_ml_Parser_84 : Cond.methodLink "SegmentReader$Parser" 84 y_Parser_takeMarker ∈ AW := tb2 (List.mem_of_getElem? (i := 10) rfl) rfl
theorem k_im_Parser_takeMarker : Cond.instanceMethod y_Parser_takeMarker ∈ AW := tb2 (List.mem_of_getElem? (i := 12) rfl) rfl
theorem k_cd_Parser_takeMarker : Cond.code y_Parser_takeMarker c_Parser_takeMarker 3 (some .int) ∈ AW := tb2 (List.mem_of_getElem? (i := 13) rfl) rfl
theorem k_ml_Parser_102 : Cond.methodLink "SegmentReader$Parser" 102 y_Parser_canStand ∈ AW := tb2 (List.mem_of_getElem? (i := 14) rfl) rfl
theorem k_im_Parser_canStand : Cond.instanceMethod y_Parser_canStand ∈ AW := tb2 (List.mem_of_getElem? (i := 16) rfl) rfl
theorem k_cd_Parser_canStand : Cond.code y_Parser_canStand c_Parser_canStand 2 (some .boolean) ∈ AW := tb2 (List.mem_of_getElem? (i := 17) rfl) rfl
theorem k_ml_Parser_109 : Cond.methodLink "SegmentReader$Parser" 109 y_Parser_allBegun ∈ AW := tb2 (List.mem_of_getElem? (i := 18) rfl) rfl
theorem k_im_Parser_allBegun : Cond.instanceMethod y_Parser_allBegun ∈ AW := tb2 (List.mem_of_getElem? (i := 20) rfl) rfl
theorem k_cd_Parser_allBegun : Cond.code y_Parser_allBegun c_Parser_allBegun 2 (some .boolean) ∈ AW := tb2 (List.mem_of_getElem? (i := 21) rfl) rfl
theorem k_ml_Parser_119 : Cond.methodLink "SegmentReader$Parser" 119 y_Parser_latestOf ∈ AW := tb2 (List.mem_of_getElem? (i := 22) rfl) rfl
theorem k_im_Parser_latestOf : Cond.instanceMethod y_Parser_latestOf ∈ AW := tb2 (List.mem_of_getElem? (i := 24) rfl) rfl
theorem k_cd_Parser_latestOf : Cond.code y_Parser_latestOf c_Parser_latestOf 4 (some .int) ∈ AW := tb2 (List.mem_of_getElem? (i := 25) rfl) rfl
theorem k_ml_Parser_113 : Cond.methodLink "SegmentReader$Parser" 113 y_Parser_isFree ∈ AW := tb2 (List.mem_of_getElem? (i := 26) rfl) rfl
theorem k_im_Parser_isFree : Cond.instanceMethod y_Parser_isFree ∈ AW := tb2 (List.mem_of_getElem? (i := 28) rfl) rfl
theorem k_cd_Parser_isFree : Cond.code y_Parser_isFree c_Parser_isFree 2 (some .boolean) ∈ AW := tb2 (List.mem_of_getElem? (i := 29) rfl) rfl
theorem k_ml_Parser_88 : Cond.methodLink "SegmentReader$Parser" 88 y_Parser_takeLength ∈ AW := tb2 (List.mem_of_getElem? (i := 30) rfl) rfl
theorem k_im_Parser_takeLength : Cond.instanceMethod y_Parser_takeLength ∈ AW := tb2 (List.mem_of_getElem? (i := 32) rfl) rfl
theorem k_cd_Parser_takeLength : Cond.code y_Parser_takeLength c_Parser_takeLength 2 none ∈ AW := tb2 (List.mem_of_getElem? (i := 33) rfl) rfl
theorem k_co_Parser_122 : Cond.constant "SegmentReader$Parser" 122 (65535 : Int32) ∈ AW := tb2 (List.mem_of_getElem? (i := 34) rfl) rfl
theorem k_ml_Parser_123 : Cond.methodLink "SegmentReader$Parser" 123 y_Parser_takePair ∈ AW := tb2 (List.mem_of_getElem? (i := 35) rfl) rfl
theorem k_im_Parser_takePair : Cond.instanceMethod y_Parser_takePair ∈ AW := tb2 (List.mem_of_getElem? (i := 37) rfl) rfl
theorem k_cd_Parser_takePair : Cond.code y_Parser_takePair c_Parser_takePair 6 (some .int) ∈ AW := tb2 (List.mem_of_getElem? (i := 38) rfl) rfl
theorem k_ml_Parser_147 : Cond.methodLink "SegmentReader$Parser" 147 y_Parser_take ∈ AW := tb2 (List.mem_of_getElem? (i := 39) rfl) rfl
theorem k_im_Parser_take : Cond.instanceMethod y_Parser_take ∈ AW := tb2 (List.mem_of_getElem? (i := 41) rfl) rfl
theorem k_cd_Parser_take : Cond.code y_Parser_take c_Parser_take 4 (some .int) ∈ AW := tb2 (List.mem_of_getElem? (i := 42) rfl) rfl
theorem k_ml_Parser_150 : Cond.methodLink "SegmentReader$Parser" 150 y_Parser_refuseTaken ∈ AW := tb2 (List.mem_of_getElem? (i := 43) rfl) rfl
theorem k_im_Parser_refuseTaken : Cond.instanceMethod y_Parser_refuseTaken ∈ AW := tb2 (List.mem_of_getElem? (i := 45) rfl) rfl
theorem k_cd_Parser_refuseTaken : Cond.code y_Parser_refuseTaken c_Parser_refuseTaken 1 none ∈ AW := tb2 (List.mem_of_getElem? (i := 46) rfl) rfl
theorem k_ml_Parser_91 : Cond.methodLink "SegmentReader$Parser" 91 y_Picture_addSegment ∈ AW := tb2 (List.mem_of_getElem? (i := 47) rfl) rfl
theorem k_im_Picture_addSegment : Cond.instanceMethod y_Picture_addSegment ∈ AW := tb2 (List.mem_of_getElem? (i := 48) rfl) rfl
theorem k_se_Picture_addSegment : Cond.selects "SegmentReader$Picture" y_Picture_addSegment y_Picture_addSegment ∈ AW := tb2 (List.mem_of_getElem? (i := 49) rfl) rfl
theorem k_cd_Picture_addSegment : Cond.code y_Picture_addSegment c_Picture_addSegment 3 none ∈ AW := tb2 (List.mem_of_getElem? (i := 50) rfl) rfl
theorem k_ml_Picture_66 : Cond.methodLink "SegmentReader$Picture" 66 y_Numbers_add ∈ AW := tb2 (List.mem_of_getElem? (i := 51) rfl) rfl
theorem k_im_Numbers_add : Cond.instanceMethod y_Numbers_add ∈ AW := tb2 (List.mem_of_getElem? (i := 52) rfl) rfl
theorem k_se_Numbers_add : Cond.selects "SegmentReader$Numbers" y_Numbers_add y_Numbers_add ∈ AW := tb2 (List.mem_of_getElem? (i := 53) rfl) rfl
theorem k_cd_Numbers_add : Cond.code y_Numbers_add c_Numbers_add 2 none ∈ AW := tb2 (List.mem_of_getElem? (i := 54) rfl) rfl
theorem k_ml_Numbers_19 : Cond.methodLink "SegmentReader$Numbers" 19 y_Arrays_copyOfI ∈ AW := tb2 (List.mem_of_getElem? (i := 55) rfl) rfl
theorem k_st_Arrays_copyOfI : Cond.static y_Arrays_copyOfI ∈ AW := tb2 (List.mem_of_getElem? (i := 56) rfl) rfl
theorem k_cd_Arrays_copyOfI : Cond.code y_Arrays_copyOfI c_Arrays_copyOfI 3 (some (.array .int)) ∈ AW := tb2 (List.mem_of_getElem? (i := 57) rfl) rfl
theorem k_ml_Arrays_316 : Cond.methodLink "java/util/Arrays" 316 ⟨"[I", "clone", "()Ljava/lang/Object;"⟩ ∈ AW := tb2 (List.mem_of_getElem? (i := 58) rfl) rfl
theorem k_se_AI_clone : Cond.selects "[I" ⟨"[I", "clone", "()Ljava/lang/Object;"⟩ ⟨"java/lang/Object", "clone", "()Ljava/lang/Object;"⟩ ∈ AW := tb2 (List.mem_of_getElem? (i := 60) rfl) rfl
theorem k_cl_Arrays_317 : Cond.classLink "java/util/Arrays" 317 "[I" ∈ AW := tb2 (List.mem_of_getElem? (i := 62) rfl) rfl
theorem k_ml_Parser_95 : Cond.methodLink "SegmentReader$Parser" 95 y_Parser_readContents ∈ AW := tb2 (List.mem_of_getElem? (i := 63) rfl) rfl
theorem k_im_Parser_readContents : Cond.instanceMethod y_Parser_readContents ∈ AW := tb2 (List.mem_of_getElem? (i := 65) rfl) rfl
theorem k_cd_Parser_readContents : Cond.code y_Parser_readContents c_Parser_readContents 2 none ∈ AW := tb2 (List.mem_of_getElem? (i := 66) rfl) rfl
theorem k_ml_Parser_126 : Cond.methodLink "SegmentReader$Parser" 126 y_Parser_readQuantisers ∈ AW := tb2 (List.mem_of_getElem? (i := 67) rfl) rfl
theorem k_im_Parser_readQuantisers : Cond.instanceMethod y_Parser_readQuantisers ∈ AW := tb2 (List.mem_of_getElem? (i := 69) rfl) rfl
theorem k_cd_Parser_readQuantisers : Cond.code y_Parser_readQuantisers c_Parser_readQuantisers 6 none ∈ AW := tb2 (List.mem_of_getElem? (i := 70) rfl) rfl
theorem k_ml_Parser_153 : Cond.methodLink "SegmentReader$Parser" 153 y_Picture_setQuantisers ∈ AW := tb2 (List.mem_of_getElem? (i := 71) rfl) rfl
theorem k_im_Picture_setQuantisers : Cond.instanceMethod y_Picture_setQuantisers ∈ AW := tb2 (List.mem_of_getElem? (i := 72) rfl) rfl
theorem k_se_Picture_setQuantisers : Cond.selects "SegmentReader$Picture" y_Picture_setQuantisers y_Picture_setQuantisers ∈ AW := tb2 (List.mem_of_getElem? (i := 73) rfl) rfl
theorem k_cd_Picture_setQuantisers : Cond.code y_Picture_setQuantisers c_Picture_setQuantisers 3 none ∈ AW := tb2 (List.mem_of_getElem? (i := 74) rfl) rfl
theorem k_ml_Parser_156 : Cond.methodLink "SegmentReader$Parser" 156 y_Parser_moreContents ∈ AW := tb2 (List.mem_of_getElem? (i := 75) rfl) rfl
theorem k_im_Parser_moreContents : Cond.instanceMethod y_Parser_moreContents ∈ AW := tb2 (List.mem_of_getElem? (i := 77) rfl) rfl
theorem k_cd_Parser_moreContents : Cond.code y_Parser_moreContents c_Parser_moreContents 1 (some .boolean) ∈ AW := tb2 (List.mem_of_getElem? (i := 78) rfl) rfl
theorem k_ml_Parser_129 : Cond.methodLink "SegmentReader$Parser" 129 y_Parser_readWords ∈ AW := tb2 (List.mem_of_getElem? (i := 79) rfl) rfl
theorem k_im_Parser_readWords : Cond.instanceMethod y_Parser_readWords ∈ AW := tb2 (List.mem_of_getElem? (i := 81) rfl) rfl
theorem k_cd_Parser_readWords : Cond.code y_Parser_readWords c_Parser_readWords 6 none ∈ AW := tb2 (List.mem_of_getElem? (i := 82) rfl) rfl
theorem k_ml_Parser_159 : Cond.methodLink "SegmentReader$Parser" 159 y_Parser_takeCounts ∈ AW := tb2 (List.mem_of_getElem? (i := 83) rfl) rfl
theorem k_im_Parser_takeCounts : Cond.instanceMethod y_Parser_takeCounts ∈ AW := tb2 (List.mem_of_getElem? (i := 85) rfl) rfl
theorem k_cd_Parser_takeCounts : Cond.code y_Parser_takeCounts c_Parser_takeCounts 5 (some .int) ∈ AW := tb2 (List.mem_of_getElem? (i := 86) rfl) rfl
theorem k_ml_Parser_162 : Cond.methodLink "SegmentReader$Parser" 162 y_Parser_takeSymbols ∈ AW := tb2 (List.mem_of_getElem? (i := 87) rfl) rfl
theorem k_im_Parser_takeSymbols : Cond.instanceMethod y_Parser_takeSymbols ∈ AW := tb2 (List.mem_of_getElem? (i := 89) rfl) rfl
theorem k_cd_Parser_takeSymbols : Cond.code y_Parser_takeSymbols c_Parser_takeSymbols 8 none ∈ AW := tb2 (List.mem_of_getElem? (i := 90) rfl) rfl
theorem k_ml_Parser_168 : Cond.methodLink "SegmentReader$Parser" 168 y_Arrays_fillJ ∈ AW := tb2 (List.mem_of_getElem? (i := 91) rfl) rfl
theorem k_st_Arrays_fillJ : Cond.static y_Arrays_fillJ ∈ AW := tb2 (List.mem_of_getElem? (i := 92) rfl) rfl
theorem k_cd_Arrays_fillJ : Cond.code y_Arrays_fillJ c_Arrays_fillJ 5 none ∈ AW := tb2 (List.mem_of_getElem? (i := 93) rfl) rfl
theorem k_ml_Parser_165 : Cond.methodLink "SegmentReader$Parser" 165 y_Picture_setWords ∈ AW := tb2 (List.mem_of_getElem? (i := 94) rfl) rfl
theorem k_im_Picture_setWords : Cond.instanceMethod y_Picture_setWords ∈ AW := tb2 (List.mem_of_getElem? (i := 95) rfl) rfl
theorem k_se_Picture_setWords : Cond.selects "SegmentReader$Picture" y_Picture_setWords y_Picture_setWords ∈ AW := tb2 (List.mem_of_getElem? (i := 96) rfl) rfl
theorem k_cd_Picture_setWords : Cond.code y_Picture_setWords c_Picture_setWords 4 none ∈ AW := tb2 (List.mem_of_getElem? (i := 97) rfl) rfl
theorem k_ml_Picture_113 : Cond.methodLink "SegmentReader$Picture" 113 y_Picture_rowOfWords ∈ AW := tb2 (List.mem_of_getElem? (i := 98) rfl) rfl
theorem k_im_Picture_rowOfWords : Cond.instanceMethod y_Picture_rowOfWords ∈ AW := tb2 (List.mem_of_getElem? (i := 100) rfl) rfl
theorem k_cd_Picture_rowOfWords : Cond.code y_Picture_rowOfWords c_Picture_rowOfWords 2 (some .int) ∈ AW := tb2 (List.mem_of_getElem? (i := 101) rfl) rfl
theorem k_ml_Parser_135 : Cond.methodLink "SegmentReader$Parser" 135 y_Parser_readFrame ∈ AW := tb2 (List.mem_of_getElem? (i := 102) rfl) rfl
theorem k_im_Parser_readFrame : Cond.instanceMethod y_Parser_readFrame ∈ AW := tb2 (List.mem_of_getElem? (i := 104) rfl) rfl
theorem k_cd_Parser_readFrame : Cond.code y_Parser_readFrame c_Parser_readFrame 4 none ∈ AW := tb2 (List.mem_of_getElem? (i := 105) rfl) rfl
theorem k_ml_Parser_174 : Cond.methodLink "SegmentReader$Parser" 174 y_Parser_readComponent ∈ AW := tb2 (List.mem_of_getElem? (i := 106) rfl) rfl
theorem k_im_Parser_readComponent : Cond.instanceMethod y_Parser_readComponent ∈ AW := tb2 (List.mem_of_getElem? (i := 108) rfl) rfl
theorem k_cd_Parser_readComponent : Cond.code y_Parser_readComponent c_Parser_readComponent 5 none ∈ AW := tb2 (List.mem_of_getElem? (i := 109) rfl) rfl
theorem k_ml_Parser_177 : Cond.methodLink "SegmentReader$Parser" 177 y_Picture_placeOfName ∈ AW := tb2 (List.mem_of_getElem? (i := 110) rfl) rfl
theorem k_im_Picture_placeOfName : Cond.instanceMethod y_Picture_placeOfName ∈ AW := tb2 (List.mem_of_getElem? (i := 111) rfl) rfl
theorem k_se_Picture_placeOfName : Cond.selects "SegmentReader$Picture" y_Picture_placeOfName y_Picture_placeOfName ∈ AW := tb2 (List.mem_of_getElem? (i := 112) rfl) rfl
theorem k_cd_Picture_placeOfName : Cond.code y_Picture_placeOfName c_Picture_placeOfName 3 (some .int) ∈ AW := tb2 (List.mem_of_getElem? (i := 113) rfl) rfl
theorem k_ml_Picture_84 : Cond.methodLink "SegmentReader$Picture" 84 y_Picture_ofComponent ∈ AW := tb2 (List.mem_of_getElem? (i := 114) rfl) rfl
theorem k_im_Picture_ofComponent : Cond.instanceMethod y_Picture_ofComponent ∈ AW := tb2 (List.mem_of_getElem? (i := 115) rfl) rfl
theorem k_se_Picture_ofComponent : Cond.selects "SegmentReader$Picture" y_Picture_ofComponent y_Picture_ofComponent ∈ AW := tb2 (List.mem_of_getElem? (i := 116) rfl) rfl
theorem k_cd_Picture_ofComponent : Cond.code y_Picture_ofComponent c_Picture_ofComponent 3 (some .int) ∈ AW := tb2 (List.mem_of_getElem? (i := 117) rfl) rfl
theorem k_ml_Parser_180 : Cond.methodLink "SegmentReader$Parser" 180 y_Picture_addComponent ∈ AW := tb2 (List.mem_of_getElem? (i := 118) rfl) rfl
theorem k_im_Picture_addComponent : Cond.instanceMethod y_Picture_addComponent ∈ AW := tb2 (List.mem_of_getElem? (i := 119) rfl) rfl
theorem k_se_Picture_addComponent : Cond.selects "SegmentReader$Picture" y_Picture_addComponent y_Picture_addComponent ∈ AW := tb2 (List.mem_of_getElem? (i := 120) rfl) rfl
theorem k_cd_Picture_addComponent : Cond.code y_Picture_addComponent c_Picture_addComponent 6 none ∈ AW := tb2 (List.mem_of_getElem? (i := 121) rfl) rfl
theorem k_ml_Parser_138 : Cond.methodLink "SegmentReader$Parser" 138 y_Parser_readScan ∈ AW := tb2 (List.mem_of_getElem? (i := 122) rfl) rfl
theorem k_im_Parser_readScan : Cond.instanceMethod y_Parser_readScan ∈ AW := tb2 (List.mem_of_getElem? (i := 124) rfl) rfl
theorem k_cd_Parser_readScan : Cond.code y_Parser_readScan c_Parser_readScan 1 none ∈ AW := tb2 (List.mem_of_getElem? (i := 125) rfl) rfl
theorem k_ml_Parser_190 : Cond.methodLink "SegmentReader$Parser" 190 y_Parser_takeScanComponents ∈ AW := tb2 (List.mem_of_getElem? (i := 126) rfl) rfl
theorem k_im_Parser_takeScanComponents : Cond.instanceMethod y_Parser_takeScanComponents ∈ AW := tb2 (List.mem_of_getElem? (i := 128) rfl) rfl
theorem k_cd_Parser_takeScanComponents : Cond.code y_Parser_takeScanComponents c_Parser_takeScanComponents 6 none ∈ AW := tb2 (List.mem_of_getElem? (i := 129) rfl) rfl
theorem k_ml_Parser_211 : Cond.methodLink "SegmentReader$Parser" 211 y_Picture_ofComponent ∈ AW := tb2 (List.mem_of_getElem? (i := 130) rfl) rfl
theorem k_ml_Parser_199 : Cond.methodLink "SegmentReader$Parser" 199 y_Parser_takeBits ∈ AW := tb2 (List.mem_of_getElem? (i := 131) rfl) rfl
theorem k_im_Parser_takeBits : Cond.instanceMethod y_Parser_takeBits ∈ AW := tb2 (List.mem_of_getElem? (i := 133) rfl) rfl
theorem k_cd_Parser_takeBits : Cond.code y_Parser_takeBits c_Parser_takeBits 3 none ∈ AW := tb2 (List.mem_of_getElem? (i := 134) rfl) rfl
theorem k_ml_Parser_202 : Cond.methodLink "SegmentReader$Parser" 202 y_Parser_checkSent ∈ AW := tb2 (List.mem_of_getElem? (i := 135) rfl) rfl
theorem k_im_Parser_checkSent : Cond.instanceMethod y_Parser_checkSent ∈ AW := tb2 (List.mem_of_getElem? (i := 137) rfl) rfl
theorem k_cd_Parser_checkSent : Cond.code y_Parser_checkSent c_Parser_checkSent 7 none ∈ AW := tb2 (List.mem_of_getElem? (i := 138) rfl) rfl
theorem k_ml_Parser_223 : Cond.methodLink "SegmentReader$Parser" 223 y_Scan_placeAt ∈ AW := tb2 (List.mem_of_getElem? (i := 139) rfl) rfl
theorem k_im_Scan_placeAt : Cond.instanceMethod y_Scan_placeAt ∈ AW := tb2 (List.mem_of_getElem? (i := 140) rfl) rfl
theorem k_se_Scan_placeAt : Cond.selects "SegmentReader$Scan" y_Scan_placeAt y_Scan_placeAt ∈ AW := tb2 (List.mem_of_getElem? (i := 141) rfl) rfl
theorem k_cd_Scan_placeAt : Cond.code y_Scan_placeAt c_Scan_placeAt 2 (some .int) ∈ AW := tb2 (List.mem_of_getElem? (i := 142) rfl) rfl
theorem k_ml_Parser_226 : Cond.methodLink "SegmentReader$Parser" 226 y_Scan_nameAt ∈ AW := tb2 (List.mem_of_getElem? (i := 143) rfl) rfl
theorem k_im_Scan_nameAt : Cond.instanceMethod y_Scan_nameAt ∈ AW := tb2 (List.mem_of_getElem? (i := 144) rfl) rfl
theorem k_se_Scan_nameAt : Cond.selects "SegmentReader$Scan" y_Scan_nameAt y_Scan_nameAt ∈ AW := tb2 (List.mem_of_getElem? (i := 145) rfl) rfl
theorem k_cd_Scan_nameAt : Cond.code y_Scan_nameAt c_Scan_nameAt 2 (some .int) ∈ AW := tb2 (List.mem_of_getElem? (i := 146) rfl) rfl
theorem k_ml_Parser_205 : Cond.methodLink "SegmentReader$Parser" 205 y_Parser_checkTables ∈ AW := tb2 (List.mem_of_getElem? (i := 147) rfl) rfl
theorem k_im_Parser_checkTables : Cond.instanceMethod y_Parser_checkTables ∈ AW := tb2 (List.mem_of_getElem? (i := 149) rfl) rfl
theorem k_cd_Parser_checkTables : Cond.code y_Parser_checkTables c_Parser_checkTables 5 none ∈ AW := tb2 (List.mem_of_getElem? (i := 150) rfl) rfl
theorem k_ml_Parser_229 : Cond.methodLink "SegmentReader$Parser" 229 y_Picture_hasQuantisers ∈ AW := tb2 (List.mem_of_getElem? (i := 151) rfl) rfl
theorem k_im_Picture_hasQuantisers : Cond.instanceMethod y_Picture_hasQuantisers ∈ AW := tb2 (List.mem_of_getElem? (i := 152) rfl) rfl
theorem k_se_Picture_hasQuantisers : Cond.selects "SegmentReader$Picture" y_Picture_hasQuantisers y_Picture_hasQuantisers ∈ AW := tb2 (List.mem_of_getElem? (i := 153) rfl) rfl
theorem k_cd_Picture_hasQuantisers : Cond.code y_Picture_hasQuantisers c_Picture_hasQuantisers 2 (some .boolean) ∈ AW := tb2 (List.mem_of_getElem? (i := 154) rfl) rfl
theorem k_ml_Parser_232 : Cond.methodLink "SegmentReader$Parser" 232 y_Picture_placeOfWords ∈ AW := tb2 (List.mem_of_getElem? (i := 155) rfl) rfl
theorem k_im_Picture_placeOfWords : Cond.instanceMethod y_Picture_placeOfWords ∈ AW := tb2 (List.mem_of_getElem? (i := 156) rfl) rfl
theorem k_se_Picture_placeOfWords : Cond.selects "SegmentReader$Picture" y_Picture_placeOfWords y_Picture_placeOfWords ∈ AW := tb2 (List.mem_of_getElem? (i := 157) rfl) rfl
theorem k_cd_Picture_placeOfWords : Cond.code y_Picture_placeOfWords c_Picture_placeOfWords 3 (some .int) ∈ AW := tb2 (List.mem_of_getElem? (i := 158) rfl) rfl
theorem k_ml_Parser_208 : Cond.methodLink "SegmentReader$Parser" 208 y_Parser_noteSent ∈ AW := tb2 (List.mem_of_getElem? (i := 159) rfl) rfl
theorem k_im_Parser_noteSent : Cond.instanceMethod y_Parser_noteSent ∈ AW := tb2 (List.mem_of_getElem? (i := 161) rfl) rfl
theorem k_cd_Parser_noteSent : Cond.code y_Parser_noteSent c_Parser_noteSent 5 none ∈ AW := tb2 (List.mem_of_getElem? (i := 162) rfl) rfl
theorem k_ml_Parser_144 : Cond.methodLink "SegmentReader$Parser" 144 y_Parser_skipContents ∈ AW := tb2 (List.mem_of_getElem? (i := 163) rfl) rfl
theorem k_im_Parser_skipContents : Cond.instanceMethod y_Parser_skipContents ∈ AW := tb2 (List.mem_of_getElem? (i := 165) rfl) rfl
theorem k_cd_Parser_skipContents : Cond.code y_Parser_skipContents c_Parser_skipContents 1 none ∈ AW := tb2 (List.mem_of_getElem? (i := 166) rfl) rfl
theorem k_ml_Parser_99 : Cond.methodLink "SegmentReader$Parser" 99 y_Parser_readData ∈ AW := tb2 (List.mem_of_getElem? (i := 167) rfl) rfl
theorem k_im_Parser_readData : Cond.instanceMethod y_Parser_readData ∈ AW := tb2 (List.mem_of_getElem? (i := 169) rfl) rfl
theorem k_cd_Parser_readData : Cond.code y_Parser_readData c_Parser_readData 5 none ∈ AW := tb2 (List.mem_of_getElem? (i := 170) rfl) rfl
theorem k_ml_Parser_235 : Cond.methodLink "SegmentReader$Parser" 235 y_Parser_endData ∈ AW := tb2 (List.mem_of_getElem? (i := 171) rfl) rfl
theorem k_im_Parser_endData : Cond.instanceMethod y_Parser_endData ∈ AW := tb2 (List.mem_of_getElem? (i := 173) rfl) rfl
theorem k_cd_Parser_endData : Cond.code y_Parser_endData c_Parser_endData 4 none ∈ AW := tb2 (List.mem_of_getElem? (i := 174) rfl) rfl
theorem k_ml_Parser_239 : Cond.methodLink "SegmentReader$Parser" 239 y_Picture_scanCount ∈ AW := tb2 (List.mem_of_getElem? (i := 175) rfl) rfl
theorem k_im_Picture_scanCount : Cond.instanceMethod y_Picture_scanCount ∈ AW := tb2 (List.mem_of_getElem? (i := 176) rfl) rfl
theorem k_se_Picture_scanCount : Cond.selects "SegmentReader$Picture" y_Picture_scanCount y_Picture_scanCount ∈ AW := tb2 (List.mem_of_getElem? (i := 177) rfl) rfl
theorem k_cd_Picture_scanCount : Cond.code y_Picture_scanCount c_Picture_scanCount 1 (some .int) ∈ AW := tb2 (List.mem_of_getElem? (i := 178) rfl) rfl
theorem k_ml_Parser_242 : Cond.methodLink "SegmentReader$Parser" 242 y_Picture_addScan ∈ AW := tb2 (List.mem_of_getElem? (i := 179) rfl) rfl
theorem k_im_Picture_addScan : Cond.instanceMethod y_Picture_addScan ∈ AW := tb2 (List.mem_of_getElem? (i := 180) rfl) rfl
theorem k_se_Picture_addScan : Cond.selects "SegmentReader$Picture" y_Picture_addScan y_Picture_addScan ∈ AW := tb2 (List.mem_of_getElem? (i := 181) rfl) rfl
theorem k_cd_Picture_addScan : Cond.code y_Picture_addScan c_Picture_addScan 5 none ∈ AW := tb2 (List.mem_of_getElem? (i := 182) rfl) rfl
theorem k_ml_Reader_55 : Cond.methodLink "SegmentReader" 55 y_Parser_finish ∈ AW := tb2 (List.mem_of_getElem? (i := 183) rfl) rfl
theorem k_im_Parser_finish : Cond.instanceMethod y_Parser_finish ∈ AW := tb2 (List.mem_of_getElem? (i := 184) rfl) rfl
theorem k_se_Parser_finish : Cond.selects "SegmentReader$Parser" y_Parser_finish y_Parser_finish ∈ AW := tb2 (List.mem_of_getElem? (i := 185) rfl) rfl
theorem k_cd_Parser_finish : Cond.code y_Parser_finish c_Parser_finish 1 (some .int) ∈ AW := tb2 (List.mem_of_getElem? (i := 186) rfl) rfl
theorem k_ml_Law_29 : Cond.methodLink "SegmentReaderLaw" 29 y_Reader_segment ∈ AW := tb2 (List.mem_of_getElem? (i := 187) rfl) rfl
theorem k_im_Reader_segment : Cond.instanceMethod y_Reader_segment ∈ AW := tb2 (List.mem_of_getElem? (i := 188) rfl) rfl
theorem k_se_Reader_segment : Cond.selects "SegmentReader" y_Reader_segment y_Reader_segment ∈ AW := tb2 (List.mem_of_getElem? (i := 189) rfl) rfl
theorem k_cd_Reader_segment : Cond.code y_Reader_segment c_Reader_segment 3 (some .int) ∈ AW := tb2 (List.mem_of_getElem? (i := 190) rfl) rfl
theorem k_ml_Reader_59 : Cond.methodLink "SegmentReader" 59 y_Picture_ofSegment ∈ AW := tb2 (List.mem_of_getElem? (i := 191) rfl) rfl
theorem k_im_Picture_ofSegment : Cond.instanceMethod y_Picture_ofSegment ∈ AW := tb2 (List.mem_of_getElem? (i := 192) rfl) rfl
theorem k_se_Picture_ofSegment : Cond.selects "SegmentReader$Picture" y_Picture_ofSegment y_Picture_ofSegment ∈ AW := tb2 (List.mem_of_getElem? (i := 193) rfl) rfl
theorem k_cd_Picture_ofSegment : Cond.code y_Picture_ofSegment c_Picture_ofSegment 4 (some .int) ∈ AW := tb2 (List.mem_of_getElem? (i := 194) rfl) rfl
theorem k_ml_Picture_70 : Cond.methodLink "SegmentReader$Picture" 70 y_Picture_segmentCount ∈ AW := tb2 (List.mem_of_getElem? (i := 195) rfl) rfl
theorem k_im_Picture_segmentCount : Cond.instanceMethod y_Picture_segmentCount ∈ AW := tb2 (List.mem_of_getElem? (i := 196) rfl) rfl
theorem k_se_Picture_segmentCount : Cond.selects "SegmentReader$Picture" y_Picture_segmentCount y_Picture_segmentCount ∈ AW := tb2 (List.mem_of_getElem? (i := 197) rfl) rfl
theorem k_cd_Picture_segmentCount : Cond.code y_Picture_segmentCount c_Picture_segmentCount 1 (some .int) ∈ AW := tb2 (List.mem_of_getElem? (i := 198) rfl) rfl
theorem k_ml_Picture_74 : Cond.methodLink "SegmentReader$Picture" 74 y_Numbers_at ∈ AW := tb2 (List.mem_of_getElem? (i := 199) rfl) rfl
theorem k_im_Numbers_at : Cond.instanceMethod y_Numbers_at ∈ AW := tb2 (List.mem_of_getElem? (i := 200) rfl) rfl
theorem k_se_Numbers_at : Cond.selects "SegmentReader$Numbers" y_Numbers_at y_Numbers_at ∈ AW := tb2 (List.mem_of_getElem? (i := 201) rfl) rfl
theorem k_cd_Numbers_at : Cond.code y_Numbers_at c_Numbers_at 2 (some .int) ∈ AW := tb2 (List.mem_of_getElem? (i := 202) rfl) rfl
theorem k_ml_Picture_78 : Cond.methodLink "SegmentReader$Picture" 78 y_Bytes_at ∈ AW := tb2 (List.mem_of_getElem? (i := 203) rfl) rfl
theorem k_ml_Law_34 : Cond.methodLink "SegmentReaderLaw" 34 y_Reader_frame ∈ AW := tb2 (List.mem_of_getElem? (i := 204) rfl) rfl
theorem k_im_Reader_frame : Cond.instanceMethod y_Reader_frame ∈ AW := tb2 (List.mem_of_getElem? (i := 205) rfl) rfl
theorem k_se_Reader_frame : Cond.selects "SegmentReader" y_Reader_frame y_Reader_frame ∈ AW := tb2 (List.mem_of_getElem? (i := 206) rfl) rfl
theorem k_cd_Reader_frame : Cond.code y_Reader_frame c_Reader_frame 2 (some .int) ∈ AW := tb2 (List.mem_of_getElem? (i := 207) rfl) rfl
theorem k_ml_Reader_63 : Cond.methodLink "SegmentReader" 63 y_Picture_ofFrame ∈ AW := tb2 (List.mem_of_getElem? (i := 208) rfl) rfl
theorem k_im_Picture_ofFrame : Cond.instanceMethod y_Picture_ofFrame ∈ AW := tb2 (List.mem_of_getElem? (i := 209) rfl) rfl
theorem k_se_Picture_ofFrame : Cond.selects "SegmentReader$Picture" y_Picture_ofFrame y_Picture_ofFrame ∈ AW := tb2 (List.mem_of_getElem? (i := 210) rfl) rfl
theorem k_cd_Picture_ofFrame : Cond.code y_Picture_ofFrame c_Picture_ofFrame 2 (some .int) ∈ AW := tb2 (List.mem_of_getElem? (i := 211) rfl) rfl
theorem k_ml_Picture_81 : Cond.methodLink "SegmentReader$Picture" 81 y_Picture_greatest ∈ AW := tb2 (List.mem_of_getElem? (i := 212) rfl) rfl
theorem k_im_Picture_greatest : Cond.instanceMethod y_Picture_greatest ∈ AW := tb2 (List.mem_of_getElem? (i := 214) rfl) rfl
theorem k_cd_Picture_greatest : Cond.code y_Picture_greatest c_Picture_greatest 4 (some .int) ∈ AW := tb2 (List.mem_of_getElem? (i := 215) rfl) rfl
theorem k_ml_Picture_88 : Cond.methodLink "SegmentReader$Picture" 88 y_Math_max ∈ AW := tb2 (List.mem_of_getElem? (i := 216) rfl) rfl
theorem k_st_Math_max : Cond.static y_Math_max ∈ AW := tb2 (List.mem_of_getElem? (i := 217) rfl) rfl
theorem k_cd_Math_max : Cond.code y_Math_max c_Math_max 2 (some .int) ∈ AW := tb2 (List.mem_of_getElem? (i := 218) rfl) rfl
theorem k_ml_Law_39 : Cond.methodLink "SegmentReaderLaw" 39 y_Reader_component ∈ AW := tb2 (List.mem_of_getElem? (i := 219) rfl) rfl
theorem k_im_Reader_component : Cond.instanceMethod y_Reader_component ∈ AW := tb2 (List.mem_of_getElem? (i := 220) rfl) rfl
theorem k_se_Reader_component : Cond.selects "SegmentReader" y_Reader_component y_Reader_component ∈ AW := tb2 (List.mem_of_getElem? (i := 221) rfl) rfl
theorem k_cd_Reader_component : Cond.code y_Reader_component c_Reader_component 3 (some .int) ∈ AW := tb2 (List.mem_of_getElem? (i := 222) rfl) rfl
theorem k_ml_Reader_67 : Cond.methodLink "SegmentReader" 67 y_Picture_ofComponent ∈ AW := tb2 (List.mem_of_getElem? (i := 223) rfl) rfl
theorem k_ml_Law_43 : Cond.methodLink "SegmentReaderLaw" 43 y_Reader_scan ∈ AW := tb2 (List.mem_of_getElem? (i := 224) rfl) rfl
theorem k_im_Reader_scan : Cond.instanceMethod y_Reader_scan ∈ AW := tb2 (List.mem_of_getElem? (i := 225) rfl) rfl
theorem k_se_Reader_scan : Cond.selects "SegmentReader" y_Reader_scan y_Reader_scan ∈ AW := tb2 (List.mem_of_getElem? (i := 226) rfl) rfl
theorem k_cd_Reader_scan : Cond.code y_Reader_scan c_Reader_scan 3 (some .int) ∈ AW := tb2 (List.mem_of_getElem? (i := 227) rfl) rfl
theorem k_ml_Reader_70 : Cond.methodLink "SegmentReader" 70 y_Picture_ofScan ∈ AW := tb2 (List.mem_of_getElem? (i := 228) rfl) rfl
theorem k_im_Picture_ofScan : Cond.instanceMethod y_Picture_ofScan ∈ AW := tb2 (List.mem_of_getElem? (i := 229) rfl) rfl
theorem k_se_Picture_ofScan : Cond.selects "SegmentReader$Picture" y_Picture_ofScan y_Picture_ofScan ∈ AW := tb2 (List.mem_of_getElem? (i := 230) rfl) rfl
theorem k_cd_Picture_ofScan : Cond.code y_Picture_ofScan c_Picture_ofScan 7 (some .int) ∈ AW := tb2 (List.mem_of_getElem? (i := 231) rfl) rfl
theorem k_ml_Picture_93 : Cond.methodLink "SegmentReader$Picture" 93 y_Picture_scanCount ∈ AW := tb2 (List.mem_of_getElem? (i := 232) rfl) rfl
theorem k_ml_Picture_96 : Cond.methodLink "SegmentReader$Picture" 96 y_Picture_ofScanComponent ∈ AW := tb2 (List.mem_of_getElem? (i := 233) rfl) rfl
theorem k_im_Picture_ofScanComponent : Cond.instanceMethod y_Picture_ofScanComponent ∈ AW := tb2 (List.mem_of_getElem? (i := 235) rfl) rfl
theorem k_cd_Picture_ofScanComponent : Cond.code y_Picture_ofScanComponent c_Picture_ofScanComponent 6 (some .int) ∈ AW := tb2 (List.mem_of_getElem? (i := 236) rfl) rfl
theorem k_ml_Picture_100 : Cond.methodLink "SegmentReader$Picture" 100 y_Picture_placeOfName ∈ AW := tb2 (List.mem_of_getElem? (i := 237) rfl) rfl
theorem k_ml_Law_47 : Cond.methodLink "SegmentReaderLaw" 47 y_Reader_data ∈ AW := tb2 (List.mem_of_getElem? (i := 238) rfl) rfl
theorem k_im_Reader_data : Cond.instanceMethod y_Reader_data ∈ AW := tb2 (List.mem_of_getElem? (i := 239) rfl) rfl
theorem k_se_Reader_data : Cond.selects "SegmentReader" y_Reader_data y_Reader_data ∈ AW := tb3 (List.mem_of_getElem? (i := 0) rfl) rfl
theorem k_cd_Reader_data : Cond.code y_Reader_data c_Reader_data 3 (some .int) ∈ AW := tb3 (List.mem_of_getElem? (i := 1) rfl) rfl
theorem k_ml_Reader_73 : Cond.methodLink "SegmentReader" 73 y_Picture_dataByte ∈ AW := tb3 (List.mem_of_getElem? (i := 2) rfl) rfl
theorem k_im_Picture_dataByte : Cond.instanceMethod y_Picture_dataByte ∈ AW := tb3 (List.mem_of_getElem? (i := 3) rfl) rfl
theorem k_se_Picture_dataByte : Cond.selects "SegmentReader$Picture" y_Picture_dataByte y_Picture_dataByte ∈ AW := tb3 (List.mem_of_getElem? (i := 4) rfl) rfl
theorem k_cd_Picture_dataByte : Cond.code y_Picture_dataByte c_Picture_dataByte 8 (some .int) ∈ AW := tb3 (List.mem_of_getElem? (i := 5) rfl) rfl
theorem k_ml_Law_51 : Cond.methodLink "SegmentReaderLaw" 51 y_Reader_quantiser ∈ AW := tb3 (List.mem_of_getElem? (i := 6) rfl) rfl
theorem k_im_Reader_quantiser : Cond.instanceMethod y_Reader_quantiser ∈ AW := tb3 (List.mem_of_getElem? (i := 7) rfl) rfl
theorem k_se_Reader_quantiser : Cond.selects "SegmentReader" y_Reader_quantiser y_Reader_quantiser ∈ AW := tb3 (List.mem_of_getElem? (i := 8) rfl) rfl
theorem k_cd_Reader_quantiser : Cond.code y_Reader_quantiser c_Reader_quantiser 3 (some .int) ∈ AW := tb3 (List.mem_of_getElem? (i := 9) rfl) rfl
theorem k_ml_Reader_76 : Cond.methodLink "SegmentReader" 76 y_Picture_quantiserValue ∈ AW := tb3 (List.mem_of_getElem? (i := 10) rfl) rfl
theorem k_im_Picture_quantiserValue : Cond.instanceMethod y_Picture_quantiserValue ∈ AW := tb3 (List.mem_of_getElem? (i := 11) rfl) rfl
theorem k_se_Picture_quantiserValue : Cond.selects "SegmentReader$Picture" y_Picture_quantiserValue y_Picture_quantiserValue ∈ AW := tb3 (List.mem_of_getElem? (i := 12) rfl) rfl
theorem k_cd_Picture_quantiserValue : Cond.code y_Picture_quantiserValue c_Picture_quantiserValue 3 (some .int) ∈ AW := tb3 (List.mem_of_getElem? (i := 13) rfl) rfl
theorem k_ml_Picture_103 : Cond.methodLink "SegmentReader$Picture" 103 y_Picture_hasQuantisers ∈ AW := tb3 (List.mem_of_getElem? (i := 14) rfl) rfl
theorem k_ml_Law_55 : Cond.methodLink "SegmentReaderLaw" 55 y_Reader_word ∈ AW := tb3 (List.mem_of_getElem? (i := 15) rfl) rfl
theorem k_im_Reader_word : Cond.instanceMethod y_Reader_word ∈ AW := tb3 (List.mem_of_getElem? (i := 16) rfl) rfl
theorem k_se_Reader_word : Cond.selects "SegmentReader" y_Reader_word y_Reader_word ∈ AW := tb3 (List.mem_of_getElem? (i := 17) rfl) rfl
theorem k_cd_Reader_word : Cond.code y_Reader_word c_Reader_word 4 (some .int) ∈ AW := tb3 (List.mem_of_getElem? (i := 18) rfl) rfl
theorem k_ml_Reader_79 : Cond.methodLink "SegmentReader" 79 y_Picture_ofWords ∈ AW := tb3 (List.mem_of_getElem? (i := 19) rfl) rfl
theorem k_im_Picture_ofWords : Cond.instanceMethod y_Picture_ofWords ∈ AW := tb3 (List.mem_of_getElem? (i := 20) rfl) rfl
theorem k_se_Picture_ofWords : Cond.selects "SegmentReader$Picture" y_Picture_ofWords y_Picture_ofWords ∈ AW := tb3 (List.mem_of_getElem? (i := 21) rfl) rfl
theorem k_cd_Picture_ofWords : Cond.code y_Picture_ofWords c_Picture_ofWords 5 (some .int) ∈ AW := tb3 (List.mem_of_getElem? (i := 22) rfl) rfl
theorem k_ml_Picture_107 : Cond.methodLink "SegmentReader$Picture" 107 y_Picture_placeOfWords ∈ AW := tb3 (List.mem_of_getElem? (i := 23) rfl) rfl
theorem k_ml_Picture_110 : Cond.methodLink "SegmentReader$Picture" 110 y_Picture_wordCount ∈ AW := tb3 (List.mem_of_getElem? (i := 24) rfl) rfl
theorem k_im_Picture_wordCount : Cond.instanceMethod y_Picture_wordCount ∈ AW := tb3 (List.mem_of_getElem? (i := 26) rfl) rfl
theorem k_cd_Picture_wordCount : Cond.code y_Picture_wordCount c_Picture_wordCount 4 (some .int) ∈ AW := tb3 (List.mem_of_getElem? (i := 27) rfl) rfl
theorem k_ml_Law_60 : Cond.methodLink "SegmentReaderLaw" 60 y_Reader_look ∈ AW := tb3 (List.mem_of_getElem? (i := 28) rfl) rfl
theorem k_im_Reader_look : Cond.instanceMethod y_Reader_look ∈ AW := tb3 (List.mem_of_getElem? (i := 29) rfl) rfl
theorem k_se_Reader_look : Cond.selects "SegmentReader" y_Reader_look y_Reader_look ∈ AW := tb3 (List.mem_of_getElem? (i := 30) rfl) rfl
theorem k_cd_Reader_look : Cond.code y_Reader_look c_Reader_look 2 (some .int) ∈ AW := tb3 (List.mem_of_getElem? (i := 31) rfl) rfl
theorem k_ml_Reader_89 : Cond.methodLink "SegmentReader" 89 y_Picture_segmentCount ∈ AW := tb3 (List.mem_of_getElem? (i := 32) rfl) rfl
theorem k_ml_Reader_92 : Cond.methodLink "SegmentReader" 92 y_Picture_scanCount ∈ AW := tb3 (List.mem_of_getElem? (i := 33) rfl) rfl
theorem k_cl_Law_10 : Cond.classLink "SegmentReaderLaw" 10 "SegmentReaderModel" ∈ AW := tb3 (List.mem_of_getElem? (i := 34) rfl) rfl
theorem k_is_Model : Cond.instantiable "SegmentReaderModel" 40 ∈ AW := tb3 (List.mem_of_getElem? (i := 35) rfl) rfl
theorem k_ml_Law_12 : Cond.methodLink "SegmentReaderLaw" 12 y_Model_init ∈ AW := tb3 (List.mem_of_getElem? (i := 36) rfl) rfl
theorem k_im_Model_init : Cond.instanceMethod y_Model_init ∈ AW := tb3 (List.mem_of_getElem? (i := 37) rfl) rfl
theorem k_cd_Model_init : Cond.code y_Model_init c_Model_init 1 none ∈ AW := tb3 (List.mem_of_getElem? (i := 38) rfl) rfl
theorem k_ml_Model_1 : Cond.methodLink "SegmentReaderModel" 1 ⟨"java/lang/Object", "<init>", "()V"⟩ ∈ AW := tb3 (List.mem_of_getElem? (i := 39) rfl) rfl
theorem k_co_Model_52 : Cond.constant "SegmentReaderModel" 52 (61440 : Int32) ∈ AW := tb3 (List.mem_of_getElem? (i := 40) rfl) rfl
theorem k_ml_Model_74 : Cond.methodLink "SegmentReaderModel" 74 y_Model_forget ∈ AW := tb3 (List.mem_of_getElem? (i := 41) rfl) rfl
theorem k_im_Model_forget : Cond.instanceMethod y_Model_forget ∈ AW := tb3 (List.mem_of_getElem? (i := 43) rfl) rfl
theorem k_cd_Model_forget : Cond.code y_Model_forget c_Model_forget 2 none ∈ AW := tb3 (List.mem_of_getElem? (i := 44) rfl) rfl
theorem k_fl_Model_77 : Cond.fieldLink "SegmentReaderModel" 77 "SegmentReaderModel" "thrown" "I" ∈ AW := tb3 (List.mem_of_getElem? (i := 45) rfl) rfl
theorem k_fl_Model_7 : Cond.fieldLink "SegmentReaderModel" 7 "SegmentReaderModel" "input" "[B" ∈ AW := tb3 (List.mem_of_getElem? (i := 46) rfl) rfl
theorem k_fl_Model_104 : Cond.fieldLink "SegmentReaderModel" 104 "SegmentReaderModel" "size" "I" ∈ AW := tb3 (List.mem_of_getElem? (i := 47) rfl) rfl
theorem k_fl_Model_107 : Cond.fieldLink "SegmentReaderModel" 107 "SegmentReaderModel" "fault" "I" ∈ AW := tb3 (List.mem_of_getElem? (i := 48) rfl) rfl
theorem k_fl_Model_13 : Cond.fieldLink "SegmentReaderModel" 13 "SegmentReaderModel" "place" "I" ∈ AW := tb3 (List.mem_of_getElem? (i := 49) rfl) rfl
theorem k_fl_Model_113 : Cond.fieldLink "SegmentReaderModel" 113 "SegmentReaderModel" "p" "I" ∈ AW := tb3 (List.mem_of_getElem? (i := 50) rfl) rfl
theorem k_fl_Model_110 : Cond.fieldLink "SegmentReaderModel" 110 "SegmentReaderModel" "end" "I" ∈ AW := tb3 (List.mem_of_getElem? (i := 51) rfl) rfl
theorem k_fl_Model_134 : Cond.fieldLink "SegmentReaderModel" 134 "SegmentReaderModel" "first" "I" ∈ AW := tb3 (List.mem_of_getElem? (i := 52) rfl) rfl
theorem k_fl_Model_80 : Cond.fieldLink "SegmentReaderModel" 80 "SegmentReaderModel" "ends" "I" ∈ AW := tb3 (List.mem_of_getElem? (i := 53) rfl) rfl
theorem k_fl_Model_83 : Cond.fieldLink "SegmentReaderModel" 83 "SegmentReaderModel" "segments" "I" ∈ AW := tb3 (List.mem_of_getElem? (i := 54) rfl) rfl
theorem k_fl_Model_17 : Cond.fieldLink "SegmentReaderModel" 17 "SegmentReaderModel" "segmentRows" "[I" ∈ AW := tb3 (List.mem_of_getElem? (i := 55) rfl) rfl
theorem k_fl_Model_86 : Cond.fieldLink "SegmentReaderModel" 86 "SegmentReaderModel" "frameCode" "I" ∈ AW := tb3 (List.mem_of_getElem? (i := 56) rfl) rfl
theorem k_fl_Model_89 : Cond.fieldLink "SegmentReaderModel" 89 "SegmentReaderModel" "width" "I" ∈ AW := tb3 (List.mem_of_getElem? (i := 57) rfl) rfl
theorem k_fl_Model_92 : Cond.fieldLink "SegmentReaderModel" 92 "SegmentReaderModel" "height" "I" ∈ AW := tb3 (List.mem_of_getElem? (i := 58) rfl) rfl
theorem k_fl_Model_95 : Cond.fieldLink "SegmentReaderModel" 95 "SegmentReaderModel" "components" "I" ∈ AW := tb3 (List.mem_of_getElem? (i := 59) rfl) rfl
theorem k_fl_Model_21 : Cond.fieldLink "SegmentReaderModel" 21 "SegmentReaderModel" "names" "[I" ∈ AW := tb3 (List.mem_of_getElem? (i := 60) rfl) rfl
theorem k_fl_Model_24 : Cond.fieldLink "SegmentReaderModel" 24 "SegmentReaderModel" "across" "[I" ∈ AW := tb3 (List.mem_of_getElem? (i := 61) rfl) rfl
theorem k_fl_Model_27 : Cond.fieldLink "SegmentReaderModel" 27 "SegmentReaderModel" "down" "[I" ∈ AW := tb3 (List.mem_of_getElem? (i := 62) rfl) rfl
theorem k_fl_Model_30 : Cond.fieldLink "SegmentReaderModel" 30 "SegmentReaderModel" "tables" "[I" ∈ AW := tb3 (List.mem_of_getElem? (i := 63) rfl) rfl
theorem k_fl_Model_98 : Cond.fieldLink "SegmentReaderModel" 98 "SegmentReaderModel" "interval" "I" ∈ AW := tb3 (List.mem_of_getElem? (i := 64) rfl) rfl
theorem k_fl_Model_33 : Cond.fieldLink "SegmentReaderModel" 33 "SegmentReaderModel" "hasQuantiser" "[Z" ∈ AW := tb3 (List.mem_of_getElem? (i := 65) rfl) rfl
theorem k_fl_Model_37 : Cond.fieldLink "SegmentReaderModel" 37 "SegmentReaderModel" "quantisers" "[I" ∈ AW := tb3 (List.mem_of_getElem? (i := 66) rfl) rfl
theorem k_fl_Model_40 : Cond.fieldLink "SegmentReaderModel" 40 "SegmentReaderModel" "hasWords" "[Z" ∈ AW := tb3 (List.mem_of_getElem? (i := 67) rfl) rfl
theorem k_fl_Model_43 : Cond.fieldLink "SegmentReaderModel" 43 "SegmentReaderModel" "counts" "[I" ∈ AW := tb3 (List.mem_of_getElem? (i := 68) rfl) rfl
theorem k_fl_Model_46 : Cond.fieldLink "SegmentReaderModel" 46 "SegmentReaderModel" "symbols" "[I" ∈ AW := tb3 (List.mem_of_getElem? (i := 69) rfl) rfl
theorem k_fl_Model_49 : Cond.fieldLink "SegmentReaderModel" 49 "SegmentReaderModel" "symbolMany" "[I" ∈ AW := tb3 (List.mem_of_getElem? (i := 70) rfl) rfl
theorem k_fl_Model_101 : Cond.fieldLink "SegmentReaderModel" 101 "SegmentReaderModel" "scans" "I" ∈ AW := tb3 (List.mem_of_getElem? (i := 71) rfl) rfl
theorem k_fl_Model_53 : Cond.fieldLink "SegmentReaderModel" 53 "SegmentReaderModel" "scanRows" "[I" ∈ AW := tb3 (List.mem_of_getElem? (i := 72) rfl) rfl
theorem k_fl_Model_56 : Cond.fieldLink "SegmentReaderModel" 56 "SegmentReaderModel" "latest" "[I" ∈ AW := tb3 (List.mem_of_getElem? (i := 73) rfl) rfl
theorem k_fl_Model_150 : Cond.fieldLink "SegmentReaderModel" 150 "SegmentReaderModel" "many" "I" ∈ AW := tb3 (List.mem_of_getElem? (i := 74) rfl) rfl
theorem k_fl_Model_59 : Cond.fieldLink "SegmentReaderModel" 59 "SegmentReaderModel" "which" "[I" ∈ AW := tb3 (List.mem_of_getElem? (i := 75) rfl) rfl
theorem k_fl_Model_62 : Cond.fieldLink "SegmentReaderModel" 62 "SegmentReaderModel" "dc" "[I" ∈ AW := tb3 (List.mem_of_getElem? (i := 76) rfl) rfl
theorem k_fl_Model_65 : Cond.fieldLink "SegmentReaderModel" 65 "SegmentReaderModel" "ac" "[I" ∈ AW := tb3 (List.mem_of_getElem? (i := 77) rfl) rfl
theorem k_fl_Model_68 : Cond.fieldLink "SegmentReaderModel" 68 "SegmentReaderModel" "nameAt" "[I" ∈ AW := tb3 (List.mem_of_getElem? (i := 78) rfl) rfl
theorem k_fl_Model_71 : Cond.fieldLink "SegmentReaderModel" 71 "SegmentReaderModel" "seen" "[Z" ∈ AW := tb3 (List.mem_of_getElem? (i := 79) rfl) rfl
theorem k_fl_Model_131 : Cond.fieldLink "SegmentReaderModel" 131 "SegmentReaderModel" "begins" "I" ∈ AW := tb3 (List.mem_of_getElem? (i := 80) rfl) rfl
theorem k_fl_Model_156 : Cond.fieldLink "SegmentReaderModel" 156 "SegmentReaderModel" "startScan" "I" ∈ AW := tb3 (List.mem_of_getElem? (i := 81) rfl) rfl
theorem k_fl_Model_159 : Cond.fieldLink "SegmentReaderModel" 159 "SegmentReaderModel" "endScan" "I" ∈ AW := tb3 (List.mem_of_getElem? (i := 82) rfl) rfl
theorem k_fl_Model_162 : Cond.fieldLink "SegmentReaderModel" 162 "SegmentReaderModel" "before" "I" ∈ AW := tb3 (List.mem_of_getElem? (i := 83) rfl) rfl
theorem k_fl_Model_165 : Cond.fieldLink "SegmentReaderModel" 165 "SegmentReaderModel" "bits" "I" ∈ AW := tb3 (List.mem_of_getElem? (i := 84) rfl) rfl
theorem k_ac_boolean : Cond.arrayClass .boolean ∈ AW := tb3 (List.mem_of_getElem? (i := 166) rfl) rfl
theorem k_ml_Law_19 : Cond.methodLink "SegmentReaderLaw" 19 y_Model_give ∈ AW := tb3 (List.mem_of_getElem? (i := 167) rfl) rfl
theorem k_im_Model_give : Cond.instanceMethod y_Model_give ∈ AW := tb3 (List.mem_of_getElem? (i := 168) rfl) rfl
theorem k_se_Model_give : Cond.selects "SegmentReaderModel" y_Model_give y_Model_give ∈ AW := tb3 (List.mem_of_getElem? (i := 169) rfl) rfl
theorem k_cd_Model_give : Cond.code y_Model_give c_Model_give 5 (some .boolean) ∈ AW := tb3 (List.mem_of_getElem? (i := 170) rfl) rfl
theorem k_ml_Law_23 : Cond.methodLink "SegmentReaderLaw" 23 y_Model_wipe ∈ AW := tb3 (List.mem_of_getElem? (i := 171) rfl) rfl
theorem k_im_Model_wipe : Cond.instanceMethod y_Model_wipe ∈ AW := tb3 (List.mem_of_getElem? (i := 172) rfl) rfl
theorem k_se_Model_wipe : Cond.selects "SegmentReaderModel" y_Model_wipe y_Model_wipe ∈ AW := tb3 (List.mem_of_getElem? (i := 173) rfl) rfl
theorem k_cd_Model_wipe : Cond.code y_Model_wipe c_Model_wipe 1 none ∈ AW := tb3 (List.mem_of_getElem? (i := 174) rfl) rfl
theorem k_ml_Law_28 : Cond.methodLink "SegmentReaderLaw" 28 y_Model_read ∈ AW := tb3 (List.mem_of_getElem? (i := 175) rfl) rfl
theorem k_im_Model_read : Cond.instanceMethod y_Model_read ∈ AW := tb3 (List.mem_of_getElem? (i := 176) rfl) rfl
theorem k_se_Model_read : Cond.selects "SegmentReaderModel" y_Model_read y_Model_read ∈ AW := tb3 (List.mem_of_getElem? (i := 177) rfl) rfl
theorem k_cd_Model_read : Cond.code y_Model_read c_Model_read 1 (some .int) ∈ AW := tb3 (List.mem_of_getElem? (i := 178) rfl) rfl
theorem k_ml_Model_213 : Cond.methodLink "SegmentReaderModel" 213 y_Model_readFile ∈ AW := tb3 (List.mem_of_getElem? (i := 179) rfl) rfl
theorem k_im_Model_readFile : Cond.instanceMethod y_Model_readFile ∈ AW := tb3 (List.mem_of_getElem? (i := 181) rfl) rfl
theorem k_cd_Model_readFile : Cond.code y_Model_readFile c_Model_readFile 9 none ∈ AW := tb3 (List.mem_of_getElem? (i := 182) rfl) rfl
theorem k_ml_Model_128 : Cond.methodLink "SegmentReaderModel" 128 y_Model_next ∈ AW := tb3 (List.mem_of_getElem? (i := 183) rfl) rfl
theorem k_im_Model_next : Cond.instanceMethod y_Model_next ∈ AW := tb3 (List.mem_of_getElem? (i := 185) rfl) rfl
theorem k_cd_Model_next : Cond.code y_Model_next c_Model_next 1 (some .int) ∈ AW := tb3 (List.mem_of_getElem? (i := 186) rfl) rfl
theorem k_ml_Model_116 : Cond.methodLink "SegmentReaderModel" 116 y_Model_lengthAt ∈ AW := tb3 (List.mem_of_getElem? (i := 187) rfl) rfl
theorem k_im_Model_lengthAt : Cond.instanceMethod y_Model_lengthAt ∈ AW := tb3 (List.mem_of_getElem? (i := 189) rfl) rfl
theorem k_cd_Model_lengthAt : Cond.code y_Model_lengthAt c_Model_lengthAt 1 (some .int) ∈ AW := tb3 (List.mem_of_getElem? (i := 190) rfl) rfl
theorem k_ml_Model_120 : Cond.methodLink "SegmentReaderModel" 120 y_Model_wrong ∈ AW := tb3 (List.mem_of_getElem? (i := 191) rfl) rfl
theorem k_im_Model_wrong : Cond.instanceMethod y_Model_wrong ∈ AW := tb3 (List.mem_of_getElem? (i := 193) rfl) rfl
theorem k_cd_Model_wrong : Cond.code y_Model_wrong c_Model_wrong 3 (some .int) ∈ AW := tb3 (List.mem_of_getElem? (i := 194) rfl) rfl
theorem k_ml_Model_124 : Cond.methodLink "SegmentReaderModel" 124 y_Model_byteAt ∈ AW := tb3 (List.mem_of_getElem? (i := 195) rfl) rfl
theorem k_im_Model_byteAt : Cond.instanceMethod y_Model_byteAt ∈ AW := tb3 (List.mem_of_getElem? (i := 197) rfl) rfl
theorem k_cd_Model_byteAt : Cond.code y_Model_byteAt c_Model_byteAt 2 (some .int) ∈ AW := tb3 (List.mem_of_getElem? (i := 198) rfl) rfl
theorem k_ml_Model_178 : Cond.methodLink "SegmentReaderModel" 178 y_Model_marker ∈ AW := tb3 (List.mem_of_getElem? (i := 199) rfl) rfl
theorem k_im_Model_marker : Cond.instanceMethod y_Model_marker ∈ AW := tb3 (List.mem_of_getElem? (i := 201) rfl) rfl
theorem k_cd_Model_marker : Cond.code y_Model_marker c_Model_marker 2 (some .int) ∈ AW := tb3 (List.mem_of_getElem? (i := 202) rfl) rfl
theorem k_ml_Model_181 : Cond.methodLink "SegmentReaderModel" 181 y_Model_isSent ∈ AW := tb3 (List.mem_of_getElem? (i := 203) rfl) rfl
theorem k_im_Model_isSent : Cond.instanceMethod y_Model_isSent ∈ AW := tb3 (List.mem_of_getElem? (i := 205) rfl) rfl
theorem k_cd_Model_isSent : Cond.code y_Model_isSent c_Model_isSent 3 (some .boolean) ∈ AW := tb3 (List.mem_of_getElem? (i := 206) rfl) rfl
theorem k_ml_Model_185 : Cond.methodLink "SegmentReaderModel" 185 y_Model_segment1 ∈ AW := tb3 (List.mem_of_getElem? (i := 207) rfl) rfl
theorem k_im_Model_segment1 : Cond.instanceMethod y_Model_segment1 ∈ AW := tb3 (List.mem_of_getElem? (i := 209) rfl) rfl
theorem k_cd_Model_segment1 : Cond.code y_Model_segment1 c_Model_segment1 3 (some .boolean) ∈ AW := tb3 (List.mem_of_getElem? (i := 210) rfl) rfl
theorem k_ml_Model_189 : Cond.methodLink "SegmentReaderModel" 189 y_Model_open ∈ AW := tb3 (List.mem_of_getElem? (i := 211) rfl) rfl
theorem k_im_Model_open : Cond.instanceMethod y_Model_open ∈ AW := tb3 (List.mem_of_getElem? (i := 213) rfl) rfl
theorem k_cd_Model_open : Cond.code y_Model_open c_Model_open 3 none ∈ AW := tb3 (List.mem_of_getElem? (i := 214) rfl) rfl
theorem k_ml_Model_137 : Cond.methodLink "SegmentReaderModel" 137 y_Model_two ∈ AW := tb3 (List.mem_of_getElem? (i := 215) rfl) rfl
theorem k_im_Model_two : Cond.instanceMethod y_Model_two ∈ AW := tb3 (List.mem_of_getElem? (i := 217) rfl) rfl
theorem k_cd_Model_two : Cond.code y_Model_two c_Model_two 2 (some .int) ∈ AW := tb3 (List.mem_of_getElem? (i := 218) rfl) rfl
theorem k_ml_Model_192 : Cond.methodLink "SegmentReaderModel" 192 y_Model_readQuantisers ∈ AW := tb3 (List.mem_of_getElem? (i := 219) rfl) rfl
theorem k_im_Model_readQuantisers : Cond.instanceMethod y_Model_readQuantisers ∈ AW := tb3 (List.mem_of_getElem? (i := 221) rfl) rfl
theorem k_cd_Model_readQuantisers : Cond.code y_Model_readQuantisers c_Model_readQuantisers 5 none ∈ AW := tb3 (List.mem_of_getElem? (i := 222) rfl) rfl
theorem k_ml_Model_140 : Cond.methodLink "SegmentReaderModel" 140 y_Model_must ∈ AW := tb3 (List.mem_of_getElem? (i := 223) rfl) rfl
theorem k_im_Model_must : Cond.instanceMethod y_Model_must ∈ AW := tb3 (List.mem_of_getElem? (i := 225) rfl) rfl
theorem k_cd_Model_must : Cond.code y_Model_must c_Model_must 3 none ∈ AW := tb3 (List.mem_of_getElem? (i := 226) rfl) rfl
theorem k_ml_Model_195 : Cond.methodLink "SegmentReaderModel" 195 y_Model_readWords ∈ AW := tb3 (List.mem_of_getElem? (i := 227) rfl) rfl
theorem k_im_Model_readWords : Cond.instanceMethod y_Model_readWords ∈ AW := tb3 (List.mem_of_getElem? (i := 229) rfl) rfl
theorem k_cd_Model_readWords : Cond.code y_Model_readWords c_Model_readWords 4 none ∈ AW := tb3 (List.mem_of_getElem? (i := 230) rfl) rfl
theorem k_ml_Model_144 : Cond.methodLink "SegmentReaderModel" 144 y_Model_readTable ∈ AW := tb3 (List.mem_of_getElem? (i := 231) rfl) rfl
theorem k_im_Model_readTable : Cond.instanceMethod y_Model_readTable ∈ AW := tb3 (List.mem_of_getElem? (i := 233) rfl) rfl
theorem k_cd_Model_readTable : Cond.code y_Model_readTable c_Model_readTable 7 none ∈ AW := tb3 (List.mem_of_getElem? (i := 234) rfl) rfl
theorem k_co_Model_148 : Cond.constantLong "SegmentReaderModel" 148 (2 : Int64) ∈ AW := tb3 (List.mem_of_getElem? (i := 235) rfl) rfl
theorem k_ml_Model_198 : Cond.methodLink "SegmentReaderModel" 198 y_Model_readFrame ∈ AW := tb3 (List.mem_of_getElem? (i := 236) rfl) rfl
theorem k_im_Model_readFrame : Cond.instanceMethod y_Model_readFrame ∈ AW := tb3 (List.mem_of_getElem? (i := 238) rfl) rfl
theorem k_cd_Model_readFrame : Cond.code y_Model_readFrame c_Model_readFrame 6 none ∈ AW := tb3 (List.mem_of_getElem? (i := 239) rfl) rfl
theorem k_ml_Model_201 : Cond.methodLink "SegmentReaderModel" 201 y_Model_readScan ∈ AW := tb4 (List.mem_of_getElem? (i := 0) rfl) rfl
theorem k_im_Model_readScan : Cond.instanceMethod y_Model_readScan ∈ AW := tb4 (List.mem_of_getElem? (i := 2) rfl) rfl
theorem k_cd_Model_readScan : Cond.code y_Model_readScan c_Model_readScan 6 none ∈ AW := tb4 (List.mem_of_getElem? (i := 3) rfl) rfl
theorem k_ml_Model_153 : Cond.methodLink "SegmentReaderModel" 153 y_Model_named ∈ AW := tb4 (List.mem_of_getElem? (i := 4) rfl) rfl
theorem k_im_Model_named : Cond.instanceMethod y_Model_named ∈ AW := tb4 (List.mem_of_getElem? (i := 6) rfl) rfl
theorem k_cd_Model_named : Cond.code y_Model_named c_Model_named 4 (some .int) ∈ AW := tb4 (List.mem_of_getElem? (i := 7) rfl) rfl
theorem k_ml_Model_168 : Cond.methodLink "SegmentReaderModel" 168 y_Model_order ∈ AW := tb4 (List.mem_of_getElem? (i := 8) rfl) rfl
theorem k_im_Model_order : Cond.instanceMethod y_Model_order ∈ AW := tb4 (List.mem_of_getElem? (i := 10) rfl) rfl
theorem k_cd_Model_order : Cond.code y_Model_order c_Model_order 7 none ∈ AW := tb4 (List.mem_of_getElem? (i := 11) rfl) rfl
theorem k_ml_Model_172 : Cond.methodLink "SegmentReaderModel" 172 y_Model_needs ∈ AW := tb4 (List.mem_of_getElem? (i := 12) rfl) rfl
theorem k_im_Model_needs : Cond.instanceMethod y_Model_needs ∈ AW := tb4 (List.mem_of_getElem? (i := 14) rfl) rfl
theorem k_cd_Model_needs : Cond.code y_Model_needs c_Model_needs 4 none ∈ AW := tb4 (List.mem_of_getElem? (i := 15) rfl) rfl
theorem k_ml_Model_204 : Cond.methodLink "SegmentReaderModel" 204 y_Model_any ∈ AW := tb4 (List.mem_of_getElem? (i := 16) rfl) rfl
theorem k_im_Model_any : Cond.instanceMethod y_Model_any ∈ AW := tb4 (List.mem_of_getElem? (i := 18) rfl) rfl
theorem k_cd_Model_any : Cond.code y_Model_any c_Model_any 2 none ∈ AW := tb4 (List.mem_of_getElem? (i := 19) rfl) rfl
theorem k_ml_Model_207 : Cond.methodLink "SegmentReaderModel" 207 y_Model_close ∈ AW := tb4 (List.mem_of_getElem? (i := 20) rfl) rfl
theorem k_im_Model_close : Cond.instanceMethod y_Model_close ∈ AW := tb4 (List.mem_of_getElem? (i := 22) rfl) rfl
theorem k_cd_Model_close : Cond.code y_Model_close c_Model_close 3 none ∈ AW := tb4 (List.mem_of_getElem? (i := 23) rfl) rfl
theorem k_ml_Model_210 : Cond.methodLink "SegmentReaderModel" 210 y_Model_keepScan ∈ AW := tb4 (List.mem_of_getElem? (i := 24) rfl) rfl
theorem k_im_Model_keepScan : Cond.instanceMethod y_Model_keepScan ∈ AW := tb4 (List.mem_of_getElem? (i := 26) rfl) rfl
theorem k_cd_Model_keepScan : Cond.code y_Model_keepScan c_Model_keepScan 4 none ∈ AW := tb4 (List.mem_of_getElem? (i := 27) rfl) rfl
theorem k_ml_Model_175 : Cond.methodLink "SegmentReaderModel" 175 y_Model_readData ∈ AW := tb4 (List.mem_of_getElem? (i := 28) rfl) rfl
theorem k_im_Model_readData : Cond.instanceMethod y_Model_readData ∈ AW := tb4 (List.mem_of_getElem? (i := 30) rfl) rfl
theorem k_cd_Model_readData : Cond.code y_Model_readData c_Model_readData 8 none ∈ AW := tb4 (List.mem_of_getElem? (i := 31) rfl) rfl
theorem k_ml_Law_33 : Cond.methodLink "SegmentReaderLaw" 33 y_Model_segment ∈ AW := tb4 (List.mem_of_getElem? (i := 32) rfl) rfl
theorem k_im_Model_segment : Cond.instanceMethod y_Model_segment ∈ AW := tb4 (List.mem_of_getElem? (i := 33) rfl) rfl
theorem k_se_Model_segment : Cond.selects "SegmentReaderModel" y_Model_segment y_Model_segment ∈ AW := tb4 (List.mem_of_getElem? (i := 34) rfl) rfl
theorem k_cd_Model_segment : Cond.code y_Model_segment c_Model_segment 3 (some .int) ∈ AW := tb4 (List.mem_of_getElem? (i := 35) rfl) rfl
theorem k_ml_Law_38 : Cond.methodLink "SegmentReaderLaw" 38 y_Model_frame ∈ AW := tb4 (List.mem_of_getElem? (i := 36) rfl) rfl
theorem k_im_Model_frame : Cond.instanceMethod y_Model_frame ∈ AW := tb4 (List.mem_of_getElem? (i := 37) rfl) rfl
theorem k_se_Model_frame : Cond.selects "SegmentReaderModel" y_Model_frame y_Model_frame ∈ AW := tb4 (List.mem_of_getElem? (i := 38) rfl) rfl
theorem k_cd_Model_frame : Cond.code y_Model_frame c_Model_frame 5 (some .int) ∈ AW := tb4 (List.mem_of_getElem? (i := 39) rfl) rfl
theorem k_ml_Law_42 : Cond.methodLink "SegmentReaderLaw" 42 y_Model_component ∈ AW := tb4 (List.mem_of_getElem? (i := 40) rfl) rfl
theorem k_im_Model_component : Cond.instanceMethod y_Model_component ∈ AW := tb4 (List.mem_of_getElem? (i := 41) rfl) rfl
theorem k_se_Model_component : Cond.selects "SegmentReaderModel" y_Model_component y_Model_component ∈ AW := tb4 (List.mem_of_getElem? (i := 42) rfl) rfl
theorem k_cd_Model_component : Cond.code y_Model_component c_Model_component 3 (some .int) ∈ AW := tb4 (List.mem_of_getElem? (i := 43) rfl) rfl
theorem k_ml_Law_46 : Cond.methodLink "SegmentReaderLaw" 46 y_Model_scan ∈ AW := tb4 (List.mem_of_getElem? (i := 44) rfl) rfl
theorem k_im_Model_scan : Cond.instanceMethod y_Model_scan ∈ AW := tb4 (List.mem_of_getElem? (i := 45) rfl) rfl
theorem k_se_Model_scan : Cond.selects "SegmentReaderModel" y_Model_scan y_Model_scan ∈ AW := tb4 (List.mem_of_getElem? (i := 46) rfl) rfl
theorem k_cd_Model_scan : Cond.code y_Model_scan c_Model_scan 4 (some .int) ∈ AW := tb4 (List.mem_of_getElem? (i := 47) rfl) rfl
theorem k_ml_Law_50 : Cond.methodLink "SegmentReaderLaw" 50 y_Model_data ∈ AW := tb4 (List.mem_of_getElem? (i := 48) rfl) rfl
theorem k_im_Model_data : Cond.instanceMethod y_Model_data ∈ AW := tb4 (List.mem_of_getElem? (i := 49) rfl) rfl
theorem k_se_Model_data : Cond.selects "SegmentReaderModel" y_Model_data y_Model_data ∈ AW := tb4 (List.mem_of_getElem? (i := 50) rfl) rfl
theorem k_cd_Model_data : Cond.code y_Model_data c_Model_data 8 (some .int) ∈ AW := tb4 (List.mem_of_getElem? (i := 51) rfl) rfl
theorem k_ml_Law_54 : Cond.methodLink "SegmentReaderLaw" 54 y_Model_quantiser ∈ AW := tb4 (List.mem_of_getElem? (i := 52) rfl) rfl
theorem k_im_Model_quantiser : Cond.instanceMethod y_Model_quantiser ∈ AW := tb4 (List.mem_of_getElem? (i := 53) rfl) rfl
theorem k_se_Model_quantiser : Cond.selects "SegmentReaderModel" y_Model_quantiser y_Model_quantiser ∈ AW := tb4 (List.mem_of_getElem? (i := 54) rfl) rfl
theorem k_cd_Model_quantiser : Cond.code y_Model_quantiser c_Model_quantiser 4 (some .int) ∈ AW := tb4 (List.mem_of_getElem? (i := 55) rfl) rfl
theorem k_ml_Law_59 : Cond.methodLink "SegmentReaderLaw" 59 y_Model_word ∈ AW := tb4 (List.mem_of_getElem? (i := 56) rfl) rfl
theorem k_im_Model_word : Cond.instanceMethod y_Model_word ∈ AW := tb4 (List.mem_of_getElem? (i := 57) rfl) rfl
theorem k_se_Model_word : Cond.selects "SegmentReaderModel" y_Model_word y_Model_word ∈ AW := tb4 (List.mem_of_getElem? (i := 58) rfl) rfl
theorem k_cd_Model_word : Cond.code y_Model_word c_Model_word 6 (some .int) ∈ AW := tb4 (List.mem_of_getElem? (i := 59) rfl) rfl
theorem k_ml_Law_63 : Cond.methodLink "SegmentReaderLaw" 63 y_Model_look ∈ AW := tb4 (List.mem_of_getElem? (i := 60) rfl) rfl
theorem k_im_Model_look : Cond.instanceMethod y_Model_look ∈ AW := tb4 (List.mem_of_getElem? (i := 61) rfl) rfl
theorem k_se_Model_look : Cond.selects "SegmentReaderModel" y_Model_look y_Model_look ∈ AW := tb4 (List.mem_of_getElem? (i := 62) rfl) rfl
theorem k_cd_Model_look : Cond.code y_Model_look c_Model_look 2 (some .int) ∈ AW := tb4 (List.mem_of_getElem? (i := 63) rfl) rfl
theorem k_co_Law_13 : Cond.constantLong "SegmentReaderLaw" 13 (4294967295 : Int64) ∈ AW := tb4 (List.mem_of_getElem? (i := 64) rfl) rfl
end
section
/-! the states of the two systems, and the cells that hold them -/
abbrev St : Type := (Nat → Int32) × (Nat → Nat → Int32) × (Nat → Nat → Int64) × (Nat → Nat)
def sG (t : St) (k : Nat) (v : Int32) : St := (upd t.1 k v, t.2)
def sH (t : St) (k i : Nat) (v : Int32) : St := (t.1, va_up t.2.1 k (upd (t.2.1 k) i v), t.2.2)
def sL (t : St) (k i : Nat) (v : Int64) : St := (t.1, t.2.1, va_up t.2.2.1 k (vp_updL (t.2.2.1 k) i v), t.2.2.2)
def sA (t : St) (k n : Nat) (f : Nat → Int32) : St := (t.1, va_up t.2.1 k f, t.2.2.1, va_up t.2.2.2 k n)
abbrev tyA (cI cB cJ cZ : ClassId) : List (ClassId × FieldType) := [(cI, .int), (cB, .byte), (cJ, .long), (cZ, .boolean)]
def aU (a : Nat → Nat) (u : Nat × Nat × Nat) : Nat → Nat := fun k => if k = 2 then u.1 else if k = 5 then u.2.1 else if k = 7 then u.2.2 else a k
def wO (cI cB cJ cZ : ClassId) (a : Nat → Nat) (t : St) : va_W := [(a 0, .inr (5, [.ref (a 1), .ref (a 3), .ref (a 11)])),
  (a 1, .inr (0, [.ref (a 2), .int (t.1 0)])),
  (a 2, .inl (cB, t.2.2.2 0, .inl (t.2.1 0))),
  (a 3, .inr (3, [.ref (a 1), .ref (a 4), .ref (a 6), .ref (a 8), .ref (a 9), .ref (a 10), .int (t.1 1), .int (t.1 2), .int (t.1 3), .int (t.1 4), .int (t.1 5), .int (t.1 6)])),
  (a 4, .inr (1, [.ref (a 5), .int (t.1 7)])),
  (a 5, .inl (cI, t.2.2.2 1, .inl (t.2.1 1))),
  (a 6, .inr (1, [.ref (a 7), .int (t.1 8)])),
  (a 7, .inl (cI, t.2.2.2 2, .inl (t.2.1 2))),
  (a 8, .inl (cI, 16, .inl (t.2.1 3))),
  (a 9, .inl (cI, 4, .inl (t.2.1 4))),
  (a 10, .inl (cI, 8, .inl (t.2.1 5))),
  (a 11, .inr (2, [.ref (a 1), .ref (a 3), .ref (a 12), .ref (a 14), .ref (a 15), .int (t.1 9), .int (t.1 10), .int (t.1 11), .int (t.1 12), .int (t.1 13), .int (t.1 14)])),
  (a 12, .inr (4, [.int (t.1 15), .int (t.1 16), .int (t.1 17), .int (t.1 18), .int (t.1 19), .int (t.1 20), .ref (a 13)])),
  (a 13, .inl (cI, 4, .inl (t.2.1 6))),
  (a 14, .inl (cI, 256, .inl (t.2.1 7))),
  (a 15, .inl (cJ, 4, .inr (.inl (t.2.2.1 0))))]
def isO : List Nat := [0, 1, 2, 3, 4, 5, 6, 7, 8, 9, 10, 11, 12, 13, 14, 15]
theorem hCO (cI cB cJ cZ : ClassId) (a : Nat → Nat) (t : St) : isO.map (fun i => (wO cI cB cJ cZ a t)[i]?) = (wO cI cB cJ cZ a t).map some := rfl
theorem hDO (cI cB cJ cZ : ClassId) (a : Nat → Nat) (t : St) : isO.filterMap (fun i => (wO cI cB cJ cZ a t)[i]?) = wO cI cB cJ cZ a t := rfl
def wM (cI cB cJ cZ : ClassId) (a : Nat → Nat) (t : St) : va_W := [(a 0, .inr (6, [.int (t.1 0), .ref (a 1), .int (t.1 1), .int (t.1 2), .int (t.1 3), .int (t.1 4), .int (t.1 5), .int (t.1 6), .int (t.1 7), .int (t.1 8), .ref (a 2), .int (t.1 9), .int (t.1 10), .int (t.1 11), .int (t.1 12), .ref (a 3), .ref (a 4), .ref (a 5), .ref (a 6), .int (t.1 13), .ref (a 7), .ref (a 8), .ref (a 9), .ref (a 10), .ref (a 11), .ref (a 12), .int (t.1 14), .ref (a 13), .ref (a 14), .int (t.1 15), .ref (a 15), .ref (a 16), .ref (a 17), .ref (a 18), .ref (a 19), .int (t.1 16), .int (t.1 17), .int (t.1 18), .int (t.1 19), .int (t.1 20)])),
  (a 1, .inl (cB, 16384, .inl (t.2.1 0))),
  (a 2, .inl (cI, 16384, .inl (t.2.1 1))),
  (a 3, .inl (cI, 4, .inl (t.2.1 2))),
  (a 4, .inl (cI, 4, .inl (t.2.1 3))),
  (a 5, .inl (cI, 4, .inl (t.2.1 4))),
  (a 6, .inl (cI, 4, .inl (t.2.1 5))),
  (a 7, .inl (cZ, 4, .inl (t.2.1 6))),
  (a 8, .inl (cI, 256, .inl (t.2.1 7))),
  (a 9, .inl (cZ, 8, .inl (t.2.1 8))),
  (a 10, .inl (cI, 136, .inl (t.2.1 9))),
  (a 11, .inl (cI, 2048, .inl (t.2.1 10))),
  (a 12, .inl (cI, 8, .inl (t.2.1 11))),
  (a 13, .inl (cI, 61440, .inl (t.2.1 12))),
  (a 14, .inl (cI, 256, .inl (t.2.1 13))),
  (a 15, .inl (cI, 4, .inl (t.2.1 14))),
  (a 16, .inl (cI, 4, .inl (t.2.1 15))),
  (a 17, .inl (cI, 4, .inl (t.2.1 16))),
  (a 18, .inl (cI, 4, .inl (t.2.1 17))),
  (a 19, .inl (cZ, 256, .inl (t.2.1 18)))]
def isM : List Nat := [0, 1, 2, 3, 4, 5, 6, 7, 8, 9, 10, 11, 12, 13, 14, 15, 16, 17, 18, 19]
theorem hCM (cI cB cJ cZ : ClassId) (a : Nat → Nat) (t : St) : isM.map (fun i => (wM cI cB cJ cZ a t)[i]?) = (wM cI cB cJ cZ a t).map some := rfl
theorem hDM (cI cB cJ cZ : ClassId) (a : Nat → Nat) (t : St) : isM.filterMap (fun i => (wM cI cB cJ cZ a t)[i]?) = wM cI cB cJ cZ a t := rfl
end
