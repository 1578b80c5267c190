section
-- ===== PART A: goes FIRST, ahead of the names: the tables' words, and 'selects' of the private methods out of them =====
/-- a private method of a class that the tables say can be made, by its rows of tables_1 -/
def lw_okq (q : MethodName × Nat) : Prop := (q.1.cls ≠ "java/lang/invoke/MethodHandle" ∧ q.1.cls ≠ "java/lang/invoke/VarHandle") ∧ Cond.instantiable q.1.cls q.2 ∈ tables_1 ∧ Cond.privateMethod q.1 ∈ tables_1 ∧ Cond.instanceMethod q.1 ∈ tables_1
theorem lw_p0 : lw_okq (⟨"ReelOfBoxes$Writer", "moovSize", "()I"⟩, 6) := ⟨⟨by decide +kernel, by decide +kernel⟩, List.mem_of_getElem? (i := 223) (by decide +kernel), List.mem_of_getElem? (i := 307) (by decide +kernel), List.mem_of_getElem? (i := 308) (by decide +kernel)⟩
theorem lw_p1 : lw_okq (⟨"ReelOfBoxes$Writer", "stblSize", "(LReelOfBoxes$Track;)I"⟩, 6) := ⟨⟨by decide +kernel, by decide +kernel⟩, List.mem_of_getElem? (i := 223) (by decide +kernel), List.mem_of_getElem? (i := 312) (by decide +kernel), List.mem_of_getElem? (i := 313) (by decide +kernel)⟩
theorem lw_p2 : lw_okq (⟨"ReelOfBoxes$Writer", "sttsEntries", "(LReelOfBoxes$Track;)I"⟩, 6) := ⟨⟨by decide +kernel, by decide +kernel⟩, List.mem_of_getElem? (i := 223) (by decide +kernel), List.mem_of_getElem? (i := 316) (by decide +kernel), List.mem_of_getElem? (i := 317) (by decide +kernel)⟩
theorem lw_p3 : lw_okq (⟨"ReelOfBoxes$Writer", "beginsRow", "(LReelOfBoxes$Track;I)Z"⟩, 6) := ⟨⟨by decide +kernel, by decide +kernel⟩, List.mem_of_getElem? (i := 223) (by decide +kernel), List.mem_of_getElem? (i := 324) (by decide +kernel), List.mem_of_getElem? (i := 325) (by decide +kernel)⟩
theorem lw_p4 : lw_okq (⟨"ReelOfBoxes$Writer", "stscEntries", "(LReelOfBoxes$Track;)I"⟩, 6) := ⟨⟨by decide +kernel, by decide +kernel⟩, List.mem_of_getElem? (i := 223) (by decide +kernel), List.mem_of_getElem? (i := 335) (by decide +kernel), List.mem_of_getElem? (i := 336) (by decide +kernel)⟩
theorem lw_p5 : lw_okq (⟨"ReelOfBoxes$Writer", "chunkCount", "(LReelOfBoxes$Track;)I"⟩, 6) := ⟨⟨by decide +kernel, by decide +kernel⟩, List.mem_of_getElem? (i := 223) (by decide +kernel), List.mem_of_getElem? (i := 342) (by decide +kernel), List.mem_of_getElem? (i := 343) (by decide +kernel)⟩
theorem lw_p6 : lw_okq (⟨"ReelOfBoxes$Writer", "placeWidth", "()I"⟩, 6) := ⟨⟨by decide +kernel, by decide +kernel⟩, List.mem_of_getElem? (i := 223) (by decide +kernel), List.mem_of_getElem? (i := 346) (by decide +kernel), List.mem_of_getElem? (i := 347) (by decide +kernel)⟩
theorem lw_p7 : lw_okq (⟨"ReelOfBoxes$Writer", "layChunks", "(I)I"⟩, 6) := ⟨⟨by decide +kernel, by decide +kernel⟩, List.mem_of_getElem? (i := 223) (by decide +kernel), List.mem_of_getElem? (i := 350) (by decide +kernel), List.mem_of_getElem? (i := 351) (by decide +kernel)⟩
theorem lw_p8 : lw_okq (⟨"ReelOfBoxes$Writer", "chunkBytes", "(LReelOfBoxes$Track;I)I"⟩, 6) := ⟨⟨by decide +kernel, by decide +kernel⟩, List.mem_of_getElem? (i := 223) (by decide +kernel), List.mem_of_getElem? (i := 354) (by decide +kernel), List.mem_of_getElem? (i := 355) (by decide +kernel)⟩
theorem lw_p9 : lw_okq (⟨"ReelOfBoxes$Writer", "chunkEnd", "(LReelOfBoxes$Track;I)I"⟩, 6) := ⟨⟨by decide +kernel, by decide +kernel⟩, List.mem_of_getElem? (i := 223) (by decide +kernel), List.mem_of_getElem? (i := 358) (by decide +kernel), List.mem_of_getElem? (i := 359) (by decide +kernel)⟩
theorem lw_p10 : lw_okq (⟨"ReelOfBoxes$Writer", "writeMoov", "(I)V"⟩, 6) := ⟨⟨by decide +kernel, by decide +kernel⟩, List.mem_of_getElem? (i := 223) (by decide +kernel), List.mem_of_getElem? (i := 373) (by decide +kernel), List.mem_of_getElem? (i := 374) (by decide +kernel)⟩
theorem lw_p11 : lw_okq (⟨"ReelOfBoxes$Writer", "putHead", "(II)V"⟩, 6) := ⟨⟨by decide +kernel, by decide +kernel⟩, List.mem_of_getElem? (i := 223) (by decide +kernel), List.mem_of_getElem? (i := 378) (by decide +kernel), List.mem_of_getElem? (i := 379) (by decide +kernel)⟩
theorem lw_p12 : lw_okq (⟨"ReelOfBoxes$Writer", "put", "(J)V"⟩, 6) := ⟨⟨by decide +kernel, by decide +kernel⟩, List.mem_of_getElem? (i := 223) (by decide +kernel), List.mem_of_getElem? (i := 382) (by decide +kernel), List.mem_of_getElem? (i := 383) (by decide +kernel)⟩
theorem lw_p13 : lw_okq (⟨"ReelOfBoxes$Writer", "writeStts", "(LReelOfBoxes$Track;)V"⟩, 6) := ⟨⟨by decide +kernel, by decide +kernel⟩, List.mem_of_getElem? (i := 223) (by decide +kernel), List.mem_of_getElem? (i := 392) (by decide +kernel), List.mem_of_getElem? (i := 393) (by decide +kernel)⟩
theorem lw_p14 : lw_okq (⟨"ReelOfBoxes$Writer", "putTableHead", "(III)V"⟩, 6) := ⟨⟨by decide +kernel, by decide +kernel⟩, List.mem_of_getElem? (i := 223) (by decide +kernel), List.mem_of_getElem? (i := 397) (by decide +kernel), List.mem_of_getElem? (i := 398) (by decide +kernel)⟩
theorem lw_p15 : lw_okq (⟨"ReelOfBoxes$Writer", "rowFrom", "(LReelOfBoxes$Track;I)I"⟩, 6) := ⟨⟨by decide +kernel, by decide +kernel⟩, List.mem_of_getElem? (i := 223) (by decide +kernel), List.mem_of_getElem? (i := 401) (by decide +kernel), List.mem_of_getElem? (i := 402) (by decide +kernel)⟩
def lw_privs_1 : List (MethodName × Nat) := [(⟨"ReelOfBoxes$Writer", "moovSize", "()I"⟩, 6), (⟨"ReelOfBoxes$Writer", "stblSize", "(LReelOfBoxes$Track;)I"⟩, 6), (⟨"ReelOfBoxes$Writer", "sttsEntries", "(LReelOfBoxes$Track;)I"⟩, 6), (⟨"ReelOfBoxes$Writer", "beginsRow", "(LReelOfBoxes$Track;I)Z"⟩, 6), (⟨"ReelOfBoxes$Writer", "stscEntries", "(LReelOfBoxes$Track;)I"⟩, 6), (⟨"ReelOfBoxes$Writer", "chunkCount", "(LReelOfBoxes$Track;)I"⟩, 6), (⟨"ReelOfBoxes$Writer", "placeWidth", "()I"⟩, 6), (⟨"ReelOfBoxes$Writer", "layChunks", "(I)I"⟩, 6), (⟨"ReelOfBoxes$Writer", "chunkBytes", "(LReelOfBoxes$Track;I)I"⟩, 6), (⟨"ReelOfBoxes$Writer", "chunkEnd", "(LReelOfBoxes$Track;I)I"⟩, 6), (⟨"ReelOfBoxes$Writer", "writeMoov", "(I)V"⟩, 6), (⟨"ReelOfBoxes$Writer", "putHead", "(II)V"⟩, 6), (⟨"ReelOfBoxes$Writer", "put", "(J)V"⟩, 6), (⟨"ReelOfBoxes$Writer", "writeStts", "(LReelOfBoxes$Track;)V"⟩, 6), (⟨"ReelOfBoxes$Writer", "putTableHead", "(III)V"⟩, 6), (⟨"ReelOfBoxes$Writer", "rowFrom", "(LReelOfBoxes$Track;I)I"⟩, 6)]
theorem lw_r1 : ∀ q ∈ lw_privs_1, lw_okq q := List.forall_mem_cons.mpr ⟨lw_p0, List.forall_mem_cons.mpr ⟨lw_p1, List.forall_mem_cons.mpr ⟨lw_p2, List.forall_mem_cons.mpr ⟨lw_p3, List.forall_mem_cons.mpr ⟨lw_p4, List.forall_mem_cons.mpr ⟨lw_p5, List.forall_mem_cons.mpr ⟨lw_p6, List.forall_mem_cons.mpr ⟨lw_p7, List.forall_mem_cons.mpr ⟨lw_p8, List.forall_mem_cons.mpr ⟨lw_p9, List.forall_mem_cons.mpr ⟨lw_p10, List.forall_mem_cons.mpr ⟨lw_p11, List.forall_mem_cons.mpr ⟨lw_p12, List.forall_mem_cons.mpr ⟨lw_p13, List.forall_mem_cons.mpr ⟨lw_p14, List.forall_mem_cons.mpr ⟨lw_p15, fun _ h => absurd h List.not_mem_nil⟩⟩⟩⟩⟩⟩⟩⟩⟩⟩⟩⟩⟩⟩⟩⟩
theorem lw_p16 : lw_okq (⟨"ReelOfBoxes$Writer", "writeStsc", "(LReelOfBoxes$Track;)V"⟩, 6) := ⟨⟨by decide +kernel, by decide +kernel⟩, List.mem_of_getElem? (i := 223) (by decide +kernel), List.mem_of_getElem? (i := 405) (by decide +kernel), List.mem_of_getElem? (i := 406) (by decide +kernel)⟩
theorem lw_p17 : lw_okq (⟨"ReelOfBoxes$Writer", "putStscEntry", "(LReelOfBoxes$Track;I)V"⟩, 6) := ⟨⟨by decide +kernel, by decide +kernel⟩, List.mem_of_getElem? (i := 223) (by decide +kernel), List.mem_of_getElem? (i := 410) (by decide +kernel), List.mem_of_getElem? (i := 411) (by decide +kernel)⟩
theorem lw_p18 : lw_okq (⟨"ReelOfBoxes$Writer", "writeStsz", "(LReelOfBoxes$Track;)V"⟩, 6) := ⟨⟨by decide +kernel, by decide +kernel⟩, List.mem_of_getElem? (i := 223) (by decide +kernel), List.mem_of_getElem? (i := 414) (by decide +kernel), List.mem_of_getElem? (i := 415) (by decide +kernel)⟩
theorem lw_p19 : lw_okq (⟨"ReelOfBoxes$Writer", "writePlaces", "(LReelOfBoxes$Track;I)V"⟩, 6) := ⟨⟨by decide +kernel, by decide +kernel⟩, List.mem_of_getElem? (i := 223) (by decide +kernel), List.mem_of_getElem? (i := 419) (by decide +kernel), List.mem_of_getElem? (i := 420) (by decide +kernel)⟩
theorem lw_p20 : lw_okq (⟨"ReelOfBoxes$Writer", "writeMdat", "(I)V"⟩, 6) := ⟨⟨by decide +kernel, by decide +kernel⟩, List.mem_of_getElem? (i := 223) (by decide +kernel), List.mem_of_getElem? (i := 425) (by decide +kernel), List.mem_of_getElem? (i := 426) (by decide +kernel)⟩
theorem lw_p21 : lw_okq (⟨"ReelOfBoxes$Writer", "writeChunk", "(LReelOfBoxes$Track;I)V"⟩, 6) := ⟨⟨by decide +kernel, by decide +kernel⟩, List.mem_of_getElem? (i := 223) (by decide +kernel), List.mem_of_getElem? (i := 430) (by decide +kernel), List.mem_of_getElem? (i := 431) (by decide +kernel)⟩
theorem lw_p22 : lw_okq (⟨"ReelOfBoxes$Finder", "begin", "()V"⟩, 16) := ⟨⟨by decide +kernel, by decide +kernel⟩, List.mem_of_getElem? (i := 92) (by decide +kernel), List.mem_of_getElem? (i := 458) (by decide +kernel), List.mem_of_getElem? (i := 459) (by decide +kernel)⟩
theorem lw_p23 : lw_okq (⟨"ReelOfBoxes$Finder", "takeBox", "()Z"⟩, 16) := ⟨⟨by decide +kernel, by decide +kernel⟩, List.mem_of_getElem? (i := 92) (by decide +kernel), List.mem_of_getElem? (i := 463) (by decide +kernel), List.mem_of_getElem? (i := 464) (by decide +kernel)⟩
theorem lw_p24 : lw_okq (⟨"ReelOfBoxes$Finder", "readHead", "(I)Z"⟩, 16) := ⟨⟨by decide +kernel, by decide +kernel⟩, List.mem_of_getElem? (i := 92) (by decide +kernel), List.mem_of_getElem? (i := 467) (by decide +kernel), List.mem_of_getElem? (i := 468) (by decide +kernel)⟩
theorem lw_p25 : lw_okq (⟨"ReelOfBoxes$Finder", "keepBox", "()Z"⟩, 16) := ⟨⟨by decide +kernel, by decide +kernel⟩, List.mem_of_getElem? (i := 92) (by decide +kernel), List.mem_of_getElem? (i := 479) (by decide +kernel), List.mem_of_getElem? (i := 480) (by decide +kernel)⟩
theorem lw_p26 : lw_okq (⟨"ReelOfBoxes$Finder", "keepInFile", "()Z"⟩, 16) := ⟨⟨by decide +kernel, by decide +kernel⟩, List.mem_of_getElem? (i := 92) (by decide +kernel), List.mem_of_getElem? (i := 483) (by decide +kernel), List.mem_of_getElem? (i := 484) (by decide +kernel)⟩
theorem lw_p27 : lw_okq (⟨"ReelOfBoxes$Finder", "openTrak", "()Z"⟩, 16) := ⟨⟨by decide +kernel, by decide +kernel⟩, List.mem_of_getElem? (i := 92) (by decide +kernel), List.mem_of_getElem? (i := 490) (by decide +kernel), List.mem_of_getElem? (i := 491) (by decide +kernel)⟩
theorem lw_p28 : lw_okq (⟨"ReelOfBoxes$Finder", "keepTable", "()Z"⟩, 16) := ⟨⟨by decide +kernel, by decide +kernel⟩, List.mem_of_getElem? (i := 92) (by decide +kernel), List.mem_of_getElem? (i := 507) (by decide +kernel), List.mem_of_getElem? (i := 508) (by decide +kernel)⟩
theorem lw_p29 : lw_okq (⟨"ReelOfBoxes$Finder", "stepOn", "()V"⟩, 16) := ⟨⟨by decide +kernel, by decide +kernel⟩, List.mem_of_getElem? (i := 92) (by decide +kernel), List.mem_of_getElem? (i := 530) (by decide +kernel), List.mem_of_getElem? (i := 531) (by decide +kernel)⟩
theorem lw_p30 : lw_okq (⟨"ReelOfBoxes$Finder", "levelIsWhole", "()Z"⟩, 16) := ⟨⟨by decide +kernel, by decide +kernel⟩, List.mem_of_getElem? (i := 92) (by decide +kernel), List.mem_of_getElem? (i := 536) (by decide +kernel), List.mem_of_getElem? (i := 537) (by decide +kernel)⟩
theorem lw_p31 : lw_okq (⟨"ReelOfBoxes$Reader", "tablesAreRight", "()Z"⟩, 3) := ⟨⟨by decide +kernel, by decide +kernel⟩, List.mem_of_getElem? (i := 71) (by decide +kernel), List.mem_of_getElem? (i := 549) (by decide +kernel), List.mem_of_getElem? (i := 550) (by decide +kernel)⟩
def lw_privs_2 : List (MethodName × Nat) := [(⟨"ReelOfBoxes$Writer", "writeStsc", "(LReelOfBoxes$Track;)V"⟩, 6), (⟨"ReelOfBoxes$Writer", "putStscEntry", "(LReelOfBoxes$Track;I)V"⟩, 6), (⟨"ReelOfBoxes$Writer", "writeStsz", "(LReelOfBoxes$Track;)V"⟩, 6), (⟨"ReelOfBoxes$Writer", "writePlaces", "(LReelOfBoxes$Track;I)V"⟩, 6), (⟨"ReelOfBoxes$Writer", "writeMdat", "(I)V"⟩, 6), (⟨"ReelOfBoxes$Writer", "writeChunk", "(LReelOfBoxes$Track;I)V"⟩, 6), (⟨"ReelOfBoxes$Finder", "begin", "()V"⟩, 16), (⟨"ReelOfBoxes$Finder", "takeBox", "()Z"⟩, 16), (⟨"ReelOfBoxes$Finder", "readHead", "(I)Z"⟩, 16), (⟨"ReelOfBoxes$Finder", "keepBox", "()Z"⟩, 16), (⟨"ReelOfBoxes$Finder", "keepInFile", "()Z"⟩, 16), (⟨"ReelOfBoxes$Finder", "openTrak", "()Z"⟩, 16), (⟨"ReelOfBoxes$Finder", "keepTable", "()Z"⟩, 16), (⟨"ReelOfBoxes$Finder", "stepOn", "()V"⟩, 16), (⟨"ReelOfBoxes$Finder", "levelIsWhole", "()Z"⟩, 16), (⟨"ReelOfBoxes$Reader", "tablesAreRight", "()Z"⟩, 3)]
theorem lw_r2 : ∀ q ∈ lw_privs_2, lw_okq q := List.forall_mem_cons.mpr ⟨lw_p16, List.forall_mem_cons.mpr ⟨lw_p17, List.forall_mem_cons.mpr ⟨lw_p18, List.forall_mem_cons.mpr ⟨lw_p19, List.forall_mem_cons.mpr ⟨lw_p20, List.forall_mem_cons.mpr ⟨lw_p21, List.forall_mem_cons.mpr ⟨lw_p22, List.forall_mem_cons.mpr ⟨lw_p23, List.forall_mem_cons.mpr ⟨lw_p24, List.forall_mem_cons.mpr ⟨lw_p25, List.forall_mem_cons.mpr ⟨lw_p26, List.forall_mem_cons.mpr ⟨lw_p27, List.forall_mem_cons.mpr ⟨lw_p28, List.forall_mem_cons.mpr ⟨lw_p29, List.forall_mem_cons.mpr ⟨lw_p30, List.forall_mem_cons.mpr ⟨lw_p31, fun _ h => absurd h List.not_mem_nil⟩⟩⟩⟩⟩⟩⟩⟩⟩⟩⟩⟩⟩⟩⟩⟩
theorem lw_p32 : lw_okq (⟨"ReelOfBoxes$Table", "lengthIsRight", "()Z"⟩, 7) := ⟨⟨by decide +kernel, by decide +kernel⟩, List.mem_of_getElem? (i := 106) (by decide +kernel), List.mem_of_getElem? (i := 557) (by decide +kernel), List.mem_of_getElem? (i := 558) (by decide +kernel)⟩
theorem lw_p33 : lw_okq (⟨"ReelOfBoxes$Table", "headIsRight", "()Z"⟩, 7) := ⟨⟨by decide +kernel, by decide +kernel⟩, List.mem_of_getElem? (i := 106) (by decide +kernel), List.mem_of_getElem? (i := 570) (by decide +kernel), List.mem_of_getElem? (i := 571) (by decide +kernel)⟩
theorem lw_p34 : lw_okq (⟨"ReelOfBoxes$Table", "entryIsRight", "(I)Z"⟩, 7) := ⟨⟨by decide +kernel, by decide +kernel⟩, List.mem_of_getElem? (i := 106) (by decide +kernel), List.mem_of_getElem? (i := 585) (by decide +kernel), List.mem_of_getElem? (i := 586) (by decide +kernel)⟩
theorem lw_p35 : lw_okq (⟨"ReelOfBoxes$Reader", "tablesAgree", "()Z"⟩, 3) := ⟨⟨by decide +kernel, by decide +kernel⟩, List.mem_of_getElem? (i := 71) (by decide +kernel), List.mem_of_getElem? (i := 598) (by decide +kernel), List.mem_of_getElem? (i := 599) (by decide +kernel)⟩
theorem lw_p36 : lw_okq (⟨"ReelOfBoxes$TrackBoxes", "samplesOfStts", "()J"⟩, 6) := ⟨⟨by decide +kernel, by decide +kernel⟩, List.mem_of_getElem? (i := 99) (by decide +kernel), List.mem_of_getElem? (i := 608) (by decide +kernel), List.mem_of_getElem? (i := 609) (by decide +kernel)⟩
theorem lw_p37 : lw_okq (⟨"ReelOfBoxes$TrackBoxes", "sizesAreSmall", "(I)Z"⟩, 6) := ⟨⟨by decide +kernel, by decide +kernel⟩, List.mem_of_getElem? (i := 99) (by decide +kernel), List.mem_of_getElem? (i := 614) (by decide +kernel), List.mem_of_getElem? (i := 615) (by decide +kernel)⟩
theorem lw_p38 : lw_okq (⟨"ReelOfBoxes$TrackBoxes", "sizeToldOf", "(I)J"⟩, 6) := ⟨⟨by decide +kernel, by decide +kernel⟩, List.mem_of_getElem? (i := 99) (by decide +kernel), List.mem_of_getElem? (i := 618) (by decide +kernel), List.mem_of_getElem? (i := 619) (by decide +kernel)⟩
theorem lw_p39 : lw_okq (⟨"ReelOfBoxes$TrackBoxes", "entriesMeetChunks", "(I)Z"⟩, 6) := ⟨⟨by decide +kernel, by decide +kernel⟩, List.mem_of_getElem? (i := 99) (by decide +kernel), List.mem_of_getElem? (i := 624) (by decide +kernel), List.mem_of_getElem? (i := 625) (by decide +kernel)⟩
theorem lw_p40 : lw_okq (⟨"ReelOfBoxes$TrackBoxes", "samplesOfChunks", "(I)J"⟩, 6) := ⟨⟨by decide +kernel, by decide +kernel⟩, List.mem_of_getElem? (i := 99) (by decide +kernel), List.mem_of_getElem? (i := 628) (by decide +kernel), List.mem_of_getElem? (i := 629) (by decide +kernel)⟩
theorem lw_p41 : lw_okq (⟨"ReelOfBoxes$Reader", "samplesAreInside", "()Z"⟩, 3) := ⟨⟨by decide +kernel, by decide +kernel⟩, List.mem_of_getElem? (i := 71) (by decide +kernel), List.mem_of_getElem? (i := 632) (by decide +kernel), List.mem_of_getElem? (i := 633) (by decide +kernel)⟩
theorem lw_p42 : lw_okq (⟨"ReelOfBoxes$TrackBoxes", "unfoldDurations", "()V"⟩, 6) := ⟨⟨by decide +kernel, by decide +kernel⟩, List.mem_of_getElem? (i := 99) (by decide +kernel), List.mem_of_getElem? (i := 641) (by decide +kernel), List.mem_of_getElem? (i := 642) (by decide +kernel)⟩
theorem lw_p43 : lw_okq (⟨"ReelOfBoxes$TrackBoxes", "unfoldBegins", "()V"⟩, 6) := ⟨⟨by decide +kernel, by decide +kernel⟩, List.mem_of_getElem? (i := 99) (by decide +kernel), List.mem_of_getElem? (i := 645) (by decide +kernel), List.mem_of_getElem? (i := 646) (by decide +kernel)⟩
theorem lw_p44 : lw_okq (⟨"ReelOfBoxes$Reader", "fillReel", "(LReelOfBoxes$Reel;)V"⟩, 3) := ⟨⟨by decide +kernel, by decide +kernel⟩, List.mem_of_getElem? (i := 71) (by decide +kernel), List.mem_of_getElem? (i := 653) (by decide +kernel), List.mem_of_getElem? (i := 654) (by decide +kernel)⟩
theorem lw_p45 : lw_okq (⟨"ReelOfBoxes$Reader", "fillTrack", "(LReelOfBoxes$Track;LReelOfBoxes$TrackBoxes;)V"⟩, 3) := ⟨⟨by decide +kernel, by decide +kernel⟩, List.mem_of_getElem? (i := 71) (by decide +kernel), List.mem_of_getElem? (i := 660) (by decide +kernel), List.mem_of_getElem? (i := 661) (by decide +kernel)⟩
theorem lw_p46 : lw_okq (⟨"ReelOfBoxesModel", "isTrack", "(I)Z"⟩, 28) := ⟨⟨by decide +kernel, by decide +kernel⟩, List.mem_of_getElem? (i := 741) (by decide +kernel), List.mem_of_getElem? (i := 841) (by decide +kernel), List.mem_of_getElem? (i := 842) (by decide +kernel)⟩
theorem lw_p47 : lw_okq (⟨"ReelOfBoxesModel", "stblSize", "(IIZ)I"⟩, 28) := ⟨⟨by decide +kernel, by decide +kernel⟩, List.mem_of_getElem? (i := 741) (by decide +kernel), List.mem_of_getElem? (i := 853) (by decide +kernel), List.mem_of_getElem? (i := 854) (by decide +kernel)⟩
def lw_privs_3 : List (MethodName × Nat) := [(⟨"ReelOfBoxes$Table", "lengthIsRight", "()Z"⟩, 7), (⟨"ReelOfBoxes$Table", "headIsRight", "()Z"⟩, 7), (⟨"ReelOfBoxes$Table", "entryIsRight", "(I)Z"⟩, 7), (⟨"ReelOfBoxes$Reader", "tablesAgree", "()Z"⟩, 3), (⟨"ReelOfBoxes$TrackBoxes", "samplesOfStts", "()J"⟩, 6), (⟨"ReelOfBoxes$TrackBoxes", "sizesAreSmall", "(I)Z"⟩, 6), (⟨"ReelOfBoxes$TrackBoxes", "sizeToldOf", "(I)J"⟩, 6), (⟨"ReelOfBoxes$TrackBoxes", "entriesMeetChunks", "(I)Z"⟩, 6), (⟨"ReelOfBoxes$TrackBoxes", "samplesOfChunks", "(I)J"⟩, 6), (⟨"ReelOfBoxes$Reader", "samplesAreInside", "()Z"⟩, 3), (⟨"ReelOfBoxes$TrackBoxes", "unfoldDurations", "()V"⟩, 6), (⟨"ReelOfBoxes$TrackBoxes", "unfoldBegins", "()V"⟩, 6), (⟨"ReelOfBoxes$Reader", "fillReel", "(LReelOfBoxes$Reel;)V"⟩, 3), (⟨"ReelOfBoxes$Reader", "fillTrack", "(LReelOfBoxes$Track;LReelOfBoxes$TrackBoxes;)V"⟩, 3), (⟨"ReelOfBoxesModel", "isTrack", "(I)Z"⟩, 28), (⟨"ReelOfBoxesModel", "stblSize", "(IIZ)I"⟩, 28)]
theorem lw_r3 : ∀ q ∈ lw_privs_3, lw_okq q := List.forall_mem_cons.mpr ⟨lw_p32, List.forall_mem_cons.mpr ⟨lw_p33, List.forall_mem_cons.mpr ⟨lw_p34, List.forall_mem_cons.mpr ⟨lw_p35, List.forall_mem_cons.mpr ⟨lw_p36, List.forall_mem_cons.mpr ⟨lw_p37, List.forall_mem_cons.mpr ⟨lw_p38, List.forall_mem_cons.mpr ⟨lw_p39, List.forall_mem_cons.mpr ⟨lw_p40, List.forall_mem_cons.mpr ⟨lw_p41, List.forall_mem_cons.mpr ⟨lw_p42, List.forall_mem_cons.mpr ⟨lw_p43, List.forall_mem_cons.mpr ⟨lw_p44, List.forall_mem_cons.mpr ⟨lw_p45, List.forall_mem_cons.mpr ⟨lw_p46, List.forall_mem_cons.mpr ⟨lw_p47, fun _ h => absurd h List.not_mem_nil⟩⟩⟩⟩⟩⟩⟩⟩⟩⟩⟩⟩⟩⟩⟩⟩
theorem lw_p48 : lw_okq (⟨"ReelOfBoxesModel", "rowsOf", "(I)I"⟩, 28) := ⟨⟨by decide +kernel, by decide +kernel⟩, List.mem_of_getElem? (i := 741) (by decide +kernel), List.mem_of_getElem? (i := 857) (by decide +kernel), List.mem_of_getElem? (i := 858) (by decide +kernel)⟩
theorem lw_p49 : lw_okq (⟨"ReelOfBoxesModel", "turnsOf", "(II)I"⟩, 28) := ⟨⟨by decide +kernel, by decide +kernel⟩, List.mem_of_getElem? (i := 741) (by decide +kernel), List.mem_of_getElem? (i := 861) (by decide +kernel), List.mem_of_getElem? (i := 862) (by decide +kernel)⟩
theorem lw_p50 : lw_okq (⟨"ReelOfBoxesModel", "chunksOf", "(II)I"⟩, 28) := ⟨⟨by decide +kernel, by decide +kernel⟩, List.mem_of_getElem? (i := 741) (by decide +kernel), List.mem_of_getElem? (i := 865) (by decide +kernel), List.mem_of_getElem? (i := 866) (by decide +kernel)⟩
theorem lw_p51 : lw_okq (⟨"ReelOfBoxesModel", "chunkSize", "(III)I"⟩, 28) := ⟨⟨by decide +kernel, by decide +kernel⟩, List.mem_of_getElem? (i := 741) (by decide +kernel), List.mem_of_getElem? (i := 869) (by decide +kernel), List.mem_of_getElem? (i := 870) (by decide +kernel)⟩
theorem lw_p52 : lw_okq (⟨"ReelOfBoxesModel", "allBytes", "()I"⟩, 28) := ⟨⟨by decide +kernel, by decide +kernel⟩, List.mem_of_getElem? (i := 741) (by decide +kernel), List.mem_of_getElem? (i := 873) (by decide +kernel), List.mem_of_getElem? (i := 874) (by decide +kernel)⟩
theorem lw_p53 : lw_okq (⟨"ReelOfBoxesModel", "head", "(II)V"⟩, 28) := ⟨⟨by decide +kernel, by decide +kernel⟩, List.mem_of_getElem? (i := 741) (by decide +kernel), List.mem_of_getElem? (i := 878) (by decide +kernel), List.mem_of_getElem? (i := 879) (by decide +kernel)⟩
theorem lw_p54 : lw_okq (⟨"ReelOfBoxesModel", "put", "(JI)V"⟩, 28) := ⟨⟨by decide +kernel, by decide +kernel⟩, List.mem_of_getElem? (i := 741) (by decide +kernel), List.mem_of_getElem? (i := 882) (by decide +kernel), List.mem_of_getElem? (i := 883) (by decide +kernel)⟩
theorem lw_p55 : lw_okq (⟨"ReelOfBoxesModel", "writeTimes", "(I)V"⟩, 28) := ⟨⟨by decide +kernel, by decide +kernel⟩, List.mem_of_getElem? (i := 741) (by decide +kernel), List.mem_of_getElem? (i := 889) (by decide +kernel), List.mem_of_getElem? (i := 890) (by decide +kernel)⟩
theorem lw_p56 : lw_okq (⟨"ReelOfBoxesModel", "writeTurns", "(II)V"⟩, 28) := ⟨⟨by decide +kernel, by decide +kernel⟩, List.mem_of_getElem? (i := 741) (by decide +kernel), List.mem_of_getElem? (i := 894) (by decide +kernel), List.mem_of_getElem? (i := 895) (by decide +kernel)⟩
theorem lw_p57 : lw_okq (⟨"ReelOfBoxesModel", "writeSizes", "(I)V"⟩, 28) := ⟨⟨by decide +kernel, by decide +kernel⟩, List.mem_of_getElem? (i := 741) (by decide +kernel), List.mem_of_getElem? (i := 899) (by decide +kernel), List.mem_of_getElem? (i := 900) (by decide +kernel)⟩
theorem lw_p58 : lw_okq (⟨"ReelOfBoxesModel", "writePlaces", "(IIZI)V"⟩, 28) := ⟨⟨by decide +kernel, by decide +kernel⟩, List.mem_of_getElem? (i := 741) (by decide +kernel), List.mem_of_getElem? (i := 904) (by decide +kernel), List.mem_of_getElem? (i := 905) (by decide +kernel)⟩
theorem lw_p59 : lw_okq (⟨"ReelOfBoxesModel", "bytesBefore", "(III)I"⟩, 28) := ⟨⟨by decide +kernel, by decide +kernel⟩, List.mem_of_getElem? (i := 741) (by decide +kernel), List.mem_of_getElem? (i := 910) (by decide +kernel), List.mem_of_getElem? (i := 911) (by decide +kernel)⟩
theorem lw_p60 : lw_okq (⟨"ReelOfBoxesModel", "bytesOf", "(III)I"⟩, 28) := ⟨⟨by decide +kernel, by decide +kernel⟩, List.mem_of_getElem? (i := 741) (by decide +kernel), List.mem_of_getElem? (i := 914) (by decide +kernel), List.mem_of_getElem? (i := 915) (by decide +kernel)⟩
theorem lw_p61 : lw_okq (⟨"ReelOfBoxesModel", "writeData", "(I)V"⟩, 28) := ⟨⟨by decide +kernel, by decide +kernel⟩, List.mem_of_getElem? (i := 741) (by decide +kernel), List.mem_of_getElem? (i := 919) (by decide +kernel), List.mem_of_getElem? (i := 920) (by decide +kernel)⟩
theorem lw_p62 : lw_okq (⟨"ReelOfBoxesModel", "readBoxes", "()I"⟩, 28) := ⟨⟨by decide +kernel, by decide +kernel⟩, List.mem_of_getElem? (i := 741) (by decide +kernel), List.mem_of_getElem? (i := 927) (by decide +kernel), List.mem_of_getElem? (i := 928) (by decide +kernel)⟩
theorem lw_p63 : lw_okq (⟨"ReelOfBoxesModel", "isWhole", "()Z"⟩, 28) := ⟨⟨by decide +kernel, by decide +kernel⟩, List.mem_of_getElem? (i := 741) (by decide +kernel), List.mem_of_getElem? (i := 931) (by decide +kernel), List.mem_of_getElem? (i := 932) (by decide +kernel)⟩
def lw_privs_4 : List (MethodName × Nat) := [(⟨"ReelOfBoxesModel", "rowsOf", "(I)I"⟩, 28), (⟨"ReelOfBoxesModel", "turnsOf", "(II)I"⟩, 28), (⟨"ReelOfBoxesModel", "chunksOf", "(II)I"⟩, 28), (⟨"ReelOfBoxesModel", "chunkSize", "(III)I"⟩, 28), (⟨"ReelOfBoxesModel", "allBytes", "()I"⟩, 28), (⟨"ReelOfBoxesModel", "head", "(II)V"⟩, 28), (⟨"ReelOfBoxesModel", "put", "(JI)V"⟩, 28), (⟨"ReelOfBoxesModel", "writeTimes", "(I)V"⟩, 28), (⟨"ReelOfBoxesModel", "writeTurns", "(II)V"⟩, 28), (⟨"ReelOfBoxesModel", "writeSizes", "(I)V"⟩, 28), (⟨"ReelOfBoxesModel", "writePlaces", "(IIZI)V"⟩, 28), (⟨"ReelOfBoxesModel", "bytesBefore", "(III)I"⟩, 28), (⟨"ReelOfBoxesModel", "bytesOf", "(III)I"⟩, 28), (⟨"ReelOfBoxesModel", "writeData", "(I)V"⟩, 28), (⟨"ReelOfBoxesModel", "readBoxes", "()I"⟩, 28), (⟨"ReelOfBoxesModel", "isWhole", "()Z"⟩, 28)]
theorem lw_r4 : ∀ q ∈ lw_privs_4, lw_okq q := List.forall_mem_cons.mpr ⟨lw_p48, List.forall_mem_cons.mpr ⟨lw_p49, List.forall_mem_cons.mpr ⟨lw_p50, List.forall_mem_cons.mpr ⟨lw_p51, List.forall_mem_cons.mpr ⟨lw_p52, List.forall_mem_cons.mpr ⟨lw_p53, List.forall_mem_cons.mpr ⟨lw_p54, List.forall_mem_cons.mpr ⟨lw_p55, List.forall_mem_cons.mpr ⟨lw_p56, List.forall_mem_cons.mpr ⟨lw_p57, List.forall_mem_cons.mpr ⟨lw_p58, List.forall_mem_cons.mpr ⟨lw_p59, List.forall_mem_cons.mpr ⟨lw_p60, List.forall_mem_cons.mpr ⟨lw_p61, List.forall_mem_cons.mpr ⟨lw_p62, List.forall_mem_cons.mpr ⟨lw_p63, fun _ h => absurd h List.not_mem_nil⟩⟩⟩⟩⟩⟩⟩⟩⟩⟩⟩⟩⟩⟩⟩⟩
theorem lw_p64 : lw_okq (⟨"ReelOfBoxesModel", "tell", "(II)I"⟩, 28) := ⟨⟨by decide +kernel, by decide +kernel⟩, List.mem_of_getElem? (i := 741) (by decide +kernel), List.mem_of_getElem? (i := 935) (by decide +kernel), List.mem_of_getElem? (i := 936) (by decide +kernel)⟩
theorem lw_p65 : lw_okq (⟨"ReelOfBoxesModel", "readHead", "(II)Z"⟩, 28) := ⟨⟨by decide +kernel, by decide +kernel⟩, List.mem_of_getElem? (i := 741) (by decide +kernel), List.mem_of_getElem? (i := 939) (by decide +kernel), List.mem_of_getElem? (i := 940) (by decide +kernel)⟩
theorem lw_p66 : lw_okq (⟨"ReelOfBoxesModel", "numberAt", "(II)J"⟩, 28) := ⟨⟨by decide +kernel, by decide +kernel⟩, List.mem_of_getElem? (i := 741) (by decide +kernel), List.mem_of_getElem? (i := 943) (by decide +kernel), List.mem_of_getElem? (i := 944) (by decide +kernel)⟩
theorem lw_p67 : lw_okq (⟨"ReelOfBoxesModel", "isTooMany", "()Z"⟩, 28) := ⟨⟨by decide +kernel, by decide +kernel⟩, List.mem_of_getElem? (i := 741) (by decide +kernel), List.mem_of_getElem? (i := 947) (by decide +kernel), List.mem_of_getElem? (i := 948) (by decide +kernel)⟩
theorem lw_p68 : lw_okq (⟨"ReelOfBoxesModel", "note", "(I)V"⟩, 28) := ⟨⟨by decide +kernel, by decide +kernel⟩, List.mem_of_getElem? (i := 741) (by decide +kernel), List.mem_of_getElem? (i := 954) (by decide +kernel), List.mem_of_getElem? (i := 955) (by decide +kernel)⟩
theorem lw_p69 : lw_okq (⟨"ReelOfBoxesModel", "isGoneInto", "()Z"⟩, 28) := ⟨⟨by decide +kernel, by decide +kernel⟩, List.mem_of_getElem? (i := 741) (by decide +kernel), List.mem_of_getElem? (i := 958) (by decide +kernel), List.mem_of_getElem? (i := 959) (by decide +kernel)⟩
theorem lw_p70 : lw_okq (⟨"ReelOfBoxesModel", "readTables", "()I"⟩, 28) := ⟨⟨by decide +kernel, by decide +kernel⟩, List.mem_of_getElem? (i := 741) (by decide +kernel), List.mem_of_getElem? (i := 962) (by decide +kernel), List.mem_of_getElem? (i := 963) (by decide +kernel)⟩
theorem lw_p71 : lw_okq (⟨"ReelOfBoxesModel", "hasLength", "(II)Z"⟩, 28) := ⟨⟨by decide +kernel, by decide +kernel⟩, List.mem_of_getElem? (i := 741) (by decide +kernel), List.mem_of_getElem? (i := 966) (by decide +kernel), List.mem_of_getElem? (i := 967) (by decide +kernel)⟩
theorem lw_p72 : lw_okq (⟨"ReelOfBoxesModel", "headSize", "(I)I"⟩, 28) := ⟨⟨by decide +kernel, by decide +kernel⟩, List.mem_of_getElem? (i := 741) (by decide +kernel), List.mem_of_getElem? (i := 970) (by decide +kernel), List.mem_of_getElem? (i := 971) (by decide +kernel)⟩
theorem lw_p73 : lw_okq (⟨"ReelOfBoxesModel", "entriesOf", "(II)J"⟩, 28) := ⟨⟨by decide +kernel, by decide +kernel⟩, List.mem_of_getElem? (i := 741) (by decide +kernel), List.mem_of_getElem? (i := 974) (by decide +kernel), List.mem_of_getElem? (i := 975) (by decide +kernel)⟩
theorem lw_p74 : lw_okq (⟨"ReelOfBoxesModel", "manyOf", "(II)J"⟩, 28) := ⟨⟨by decide +kernel, by decide +kernel⟩, List.mem_of_getElem? (i := 741) (by decide +kernel), List.mem_of_getElem? (i := 978) (by decide +kernel), List.mem_of_getElem? (i := 979) (by decide +kernel)⟩
theorem lw_p75 : lw_okq (⟨"ReelOfBoxesModel", "entrySize", "(II)I"⟩, 28) := ⟨⟨by decide +kernel, by decide +kernel⟩, List.mem_of_getElem? (i := 741) (by decide +kernel), List.mem_of_getElem? (i := 982) (by decide +kernel), List.mem_of_getElem? (i := 983) (by decide +kernel)⟩
theorem lw_p76 : lw_okq (⟨"ReelOfBoxesModel", "areNumbersRight", "(II)Z"⟩, 28) := ⟨⟨by decide +kernel, by decide +kernel⟩, List.mem_of_getElem? (i := 741) (by decide +kernel), List.mem_of_getElem? (i := 986) (by decide +kernel), List.mem_of_getElem? (i := 987) (by decide +kernel)⟩
theorem lw_p77 : lw_okq (⟨"ReelOfBoxesModel", "isEntryRight", "(III)Z"⟩, 28) := ⟨⟨by decide +kernel, by decide +kernel⟩, List.mem_of_getElem? (i := 741) (by decide +kernel), List.mem_of_getElem? (i := 994) (by decide +kernel), List.mem_of_getElem? (i := 995) (by decide +kernel)⟩
theorem lw_p78 : lw_okq (⟨"ReelOfBoxesModel", "entry", "(IIII)J"⟩, 28) := ⟨⟨by decide +kernel, by decide +kernel⟩, List.mem_of_getElem? (i := 741) (by decide +kernel), List.mem_of_getElem? (i := 998) (by decide +kernel), List.mem_of_getElem? (i := 999) (by decide +kernel)⟩
theorem lw_p79 : lw_okq (⟨"ReelOfBoxesModel", "readSamples", "()I"⟩, 28) := ⟨⟨by decide +kernel, by decide +kernel⟩, List.mem_of_getElem? (i := 741) (by decide +kernel), List.mem_of_getElem? (i := 1002) (by decide +kernel), List.mem_of_getElem? (i := 1003) (by decide +kernel)⟩
def lw_privs_5 : List (MethodName × Nat) := [(⟨"ReelOfBoxesModel", "tell", "(II)I"⟩, 28), (⟨"ReelOfBoxesModel", "readHead", "(II)Z"⟩, 28), (⟨"ReelOfBoxesModel", "numberAt", "(II)J"⟩, 28), (⟨"ReelOfBoxesModel", "isTooMany", "()Z"⟩, 28), (⟨"ReelOfBoxesModel", "note", "(I)V"⟩, 28), (⟨"ReelOfBoxesModel", "isGoneInto", "()Z"⟩, 28), (⟨"ReelOfBoxesModel", "readTables", "()I"⟩, 28), (⟨"ReelOfBoxesModel", "hasLength", "(II)Z"⟩, 28), (⟨"ReelOfBoxesModel", "headSize", "(I)I"⟩, 28), (⟨"ReelOfBoxesModel", "entriesOf", "(II)J"⟩, 28), (⟨"ReelOfBoxesModel", "manyOf", "(II)J"⟩, 28), (⟨"ReelOfBoxesModel", "entrySize", "(II)I"⟩, 28), (⟨"ReelOfBoxesModel", "areNumbersRight", "(II)Z"⟩, 28), (⟨"ReelOfBoxesModel", "isEntryRight", "(III)Z"⟩, 28), (⟨"ReelOfBoxesModel", "entry", "(IIII)J"⟩, 28), (⟨"ReelOfBoxesModel", "readSamples", "()I"⟩, 28)]
theorem lw_r5 : ∀ q ∈ lw_privs_5, lw_okq q := List.forall_mem_cons.mpr ⟨lw_p64, List.forall_mem_cons.mpr ⟨lw_p65, List.forall_mem_cons.mpr ⟨lw_p66, List.forall_mem_cons.mpr ⟨lw_p67, List.forall_mem_cons.mpr ⟨lw_p68, List.forall_mem_cons.mpr ⟨lw_p69, List.forall_mem_cons.mpr ⟨lw_p70, List.forall_mem_cons.mpr ⟨lw_p71, List.forall_mem_cons.mpr ⟨lw_p72, List.forall_mem_cons.mpr ⟨lw_p73, List.forall_mem_cons.mpr ⟨lw_p74, List.forall_mem_cons.mpr ⟨lw_p75, List.forall_mem_cons.mpr ⟨lw_p76, List.forall_mem_cons.mpr ⟨lw_p77, List.forall_mem_cons.mpr ⟨lw_p78, List.forall_mem_cons.mpr ⟨lw_p79, fun _ h => absurd h List.not_mem_nil⟩⟩⟩⟩⟩⟩⟩⟩⟩⟩⟩⟩⟩⟩⟩⟩
theorem lw_p80 : lw_okq (⟨"ReelOfBoxesModel", "agrees", "(I)Z"⟩, 28) := ⟨⟨by decide +kernel, by decide +kernel⟩, List.mem_of_getElem? (i := 741) (by decide +kernel), List.mem_of_getElem? (i := 1006) (by decide +kernel), List.mem_of_getElem? (i := 1007) (by decide +kernel)⟩
theorem lw_p81 : lw_okq (⟨"ReelOfBoxesModel", "sizeOf", "(II)J"⟩, 28) := ⟨⟨by decide +kernel, by decide +kernel⟩, List.mem_of_getElem? (i := 741) (by decide +kernel), List.mem_of_getElem? (i := 1011) (by decide +kernel), List.mem_of_getElem? (i := 1012) (by decide +kernel)⟩
theorem lw_p82 : lw_okq (⟨"ReelOfBoxesModel", "perChunk", "(II)J"⟩, 28) := ⟨⟨by decide +kernel, by decide +kernel⟩, List.mem_of_getElem? (i := 741) (by decide +kernel), List.mem_of_getElem? (i := 1016) (by decide +kernel), List.mem_of_getElem? (i := 1017) (by decide +kernel)⟩
theorem lw_p83 : lw_okq (⟨"ReelOfBoxesModel", "findSamples", "(I)V"⟩, 28) := ⟨⟨by decide +kernel, by decide +kernel⟩, List.mem_of_getElem? (i := 741) (by decide +kernel), List.mem_of_getElem? (i := 1020) (by decide +kernel), List.mem_of_getElem? (i := 1021) (by decide +kernel)⟩
theorem lw_p84 : lw_okq (⟨"ReelOfBoxesModel", "allInData", "(I)Z"⟩, 28) := ⟨⟨by decide +kernel, by decide +kernel⟩, List.mem_of_getElem? (i := 741) (by decide +kernel), List.mem_of_getElem? (i := 1024) (by decide +kernel), List.mem_of_getElem? (i := 1025) (by decide +kernel)⟩
theorem lw_p85 : lw_okq (⟨"ReelOfBoxesModel", "keep", "()V"⟩, 28) := ⟨⟨by decide +kernel, by decide +kernel⟩, List.mem_of_getElem? (i := 741) (by decide +kernel), List.mem_of_getElem? (i := 1028) (by decide +kernel), List.mem_of_getElem? (i := 1029) (by decide +kernel)⟩
theorem lw_p86 : lw_okq (⟨"ReelOfBoxesModel", "isSample", "(II)Z"⟩, 28) := ⟨⟨by decide +kernel, by decide +kernel⟩, List.mem_of_getElem? (i := 741) (by decide +kernel), List.mem_of_getElem? (i := 1048) (by decide +kernel), List.mem_of_getElem? (i := 1049) (by decide +kernel)⟩
theorem lw_p87 : lw_okq (⟨"ReelOfBoxesModel", "isByte", "(I)Z"⟩, 28) := ⟨⟨by decide +kernel, by decide +kernel⟩, List.mem_of_getElem? (i := 741) (by decide +kernel), List.mem_of_getElem? (i := 1069) (by decide +kernel), List.mem_of_getElem? (i := 1070) (by decide +kernel)⟩
def lw_privs_6 : List (MethodName × Nat) := [(⟨"ReelOfBoxesModel", "agrees", "(I)Z"⟩, 28), (⟨"ReelOfBoxesModel", "sizeOf", "(II)J"⟩, 28), (⟨"ReelOfBoxesModel", "perChunk", "(II)J"⟩, 28), (⟨"ReelOfBoxesModel", "findSamples", "(I)V"⟩, 28), (⟨"ReelOfBoxesModel", "allInData", "(I)Z"⟩, 28), (⟨"ReelOfBoxesModel", "keep", "()V"⟩, 28), (⟨"ReelOfBoxesModel", "isSample", "(II)Z"⟩, 28), (⟨"ReelOfBoxesModel", "isByte", "(I)Z"⟩, 28)]
theorem lw_r6 : ∀ q ∈ lw_privs_6, lw_okq q := List.forall_mem_cons.mpr ⟨lw_p80, List.forall_mem_cons.mpr ⟨lw_p81, List.forall_mem_cons.mpr ⟨lw_p82, List.forall_mem_cons.mpr ⟨lw_p83, List.forall_mem_cons.mpr ⟨lw_p84, List.forall_mem_cons.mpr ⟨lw_p85, List.forall_mem_cons.mpr ⟨lw_p86, List.forall_mem_cons.mpr ⟨lw_p87, fun _ h => absurd h List.not_mem_nil⟩⟩⟩⟩⟩⟩⟩⟩
def lw_privs : List (MethodName × Nat) := lw_privs_1 ++ (lw_privs_2 ++ (lw_privs_3 ++ (lw_privs_4 ++ (lw_privs_5 ++ (lw_privs_6)))))
def lw_tbl : List Cond := k2_sels lw_privs ++ tables_1
theorem lw_privs_ok : ∀ q ∈ lw_privs, lw_okq q := by
  show ∀ q ∈ lw_privs_1 ++ (lw_privs_2 ++ (lw_privs_3 ++ (lw_privs_4 ++ (lw_privs_5 ++ (lw_privs_6))))), lw_okq q
  exact List.forall_mem_append.mpr ⟨lw_r1, List.forall_mem_append.mpr ⟨lw_r2, List.forall_mem_append.mpr ⟨lw_r3, List.forall_mem_append.mpr ⟨lw_r4, List.forall_mem_append.mpr ⟨lw_r5, lw_r6⟩⟩⟩⟩⟩
end
section
/-! Tables of the program, by a program: classes, methods, what each pool number names. -/
def aj_nms : List String := ["ReelOfBoxes", "ReelOfBoxesModel", "ReelOfBoxes$ByteRow", "ReelOfBoxes$Fault", "ReelOfBoxes$Finder", "ReelOfBoxes$Reader", "ReelOfBoxes$Reel", "ReelOfBoxes$Table", "ReelOfBoxes$Track", "ReelOfBoxes$TrackBoxes", "ReelOfBoxes$Writer", "ReelOfBoxesLaw"]
def aj_nm (n : Nat) : String := aj_nms.getD n ""
def aj_host : String := "ReelOfBoxes"
def aj_t0 : u_T := fun k => match k with
  | 0 => ("ReelOfBoxes", "reel", "LReelOfBoxes$Reel;", true)
  | 1 => ("ReelOfBoxes", "file", "LReelOfBoxes$ByteRow;", true)
  | 2 => ("ReelOfBoxes", "reader", "LReelOfBoxes$Reader;", true)
  | _ => ("ReelOfBoxes", "writer", "LReelOfBoxes$Writer;", true)
def aj_t1 : u_T := fun k => match k with
  | 0 => ("ReelOfBoxesModel", "tracks", "I", false)
  | 1 => ("ReelOfBoxesModel", "counts", "[I", true)
  | 2 => ("ReelOfBoxesModel", "durations", "[I", true)
  | 3 => ("ReelOfBoxesModel", "sizes", "[I", true)
  | 4 => ("ReelOfBoxesModel", "data", "[J", true)
  | 5 => ("ReelOfBoxesModel", "length", "I", false)
  | 6 => ("ReelOfBoxesModel", "file", "[I", true)
  | 7 => ("ReelOfBoxesModel", "faultPlace", "I", false)
  | 8 => ("ReelOfBoxesModel", "level", "I", false)
  | 9 => ("ReelOfBoxesModel", "begins", "[I", true)
  | 10 => ("ReelOfBoxesModel", "ends", "[I", true)
  | 11 => ("ReelOfBoxesModel", "moovs", "I", false)
  | 12 => ("ReelOfBoxesModel", "mdats", "I", false)
  | 13 => ("ReelOfBoxesModel", "mdatFrom", "I", false)
  | 14 => ("ReelOfBoxesModel", "mdatTo", "I", false)
  | 15 => ("ReelOfBoxesModel", "found", "I", false)
  | 16 => ("ReelOfBoxesModel", "stbls", "[I", true)
  | 17 => ("ReelOfBoxesModel", "boxes", "[I", true)
  | 18 => ("ReelOfBoxesModel", "contents", "[I", true)
  | 19 => ("ReelOfBoxesModel", "stops", "[I", true)
  | 20 => ("ReelOfBoxesModel", "wide", "[Z", true)
  | 21 => ("ReelOfBoxesModel", "headType", "I", false)
  | 22 => ("ReelOfBoxesModel", "headContent", "I", false)
  | 23 => ("ReelOfBoxesModel", "headEnd", "I", false)
  | 24 => ("ReelOfBoxesModel", "newCounts", "[I", true)
  | 25 => ("ReelOfBoxesModel", "newDurations", "[I", true)
  | 26 => ("ReelOfBoxesModel", "newSizes", "[I", true)
  | _ => ("ReelOfBoxesModel", "newPlaces", "[J", true)
def aj_t2 : u_T := fun k => match k with
  | 0 => ("ReelOfBoxes$ByteRow", "cells", "[B", true)
  | _ => ("ReelOfBoxes$ByteRow", "count", "I", false)
def aj_t3 : u_T := fun k => match k with
  | 0 => ("ReelOfBoxes$Fault", "kind", "I", false)
  | _ => ("ReelOfBoxes$Fault", "where", "I", false)
def aj_t4 : u_T := fun k => match k with
  | 0 => ("ReelOfBoxes$Finder", "file", "LReelOfBoxes$ByteRow;", true)
  | 1 => ("ReelOfBoxes$Finder", "fault", "LReelOfBoxes$Fault;", true)
  | 2 => ("ReelOfBoxes$Finder", "rows", "[LReelOfBoxes$TrackBoxes;", true)
  | 3 => ("ReelOfBoxes$Finder", "homes", "[I", true)
  | 4 => ("ReelOfBoxes$Finder", "ends", "[I", true)
  | 5 => ("ReelOfBoxes$Finder", "level", "I", false)
  | 6 => ("ReelOfBoxes$Finder", "hasMoov", "Z", false)
  | 7 => ("ReelOfBoxes$Finder", "hasMdat", "Z", false)
  | 8 => ("ReelOfBoxes$Finder", "mdatContent", "I", false)
  | 9 => ("ReelOfBoxes$Finder", "mdatEnd", "I", false)
  | 10 => ("ReelOfBoxes$Finder", "count", "I", false)
  | 11 => ("ReelOfBoxes$Finder", "current", "LReelOfBoxes$TrackBoxes;", false)
  | 12 => ("ReelOfBoxes$Finder", "box", "I", false)
  | 13 => ("ReelOfBoxes$Finder", "type", "I", false)
  | 14 => ("ReelOfBoxes$Finder", "content", "I", false)
  | _ => ("ReelOfBoxes$Finder", "end", "I", false)
def aj_t5 : u_T := fun k => match k with
  | 0 => ("ReelOfBoxes$Reader", "file", "LReelOfBoxes$ByteRow;", true)
  | 1 => ("ReelOfBoxes$Reader", "fault", "LReelOfBoxes$Fault;", true)
  | _ => ("ReelOfBoxes$Reader", "finder", "LReelOfBoxes$Finder;", true)
def aj_t6 : u_T := fun k => match k with
  | 0 => ("ReelOfBoxes$Reel", "rows", "[LReelOfBoxes$Track;", true)
  | _ => ("ReelOfBoxes$Reel", "count", "I", false)
def aj_t7 : u_T := fun k => match k with
  | 0 => ("ReelOfBoxes$Table", "file", "LReelOfBoxes$ByteRow;", true)
  | 1 => ("ReelOfBoxes$Table", "box", "I", false)
  | 2 => ("ReelOfBoxes$Table", "type", "I", false)
  | 3 => ("ReelOfBoxes$Table", "content", "I", false)
  | 4 => ("ReelOfBoxes$Table", "end", "I", false)
  | 5 => ("ReelOfBoxes$Table", "headWidth", "I", false)
  | _ => ("ReelOfBoxes$Table", "entryWidth", "I", false)
def aj_t8 : u_T := fun k => match k with
  | 0 => ("ReelOfBoxes$Track", "durations", "[I", true)
  | 1 => ("ReelOfBoxes$Track", "sizes", "[I", true)
  | 2 => ("ReelOfBoxes$Track", "contents", "[J", true)
  | _ => ("ReelOfBoxes$Track", "count", "I", false)
def aj_t9 : u_T := fun k => match k with
  | 0 => ("ReelOfBoxes$TrackBoxes", "tables", "[LReelOfBoxes$Table;", true)
  | 1 => ("ReelOfBoxes$TrackBoxes", "durations", "[I", true)
  | 2 => ("ReelOfBoxes$TrackBoxes", "sizes", "[I", true)
  | 3 => ("ReelOfBoxes$TrackBoxes", "begins", "[J", true)
  | 4 => ("ReelOfBoxes$TrackBoxes", "samples", "I", false)
  | _ => ("ReelOfBoxes$TrackBoxes", "stbl", "I", false)
def aj_t10 : u_T := fun k => match k with
  | 0 => ("ReelOfBoxes$Writer", "reel", "LReelOfBoxes$Reel;", true)
  | 1 => ("ReelOfBoxes$Writer", "file", "LReelOfBoxes$ByteRow;", true)
  | 2 => ("ReelOfBoxes$Writer", "chunkPlaces", "[I", true)
  | 3 => ("ReelOfBoxes$Writer", "per", "I", false)
  | 4 => ("ReelOfBoxes$Writer", "hasLongPlaces", "Z", false)
  | _ => ("ReelOfBoxes$Writer", "hasWideMdat", "Z", false)
abbrev aj_cl : List vw_C := [("ReelOfBoxes", aj_t0, 4), ("ReelOfBoxesModel", aj_t1, 28), ("ReelOfBoxes$ByteRow", aj_t2, 2), ("ReelOfBoxes$Fault", aj_t3, 2), ("ReelOfBoxes$Finder", aj_t4, 16), ("ReelOfBoxes$Reader", aj_t5, 3), ("ReelOfBoxes$Reel", aj_t6, 2), ("ReelOfBoxes$Table", aj_t7, 7), ("ReelOfBoxes$Track", aj_t8, 4), ("ReelOfBoxes$TrackBoxes", aj_t9, 6), ("ReelOfBoxes$Writer", aj_t10, 6)]
def aj_at : Nat → FieldType
  | 0 => .int
  | 1 => .long
  | 2 => .byte
  | 3 => .boolean
  | 4 => .object "ReelOfBoxes$TrackBoxes"
  | 5 => .object "ReelOfBoxes$Track"
  | _ => .object "ReelOfBoxes$Table"
def aj_nt : Nat := 7
def aj_ao : List String := ["ReelOfBoxes$TrackBoxes", "ReelOfBoxes$Track", "ReelOfBoxes$Table"]
def aj_pas : List (ArrayType × Nat) := [(.int, 0), (.long, 1), (.byte, 2), (.boolean, 3)]
def aj_tcs : List (Nat × Nat) := [(4, 9), (5, 8), (6, 7)]
theorem tc_4 : (4, 9) ∈ aj_tcs := List.mem_of_getElem? (i := 0) rfl
theorem tc_5 : (5, 8) ∈ aj_tcs := List.mem_of_getElem? (i := 1) rfl
theorem tc_6 : (6, 7) ∈ aj_tcs := List.mem_of_getElem? (i := 2) rfl
abbrev c_0 : ByteArray := prog_1_method_1_code
abbrev c_1 : ByteArray := prog_1_method_2_code
abbrev c_2 : ByteArray := prog_1_method_3_code
abbrev c_3 : ByteArray := prog_1_method_4_code
abbrev c_4 : ByteArray := prog_1_method_5_code
abbrev c_5 : ByteArray := prog_1_method_6_code
abbrev c_6 : ByteArray := prog_1_method_7_code
abbrev c_7 : ByteArray := prog_1_method_8_code
abbrev c_8 : ByteArray := prog_1_method_9_code
abbrev c_9 : ByteArray := prog_1_method_10_code
abbrev c_10 : ByteArray := prog_1_method_11_code
abbrev c_11 : ByteArray := prog_1_method_12_code
abbrev c_12 : ByteArray := prog_1_method_13_code
abbrev c_13 : ByteArray := prog_1_method_14_code
abbrev c_14 : ByteArray := prog_1_method_15_code
abbrev c_15 : ByteArray := prog_1_method_16_code
abbrev c_16 : ByteArray := prog_1_method_17_code
abbrev c_17 : ByteArray := prog_1_method_18_code
abbrev c_18 : ByteArray := prog_1_method_19_code
abbrev c_19 : ByteArray := prog_12_method_1_code
abbrev c_20 : ByteArray := prog_12_method_2_code
abbrev c_21 : ByteArray := prog_12_method_3_code
abbrev c_22 : ByteArray := prog_12_method_4_code
abbrev c_23 : ByteArray := prog_12_method_5_code
abbrev c_24 : ByteArray := prog_12_method_6_code
abbrev c_25 : ByteArray := prog_12_method_7_code
abbrev c_26 : ByteArray := prog_12_method_8_code
abbrev c_27 : ByteArray := prog_12_method_9_code
abbrev c_28 : ByteArray := prog_12_method_10_code
abbrev c_29 : ByteArray := prog_12_method_11_code
abbrev c_30 : ByteArray := prog_12_method_12_code
abbrev c_31 : ByteArray := prog_12_method_13_code
abbrev c_32 : ByteArray := prog_12_method_14_code
abbrev c_33 : ByteArray := prog_12_method_15_code
abbrev c_34 : ByteArray := prog_12_method_16_code
abbrev c_35 : ByteArray := prog_12_method_17_code
abbrev c_36 : ByteArray := prog_12_method_18_code
abbrev c_37 : ByteArray := prog_12_method_19_code
abbrev c_38 : ByteArray := prog_12_method_20_code
abbrev c_39 : ByteArray := prog_12_method_21_code
abbrev c_40 : ByteArray := prog_12_method_22_code
abbrev c_41 : ByteArray := prog_12_method_23_code
abbrev c_42 : ByteArray := prog_12_method_24_code
abbrev c_43 : ByteArray := prog_12_method_25_code
abbrev c_44 : ByteArray := prog_12_method_26_code
abbrev c_45 : ByteArray := prog_12_method_27_code
abbrev c_46 : ByteArray := prog_12_method_28_code
abbrev c_47 : ByteArray := prog_12_method_29_code
abbrev c_48 : ByteArray := prog_12_method_30_code
abbrev c_49 : ByteArray := prog_12_method_31_code
abbrev c_50 : ByteArray := prog_12_method_32_code
abbrev c_51 : ByteArray := prog_12_method_33_code
abbrev c_52 : ByteArray := prog_12_method_34_code
abbrev c_53 : ByteArray := prog_12_method_35_code
abbrev c_54 : ByteArray := prog_12_method_36_code
abbrev c_55 : ByteArray := prog_12_method_37_code
abbrev c_56 : ByteArray := prog_12_method_38_code
abbrev c_57 : ByteArray := prog_12_method_39_code
abbrev c_58 : ByteArray := prog_12_method_40_code
abbrev c_59 : ByteArray := prog_12_method_41_code
abbrev c_60 : ByteArray := prog_12_method_42_code
abbrev c_61 : ByteArray := prog_12_method_43_code
abbrev c_62 : ByteArray := prog_12_method_44_code
abbrev c_63 : ByteArray := prog_12_method_45_code
abbrev c_64 : ByteArray := prog_12_method_46_code
abbrev c_65 : ByteArray := prog_12_method_47_code
abbrev c_66 : ByteArray := prog_12_method_48_code
abbrev c_67 : ByteArray := prog_12_method_49_code
abbrev c_68 : ByteArray := prog_12_method_50_code
abbrev c_69 : ByteArray := prog_12_method_51_code
abbrev c_70 : ByteArray := prog_12_method_52_code
abbrev c_71 : ByteArray := prog_12_method_53_code
abbrev c_72 : ByteArray := prog_12_method_54_code
abbrev c_73 : ByteArray := prog_12_method_55_code
abbrev c_74 : ByteArray := prog_12_method_56_code
abbrev c_75 : ByteArray := prog_12_method_57_code
abbrev c_76 : ByteArray := prog_12_method_58_code
abbrev c_77 : ByteArray := prog_12_method_59_code
abbrev c_78 : ByteArray := prog_12_method_60_code
abbrev c_79 : ByteArray := prog_12_method_61_code
abbrev c_80 : ByteArray := prog_2_method_1_code
abbrev c_81 : ByteArray := prog_2_method_2_code
abbrev c_82 : ByteArray := prog_2_method_3_code
abbrev c_83 : ByteArray := prog_2_method_4_code
abbrev c_84 : ByteArray := prog_2_method_5_code
abbrev c_85 : ByteArray := prog_2_method_6_code
abbrev c_86 : ByteArray := prog_2_method_7_code
abbrev c_87 : ByteArray := prog_2_method_8_code
abbrev c_88 : ByteArray := prog_3_method_1_code
abbrev c_89 : ByteArray := prog_3_method_2_code
abbrev c_90 : ByteArray := prog_3_method_3_code
abbrev c_91 : ByteArray := prog_4_method_1_code
abbrev c_92 : ByteArray := prog_4_method_2_code
abbrev c_93 : ByteArray := prog_4_method_3_code
abbrev c_94 : ByteArray := prog_4_method_4_code
abbrev c_95 : ByteArray := prog_4_method_5_code
abbrev c_96 : ByteArray := prog_4_method_6_code
abbrev c_97 : ByteArray := prog_4_method_7_code
abbrev c_98 : ByteArray := prog_4_method_8_code
abbrev c_99 : ByteArray := prog_4_method_9_code
abbrev c_100 : ByteArray := prog_4_method_10_code
abbrev c_101 : ByteArray := prog_4_method_11_code
abbrev c_102 : ByteArray := prog_5_method_1_code
abbrev c_103 : ByteArray := prog_5_method_2_code
abbrev c_104 : ByteArray := prog_5_method_3_code
abbrev c_105 : ByteArray := prog_5_method_4_code
abbrev c_106 : ByteArray := prog_5_method_5_code
abbrev c_107 : ByteArray := prog_5_method_6_code
abbrev c_108 : ByteArray := prog_5_method_7_code
abbrev c_109 : ByteArray := prog_5_method_8_code
abbrev c_110 : ByteArray := prog_6_method_1_code
abbrev c_111 : ByteArray := prog_6_method_2_code
abbrev c_112 : ByteArray := prog_6_method_3_code
abbrev c_113 : ByteArray := prog_6_method_4_code
abbrev c_114 : ByteArray := prog_6_method_5_code
abbrev c_115 : ByteArray := prog_7_method_1_code
abbrev c_116 : ByteArray := prog_7_method_2_code
abbrev c_117 : ByteArray := prog_7_method_3_code
abbrev c_118 : ByteArray := prog_7_method_4_code
abbrev c_119 : ByteArray := prog_7_method_5_code
abbrev c_120 : ByteArray := prog_7_method_6_code
abbrev c_121 : ByteArray := prog_7_method_7_code
abbrev c_122 : ByteArray := prog_7_method_8_code
abbrev c_123 : ByteArray := prog_7_method_9_code
abbrev c_124 : ByteArray := prog_7_method_10_code
abbrev c_125 : ByteArray := prog_7_method_11_code
abbrev c_126 : ByteArray := prog_7_method_12_code
abbrev c_127 : ByteArray := prog_7_method_13_code
abbrev c_128 : ByteArray := prog_7_method_14_code
abbrev c_129 : ByteArray := prog_8_method_1_code
abbrev c_130 : ByteArray := prog_8_method_2_code
abbrev c_131 : ByteArray := prog_8_method_3_code
abbrev c_132 : ByteArray := prog_8_method_4_code
abbrev c_133 : ByteArray := prog_8_method_5_code
abbrev c_134 : ByteArray := prog_8_method_6_code
abbrev c_135 : ByteArray := prog_8_method_7_code
abbrev c_136 : ByteArray := prog_8_method_8_code
abbrev c_137 : ByteArray := prog_8_method_9_code
abbrev c_138 : ByteArray := prog_9_method_1_code
abbrev c_139 : ByteArray := prog_9_method_2_code
abbrev c_140 : ByteArray := prog_9_method_3_code
abbrev c_141 : ByteArray := prog_9_method_4_code
abbrev c_142 : ByteArray := prog_9_method_5_code
abbrev c_143 : ByteArray := prog_9_method_6_code
abbrev c_144 : ByteArray := prog_9_method_7_code
abbrev c_145 : ByteArray := prog_9_method_8_code
abbrev c_146 : ByteArray := prog_9_method_9_code
abbrev c_147 : ByteArray := prog_9_method_10_code
abbrev c_148 : ByteArray := prog_9_method_11_code
abbrev c_149 : ByteArray := prog_9_method_12_code
abbrev c_150 : ByteArray := prog_9_method_13_code
abbrev c_151 : ByteArray := prog_9_method_14_code
abbrev c_152 : ByteArray := prog_9_method_15_code
abbrev c_153 : ByteArray := prog_9_method_16_code
abbrev c_154 : ByteArray := prog_10_method_1_code
abbrev c_155 : ByteArray := prog_10_method_2_code
abbrev c_156 : ByteArray := prog_10_method_3_code
abbrev c_157 : ByteArray := prog_10_method_4_code
abbrev c_158 : ByteArray := prog_10_method_5_code
abbrev c_159 : ByteArray := prog_10_method_6_code
abbrev c_160 : ByteArray := prog_10_method_7_code
abbrev c_161 : ByteArray := prog_10_method_8_code
abbrev c_162 : ByteArray := prog_10_method_9_code
abbrev c_163 : ByteArray := prog_10_method_10_code
abbrev c_164 : ByteArray := prog_10_method_11_code
abbrev c_165 : ByteArray := prog_10_method_12_code
abbrev c_166 : ByteArray := prog_10_method_13_code
abbrev c_167 : ByteArray := prog_10_method_14_code
abbrev c_168 : ByteArray := prog_10_method_15_code
abbrev c_169 : ByteArray := prog_10_method_16_code
abbrev c_170 : ByteArray := prog_10_method_17_code
abbrev c_171 : ByteArray := prog_10_method_18_code
abbrev c_172 : ByteArray := prog_10_method_19_code
abbrev c_173 : ByteArray := prog_10_method_20_code
abbrev c_174 : ByteArray := prog_10_method_21_code
abbrev c_175 : ByteArray := prog_10_method_22_code
abbrev c_176 : ByteArray := prog_10_method_23_code
abbrev c_177 : ByteArray := prog_10_method_24_code
abbrev c_178 : ByteArray := prog_10_method_25_code
abbrev c_179 : ByteArray := prog_10_method_26_code
def aj_ms : List (Nat × MethodName × ByteArray × Nat × Option FieldType) := [
  (0, ⟨"ReelOfBoxes", "<init>", "()V"⟩, c_0, 1, none),
  (0, ⟨"ReelOfBoxes", "track", "()I"⟩, c_1, 1, some .int),
  (0, ⟨"ReelOfBoxes", "sample", "(IIJI)I"⟩, c_2, 7, some .int),
  (0, ⟨"ReelOfBoxes", "clear", "()I"⟩, c_3, 1, some .int),
  (0, ⟨"ReelOfBoxes", "write", "(II)I"⟩, c_4, 3, some .int),
  (0, ⟨"ReelOfBoxes", "read", "()I"⟩, c_5, 1, some .int),
  (0, ⟨"ReelOfBoxes", "place", "()I"⟩, c_6, 1, some .int),
  (0, ⟨"ReelOfBoxes", "tracks", "()I"⟩, c_7, 1, some .int),
  (0, ⟨"ReelOfBoxes", "samples", "(I)I"⟩, c_8, 3, some .int),
  (0, ⟨"ReelOfBoxes", "size", "(II)I"⟩, c_9, 4, some .int),
  (0, ⟨"ReelOfBoxes", "time", "(II)J"⟩, c_10, 4, some .long),
  (0, ⟨"ReelOfBoxes", "bytes", "(II)J"⟩, c_11, 4, some .long),
  (0, ⟨"ReelOfBoxes", "length", "()I"⟩, c_12, 1, some .int),
  (0, ⟨"ReelOfBoxes", "at", "(I)I"⟩, c_13, 2, some .int),
  (0, ⟨"ReelOfBoxes", "poke", "(II)Z"⟩, c_14, 3, some .boolean),
  (0, ⟨"ReelOfBoxes", "append", "(JI)I"⟩, c_15, 4, some .int),
  (0, ⟨"ReelOfBoxes", "cut", "(I)Z"⟩, c_16, 2, some .boolean),
  (0, ⟨"ReelOfBoxes", "isTooMuch", "(J)Z"⟩, c_17, 2, some .boolean),
  (0, ⟨"ReelOfBoxes", "tableOfType", "(I)I"⟩, c_18, 1, some .int),
  (1, ⟨"ReelOfBoxesModel", "<init>", "()V"⟩, c_19, 1, none),
  (1, ⟨"ReelOfBoxesModel", "track", "()I"⟩, c_20, 1, some .int),
  (1, ⟨"ReelOfBoxesModel", "isTrack", "(I)Z"⟩, c_21, 2, some .boolean),
  (1, ⟨"ReelOfBoxesModel", "isSample", "(II)Z"⟩, c_22, 3, some .boolean),
  (1, ⟨"ReelOfBoxesModel", "sample", "(IIJI)I"⟩, c_23, 7, some .int),
  (1, ⟨"ReelOfBoxesModel", "clear", "()I"⟩, c_24, 2, some .int),
  (1, ⟨"ReelOfBoxesModel", "put", "(JI)V"⟩, c_25, 5, none),
  (1, ⟨"ReelOfBoxesModel", "head", "(II)V"⟩, c_26, 3, none),
  (1, ⟨"ReelOfBoxesModel", "chunksOf", "(II)I"⟩, c_27, 3, some .int),
  (1, ⟨"ReelOfBoxesModel", "chunkSize", "(III)I"⟩, c_28, 5, some .int),
  (1, ⟨"ReelOfBoxesModel", "rowsOf", "(I)I"⟩, c_29, 4, some .int),
  (1, ⟨"ReelOfBoxesModel", "turnsOf", "(II)I"⟩, c_30, 4, some .int),
  (1, ⟨"ReelOfBoxesModel", "stblSize", "(IIZ)I"⟩, c_31, 4, some .int),
  (1, ⟨"ReelOfBoxesModel", "bytesOf", "(III)I"⟩, c_32, 6, some .int),
  (1, ⟨"ReelOfBoxesModel", "bytesBefore", "(III)I"⟩, c_33, 7, some .int),
  (1, ⟨"ReelOfBoxesModel", "writeTimes", "(I)V"⟩, c_34, 6, none),
  (1, ⟨"ReelOfBoxesModel", "writeTurns", "(II)V"⟩, c_35, 5, none),
  (1, ⟨"ReelOfBoxesModel", "writeSizes", "(I)V"⟩, c_36, 3, none),
  (1, ⟨"ReelOfBoxesModel", "writePlaces", "(IIZI)V"⟩, c_37, 8, none),
  (1, ⟨"ReelOfBoxesModel", "allBytes", "()I"⟩, c_38, 4, some .int),
  (1, ⟨"ReelOfBoxesModel", "writeData", "(I)V"⟩, c_39, 7, none),
  (1, ⟨"ReelOfBoxesModel", "write", "(II)I"⟩, c_40, 10, some .int),
  (1, ⟨"ReelOfBoxesModel", "numberAt", "(II)J"⟩, c_41, 6, some .long),
  (1, ⟨"ReelOfBoxesModel", "readHead", "(II)Z"⟩, c_42, 5, some .boolean),
  (1, ⟨"ReelOfBoxesModel", "tableOf", "(I)I"⟩, c_43, 1, some .int),
  (1, ⟨"ReelOfBoxesModel", "isTooMany", "()Z"⟩, c_44, 3, some .boolean),
  (1, ⟨"ReelOfBoxesModel", "isGoneInto", "()Z"⟩, c_45, 1, some .boolean),
  (1, ⟨"ReelOfBoxesModel", "note", "(I)V"⟩, c_46, 4, none),
  (1, ⟨"ReelOfBoxesModel", "isWhole", "()Z"⟩, c_47, 2, some .boolean),
  (1, ⟨"ReelOfBoxesModel", "tell", "(II)I"⟩, c_48, 3, some .int),
  (1, ⟨"ReelOfBoxesModel", "readBoxes", "()I"⟩, c_49, 3, some .int),
  (1, ⟨"ReelOfBoxesModel", "entrySize", "(II)I"⟩, c_50, 3, some .int),
  (1, ⟨"ReelOfBoxesModel", "headSize", "(I)I"⟩, c_51, 2, some .int),
  (1, ⟨"ReelOfBoxesModel", "manyOf", "(II)J"⟩, c_52, 3, some .long),
  (1, ⟨"ReelOfBoxesModel", "entriesOf", "(II)J"⟩, c_53, 3, some .long),
  (1, ⟨"ReelOfBoxesModel", "hasLength", "(II)Z"⟩, c_54, 4, some .boolean),
  (1, ⟨"ReelOfBoxesModel", "entry", "(IIII)J"⟩, c_55, 6, some .long),
  (1, ⟨"ReelOfBoxesModel", "isRight", "(J)Z"⟩, c_56, 2, some .boolean),
  (1, ⟨"ReelOfBoxesModel", "isEntryRight", "(III)Z"⟩, c_57, 9, some .boolean),
  (1, ⟨"ReelOfBoxesModel", "areNumbersRight", "(II)Z"⟩, c_58, 7, some .boolean),
  (1, ⟨"ReelOfBoxesModel", "readTables", "()I"⟩, c_59, 3, some .int),
  (1, ⟨"ReelOfBoxesModel", "perChunk", "(II)J"⟩, c_60, 6, some .long),
  (1, ⟨"ReelOfBoxesModel", "sizeOf", "(II)J"⟩, c_61, 5, some .long),
  (1, ⟨"ReelOfBoxesModel", "agrees", "(I)Z"⟩, c_62, 12, some .boolean),
  (1, ⟨"ReelOfBoxesModel", "findSamples", "(I)V"⟩, c_63, 8, none),
  (1, ⟨"ReelOfBoxesModel", "allInData", "(I)Z"⟩, c_64, 4, some .boolean),
  (1, ⟨"ReelOfBoxesModel", "readSamples", "()I"⟩, c_65, 2, some .int),
  (1, ⟨"ReelOfBoxesModel", "keep", "()V"⟩, c_66, 6, none),
  (1, ⟨"ReelOfBoxesModel", "read", "()I"⟩, c_67, 2, some .int),
  (1, ⟨"ReelOfBoxesModel", "place", "()I"⟩, c_68, 1, some .int),
  (1, ⟨"ReelOfBoxesModel", "tracks", "()I"⟩, c_69, 1, some .int),
  (1, ⟨"ReelOfBoxesModel", "samples", "(I)I"⟩, c_70, 2, some .int),
  (1, ⟨"ReelOfBoxesModel", "size", "(II)I"⟩, c_71, 3, some .int),
  (1, ⟨"ReelOfBoxesModel", "time", "(II)J"⟩, c_72, 6, some .long),
  (1, ⟨"ReelOfBoxesModel", "bytes", "(II)J"⟩, c_73, 3, some .long),
  (1, ⟨"ReelOfBoxesModel", "length", "()I"⟩, c_74, 1, some .int),
  (1, ⟨"ReelOfBoxesModel", "isByte", "(I)Z"⟩, c_75, 2, some .boolean),
  (1, ⟨"ReelOfBoxesModel", "at", "(I)I"⟩, c_76, 2, some .int),
  (1, ⟨"ReelOfBoxesModel", "poke", "(II)Z"⟩, c_77, 3, some .boolean),
  (1, ⟨"ReelOfBoxesModel", "append", "(JI)I"⟩, c_78, 4, some .int),
  (1, ⟨"ReelOfBoxesModel", "cut", "(I)Z"⟩, c_79, 2, some .boolean),
  (2, ⟨"ReelOfBoxes$ByteRow", "<init>", "()V"⟩, c_80, 1, none),
  (2, ⟨"ReelOfBoxes$ByteRow", "byteCount", "()I"⟩, c_81, 1, some .int),
  (2, ⟨"ReelOfBoxes$ByteRow", "byteAt", "(I)I"⟩, c_82, 2, some .int),
  (2, ⟨"ReelOfBoxes$ByteRow", "setByte", "(II)Z"⟩, c_83, 3, some .boolean),
  (2, ⟨"ReelOfBoxes$ByteRow", "keepFirst", "(I)Z"⟩, c_84, 2, some .boolean),
  (2, ⟨"ReelOfBoxes$ByteRow", "addNumber", "(JI)I"⟩, c_85, 5, some .int),
  (2, ⟨"ReelOfBoxes$ByteRow", "number", "(II)J"⟩, c_86, 6, some .long),
  (2, ⟨"ReelOfBoxes$ByteRow", "lowestFirst", "(JI)J"⟩, c_87, 7, some .long),
  (3, ⟨"ReelOfBoxes$Fault", "<init>", "()V"⟩, c_88, 1, none),
  (3, ⟨"ReelOfBoxes$Fault", "forget", "()V"⟩, c_89, 1, none),
  (3, ⟨"ReelOfBoxes$Fault", "tell", "(II)Z"⟩, c_90, 3, some .boolean),
  (4, ⟨"ReelOfBoxes$Finder", "<init>", "(LReelOfBoxes$ByteRow;LReelOfBoxes$Fault;)V"⟩, c_91, 4, none),
  (4, ⟨"ReelOfBoxes$Finder", "findAll", "()Z"⟩, c_92, 2, some .boolean),
  (4, ⟨"ReelOfBoxes$Finder", "begin", "()V"⟩, c_93, 1, none),
  (4, ⟨"ReelOfBoxes$Finder", "takeBox", "()Z"⟩, c_94, 1, some .boolean),
  (4, ⟨"ReelOfBoxes$Finder", "readHead", "(I)Z"⟩, c_95, 5, some .boolean),
  (4, ⟨"ReelOfBoxes$Finder", "keepBox", "()Z"⟩, c_96, 1, some .boolean),
  (4, ⟨"ReelOfBoxes$Finder", "keepInFile", "()Z"⟩, c_97, 2, some .boolean),
  (4, ⟨"ReelOfBoxes$Finder", "keepTable", "()Z"⟩, c_98, 2, some .boolean),
  (4, ⟨"ReelOfBoxes$Finder", "openTrak", "()Z"⟩, c_99, 1, some .boolean),
  (4, ⟨"ReelOfBoxes$Finder", "stepOn", "()V"⟩, c_100, 1, none),
  (4, ⟨"ReelOfBoxes$Finder", "levelIsWhole", "()Z"⟩, c_101, 1, some .boolean),
  (5, ⟨"ReelOfBoxes$Reader", "<init>", "(LReelOfBoxes$ByteRow;)V"⟩, c_102, 2, none),
  (5, ⟨"ReelOfBoxes$Reader", "faultPlace", "()I"⟩, c_103, 1, some .int),
  (5, ⟨"ReelOfBoxes$Reader", "readInto", "(LReelOfBoxes$Reel;)I"⟩, c_104, 2, some .int),
  (5, ⟨"ReelOfBoxes$Reader", "tablesAreRight", "()Z"⟩, c_105, 5, some .boolean),
  (5, ⟨"ReelOfBoxes$Reader", "tablesAgree", "()Z"⟩, c_106, 3, some .boolean),
  (5, ⟨"ReelOfBoxes$Reader", "samplesAreInside", "()Z"⟩, c_107, 3, some .boolean),
  (5, ⟨"ReelOfBoxes$Reader", "fillReel", "(LReelOfBoxes$Reel;)V"⟩, c_108, 4, none),
  (5, ⟨"ReelOfBoxes$Reader", "fillTrack", "(LReelOfBoxes$Track;LReelOfBoxes$TrackBoxes;)V"⟩, c_109, 5, none),
  (6, ⟨"ReelOfBoxes$Reel", "<init>", "()V"⟩, c_110, 2, none),
  (6, ⟨"ReelOfBoxes$Reel", "trackCount", "()I"⟩, c_111, 1, some .int),
  (6, ⟨"ReelOfBoxes$Reel", "find", "(I)LReelOfBoxes$Track;"⟩, c_112, 2, some (.object "ReelOfBoxes$Track")),
  (6, ⟨"ReelOfBoxes$Reel", "openTrack", "()I"⟩, c_113, 1, some .int),
  (6, ⟨"ReelOfBoxes$Reel", "makeEmpty", "()I"⟩, c_114, 2, some .int),
  (7, ⟨"ReelOfBoxes$Table", "<init>", "(LReelOfBoxes$ByteRow;)V"⟩, c_115, 2, none),
  (7, ⟨"ReelOfBoxes$Table", "forget", "()V"⟩, c_116, 1, none),
  (7, ⟨"ReelOfBoxes$Table", "isFound", "()Z"⟩, c_117, 1, some .boolean),
  (7, ⟨"ReelOfBoxes$Table", "find", "(IIII)V"⟩, c_118, 5, none),
  (7, ⟨"ReelOfBoxes$Table", "widthOfEntry", "(I)I"⟩, c_119, 1, some .int),
  (7, ⟨"ReelOfBoxes$Table", "told", "()J"⟩, c_120, 1, some .long),
  (7, ⟨"ReelOfBoxes$Table", "sizeForAll", "()J"⟩, c_121, 1, some .long),
  (7, ⟨"ReelOfBoxes$Table", "listed", "()I"⟩, c_122, 2, some .int),
  (7, ⟨"ReelOfBoxes$Table", "entryNumber", "(II)J"⟩, c_123, 4, some .long),
  (7, ⟨"ReelOfBoxes$Table", "ownFault", "()I"⟩, c_124, 3, some .int),
  (7, ⟨"ReelOfBoxes$Table", "lengthIsRight", "()Z"⟩, c_125, 5, some .boolean),
  (7, ⟨"ReelOfBoxes$Table", "headIsRight", "()Z"⟩, c_126, 1, some .boolean),
  (7, ⟨"ReelOfBoxes$Table", "entryIsRight", "(I)Z"⟩, c_127, 4, some .boolean),
  (7, ⟨"ReelOfBoxes$Table", "isCount", "(J)Z"⟩, c_128, 2, some .boolean),
  (8, ⟨"ReelOfBoxes$Track", "<init>", "()V"⟩, c_129, 1, none),
  (8, ⟨"ReelOfBoxes$Track", "sampleCount", "()I"⟩, c_130, 1, some .int),
  (8, ⟨"ReelOfBoxes$Track", "dropSamples", "()V"⟩, c_131, 1, none),
  (8, ⟨"ReelOfBoxes$Track", "addSample", "(IJI)I"⟩, c_132, 5, some .int),
  (8, ⟨"ReelOfBoxes$Track", "sizeOf", "(I)I"⟩, c_133, 2, some .int),
  (8, ⟨"ReelOfBoxes$Track", "durationOf", "(I)I"⟩, c_134, 2, some .int),
  (8, ⟨"ReelOfBoxes$Track", "bytesOf", "(I)J"⟩, c_135, 2, some .long),
  (8, ⟨"ReelOfBoxes$Track", "timeOf", "(I)J"⟩, c_136, 5, some .long),
  (8, ⟨"ReelOfBoxes$Track", "lowestBytes", "(JI)J"⟩, c_137, 3, some .long),
  (9, ⟨"ReelOfBoxes$TrackBoxes", "<init>", "(LReelOfBoxes$ByteRow;)V"⟩, c_138, 3, none),
  (9, ⟨"ReelOfBoxes$TrackBoxes", "forget", "()V"⟩, c_139, 2, none),
  (9, ⟨"ReelOfBoxes$TrackBoxes", "hasStbl", "()Z"⟩, c_140, 1, some .boolean),
  (9, ⟨"ReelOfBoxes$TrackBoxes", "takeStbl", "(I)Z"⟩, c_141, 2, some .boolean),
  (9, ⟨"ReelOfBoxes$TrackBoxes", "tableFor", "(I)LReelOfBoxes$Table;"⟩, c_142, 3, some (.object "ReelOfBoxes$Table")),
  (9, ⟨"ReelOfBoxes$TrackBoxes", "hasAllTables", "()Z"⟩, c_143, 2, some .boolean),
  (9, ⟨"ReelOfBoxes$TrackBoxes", "tablesAgree", "()Z"⟩, c_144, 5, some .boolean),
  (9, ⟨"ReelOfBoxes$TrackBoxes", "samplesOfStts", "()J"⟩, c_145, 6, some .long),
  (9, ⟨"ReelOfBoxes$TrackBoxes", "sizeToldOf", "(I)J"⟩, c_146, 4, some .long),
  (9, ⟨"ReelOfBoxes$TrackBoxes", "sizesAreSmall", "(I)Z"⟩, c_147, 3, some .boolean),
  (9, ⟨"ReelOfBoxes$TrackBoxes", "entriesMeetChunks", "(I)Z"⟩, c_148, 3, some .boolean),
  (9, ⟨"ReelOfBoxes$TrackBoxes", "samplesOfChunks", "(I)J"⟩, c_149, 9, some .long),
  (9, ⟨"ReelOfBoxes$TrackBoxes", "unfold", "()V"⟩, c_150, 2, none),
  (9, ⟨"ReelOfBoxes$TrackBoxes", "unfoldDurations", "()V"⟩, c_151, 8, none),
  (9, ⟨"ReelOfBoxes$TrackBoxes", "unfoldBegins", "()V"⟩, c_152, 12, none),
  (9, ⟨"ReelOfBoxes$TrackBoxes", "samplesLieIn", "(II)Z"⟩, c_153, 4, some .boolean),
  (10, ⟨"ReelOfBoxes$Writer", "<init>", "(LReelOfBoxes$Reel;LReelOfBoxes$ByteRow;)V"⟩, c_154, 3, none),
  (10, ⟨"ReelOfBoxes$Writer", "writeReel", "(II)I"⟩, c_155, 5, some .int),
  (10, ⟨"ReelOfBoxes$Writer", "chunkCount", "(LReelOfBoxes$Track;)I"⟩, c_156, 2, some .int),
  (10, ⟨"ReelOfBoxes$Writer", "chunkEnd", "(LReelOfBoxes$Track;I)I"⟩, c_157, 3, some .int),
  (10, ⟨"ReelOfBoxes$Writer", "beginsRow", "(LReelOfBoxes$Track;I)Z"⟩, c_158, 3, some .boolean),
  (10, ⟨"ReelOfBoxes$Writer", "rowFrom", "(LReelOfBoxes$Track;I)I"⟩, c_159, 5, some .int),
  (10, ⟨"ReelOfBoxes$Writer", "sttsEntries", "(LReelOfBoxes$Track;)I"⟩, c_160, 5, some .int),
  (10, ⟨"ReelOfBoxes$Writer", "stscEntries", "(LReelOfBoxes$Track;)I"⟩, c_161, 3, some .int),
  (10, ⟨"ReelOfBoxes$Writer", "placeWidth", "()I"⟩, c_162, 1, some .int),
  (10, ⟨"ReelOfBoxes$Writer", "tableSize", "(II)I"⟩, c_163, 2, some .int),
  (10, ⟨"ReelOfBoxes$Writer", "stszSize", "(I)I"⟩, c_164, 1, some .int),
  (10, ⟨"ReelOfBoxes$Writer", "stblSize", "(LReelOfBoxes$Track;)I"⟩, c_165, 2, some .int),
  (10, ⟨"ReelOfBoxes$Writer", "moovSize", "()I"⟩, c_166, 4, some .int),
  (10, ⟨"ReelOfBoxes$Writer", "layChunks", "(I)I"⟩, c_167, 6, some .int),
  (10, ⟨"ReelOfBoxes$Writer", "chunkBytes", "(LReelOfBoxes$Track;I)I"⟩, c_168, 6, some .int),
  (10, ⟨"ReelOfBoxes$Writer", "put", "(J)V"⟩, c_169, 3, none),
  (10, ⟨"ReelOfBoxes$Writer", "putHead", "(II)V"⟩, c_170, 3, none),
  (10, ⟨"ReelOfBoxes$Writer", "putTableHead", "(III)V"⟩, c_171, 4, none),
  (10, ⟨"ReelOfBoxes$Writer", "writeMoov", "(I)V"⟩, c_172, 4, none),
  (10, ⟨"ReelOfBoxes$Writer", "writeStts", "(LReelOfBoxes$Track;)V"⟩, c_173, 4, none),
  (10, ⟨"ReelOfBoxes$Writer", "writeStsc", "(LReelOfBoxes$Track;)V"⟩, c_174, 3, none),
  (10, ⟨"ReelOfBoxes$Writer", "putStscEntry", "(LReelOfBoxes$Track;I)V"⟩, c_175, 3, none),
  (10, ⟨"ReelOfBoxes$Writer", "writeStsz", "(LReelOfBoxes$Track;)V"⟩, c_176, 4, none),
  (10, ⟨"ReelOfBoxes$Writer", "writePlaces", "(LReelOfBoxes$Track;I)V"⟩, c_177, 5, none),
  (10, ⟨"ReelOfBoxes$Writer", "writeMdat", "(I)V"⟩, c_178, 5, none),
  (10, ⟨"ReelOfBoxes$Writer", "writeChunk", "(LReelOfBoxes$Track;I)V"⟩, c_179, 7, none)]
def aj_run : Nat → List Cond
  | 0 => k2_sels lw_privs
  | 1 => tables_1_1
  | 2 => tables_1_2
  | 3 => tables_1_3
  | 4 => tables_1_4
  | _ => tables_1_5
theorem aj_run_in : ∀ (j : Nat) (w : Cond), w ∈ aj_run j → w ∈ lw_tbl
  | 0, _, h => List.mem_append_left _ h
  | 1, _, h => List.mem_append_right _ (List.mem_append_left _ h)
  | 2, _, h => List.mem_append_right _ (List.mem_append_right _ (List.mem_append_left _ h))
  | 3, _, h => List.mem_append_right _ (List.mem_append_right _ (List.mem_append_right _ (List.mem_append_left _ h)))
  | 4, _, h => List.mem_append_right _ (List.mem_append_right _ (List.mem_append_right _ (List.mem_append_right _ (List.mem_append_left _ h))))
  | _ + 5, _, h => List.mem_append_right _ (List.mem_append_right _ (List.mem_append_right _ (List.mem_append_right _ (List.mem_append_right _ (h)))))
def aj_mk : List (Nat × List (Nat × Nat)) := [(2, [(1, 1), (1, 16)]), (0, [(1, 1), (2, 21), (2, 22)]), (0, [(1, 1), (2, 33), (2, 34)]), (0, [(1, 1), (2, 48), (2, 49)]), (0, [(1, 1), (2, 56), (2, 57)]), (0, [(1, 1), (2, 202), (2, 203)]), (0, [(1, 1), (3, 189), (3, 190)]), (0, [(1, 1), (3, 197), (3, 198)]), (0, [(1, 1), (3, 205), (3, 206)]), (0, [(1, 1), (3, 210), (3, 211)]), (0, [(1, 1), (3, 215), (3, 216)]), (0, [(1, 1), (3, 225), (3, 226)]), (0, [(1, 1), (3, 230), (3, 231)]), (0, [(1, 1), (3, 235), (3, 236)]), (0, [(1, 1), (4, 3), (4, 4)]), (0, [(1, 1), (4, 11), (4, 12)]), (0, [(1, 1), (4, 16), (4, 17)]), (1, [(1, 1), (3, 94)]), (1, [(1, 1), (3, 35)]), (2, [(1, 11), (4, 23)]), (0, [(1, 11), (4, 113), (4, 114)]), (0, [(1, 11), (4, 122), (0, 46)]), (0, [(1, 11), (5, 89), (0, 86)]), (0, [(1, 11), (4, 117), (4, 118)]), (0, [(1, 11), (4, 125), (4, 126)]), (0, [(1, 11), (4, 163), (0, 54)]), (0, [(1, 11), (4, 159), (0, 53)]), (0, [(1, 11), (4, 146), (0, 50)]), (0, [(1, 11), (4, 150), (0, 51)]), (0, [(1, 11), (4, 138), (0, 48)]), (0, [(1, 11), (4, 142), (0, 49)]), (0, [(1, 11), (4, 134), (0, 47)]), (0, [(1, 11), (4, 195), (0, 60)]), (0, [(1, 11), (4, 191), (0, 59)]), (0, [(1, 11), (4, 170), (0, 55)]), (0, [(1, 11), (4, 175), (0, 56)]), (0, [(1, 11), (4, 180), (0, 57)]), (0, [(1, 11), (4, 185), (0, 58)]), (0, [(1, 11), (4, 154), (0, 52)]), (0, [(1, 11), (4, 200), (0, 61)]), (0, [(1, 11), (4, 129), (4, 130)]), (0, [(1, 11), (4, 224), (0, 66)]), (0, [(1, 11), (4, 220), (0, 65)]), (1, [(1, 11), (4, 231)]), (0, [(1, 11), (4, 228), (0, 67)]), (0, [(1, 11), (4, 239), (0, 69)]), (0, [(1, 11), (4, 235), (0, 68)]), (0, [(1, 11), (4, 212), (0, 63)]), (0, [(1, 11), (4, 216), (0, 64)]), (0, [(1, 11), (4, 208), (0, 62)]), (0, [(1, 11), (5, 23), (0, 75)]), (0, [(1, 11), (5, 11), (0, 72)]), (0, [(1, 11), (5, 19), (0, 74)]), (0, [(1, 11), (5, 15), (0, 73)]), (0, [(1, 11), (5, 7), (0, 71)]), (0, [(1, 11), (5, 39), (0, 78)]), (1, [(1, 11), (5, 30)]), (0, [(1, 11), (5, 35), (0, 77)]), (0, [(1, 11), (5, 27), (0, 76)]), (0, [(1, 11), (5, 3), (0, 70)]), (0, [(1, 11), (5, 57), (0, 82)]), (0, [(1, 11), (5, 52), (0, 81)]), (0, [(1, 11), (5, 47), (0, 80)]), (0, [(1, 11), (5, 61), (0, 83)]), (0, [(1, 11), (5, 65), (0, 84)]), (0, [(1, 11), (5, 43), (0, 79)]), (0, [(1, 11), (5, 69), (0, 85)]), (0, [(1, 11), (4, 203), (4, 204)]), (0, [(1, 11), (5, 72), (5, 73)]), (0, [(1, 11), (5, 76), (5, 77)]), (0, [(1, 11), (5, 80), (5, 81)]), (0, [(1, 11), (5, 84), (5, 85)]), (0, [(1, 11), (5, 92), (5, 93)]), (0, [(1, 11), (5, 97), (5, 98)]), (0, [(1, 11), (5, 101), (5, 102)]), (0, [(1, 11), (5, 110), (0, 87)]), (0, [(1, 11), (5, 105), (5, 106)]), (0, [(1, 11), (5, 113), (5, 114)]), (0, [(1, 11), (5, 117), (5, 118)]), (0, [(1, 11), (5, 121), (5, 122)]), (2, [(1, 4), (1, 59)]), (0, [(1, 4), (2, 198), (2, 199)]), (0, [(1, 4), (3, 239), (4, 0)]), (0, [(1, 4), (4, 7), (4, 8)]), (0, [(1, 4), (2, 129), (2, 130)]), (0, [(1, 4), (2, 146), (2, 147)]), (0, [(1, 4), (2, 231), (2, 232)]), (0, [(1, 4), (3, 184), (3, 185)]), (2, [(1, 6), (1, 79)]), (0, [(1, 6), (2, 210), (2, 211)]), (0, [(1, 6), (2, 235), (2, 236)]), (2, [(1, 7), (1, 94)]), (0, [(1, 7), (2, 214), (2, 215)]), (0, [(1, 7), (2, 219), (0, 22)]), (0, [(1, 7), (2, 224), (0, 23)]), (0, [(1, 7), (2, 228), (0, 24)]), (0, [(1, 7), (3, 0), (0, 25)]), (0, [(1, 7), (3, 4), (0, 26)]), (0, [(1, 7), (3, 28), (0, 28)]), (0, [(1, 7), (3, 11), (0, 27)]), (0, [(1, 7), (3, 51), (0, 29)]), (0, [(1, 7), (3, 57), (0, 30)]), (2, [(1, 5), (1, 73)]), (0, [(1, 5), (3, 193), (3, 194)]), (0, [(1, 5), (2, 206), (2, 207)]), (0, [(1, 5), (3, 70), (0, 31)]), (0, [(1, 5), (3, 119), (0, 35)]), (0, [(1, 5), (3, 153), (0, 41)]), (0, [(1, 5), (3, 174), (0, 44)]), (0, [(1, 5), (3, 181), (0, 45)]), (2, [(1, 2), (1, 24)]), (0, [(1, 2), (3, 201), (3, 202)]), (0, [(1, 2), (2, 37), (2, 38)]), (0, [(1, 2), (2, 25), (2, 26)]), (0, [(1, 2), (2, 52), (2, 53)]), (2, [(1, 9), (1, 108)]), (0, [(1, 9), (3, 18), (3, 19)]), (0, [(1, 9), (3, 38), (3, 39)]), (0, [(1, 9), (3, 42), (3, 43)]), (1, [(1, 9), (3, 47)]), (0, [(1, 9), (3, 86), (3, 87)]), (0, [(1, 9), (3, 81), (3, 82)]), (0, [(1, 9), (3, 98), (3, 99)]), (0, [(1, 9), (3, 109), (3, 110)]), (0, [(1, 9), (3, 73), (3, 74)]), (0, [(1, 9), (3, 78), (0, 32)]), (0, [(1, 9), (3, 91), (0, 33)]), (0, [(1, 9), (3, 106), (0, 34)]), (1, [(1, 9), (3, 114)]), (2, [(1, 3), (1, 31)]), (0, [(1, 3), (2, 80), (2, 81)]), (0, [(1, 3), (2, 29), (2, 30)]), (0, [(1, 3), (2, 41), (2, 42)]), (0, [(1, 3), (2, 125), (2, 126)]), (0, [(1, 3), (2, 88), (2, 89)]), (0, [(1, 3), (2, 194), (2, 195)]), (0, [(1, 3), (3, 220), (3, 221)]), (1, [(1, 3), (2, 45)]), (2, [(1, 8), (1, 101)]), (0, [(1, 8), (3, 14), (3, 15)]), (0, [(1, 8), (3, 60), (3, 61)]), (0, [(1, 8), (3, 23), (3, 24)]), (0, [(1, 8), (3, 31), (3, 32)]), (0, [(1, 8), (3, 64), (3, 65)]), (0, [(1, 8), (3, 122), (3, 123)]), (0, [(1, 8), (3, 129), (0, 36)]), (0, [(1, 8), (3, 139), (0, 38)]), (0, [(1, 8), (3, 135), (0, 37)]), (0, [(1, 8), (3, 145), (0, 39)]), (0, [(1, 8), (3, 149), (0, 40)]), (0, [(1, 8), (3, 156), (3, 157)]), (0, [(1, 8), (3, 162), (0, 42)]), (0, [(1, 8), (3, 166), (0, 43)]), (0, [(1, 8), (3, 169), (3, 170)]), (2, [(1, 10), (1, 225)]), (0, [(1, 10), (2, 60), (2, 61)]), (0, [(1, 10), (2, 103), (0, 5)]), (0, [(1, 10), (2, 119), (0, 9)]), (0, [(1, 10), (2, 85), (0, 3)]), (0, [(1, 10), (2, 162), (0, 15)]), (0, [(1, 10), (2, 77), (0, 2)]), (0, [(1, 10), (2, 96), (0, 4)]), (0, [(1, 10), (2, 107), (0, 6)]), (1, [(1, 10), (2, 92)]), (1, [(1, 10), (2, 99)]), (0, [(1, 10), (2, 73), (0, 1)]), (0, [(1, 10), (2, 68), (0, 0)]), (0, [(1, 10), (2, 111), (0, 7)]), (0, [(1, 10), (2, 115), (0, 8)]), (0, [(1, 10), (2, 143), (0, 12)]), (0, [(1, 10), (2, 139), (0, 11)]), (0, [(1, 10), (2, 158), (0, 14)]), (0, [(1, 10), (2, 134), (0, 10)]), (0, [(1, 10), (2, 153), (0, 13)]), (0, [(1, 10), (2, 166), (0, 16)]), (0, [(1, 10), (2, 171), (0, 17)]), (0, [(1, 10), (2, 175), (0, 18)]), (0, [(1, 10), (2, 180), (0, 19)]), (0, [(1, 10), (2, 186), (0, 20)]), (0, [(1, 10), (2, 191), (0, 21)])]
def aj_lmp : List (Nat × Nat) := [(1, 23), (0, 0), (1, 72), (1, 224), (2, 24), (2, 36), (2, 40), (2, 51), (2, 59), (2, 205), (3, 192), (3, 200), (3, 208), (3, 213), (3, 219), (3, 228), (3, 233), (3, 238), (4, 6), (4, 14), (4, 19), (4, 120), (4, 161), (4, 144), (4, 148), (4, 136), (4, 140), (4, 193), (4, 157), (4, 189), (4, 132), (4, 152), (4, 168), (4, 173), (4, 178), (4, 183), (4, 198), (4, 222), (4, 230), (4, 210), (4, 214), (4, 218), (4, 226), (4, 233), (4, 237), (5, 9), (5, 17), (5, 13), (5, 21), (5, 37), (5, 29), (5, 33), (5, 5), (5, 25), (5, 50), (5, 55), (5, 45), (5, 59), (5, 63), (4, 206), (5, 1), (5, 41), (5, 67), (5, 87), (5, 108), (1, 100), (2, 217), (2, 222), (3, 49), (3, 55), (2, 234), (2, 221), (2, 226), (2, 238), (2, 230), (3, 2), (3, 9), (3, 22), (3, 26), (3, 30), (3, 37), (3, 41), (3, 13), (3, 59), (3, 63), (0, 0), (1, 93), (2, 209), (2, 213), (3, 68), (3, 117), (3, 151), (3, 172), (3, 72), (3, 116), (3, 121), (3, 155), (3, 168), (3, 176), (3, 177), (3, 178), (3, 179), (3, 183), (3, 187), (0, 0), (2, 28), (3, 46), (3, 84), (3, 80), (3, 85), (3, 76), (3, 89), (3, 97), (3, 104), (0, 0), (3, 108), (3, 113), (2, 44), (1, 107), (3, 17), (0, 0), (3, 67), (3, 125), (3, 127), (3, 133), (3, 143), (3, 147), (3, 131), (3, 132), (3, 141), (3, 137), (3, 160), (3, 164), (2, 66), (2, 109), (2, 128), (2, 132), (2, 184), (2, 197), (2, 79), (2, 87), (2, 83), (2, 91), (2, 75), (2, 94), (2, 98), (2, 101), (2, 105), (2, 70), (2, 71), (2, 113), (2, 117), (2, 124), (2, 145), (2, 141), (2, 137), (2, 151), (2, 164), (2, 173), (2, 178), (2, 156), (2, 160), (2, 169), (2, 189), (2, 193), (1, 15), (4, 22), (2, 20), (4, 112), (2, 32), (4, 116), (2, 47), (4, 124), (2, 55), (4, 128), (2, 201), (4, 202), (3, 188), (5, 71), (3, 196), (5, 75), (3, 204), (5, 79), (3, 209), (5, 83), (3, 214), (5, 91), (3, 224), (5, 96), (3, 229), (5, 100), (3, 234), (5, 104), (4, 2), (5, 112), (4, 10), (5, 116), (4, 15), (5, 120)]
def aj_lfs : List (Nat × Nat × Nat × Nat × Nat × Nat) := [(0, 10, 0, 0, 4, 1), (0, 19, 0, 1, 4, 1), (0, 28, 0, 2, 4, 1), (0, 37, 0, 3, 4, 1), (1, 7, 1, 1, 4, 1), (1, 13, 1, 2, 4, 1), (1, 16, 1, 3, 4, 1), (1, 19, 1, 4, 4, 1), (1, 23, 1, 6, 4, 1), (1, 26, 1, 7, 0, 0), (1, 30, 1, 9, 4, 1), (1, 33, 1, 10, 4, 1), (1, 36, 1, 16, 4, 1), (1, 39, 1, 17, 4, 1), (1, 42, 1, 18, 4, 1), (1, 45, 1, 19, 4, 1), (1, 48, 1, 20, 4, 1), (1, 52, 1, 24, 4, 1), (1, 55, 1, 25, 4, 1), (1, 58, 1, 26, 4, 1), (1, 61, 1, 27, 4, 1), (1, 64, 1, 0, 0, 0), (1, 71, 1, 5, 0, 0), (1, 143, 1, 21, 0, 0), (1, 146, 1, 22, 0, 0), (1, 149, 1, 23, 0, 0), (1, 152, 1, 8, 0, 0), (1, 155, 1, 11, 0, 0), (1, 158, 1, 12, 0, 0), (1, 161, 1, 15, 0, 0), (1, 167, 1, 13, 0, 0), (1, 170, 1, 14, 0, 0), (2, 9, 2, 0, 4, 1), (2, 15, 2, 1, 0, 0), (3, 9, 3, 0, 0, 0), (3, 15, 3, 1, 0, 0), (4, 11, 4, 2, 4, 1), (4, 17, 4, 3, 4, 1), (4, 21, 4, 4, 4, 1), (4, 24, 4, 5, 0, 0), (4, 28, 4, 6, 3, 0), (4, 32, 4, 7, 3, 0), (4, 35, 4, 8, 0, 0), (4, 38, 4, 9, 0, 0), (4, 41, 4, 10, 0, 0), (4, 44, 4, 12, 0, 0), (4, 47, 4, 13, 0, 0), (4, 50, 4, 14, 0, 0), (4, 53, 4, 15, 0, 0), (4, 56, 4, 0, 4, 1), (4, 60, 4, 1, 4, 1), (4, 67, 4, 11, 4, 0), (5, 9, 5, 0, 4, 1), (5, 18, 5, 1, 4, 1), (5, 27, 5, 2, 4, 1), (5, 31, 3, 1, 0, 2), (5, 55, 3, 0, 0, 2), (5, 58, 4, 10, 0, 2), (5, 61, 4, 2, 4, 2), (5, 65, 9, 0, 4, 2), (5, 77, 7, 1, 0, 2), (5, 85, 9, 5, 0, 2), (5, 91, 4, 8, 0, 2), (5, 94, 4, 9, 0, 2), (5, 116, 9, 4, 0, 2), (5, 119, 9, 2, 4, 2), (5, 123, 9, 1, 4, 2), (5, 126, 9, 3, 4, 2), (6, 11, 6, 0, 4, 1), (6, 17, 6, 1, 0, 0), (7, 9, 7, 1, 0, 0), (7, 15, 7, 2, 0, 0), (7, 18, 7, 3, 0, 0), (7, 21, 7, 4, 0, 0), (7, 24, 7, 5, 0, 0), (7, 27, 7, 6, 0, 0), (7, 30, 7, 0, 4, 1), (8, 9, 8, 0, 4, 1), (8, 15, 8, 1, 4, 1), (8, 18, 8, 2, 4, 1), (8, 22, 8, 3, 0, 0), (9, 11, 9, 0, 4, 1), (9, 17, 9, 1, 4, 1), (9, 21, 9, 2, 4, 1), (9, 24, 9, 3, 4, 1), (9, 28, 9, 4, 0, 0), (9, 32, 9, 5, 0, 0), (10, 9, 10, 2, 4, 1), (10, 15, 10, 3, 0, 0), (10, 19, 10, 4, 3, 0), (10, 23, 10, 5, 3, 0), (10, 26, 10, 0, 4, 1), (10, 30, 10, 1, 4, 1)]
theorem lf_0_10 : (0, 10, 0, 0, 4, 1) ∈ aj_lfs := List.mem_of_getElem? (i := 0) rfl
theorem lf_0_19 : (0, 19, 0, 1, 4, 1) ∈ aj_lfs := List.mem_of_getElem? (i := 1) rfl
theorem lf_0_28 : (0, 28, 0, 2, 4, 1) ∈ aj_lfs := List.mem_of_getElem? (i := 2) rfl
theorem lf_0_37 : (0, 37, 0, 3, 4, 1) ∈ aj_lfs := List.mem_of_getElem? (i := 3) rfl
theorem lf_1_7 : (1, 7, 1, 1, 4, 1) ∈ aj_lfs := List.mem_of_getElem? (i := 4) rfl
theorem lf_1_13 : (1, 13, 1, 2, 4, 1) ∈ aj_lfs := List.mem_of_getElem? (i := 5) rfl
theorem lf_1_16 : (1, 16, 1, 3, 4, 1) ∈ aj_lfs := List.mem_of_getElem? (i := 6) rfl
theorem lf_1_19 : (1, 19, 1, 4, 4, 1) ∈ aj_lfs := List.mem_of_getElem? (i := 7) rfl
theorem lf_1_23 : (1, 23, 1, 6, 4, 1) ∈ aj_lfs := List.mem_of_getElem? (i := 8) rfl
theorem lf_1_26 : (1, 26, 1, 7, 0, 0) ∈ aj_lfs := List.mem_of_getElem? (i := 9) rfl
theorem lf_1_30 : (1, 30, 1, 9, 4, 1) ∈ aj_lfs := List.mem_of_getElem? (i := 10) rfl
theorem lf_1_33 : (1, 33, 1, 10, 4, 1) ∈ aj_lfs := List.mem_of_getElem? (i := 11) rfl
theorem lf_1_36 : (1, 36, 1, 16, 4, 1) ∈ aj_lfs := List.mem_of_getElem? (i := 12) rfl
theorem lf_1_39 : (1, 39, 1, 17, 4, 1) ∈ aj_lfs := List.mem_of_getElem? (i := 13) rfl
theorem lf_1_42 : (1, 42, 1, 18, 4, 1) ∈ aj_lfs := List.mem_of_getElem? (i := 14) rfl
theorem lf_1_45 : (1, 45, 1, 19, 4, 1) ∈ aj_lfs := List.mem_of_getElem? (i := 15) rfl
theorem lf_1_48 : (1, 48, 1, 20, 4, 1) ∈ aj_lfs := List.mem_of_getElem? (i := 16) rfl
theorem lf_1_52 : (1, 52, 1, 24, 4, 1) ∈ aj_lfs := List.mem_of_getElem? (i := 17) rfl
theorem lf_1_55 : (1, 55, 1, 25, 4, 1) ∈ aj_lfs := List.mem_of_getElem? (i := 18) rfl
theorem lf_1_58 : (1, 58, 1, 26, 4, 1) ∈ aj_lfs := List.mem_of_getElem? (i := 19) rfl
theorem lf_1_61 : (1, 61, 1, 27, 4, 1) ∈ aj_lfs := List.mem_of_getElem? (i := 20) rfl
theorem lf_1_64 : (1, 64, 1, 0, 0, 0) ∈ aj_lfs := List.mem_of_getElem? (i := 21) rfl
theorem lf_1_71 : (1, 71, 1, 5, 0, 0) ∈ aj_lfs := List.mem_of_getElem? (i := 22) rfl
theorem lf_1_143 : (1, 143, 1, 21, 0, 0) ∈ aj_lfs := List.mem_of_getElem? (i := 23) rfl
theorem lf_1_146 : (1, 146, 1, 22, 0, 0) ∈ aj_lfs := List.mem_of_getElem? (i := 24) rfl
theorem lf_1_149 : (1, 149, 1, 23, 0, 0) ∈ aj_lfs := List.mem_of_getElem? (i := 25) rfl
theorem lf_1_152 : (1, 152, 1, 8, 0, 0) ∈ aj_lfs := List.mem_of_getElem? (i := 26) rfl
theorem lf_1_155 : (1, 155, 1, 11, 0, 0) ∈ aj_lfs := List.mem_of_getElem? (i := 27) rfl
theorem lf_1_158 : (1, 158, 1, 12, 0, 0) ∈ aj_lfs := List.mem_of_getElem? (i := 28) rfl
theorem lf_1_161 : (1, 161, 1, 15, 0, 0) ∈ aj_lfs := List.mem_of_getElem? (i := 29) rfl
theorem lf_1_167 : (1, 167, 1, 13, 0, 0) ∈ aj_lfs := List.mem_of_getElem? (i := 30) rfl
theorem lf_1_170 : (1, 170, 1, 14, 0, 0) ∈ aj_lfs := List.mem_of_getElem? (i := 31) rfl
theorem lf_2_9 : (2, 9, 2, 0, 4, 1) ∈ aj_lfs := List.mem_of_getElem? (i := 32) rfl
theorem lf_2_15 : (2, 15, 2, 1, 0, 0) ∈ aj_lfs := List.mem_of_getElem? (i := 33) rfl
theorem lf_3_9 : (3, 9, 3, 0, 0, 0) ∈ aj_lfs := List.mem_of_getElem? (i := 34) rfl
theorem lf_3_15 : (3, 15, 3, 1, 0, 0) ∈ aj_lfs := List.mem_of_getElem? (i := 35) rfl
theorem lf_4_11 : (4, 11, 4, 2, 4, 1) ∈ aj_lfs := List.mem_of_getElem? (i := 36) rfl
theorem lf_4_17 : (4, 17, 4, 3, 4, 1) ∈ aj_lfs := List.mem_of_getElem? (i := 37) rfl
theorem lf_4_21 : (4, 21, 4, 4, 4, 1) ∈ aj_lfs := List.mem_of_getElem? (i := 38) rfl
theorem lf_4_24 : (4, 24, 4, 5, 0, 0) ∈ aj_lfs := List.mem_of_getElem? (i := 39) rfl
theorem lf_4_28 : (4, 28, 4, 6, 3, 0) ∈ aj_lfs := List.mem_of_getElem? (i := 40) rfl
theorem lf_4_32 : (4, 32, 4, 7, 3, 0) ∈ aj_lfs := List.mem_of_getElem? (i := 41) rfl
theorem lf_4_35 : (4, 35, 4, 8, 0, 0) ∈ aj_lfs := List.mem_of_getElem? (i := 42) rfl
theorem lf_4_38 : (4, 38, 4, 9, 0, 0) ∈ aj_lfs := List.mem_of_getElem? (i := 43) rfl
theorem lf_4_41 : (4, 41, 4, 10, 0, 0) ∈ aj_lfs := List.mem_of_getElem? (i := 44) rfl
theorem lf_4_44 : (4, 44, 4, 12, 0, 0) ∈ aj_lfs := List.mem_of_getElem? (i := 45) rfl
theorem lf_4_47 : (4, 47, 4, 13, 0, 0) ∈ aj_lfs := List.mem_of_getElem? (i := 46) rfl
theorem lf_4_50 : (4, 50, 4, 14, 0, 0) ∈ aj_lfs := List.mem_of_getElem? (i := 47) rfl
theorem lf_4_53 : (4, 53, 4, 15, 0, 0) ∈ aj_lfs := List.mem_of_getElem? (i := 48) rfl
theorem lf_4_56 : (4, 56, 4, 0, 4, 1) ∈ aj_lfs := List.mem_of_getElem? (i := 49) rfl
theorem lf_4_60 : (4, 60, 4, 1, 4, 1) ∈ aj_lfs := List.mem_of_getElem? (i := 50) rfl
theorem lf_4_67 : (4, 67, 4, 11, 4, 0) ∈ aj_lfs := List.mem_of_getElem? (i := 51) rfl
theorem lf_5_9 : (5, 9, 5, 0, 4, 1) ∈ aj_lfs := List.mem_of_getElem? (i := 52) rfl
theorem lf_5_18 : (5, 18, 5, 1, 4, 1) ∈ aj_lfs := List.mem_of_getElem? (i := 53) rfl
theorem lf_5_27 : (5, 27, 5, 2, 4, 1) ∈ aj_lfs := List.mem_of_getElem? (i := 54) rfl
theorem lf_5_31 : (5, 31, 3, 1, 0, 2) ∈ aj_lfs := List.mem_of_getElem? (i := 55) rfl
theorem lf_5_55 : (5, 55, 3, 0, 0, 2) ∈ aj_lfs := List.mem_of_getElem? (i := 56) rfl
theorem lf_5_58 : (5, 58, 4, 10, 0, 2) ∈ aj_lfs := List.mem_of_getElem? (i := 57) rfl
theorem lf_5_61 : (5, 61, 4, 2, 4, 2) ∈ aj_lfs := List.mem_of_getElem? (i := 58) rfl
theorem lf_5_65 : (5, 65, 9, 0, 4, 2) ∈ aj_lfs := List.mem_of_getElem? (i := 59) rfl
theorem lf_5_77 : (5, 77, 7, 1, 0, 2) ∈ aj_lfs := List.mem_of_getElem? (i := 60) rfl
theorem lf_5_85 : (5, 85, 9, 5, 0, 2) ∈ aj_lfs := List.mem_of_getElem? (i := 61) rfl
theorem lf_5_91 : (5, 91, 4, 8, 0, 2) ∈ aj_lfs := List.mem_of_getElem? (i := 62) rfl
theorem lf_5_94 : (5, 94, 4, 9, 0, 2) ∈ aj_lfs := List.mem_of_getElem? (i := 63) rfl
theorem lf_5_116 : (5, 116, 9, 4, 0, 2) ∈ aj_lfs := List.mem_of_getElem? (i := 64) rfl
theorem lf_5_119 : (5, 119, 9, 2, 4, 2) ∈ aj_lfs := List.mem_of_getElem? (i := 65) rfl
theorem lf_5_123 : (5, 123, 9, 1, 4, 2) ∈ aj_lfs := List.mem_of_getElem? (i := 66) rfl
theorem lf_5_126 : (5, 126, 9, 3, 4, 2) ∈ aj_lfs := List.mem_of_getElem? (i := 67) rfl
theorem lf_6_11 : (6, 11, 6, 0, 4, 1) ∈ aj_lfs := List.mem_of_getElem? (i := 68) rfl
theorem lf_6_17 : (6, 17, 6, 1, 0, 0) ∈ aj_lfs := List.mem_of_getElem? (i := 69) rfl
theorem lf_7_9 : (7, 9, 7, 1, 0, 0) ∈ aj_lfs := List.mem_of_getElem? (i := 70) rfl
theorem lf_7_15 : (7, 15, 7, 2, 0, 0) ∈ aj_lfs := List.mem_of_getElem? (i := 71) rfl
theorem lf_7_18 : (7, 18, 7, 3, 0, 0) ∈ aj_lfs := List.mem_of_getElem? (i := 72) rfl
theorem lf_7_21 : (7, 21, 7, 4, 0, 0) ∈ aj_lfs := List.mem_of_getElem? (i := 73) rfl
theorem lf_7_24 : (7, 24, 7, 5, 0, 0) ∈ aj_lfs := List.mem_of_getElem? (i := 74) rfl
theorem lf_7_27 : (7, 27, 7, 6, 0, 0) ∈ aj_lfs := List.mem_of_getElem? (i := 75) rfl
theorem lf_7_30 : (7, 30, 7, 0, 4, 1) ∈ aj_lfs := List.mem_of_getElem? (i := 76) rfl
theorem lf_8_9 : (8, 9, 8, 0, 4, 1) ∈ aj_lfs := List.mem_of_getElem? (i := 77) rfl
theorem lf_8_15 : (8, 15, 8, 1, 4, 1) ∈ aj_lfs := List.mem_of_getElem? (i := 78) rfl
theorem lf_8_18 : (8, 18, 8, 2, 4, 1) ∈ aj_lfs := List.mem_of_getElem? (i := 79) rfl
theorem lf_8_22 : (8, 22, 8, 3, 0, 0) ∈ aj_lfs := List.mem_of_getElem? (i := 80) rfl
theorem lf_9_11 : (9, 11, 9, 0, 4, 1) ∈ aj_lfs := List.mem_of_getElem? (i := 81) rfl
theorem lf_9_17 : (9, 17, 9, 1, 4, 1) ∈ aj_lfs := List.mem_of_getElem? (i := 82) rfl
theorem lf_9_21 : (9, 21, 9, 2, 4, 1) ∈ aj_lfs := List.mem_of_getElem? (i := 83) rfl
theorem lf_9_24 : (9, 24, 9, 3, 4, 1) ∈ aj_lfs := List.mem_of_getElem? (i := 84) rfl
theorem lf_9_28 : (9, 28, 9, 4, 0, 0) ∈ aj_lfs := List.mem_of_getElem? (i := 85) rfl
theorem lf_9_32 : (9, 32, 9, 5, 0, 0) ∈ aj_lfs := List.mem_of_getElem? (i := 86) rfl
theorem lf_10_9 : (10, 9, 10, 2, 4, 1) ∈ aj_lfs := List.mem_of_getElem? (i := 87) rfl
theorem lf_10_15 : (10, 15, 10, 3, 0, 0) ∈ aj_lfs := List.mem_of_getElem? (i := 88) rfl
theorem lf_10_19 : (10, 19, 10, 4, 3, 0) ∈ aj_lfs := List.mem_of_getElem? (i := 89) rfl
theorem lf_10_23 : (10, 23, 10, 5, 3, 0) ∈ aj_lfs := List.mem_of_getElem? (i := 90) rfl
theorem lf_10_26 : (10, 26, 10, 0, 4, 1) ∈ aj_lfs := List.mem_of_getElem? (i := 91) rfl
theorem lf_10_30 : (10, 30, 10, 1, 4, 1) ∈ aj_lfs := List.mem_of_getElem? (i := 92) rfl
def aj_lms : List (Nat × Nat × Nat × Nat × Nat × Nat × Nat) := [(0, 9, 110, 2, 6, 0, 0), (0, 18, 80, 2, 2, 0, 1), (0, 25, 102, 2, 5, 1, 0), (0, 34, 154, 2, 10, 2, 0), (0, 41, 113, 0, 6, 0, 0), (0, 45, 112, 0, 6, 1, 0), (0, 49, 132, 0, 8, 3, 0), (0, 55, 114, 0, 6, 0, 0), (0, 58, 155, 0, 10, 2, 0), (0, 62, 104, 0, 5, 1, 0), (0, 66, 103, 0, 5, 0, 0), (0, 69, 111, 0, 6, 0, 0), (0, 72, 130, 0, 8, 0, 0), (0, 75, 133, 0, 8, 1, 0), (0, 81, 136, 0, 8, 1, 0), (0, 85, 135, 0, 8, 1, 0), (0, 88, 81, 0, 2, 0, 0), (0, 91, 82, 0, 2, 1, 0), (0, 94, 83, 0, 2, 2, 0), (0, 98, 85, 0, 2, 2, 0), (0, 102, 84, 0, 2, 1, 0), (1, 67, 21, 0, 1, 1, 0), (1, 76, 25, 0, 1, 2, 0), (1, 80, 27, 0, 1, 2, 0), (1, 84, 28, 0, 1, 3, 0), (1, 88, 29, 0, 1, 1, 0), (1, 92, 30, 0, 1, 2, 0), (1, 95, 32, 0, 1, 3, 0), (1, 99, 26, 0, 1, 2, 0), (1, 107, 33, 0, 1, 3, 0), (1, 110, 31, 0, 1, 3, 0), (1, 114, 38, 0, 1, 0, 0), (1, 121, 34, 0, 1, 1, 0), (1, 125, 35, 0, 1, 2, 0), (1, 128, 36, 0, 1, 1, 0), (1, 131, 37, 0, 1, 4, 0), (1, 136, 39, 0, 1, 1, 0), (1, 139, 41, 0, 1, 2, 0), (1, 164, 43, 1, 1, 1, 0), (1, 173, 47, 0, 1, 0, 0), (1, 177, 48, 0, 1, 2, 0), (1, 180, 42, 0, 1, 2, 0), (1, 184, 44, 0, 1, 0, 0), (1, 187, 46, 0, 1, 1, 0), (1, 190, 45, 0, 1, 0, 0), (1, 193, 51, 0, 1, 1, 0), (1, 196, 52, 0, 1, 2, 0), (1, 199, 53, 0, 1, 2, 0), (1, 202, 50, 0, 1, 2, 0), (1, 207, 55, 0, 1, 4, 0), (1, 211, 56, 1, 1, 1, 0), (1, 215, 57, 0, 1, 3, 0), (1, 219, 54, 0, 1, 2, 0), (1, 222, 58, 0, 1, 2, 0), (1, 227, 61, 0, 1, 2, 0), (1, 232, 60, 0, 1, 2, 0), (1, 235, 62, 0, 1, 1, 0), (1, 238, 63, 0, 1, 1, 0), (1, 241, 64, 0, 1, 1, 0), (1, 244, 49, 0, 1, 0, 0), (1, 247, 59, 0, 1, 0, 0), (1, 250, 65, 0, 1, 0, 0), (1, 253, 66, 0, 1, 0, 0), (1, 256, 22, 0, 1, 2, 0), (1, 261, 75, 0, 1, 1, 0), (4, 64, 138, 2, 9, 1, 0), (4, 71, 93, 0, 4, 0, 0), (4, 74, 94, 0, 4, 0, 0), (4, 78, 100, 0, 4, 0, 0), (4, 81, 101, 0, 4, 0, 0), (4, 84, 90, 0, 3, 2, 0), (4, 90, 81, 0, 2, 0, 0), (4, 96, 95, 0, 4, 1, 0), (4, 100, 96, 0, 4, 0, 0), (4, 103, 86, 0, 2, 2, 0), (4, 107, 97, 0, 4, 0, 0), (4, 111, 99, 0, 4, 0, 0), (4, 115, 141, 0, 9, 1, 0), (4, 118, 98, 0, 4, 0, 0), (4, 123, 142, 0, 9, 1, 0), (4, 127, 117, 0, 7, 0, 0), (4, 132, 118, 0, 7, 4, 0), (4, 136, 139, 0, 9, 0, 0), (4, 142, 140, 0, 9, 0, 0), (4, 145, 143, 0, 9, 0, 0), (5, 17, 88, 2, 3, 0, 1), (5, 24, 91, 2, 4, 2, 0), (5, 35, 89, 0, 3, 0, 0), (5, 38, 92, 0, 4, 0, 0), (5, 42, 105, 0, 5, 0, 0), (5, 45, 106, 0, 5, 0, 0), (5, 48, 107, 0, 5, 0, 0), (5, 51, 108, 0, 5, 1, 0), (5, 71, 124, 0, 7, 0, 0), (5, 80, 90, 0, 3, 2, 0), (5, 84, 144, 0, 9, 0, 0), (5, 88, 150, 0, 9, 0, 0), (5, 97, 153, 0, 9, 2, 0), (5, 100, 114, 0, 6, 0, 0), (5, 105, 113, 0, 6, 0, 0), (5, 108, 112, 0, 6, 1, 0), (5, 112, 109, 0, 5, 2, 0), (5, 130, 87, 0, 2, 2, 0), (5, 136, 132, 0, 8, 3, 0), (6, 21, 129, 2, 8, 0, 1), (6, 22, 131, 0, 8, 0, 0), (7, 35, 119, 1, 7, 1, 0), (7, 39, 86, 0, 2, 2, 0), (7, 45, 121, 0, 7, 0, 0), (7, 49, 120, 0, 7, 0, 0), (7, 59, 125, 0, 7, 0, 0), (7, 63, 126, 0, 7, 0, 0), (7, 66, 122, 0, 7, 0, 0), (7, 70, 127, 0, 7, 1, 0), (7, 74, 17, 1, 0, 1, 1), (7, 78, 123, 0, 7, 2, 0), (7, 81, 128, 1, 7, 1, 0), (8, 26, 137, 1, 8, 2, 0), (9, 35, 115, 2, 7, 1, 0), (9, 38, 116, 0, 7, 0, 0), (9, 41, 18, 1, 0, 1, 1), (9, 45, 117, 0, 7, 0, 0), (9, 49, 120, 0, 7, 0, 0), (9, 55, 145, 0, 9, 0, 0), (9, 58, 147, 0, 9, 1, 0), (9, 62, 148, 0, 9, 1, 0), (9, 65, 149, 0, 9, 1, 0), (9, 69, 122, 0, 7, 0, 0), (9, 73, 123, 0, 7, 2, 0), (9, 77, 121, 0, 7, 0, 0), (9, 80, 146, 0, 9, 1, 0), (9, 91, 151, 0, 9, 0, 0), (9, 94, 152, 0, 9, 0, 0), (10, 40, 166, 0, 10, 0, 0), (10, 44, 167, 0, 10, 1, 0), (10, 48, 84, 0, 2, 1, 0), (10, 54, 172, 0, 10, 1, 0), (10, 58, 178, 0, 10, 1, 0), (10, 61, 81, 0, 2, 0, 0), (10, 64, 130, 0, 8, 0, 0), (10, 72, 134, 0, 8, 1, 0), (10, 75, 158, 0, 10, 2, 0), (10, 79, 163, 1, 10, 2, 0), (10, 82, 160, 0, 10, 1, 0), (10, 86, 161, 0, 10, 1, 0), (10, 89, 164, 1, 10, 1, 0), (10, 92, 156, 0, 10, 1, 0), (10, 95, 162, 0, 10, 0, 0), (10, 98, 112, 0, 6, 1, 0), (10, 104, 165, 0, 10, 1, 0), (10, 107, 168, 0, 10, 2, 0), (10, 111, 157, 0, 10, 2, 0), (10, 114, 133, 0, 8, 1, 0), (10, 117, 85, 0, 2, 2, 0), (10, 121, 169, 0, 10, 1, 0), (10, 125, 170, 0, 10, 2, 0), (10, 132, 173, 0, 10, 1, 0), (10, 136, 174, 0, 10, 1, 0), (10, 139, 176, 0, 10, 1, 0), (10, 142, 177, 0, 10, 2, 0), (10, 147, 171, 0, 10, 3, 0), (10, 151, 159, 0, 10, 2, 0), (10, 155, 175, 0, 10, 2, 0), (10, 162, 179, 0, 10, 2, 0), (10, 165, 135, 0, 8, 1, 0), (11, 9, 0, 2, 0, 0, 0), (11, 12, 19, 2, 1, 0, 0), (11, 13, 1, 0, 0, 0, 0), (11, 17, 20, 0, 1, 0, 0), (11, 20, 2, 0, 0, 4, 0), (11, 24, 23, 0, 1, 4, 0), (11, 25, 3, 0, 0, 0, 0), (11, 28, 24, 0, 1, 0, 0), (11, 29, 4, 0, 0, 2, 0), (11, 33, 40, 0, 1, 2, 0), (11, 34, 5, 0, 0, 0, 0), (11, 37, 67, 0, 1, 0, 0), (11, 38, 6, 0, 0, 0, 0), (11, 41, 68, 0, 1, 0, 0), (11, 42, 7, 0, 0, 0, 0), (11, 45, 69, 0, 1, 0, 0), (11, 46, 8, 0, 0, 1, 0), (11, 50, 70, 0, 1, 1, 0), (11, 51, 9, 0, 0, 2, 0), (11, 54, 71, 0, 1, 2, 0), (11, 55, 10, 0, 0, 2, 0), (11, 59, 72, 0, 1, 2, 0), (11, 60, 11, 0, 0, 2, 0), (11, 63, 73, 0, 1, 2, 0), (11, 64, 12, 0, 0, 0, 0), (11, 67, 74, 0, 1, 0, 0), (11, 68, 13, 0, 0, 1, 0), (11, 71, 76, 0, 1, 1, 0), (11, 72, 14, 0, 0, 2, 0), (11, 76, 77, 0, 1, 2, 0), (11, 77, 15, 0, 0, 2, 0), (11, 81, 78, 0, 1, 2, 0), (11, 82, 16, 0, 0, 1, 0), (11, 86, 79, 0, 1, 1, 0)]
theorem lm_0_9 : (0, 9, 110, 2, 6, 0, 0) ∈ aj_lms := List.mem_of_getElem? (i := 0) rfl
theorem lm_0_18 : (0, 18, 80, 2, 2, 0, 1) ∈ aj_lms := List.mem_of_getElem? (i := 1) rfl
theorem lm_0_25 : (0, 25, 102, 2, 5, 1, 0) ∈ aj_lms := List.mem_of_getElem? (i := 2) rfl
theorem lm_0_34 : (0, 34, 154, 2, 10, 2, 0) ∈ aj_lms := List.mem_of_getElem? (i := 3) rfl
theorem lm_0_41 : (0, 41, 113, 0, 6, 0, 0) ∈ aj_lms := List.mem_of_getElem? (i := 4) rfl
theorem lm_0_45 : (0, 45, 112, 0, 6, 1, 0) ∈ aj_lms := List.mem_of_getElem? (i := 5) rfl
theorem lm_0_49 : (0, 49, 132, 0, 8, 3, 0) ∈ aj_lms := List.mem_of_getElem? (i := 6) rfl
theorem lm_0_55 : (0, 55, 114, 0, 6, 0, 0) ∈ aj_lms := List.mem_of_getElem? (i := 7) rfl
theorem lm_0_58 : (0, 58, 155, 0, 10, 2, 0) ∈ aj_lms := List.mem_of_getElem? (i := 8) rfl
theorem lm_0_62 : (0, 62, 104, 0, 5, 1, 0) ∈ aj_lms := List.mem_of_getElem? (i := 9) rfl
theorem lm_0_66 : (0, 66, 103, 0, 5, 0, 0) ∈ aj_lms := List.mem_of_getElem? (i := 10) rfl
theorem lm_0_69 : (0, 69, 111, 0, 6, 0, 0) ∈ aj_lms := List.mem_of_getElem? (i := 11) rfl
theorem lm_0_72 : (0, 72, 130, 0, 8, 0, 0) ∈ aj_lms := List.mem_of_getElem? (i := 12) rfl
theorem lm_0_75 : (0, 75, 133, 0, 8, 1, 0) ∈ aj_lms := List.mem_of_getElem? (i := 13) rfl
theorem lm_0_81 : (0, 81, 136, 0, 8, 1, 0) ∈ aj_lms := List.mem_of_getElem? (i := 14) rfl
theorem lm_0_85 : (0, 85, 135, 0, 8, 1, 0) ∈ aj_lms := List.mem_of_getElem? (i := 15) rfl
theorem lm_0_88 : (0, 88, 81, 0, 2, 0, 0) ∈ aj_lms := List.mem_of_getElem? (i := 16) rfl
theorem lm_0_91 : (0, 91, 82, 0, 2, 1, 0) ∈ aj_lms := List.mem_of_getElem? (i := 17) rfl
theorem lm_0_94 : (0, 94, 83, 0, 2, 2, 0) ∈ aj_lms := List.mem_of_getElem? (i := 18) rfl
theorem lm_0_98 : (0, 98, 85, 0, 2, 2, 0) ∈ aj_lms := List.mem_of_getElem? (i := 19) rfl
theorem lm_0_102 : (0, 102, 84, 0, 2, 1, 0) ∈ aj_lms := List.mem_of_getElem? (i := 20) rfl
theorem lm_1_67 : (1, 67, 21, 0, 1, 1, 0) ∈ aj_lms := List.mem_of_getElem? (i := 21) rfl
theorem lm_1_76 : (1, 76, 25, 0, 1, 2, 0) ∈ aj_lms := List.mem_of_getElem? (i := 22) rfl
theorem lm_1_80 : (1, 80, 27, 0, 1, 2, 0) ∈ aj_lms := List.mem_of_getElem? (i := 23) rfl
theorem lm_1_84 : (1, 84, 28, 0, 1, 3, 0) ∈ aj_lms := List.mem_of_getElem? (i := 24) rfl
theorem lm_1_88 : (1, 88, 29, 0, 1, 1, 0) ∈ aj_lms := List.mem_of_getElem? (i := 25) rfl
theorem lm_1_92 : (1, 92, 30, 0, 1, 2, 0) ∈ aj_lms := List.mem_of_getElem? (i := 26) rfl
theorem lm_1_95 : (1, 95, 32, 0, 1, 3, 0) ∈ aj_lms := List.mem_of_getElem? (i := 27) rfl
theorem lm_1_99 : (1, 99, 26, 0, 1, 2, 0) ∈ aj_lms := List.mem_of_getElem? (i := 28) rfl
theorem lm_1_107 : (1, 107, 33, 0, 1, 3, 0) ∈ aj_lms := List.mem_of_getElem? (i := 29) rfl
theorem lm_1_110 : (1, 110, 31, 0, 1, 3, 0) ∈ aj_lms := List.mem_of_getElem? (i := 30) rfl
theorem lm_1_114 : (1, 114, 38, 0, 1, 0, 0) ∈ aj_lms := List.mem_of_getElem? (i := 31) rfl
theorem lm_1_121 : (1, 121, 34, 0, 1, 1, 0) ∈ aj_lms := List.mem_of_getElem? (i := 32) rfl
theorem lm_1_125 : (1, 125, 35, 0, 1, 2, 0) ∈ aj_lms := List.mem_of_getElem? (i := 33) rfl
theorem lm_1_128 : (1, 128, 36, 0, 1, 1, 0) ∈ aj_lms := List.mem_of_getElem? (i := 34) rfl
theorem lm_1_131 : (1, 131, 37, 0, 1, 4, 0) ∈ aj_lms := List.mem_of_getElem? (i := 35) rfl
theorem lm_1_136 : (1, 136, 39, 0, 1, 1, 0) ∈ aj_lms := List.mem_of_getElem? (i := 36) rfl
theorem lm_1_139 : (1, 139, 41, 0, 1, 2, 0) ∈ aj_lms := List.mem_of_getElem? (i := 37) rfl
theorem lm_1_164 : (1, 164, 43, 1, 1, 1, 0) ∈ aj_lms := List.mem_of_getElem? (i := 38) rfl
theorem lm_1_173 : (1, 173, 47, 0, 1, 0, 0) ∈ aj_lms := List.mem_of_getElem? (i := 39) rfl
theorem lm_1_177 : (1, 177, 48, 0, 1, 2, 0) ∈ aj_lms := List.mem_of_getElem? (i := 40) rfl
theorem lm_1_180 : (1, 180, 42, 0, 1, 2, 0) ∈ aj_lms := List.mem_of_getElem? (i := 41) rfl
theorem lm_1_184 : (1, 184, 44, 0, 1, 0, 0) ∈ aj_lms := List.mem_of_getElem? (i := 42) rfl
theorem lm_1_187 : (1, 187, 46, 0, 1, 1, 0) ∈ aj_lms := List.mem_of_getElem? (i := 43) rfl
theorem lm_1_190 : (1, 190, 45, 0, 1, 0, 0) ∈ aj_lms := List.mem_of_getElem? (i := 44) rfl
theorem lm_1_193 : (1, 193, 51, 0, 1, 1, 0) ∈ aj_lms := List.mem_of_getElem? (i := 45) rfl
theorem lm_1_196 : (1, 196, 52, 0, 1, 2, 0) ∈ aj_lms := List.mem_of_getElem? (i := 46) rfl
theorem lm_1_199 : (1, 199, 53, 0, 1, 2, 0) ∈ aj_lms := List.mem_of_getElem? (i := 47) rfl
theorem lm_1_202 : (1, 202, 50, 0, 1, 2, 0) ∈ aj_lms := List.mem_of_getElem? (i := 48) rfl
theorem lm_1_207 : (1, 207, 55, 0, 1, 4, 0) ∈ aj_lms := List.mem_of_getElem? (i := 49) rfl
theorem lm_1_211 : (1, 211, 56, 1, 1, 1, 0) ∈ aj_lms := List.mem_of_getElem? (i := 50) rfl
theorem lm_1_215 : (1, 215, 57, 0, 1, 3, 0) ∈ aj_lms := List.mem_of_getElem? (i := 51) rfl
theorem lm_1_219 : (1, 219, 54, 0, 1, 2, 0) ∈ aj_lms := List.mem_of_getElem? (i := 52) rfl
theorem lm_1_222 : (1, 222, 58, 0, 1, 2, 0) ∈ aj_lms := List.mem_of_getElem? (i := 53) rfl
theorem lm_1_227 : (1, 227, 61, 0, 1, 2, 0) ∈ aj_lms := List.mem_of_getElem? (i := 54) rfl
theorem lm_1_232 : (1, 232, 60, 0, 1, 2, 0) ∈ aj_lms := List.mem_of_getElem? (i := 55) rfl
theorem lm_1_235 : (1, 235, 62, 0, 1, 1, 0) ∈ aj_lms := List.mem_of_getElem? (i := 56) rfl
theorem lm_1_238 : (1, 238, 63, 0, 1, 1, 0) ∈ aj_lms := List.mem_of_getElem? (i := 57) rfl
theorem lm_1_241 : (1, 241, 64, 0, 1, 1, 0) ∈ aj_lms := List.mem_of_getElem? (i := 58) rfl
theorem lm_1_244 : (1, 244, 49, 0, 1, 0, 0) ∈ aj_lms := List.mem_of_getElem? (i := 59) rfl
theorem lm_1_247 : (1, 247, 59, 0, 1, 0, 0) ∈ aj_lms := List.mem_of_getElem? (i := 60) rfl
theorem lm_1_250 : (1, 250, 65, 0, 1, 0, 0) ∈ aj_lms := List.mem_of_getElem? (i := 61) rfl
theorem lm_1_253 : (1, 253, 66, 0, 1, 0, 0) ∈ aj_lms := List.mem_of_getElem? (i := 62) rfl
theorem lm_1_256 : (1, 256, 22, 0, 1, 2, 0) ∈ aj_lms := List.mem_of_getElem? (i := 63) rfl
theorem lm_1_261 : (1, 261, 75, 0, 1, 1, 0) ∈ aj_lms := List.mem_of_getElem? (i := 64) rfl
theorem lm_4_64 : (4, 64, 138, 2, 9, 1, 0) ∈ aj_lms := List.mem_of_getElem? (i := 65) rfl
theorem lm_4_71 : (4, 71, 93, 0, 4, 0, 0) ∈ aj_lms := List.mem_of_getElem? (i := 66) rfl
theorem lm_4_74 : (4, 74, 94, 0, 4, 0, 0) ∈ aj_lms := List.mem_of_getElem? (i := 67) rfl
theorem lm_4_78 : (4, 78, 100, 0, 4, 0, 0) ∈ aj_lms := List.mem_of_getElem? (i := 68) rfl
theorem lm_4_81 : (4, 81, 101, 0, 4, 0, 0) ∈ aj_lms := List.mem_of_getElem? (i := 69) rfl
theorem lm_4_84 : (4, 84, 90, 0, 3, 2, 0) ∈ aj_lms := List.mem_of_getElem? (i := 70) rfl
theorem lm_4_90 : (4, 90, 81, 0, 2, 0, 0) ∈ aj_lms := List.mem_of_getElem? (i := 71) rfl
theorem lm_4_96 : (4, 96, 95, 0, 4, 1, 0) ∈ aj_lms := List.mem_of_getElem? (i := 72) rfl
theorem lm_4_100 : (4, 100, 96, 0, 4, 0, 0) ∈ aj_lms := List.mem_of_getElem? (i := 73) rfl
theorem lm_4_103 : (4, 103, 86, 0, 2, 2, 0) ∈ aj_lms := List.mem_of_getElem? (i := 74) rfl
theorem lm_4_107 : (4, 107, 97, 0, 4, 0, 0) ∈ aj_lms := List.mem_of_getElem? (i := 75) rfl
theorem lm_4_111 : (4, 111, 99, 0, 4, 0, 0) ∈ aj_lms := List.mem_of_getElem? (i := 76) rfl
theorem lm_4_115 : (4, 115, 141, 0, 9, 1, 0) ∈ aj_lms := List.mem_of_getElem? (i := 77) rfl
theorem lm_4_118 : (4, 118, 98, 0, 4, 0, 0) ∈ aj_lms := List.mem_of_getElem? (i := 78) rfl
theorem lm_4_123 : (4, 123, 142, 0, 9, 1, 0) ∈ aj_lms := List.mem_of_getElem? (i := 79) rfl
theorem lm_4_127 : (4, 127, 117, 0, 7, 0, 0) ∈ aj_lms := List.mem_of_getElem? (i := 80) rfl
theorem lm_4_132 : (4, 132, 118, 0, 7, 4, 0) ∈ aj_lms := List.mem_of_getElem? (i := 81) rfl
theorem lm_4_136 : (4, 136, 139, 0, 9, 0, 0) ∈ aj_lms := List.mem_of_getElem? (i := 82) rfl
theorem lm_4_142 : (4, 142, 140, 0, 9, 0, 0) ∈ aj_lms := List.mem_of_getElem? (i := 83) rfl
theorem lm_4_145 : (4, 145, 143, 0, 9, 0, 0) ∈ aj_lms := List.mem_of_getElem? (i := 84) rfl
theorem lm_5_17 : (5, 17, 88, 2, 3, 0, 1) ∈ aj_lms := List.mem_of_getElem? (i := 85) rfl
theorem lm_5_24 : (5, 24, 91, 2, 4, 2, 0) ∈ aj_lms := List.mem_of_getElem? (i := 86) rfl
theorem lm_5_35 : (5, 35, 89, 0, 3, 0, 0) ∈ aj_lms := List.mem_of_getElem? (i := 87) rfl
theorem lm_5_38 : (5, 38, 92, 0, 4, 0, 0) ∈ aj_lms := List.mem_of_getElem? (i := 88) rfl
theorem lm_5_42 : (5, 42, 105, 0, 5, 0, 0) ∈ aj_lms := List.mem_of_getElem? (i := 89) rfl
theorem lm_5_45 : (5, 45, 106, 0, 5, 0, 0) ∈ aj_lms := List.mem_of_getElem? (i := 90) rfl
theorem lm_5_48 : (5, 48, 107, 0, 5, 0, 0) ∈ aj_lms := List.mem_of_getElem? (i := 91) rfl
theorem lm_5_51 : (5, 51, 108, 0, 5, 1, 0) ∈ aj_lms := List.mem_of_getElem? (i := 92) rfl
theorem lm_5_71 : (5, 71, 124, 0, 7, 0, 0) ∈ aj_lms := List.mem_of_getElem? (i := 93) rfl
theorem lm_5_80 : (5, 80, 90, 0, 3, 2, 0) ∈ aj_lms := List.mem_of_getElem? (i := 94) rfl
theorem lm_5_84 : (5, 84, 144, 0, 9, 0, 0) ∈ aj_lms := List.mem_of_getElem? (i := 95) rfl
theorem lm_5_88 : (5, 88, 150, 0, 9, 0, 0) ∈ aj_lms := List.mem_of_getElem? (i := 96) rfl
theorem lm_5_97 : (5, 97, 153, 0, 9, 2, 0) ∈ aj_lms := List.mem_of_getElem? (i := 97) rfl
theorem lm_5_100 : (5, 100, 114, 0, 6, 0, 0) ∈ aj_lms := List.mem_of_getElem? (i := 98) rfl
theorem lm_5_105 : (5, 105, 113, 0, 6, 0, 0) ∈ aj_lms := List.mem_of_getElem? (i := 99) rfl
theorem lm_5_108 : (5, 108, 112, 0, 6, 1, 0) ∈ aj_lms := List.mem_of_getElem? (i := 100) rfl
theorem lm_5_112 : (5, 112, 109, 0, 5, 2, 0) ∈ aj_lms := List.mem_of_getElem? (i := 101) rfl
theorem lm_5_130 : (5, 130, 87, 0, 2, 2, 0) ∈ aj_lms := List.mem_of_getElem? (i := 102) rfl
theorem lm_5_136 : (5, 136, 132, 0, 8, 3, 0) ∈ aj_lms := List.mem_of_getElem? (i := 103) rfl
theorem lm_6_21 : (6, 21, 129, 2, 8, 0, 1) ∈ aj_lms := List.mem_of_getElem? (i := 104) rfl
theorem lm_6_22 : (6, 22, 131, 0, 8, 0, 0) ∈ aj_lms := List.mem_of_getElem? (i := 105) rfl
theorem lm_7_35 : (7, 35, 119, 1, 7, 1, 0) ∈ aj_lms := List.mem_of_getElem? (i := 106) rfl
theorem lm_7_39 : (7, 39, 86, 0, 2, 2, 0) ∈ aj_lms := List.mem_of_getElem? (i := 107) rfl
theorem lm_7_45 : (7, 45, 121, 0, 7, 0, 0) ∈ aj_lms := List.mem_of_getElem? (i := 108) rfl
theorem lm_7_49 : (7, 49, 120, 0, 7, 0, 0) ∈ aj_lms := List.mem_of_getElem? (i := 109) rfl
theorem lm_7_59 : (7, 59, 125, 0, 7, 0, 0) ∈ aj_lms := List.mem_of_getElem? (i := 110) rfl
theorem lm_7_63 : (7, 63, 126, 0, 7, 0, 0) ∈ aj_lms := List.mem_of_getElem? (i := 111) rfl
theorem lm_7_66 : (7, 66, 122, 0, 7, 0, 0) ∈ aj_lms := List.mem_of_getElem? (i := 112) rfl
theorem lm_7_70 : (7, 70, 127, 0, 7, 1, 0) ∈ aj_lms := List.mem_of_getElem? (i := 113) rfl
theorem lm_7_74 : (7, 74, 17, 1, 0, 1, 1) ∈ aj_lms := List.mem_of_getElem? (i := 114) rfl
theorem lm_7_78 : (7, 78, 123, 0, 7, 2, 0) ∈ aj_lms := List.mem_of_getElem? (i := 115) rfl
theorem lm_7_81 : (7, 81, 128, 1, 7, 1, 0) ∈ aj_lms := List.mem_of_getElem? (i := 116) rfl
theorem lm_8_26 : (8, 26, 137, 1, 8, 2, 0) ∈ aj_lms := List.mem_of_getElem? (i := 117) rfl
theorem lm_9_35 : (9, 35, 115, 2, 7, 1, 0) ∈ aj_lms := List.mem_of_getElem? (i := 118) rfl
theorem lm_9_38 : (9, 38, 116, 0, 7, 0, 0) ∈ aj_lms := List.mem_of_getElem? (i := 119) rfl
theorem lm_9_41 : (9, 41, 18, 1, 0, 1, 1) ∈ aj_lms := List.mem_of_getElem? (i := 120) rfl
theorem lm_9_45 : (9, 45, 117, 0, 7, 0, 0) ∈ aj_lms := List.mem_of_getElem? (i := 121) rfl
theorem lm_9_49 : (9, 49, 120, 0, 7, 0, 0) ∈ aj_lms := List.mem_of_getElem? (i := 122) rfl
theorem lm_9_55 : (9, 55, 145, 0, 9, 0, 0) ∈ aj_lms := List.mem_of_getElem? (i := 123) rfl
theorem lm_9_58 : (9, 58, 147, 0, 9, 1, 0) ∈ aj_lms := List.mem_of_getElem? (i := 124) rfl
theorem lm_9_62 : (9, 62, 148, 0, 9, 1, 0) ∈ aj_lms := List.mem_of_getElem? (i := 125) rfl
theorem lm_9_65 : (9, 65, 149, 0, 9, 1, 0) ∈ aj_lms := List.mem_of_getElem? (i := 126) rfl
theorem lm_9_69 : (9, 69, 122, 0, 7, 0, 0) ∈ aj_lms := List.mem_of_getElem? (i := 127) rfl
theorem lm_9_73 : (9, 73, 123, 0, 7, 2, 0) ∈ aj_lms := List.mem_of_getElem? (i := 128) rfl
theorem lm_9_77 : (9, 77, 121, 0, 7, 0, 0) ∈ aj_lms := List.mem_of_getElem? (i := 129) rfl
theorem lm_9_80 : (9, 80, 146, 0, 9, 1, 0) ∈ aj_lms := List.mem_of_getElem? (i := 130) rfl
theorem lm_9_91 : (9, 91, 151, 0, 9, 0, 0) ∈ aj_lms := List.mem_of_getElem? (i := 131) rfl
theorem lm_9_94 : (9, 94, 152, 0, 9, 0, 0) ∈ aj_lms := List.mem_of_getElem? (i := 132) rfl
theorem lm_10_40 : (10, 40, 166, 0, 10, 0, 0) ∈ aj_lms := List.mem_of_getElem? (i := 133) rfl
theorem lm_10_44 : (10, 44, 167, 0, 10, 1, 0) ∈ aj_lms := List.mem_of_getElem? (i := 134) rfl
theorem lm_10_48 : (10, 48, 84, 0, 2, 1, 0) ∈ aj_lms := List.mem_of_getElem? (i := 135) rfl
theorem lm_10_54 : (10, 54, 172, 0, 10, 1, 0) ∈ aj_lms := List.mem_of_getElem? (i := 136) rfl
theorem lm_10_58 : (10, 58, 178, 0, 10, 1, 0) ∈ aj_lms := List.mem_of_getElem? (i := 137) rfl
theorem lm_10_61 : (10, 61, 81, 0, 2, 0, 0) ∈ aj_lms := List.mem_of_getElem? (i := 138) rfl
theorem lm_10_64 : (10, 64, 130, 0, 8, 0, 0) ∈ aj_lms := List.mem_of_getElem? (i := 139) rfl
theorem lm_10_72 : (10, 72, 134, 0, 8, 1, 0) ∈ aj_lms := List.mem_of_getElem? (i := 140) rfl
theorem lm_10_75 : (10, 75, 158, 0, 10, 2, 0) ∈ aj_lms := List.mem_of_getElem? (i := 141) rfl
theorem lm_10_79 : (10, 79, 163, 1, 10, 2, 0) ∈ aj_lms := List.mem_of_getElem? (i := 142) rfl
theorem lm_10_82 : (10, 82, 160, 0, 10, 1, 0) ∈ aj_lms := List.mem_of_getElem? (i := 143) rfl
theorem lm_10_86 : (10, 86, 161, 0, 10, 1, 0) ∈ aj_lms := List.mem_of_getElem? (i := 144) rfl
theorem lm_10_89 : (10, 89, 164, 1, 10, 1, 0) ∈ aj_lms := List.mem_of_getElem? (i := 145) rfl
theorem lm_10_92 : (10, 92, 156, 0, 10, 1, 0) ∈ aj_lms := List.mem_of_getElem? (i := 146) rfl
theorem lm_10_95 : (10, 95, 162, 0, 10, 0, 0) ∈ aj_lms := List.mem_of_getElem? (i := 147) rfl
theorem lm_10_98 : (10, 98, 112, 0, 6, 1, 0) ∈ aj_lms := List.mem_of_getElem? (i := 148) rfl
theorem lm_10_104 : (10, 104, 165, 0, 10, 1, 0) ∈ aj_lms := List.mem_of_getElem? (i := 149) rfl
theorem lm_10_107 : (10, 107, 168, 0, 10, 2, 0) ∈ aj_lms := List.mem_of_getElem? (i := 150) rfl
theorem lm_10_111 : (10, 111, 157, 0, 10, 2, 0) ∈ aj_lms := List.mem_of_getElem? (i := 151) rfl
theorem lm_10_114 : (10, 114, 133, 0, 8, 1, 0) ∈ aj_lms := List.mem_of_getElem? (i := 152) rfl
theorem lm_10_117 : (10, 117, 85, 0, 2, 2, 0) ∈ aj_lms := List.mem_of_getElem? (i := 153) rfl
theorem lm_10_121 : (10, 121, 169, 0, 10, 1, 0) ∈ aj_lms := List.mem_of_getElem? (i := 154) rfl
theorem lm_10_125 : (10, 125, 170, 0, 10, 2, 0) ∈ aj_lms := List.mem_of_getElem? (i := 155) rfl
theorem lm_10_132 : (10, 132, 173, 0, 10, 1, 0) ∈ aj_lms := List.mem_of_getElem? (i := 156) rfl
theorem lm_10_136 : (10, 136, 174, 0, 10, 1, 0) ∈ aj_lms := List.mem_of_getElem? (i := 157) rfl
theorem lm_10_139 : (10, 139, 176, 0, 10, 1, 0) ∈ aj_lms := List.mem_of_getElem? (i := 158) rfl
theorem lm_10_142 : (10, 142, 177, 0, 10, 2, 0) ∈ aj_lms := List.mem_of_getElem? (i := 159) rfl
theorem lm_10_147 : (10, 147, 171, 0, 10, 3, 0) ∈ aj_lms := List.mem_of_getElem? (i := 160) rfl
theorem lm_10_151 : (10, 151, 159, 0, 10, 2, 0) ∈ aj_lms := List.mem_of_getElem? (i := 161) rfl
theorem lm_10_155 : (10, 155, 175, 0, 10, 2, 0) ∈ aj_lms := List.mem_of_getElem? (i := 162) rfl
theorem lm_10_162 : (10, 162, 179, 0, 10, 2, 0) ∈ aj_lms := List.mem_of_getElem? (i := 163) rfl
theorem lm_10_165 : (10, 165, 135, 0, 8, 1, 0) ∈ aj_lms := List.mem_of_getElem? (i := 164) rfl
theorem lm_11_9 : (11, 9, 0, 2, 0, 0, 0) ∈ aj_lms := List.mem_of_getElem? (i := 165) rfl
theorem lm_11_12 : (11, 12, 19, 2, 1, 0, 0) ∈ aj_lms := List.mem_of_getElem? (i := 166) rfl
theorem lm_11_13 : (11, 13, 1, 0, 0, 0, 0) ∈ aj_lms := List.mem_of_getElem? (i := 167) rfl
theorem lm_11_17 : (11, 17, 20, 0, 1, 0, 0) ∈ aj_lms := List.mem_of_getElem? (i := 168) rfl
theorem lm_11_20 : (11, 20, 2, 0, 0, 4, 0) ∈ aj_lms := List.mem_of_getElem? (i := 169) rfl
theorem lm_11_24 : (11, 24, 23, 0, 1, 4, 0) ∈ aj_lms := List.mem_of_getElem? (i := 170) rfl
theorem lm_11_25 : (11, 25, 3, 0, 0, 0, 0) ∈ aj_lms := List.mem_of_getElem? (i := 171) rfl
theorem lm_11_28 : (11, 28, 24, 0, 1, 0, 0) ∈ aj_lms := List.mem_of_getElem? (i := 172) rfl
theorem lm_11_29 : (11, 29, 4, 0, 0, 2, 0) ∈ aj_lms := List.mem_of_getElem? (i := 173) rfl
theorem lm_11_33 : (11, 33, 40, 0, 1, 2, 0) ∈ aj_lms := List.mem_of_getElem? (i := 174) rfl
theorem lm_11_34 : (11, 34, 5, 0, 0, 0, 0) ∈ aj_lms := List.mem_of_getElem? (i := 175) rfl
theorem lm_11_37 : (11, 37, 67, 0, 1, 0, 0) ∈ aj_lms := List.mem_of_getElem? (i := 176) rfl
theorem lm_11_38 : (11, 38, 6, 0, 0, 0, 0) ∈ aj_lms := List.mem_of_getElem? (i := 177) rfl
theorem lm_11_41 : (11, 41, 68, 0, 1, 0, 0) ∈ aj_lms := List.mem_of_getElem? (i := 178) rfl
theorem lm_11_42 : (11, 42, 7, 0, 0, 0, 0) ∈ aj_lms := List.mem_of_getElem? (i := 179) rfl
theorem lm_11_45 : (11, 45, 69, 0, 1, 0, 0) ∈ aj_lms := List.mem_of_getElem? (i := 180) rfl
theorem lm_11_46 : (11, 46, 8, 0, 0, 1, 0) ∈ aj_lms := List.mem_of_getElem? (i := 181) rfl
theorem lm_11_50 : (11, 50, 70, 0, 1, 1, 0) ∈ aj_lms := List.mem_of_getElem? (i := 182) rfl
theorem lm_11_51 : (11, 51, 9, 0, 0, 2, 0) ∈ aj_lms := List.mem_of_getElem? (i := 183) rfl
theorem lm_11_54 : (11, 54, 71, 0, 1, 2, 0) ∈ aj_lms := List.mem_of_getElem? (i := 184) rfl
theorem lm_11_55 : (11, 55, 10, 0, 0, 2, 0) ∈ aj_lms := List.mem_of_getElem? (i := 185) rfl
theorem lm_11_59 : (11, 59, 72, 0, 1, 2, 0) ∈ aj_lms := List.mem_of_getElem? (i := 186) rfl
theorem lm_11_60 : (11, 60, 11, 0, 0, 2, 0) ∈ aj_lms := List.mem_of_getElem? (i := 187) rfl
theorem lm_11_63 : (11, 63, 73, 0, 1, 2, 0) ∈ aj_lms := List.mem_of_getElem? (i := 188) rfl
theorem lm_11_64 : (11, 64, 12, 0, 0, 0, 0) ∈ aj_lms := List.mem_of_getElem? (i := 189) rfl
theorem lm_11_67 : (11, 67, 74, 0, 1, 0, 0) ∈ aj_lms := List.mem_of_getElem? (i := 190) rfl
theorem lm_11_68 : (11, 68, 13, 0, 0, 1, 0) ∈ aj_lms := List.mem_of_getElem? (i := 191) rfl
theorem lm_11_71 : (11, 71, 76, 0, 1, 1, 0) ∈ aj_lms := List.mem_of_getElem? (i := 192) rfl
theorem lm_11_72 : (11, 72, 14, 0, 0, 2, 0) ∈ aj_lms := List.mem_of_getElem? (i := 193) rfl
theorem lm_11_76 : (11, 76, 77, 0, 1, 2, 0) ∈ aj_lms := List.mem_of_getElem? (i := 194) rfl
theorem lm_11_77 : (11, 77, 15, 0, 0, 2, 0) ∈ aj_lms := List.mem_of_getElem? (i := 195) rfl
theorem lm_11_81 : (11, 81, 78, 0, 1, 2, 0) ∈ aj_lms := List.mem_of_getElem? (i := 196) rfl
theorem lm_11_82 : (11, 82, 16, 0, 0, 1, 0) ∈ aj_lms := List.mem_of_getElem? (i := 197) rfl
theorem lm_11_86 : (11, 86, 79, 0, 1, 1, 0) ∈ aj_lms := List.mem_of_getElem? (i := 198) rfl
def aj_lcs : List (Nat × Nat × Int32) := [(1, 98, 1937011827), (1, 103, 1937011555), (1, 104, 1937011578), (1, 105, 1668232756), (1, 106, 1937007471), (1, 118, 1836019574), (1, 119, 1953653099), (1, 120, 1937007212), (1, 135, 1835295092), (4, 110, 1953653099), (4, 114, 1937007212), (4, 121, 1836019574), (4, 122, 1835295092), (7, 34, 1937011578), (7, 58, 1668232756), (10, 129, 1836019574), (10, 130, 1953653099), (10, 131, 1937007212), (10, 146, 1937011827), (10, 154, 1937011555), (10, 158, 1937011578), (10, 159, 1668232756), (10, 160, 1937007471), (10, 161, 1835295092)]
theorem lc_1_98 : (1, 98, 1937011827) ∈ aj_lcs := List.mem_of_getElem? (i := 0) rfl
theorem lc_1_103 : (1, 103, 1937011555) ∈ aj_lcs := List.mem_of_getElem? (i := 1) rfl
theorem lc_1_104 : (1, 104, 1937011578) ∈ aj_lcs := List.mem_of_getElem? (i := 2) rfl
theorem lc_1_105 : (1, 105, 1668232756) ∈ aj_lcs := List.mem_of_getElem? (i := 3) rfl
theorem lc_1_106 : (1, 106, 1937007471) ∈ aj_lcs := List.mem_of_getElem? (i := 4) rfl
theorem lc_1_118 : (1, 118, 1836019574) ∈ aj_lcs := List.mem_of_getElem? (i := 5) rfl
theorem lc_1_119 : (1, 119, 1953653099) ∈ aj_lcs := List.mem_of_getElem? (i := 6) rfl
theorem lc_1_120 : (1, 120, 1937007212) ∈ aj_lcs := List.mem_of_getElem? (i := 7) rfl
theorem lc_1_135 : (1, 135, 1835295092) ∈ aj_lcs := List.mem_of_getElem? (i := 8) rfl
theorem lc_4_110 : (4, 110, 1953653099) ∈ aj_lcs := List.mem_of_getElem? (i := 9) rfl
theorem lc_4_114 : (4, 114, 1937007212) ∈ aj_lcs := List.mem_of_getElem? (i := 10) rfl
theorem lc_4_121 : (4, 121, 1836019574) ∈ aj_lcs := List.mem_of_getElem? (i := 11) rfl
theorem lc_4_122 : (4, 122, 1835295092) ∈ aj_lcs := List.mem_of_getElem? (i := 12) rfl
theorem lc_7_34 : (7, 34, 1937011578) ∈ aj_lcs := List.mem_of_getElem? (i := 13) rfl
theorem lc_7_58 : (7, 58, 1668232756) ∈ aj_lcs := List.mem_of_getElem? (i := 14) rfl
theorem lc_10_129 : (10, 129, 1836019574) ∈ aj_lcs := List.mem_of_getElem? (i := 15) rfl
theorem lc_10_130 : (10, 130, 1953653099) ∈ aj_lcs := List.mem_of_getElem? (i := 16) rfl
theorem lc_10_131 : (10, 131, 1937007212) ∈ aj_lcs := List.mem_of_getElem? (i := 17) rfl
theorem lc_10_146 : (10, 146, 1937011827) ∈ aj_lcs := List.mem_of_getElem? (i := 18) rfl
theorem lc_10_154 : (10, 154, 1937011555) ∈ aj_lcs := List.mem_of_getElem? (i := 19) rfl
theorem lc_10_158 : (10, 158, 1937011578) ∈ aj_lcs := List.mem_of_getElem? (i := 20) rfl
theorem lc_10_159 : (10, 159, 1668232756) ∈ aj_lcs := List.mem_of_getElem? (i := 21) rfl
theorem lc_10_160 : (10, 160, 1937007471) ∈ aj_lcs := List.mem_of_getElem? (i := 22) rfl
theorem lc_10_161 : (10, 161, 1835295092) ∈ aj_lcs := List.mem_of_getElem? (i := 23) rfl
def aj_lls : List (Nat × Nat × Int64) := [(0, 79, (-1)), (0, 106, 2147483647), (1, 74, 255), (1, 205, 2147483647), (1, 225, 16), (1, 230, 9), (1, 259, (-1)), (8, 30, (-1)), (9, 53, 16), (9, 83, 8), (11, 18, 4294967295)]
theorem ll_0_79 : (0, 79, (-1)) ∈ aj_lls := List.mem_of_getElem? (i := 0) rfl
theorem ll_0_106 : (0, 106, 2147483647) ∈ aj_lls := List.mem_of_getElem? (i := 1) rfl
theorem ll_1_74 : (1, 74, 255) ∈ aj_lls := List.mem_of_getElem? (i := 2) rfl
theorem ll_1_205 : (1, 205, 2147483647) ∈ aj_lls := List.mem_of_getElem? (i := 3) rfl
theorem ll_1_225 : (1, 225, 16) ∈ aj_lls := List.mem_of_getElem? (i := 4) rfl
theorem ll_1_230 : (1, 230, 9) ∈ aj_lls := List.mem_of_getElem? (i := 5) rfl
theorem ll_1_259 : (1, 259, (-1)) ∈ aj_lls := List.mem_of_getElem? (i := 6) rfl
theorem ll_8_30 : (8, 30, (-1)) ∈ aj_lls := List.mem_of_getElem? (i := 7) rfl
theorem ll_9_53 : (9, 53, 16) ∈ aj_lls := List.mem_of_getElem? (i := 8) rfl
theorem ll_9_83 : (9, 83, 8) ∈ aj_lls := List.mem_of_getElem? (i := 9) rfl
theorem ll_11_18 : (11, 18, 4294967295) ∈ aj_lls := List.mem_of_getElem? (i := 10) rfl
def aj_lns : List (Nat × Nat × Nat × Nat) := [(0, 7, 6, 2), (0, 16, 2, 2), (0, 23, 5, 3), (0, 32, 10, 6), (4, 9, 9, 6), (5, 15, 3, 2), (5, 22, 4, 16), (6, 9, 8, 4), (9, 9, 7, 7), (11, 7, 0, 4), (11, 10, 1, 28)]
theorem ln_0_7 : (0, 7, 6, 2) ∈ aj_lns := List.mem_of_getElem? (i := 0) rfl
theorem ln_0_16 : (0, 16, 2, 2) ∈ aj_lns := List.mem_of_getElem? (i := 1) rfl
theorem ln_0_23 : (0, 23, 5, 3) ∈ aj_lns := List.mem_of_getElem? (i := 2) rfl
theorem ln_0_32 : (0, 32, 10, 6) ∈ aj_lns := List.mem_of_getElem? (i := 3) rfl
theorem ln_4_9 : (4, 9, 9, 6) ∈ aj_lns := List.mem_of_getElem? (i := 4) rfl
theorem ln_5_15 : (5, 15, 3, 2) ∈ aj_lns := List.mem_of_getElem? (i := 5) rfl
theorem ln_5_22 : (5, 22, 4, 16) ∈ aj_lns := List.mem_of_getElem? (i := 6) rfl
theorem ln_6_9 : (6, 9, 8, 4) ∈ aj_lns := List.mem_of_getElem? (i := 7) rfl
theorem ln_9_9 : (9, 9, 7, 7) ∈ aj_lns := List.mem_of_getElem? (i := 8) rfl
theorem ln_11_7 : (11, 7, 0, 4) ∈ aj_lns := List.mem_of_getElem? (i := 9) rfl
theorem ln_11_10 : (11, 10, 1, 28) ∈ aj_lns := List.mem_of_getElem? (i := 10) rfl
def aj_las : List (Nat × Nat × Nat) := [(4, 9, 4), (6, 9, 5), (9, 9, 6)]
theorem la_4_9 : (4, 9, 4) ∈ aj_las := List.mem_of_getElem? (i := 0) rfl
theorem la_6_9 : (6, 9, 5) ∈ aj_las := List.mem_of_getElem? (i := 1) rfl
theorem la_9_9 : (9, 9, 6) ∈ aj_las := List.mem_of_getElem? (i := 2) rfl
def aj_los : List (Nat × Nat) := [(0, 1), (1, 1), (2, 3), (3, 3), (4, 3), (5, 3), (6, 3), (7, 3), (8, 3), (9, 3), (10, 3)]
theorem lo_0_1 : (0, 1) ∈ aj_los := List.mem_of_getElem? (i := 0) rfl
theorem lo_1_1 : (1, 1) ∈ aj_los := List.mem_of_getElem? (i := 1) rfl
theorem lo_2_3 : (2, 3) ∈ aj_los := List.mem_of_getElem? (i := 2) rfl
theorem lo_3_3 : (3, 3) ∈ aj_los := List.mem_of_getElem? (i := 3) rfl
theorem lo_4_3 : (4, 3) ∈ aj_los := List.mem_of_getElem? (i := 4) rfl
theorem lo_5_3 : (5, 3) ∈ aj_los := List.mem_of_getElem? (i := 5) rfl
theorem lo_6_3 : (6, 3) ∈ aj_los := List.mem_of_getElem? (i := 6) rfl
theorem lo_7_3 : (7, 3) ∈ aj_los := List.mem_of_getElem? (i := 7) rfl
theorem lo_8_3 : (8, 3) ∈ aj_los := List.mem_of_getElem? (i := 8) rfl
theorem lo_9_3 : (9, 3) ∈ aj_los := List.mem_of_getElem? (i := 9) rfl
theorem lo_10_3 : (10, 3) ∈ aj_los := List.mem_of_getElem? (i := 10) rfl
def aj_lxs : List (Nat × Nat × Nat) := [(7, 52, 2), (9, 85, 2), (10, 34, 1), (10, 69, 0)]
theorem lx_7_52 : (7, 52, 2) ∈ aj_lxs := List.mem_of_getElem? (i := 0) rfl
theorem lx_9_85 : (9, 85, 2) ∈ aj_lxs := List.mem_of_getElem? (i := 1) rfl
theorem lx_10_34 : (10, 34, 1) ∈ aj_lxs := List.mem_of_getElem? (i := 2) rfl
theorem lx_10_69 : (10, 69, 0) ∈ aj_lxs := List.mem_of_getElem? (i := 3) rfl
def aj_lss : List (Nat × Nat) := [(4, 139)]
theorem ls_4_139 : (4, 139) ∈ aj_lss := List.mem_of_getElem? (i := 0) rfl
def aj_gc : String := "ReelOfBoxes$Finder"
def aj_gf : String := "GONE_INTO"
def aj_gn : Nat := 3
def aj_gv : Nat → Int32
  | 0 => 0x6d6f6f76
  | 1 => 0x7472616b
  | _ => 0x7374626c
def aj_wo : List Cond := lw_tbl.filter (fun w => !k2_isCode w && goodWord w)
def aj_nw : List Cond := lw_tbl.filter (fun w => match w with
  | .fieldLinkNest .. => true
  | .methodLinkNest .. => true
  | _ => false)
def aj_wc : List Cond := [.code objectInit ⟨#[0xb1]⟩ 1 none, .code Lib.Math.min.name Lib.Math.min.code 2 (some .int), .code Lib.Math.max.name Lib.Math.max.code 2 (some .int), .code Lib.MathLoose.min_long.x Lib.MathLoose.min_long.code 4 (some .long)]
def aj_ws : List Cond := aj_ms.map (fun q => Cond.code q.2.1 q.2.2.1 q.2.2.2.1 q.2.2.2.2) ++ (aj_wc ++ aj_wo)
end
section
/-! The abstract machine: objects by number, a typed store, rules as a closure condition on J; aj_T is the least relation closed under the rules, so a walk of a method is a proof about a variable J. -/
abbrev aj_K : Type := Nat ⊕ (Nat × Nat)
abbrev aj_Z : Type := Nat × (Nat → Option aj_K) × (Nat → Nat → Value)
abbrev aj_I : Type := Nat → Nat → Int32
abbrev aj_G : Type := Nat → Nat → Int64
abbrev aj_L : Type := List (Option Value)
abbrev aj_J : Type := Nat → aj_L → List Value → aj_Z → aj_I → aj_G → Nat × Nat → Prop
abbrev aj_Q : Type := Option Value → aj_Z → aj_I → aj_G → Prop
def aj_u2 {α : Type} (f : Nat → Nat → α) (o k : Nat) (v : α) : Nat → Nat → α := va_up f o (va_up (f o) k v)
def aj_clr : Option Value → Option Value
  | some (.long _) => none
  | some (.double _) => none
  | x => x
def aj_cl0 : Nat → Option Value → Option Value
  | 0, a => aj_clr a
  | _ + 1, a => a
def aj_st1 : aj_L → Nat → Value → aj_L
  | [], _, _ => []
  | _ :: L, 0, v => some v :: L
  | a :: L, i + 1, v => aj_cl0 i a :: aj_st1 L i v
def aj_nn : aj_L → Nat → aj_L
  | [], _ => []
  | _ :: L, 0 => none :: L
  | a :: L, i + 1 => a :: aj_nn L i
def aj_st2 (L : aj_L) (i : Nat) (v : Value) : aj_L := aj_nn (aj_st1 L i v) (i + 1)
def aj_sp : List Value → aj_L
  | [] => []
  | .long x :: vs => some (.long x) :: none :: aj_sp vs
  | .double x :: vs => some (.double x) :: none :: aj_sp vs
  | v :: vs => some v :: aj_sp vs
def aj_l0 (n : Nat) (vs : List Value) : aj_L := aj_sp vs ++ List.replicate (n - (aj_sp vs).length) none
/-- a new object, number Z.1 + 2, of kind kd -/
abbrev aj_nZ (Z : aj_Z) (kd : aj_K) : aj_Z := (Z.1 + 1, va_up Z.2.1 (Z.1 + 2) (some kd), va_up Z.2.2 (Z.1 + 2) (fun _ => .null))
abbrev aj_nI (Z : aj_Z) (I : aj_I) : aj_I := va_up I (Z.1 + 2) (fun _ => 0)
abbrev aj_nG (Z : aj_Z) (G : aj_G) : aj_G := va_up G (Z.1 + 2) (fun _ => 0)
abbrev aj_Tt : Type := Nat → Nat → Nat → List Value → aj_Z → aj_I → aj_G → aj_Q → Prop
def aj_ity (t : Nat) : Bool := t == 0 || t == 3
def aj_rty (t : Nat) : Bool := decide (4 ≤ t)
def aj_C1 (oc : Nat) (cc : ByteArray) (J : aj_J) : Prop :=
  (∀ (pc : Nat) (L : aj_L) (st : List Value) (Z : aj_Z) (I : aj_I) (G : aj_G) (C : Nat × Nat) (n : Int) (v : Int32), (decode cc pc = .ok (.iconst n, 1)) → (Int32.ofInt n = v) → (J (pc + 1) L (.int v :: st) Z I G C) → J pc L st Z I G C) ∧
  (∀ (pc : Nat) (L : aj_L) (st : List Value) (Z : aj_Z) (I : aj_I) (G : aj_G) (C : Nat × Nat) (n : Int) (v : Int32), (decode cc pc = .ok (.bipush n, 2)) → ((Int8.ofInt n).toInt32 = v) → (J (pc + 2) L (.int v :: st) Z I G C) → J pc L st Z I G C) ∧
  (∀ (pc : Nat) (L : aj_L) (st : List Value) (Z : aj_Z) (I : aj_I) (G : aj_G) (C : Nat × Nat) (n : Int) (v : Int32), (decode cc pc = .ok (.sipush n, 3)) → ((Int16.ofInt n).toInt32 = v) → (J (pc + 3) L (.int v :: st) Z I G C) → J pc L st Z I G C) ∧
  (∀ (pc : Nat) (L : aj_L) (st : List Value) (Z : aj_Z) (I : aj_I) (G : aj_G) (C : Nat × Nat) (n : Fin 2) (v : Int64), (decode cc pc = .ok (.lconst n, 1)) → (Int64.ofNat (n : Nat) = v) → (J (pc + 1) L (.long v :: st) Z I G C) → J pc L st Z I G C) ∧
  (∀ (pc : Nat) (L : aj_L) (st : List Value) (Z : aj_Z) (I : aj_I) (G : aj_G) (C : Nat × Nat) (i : Nat) (v : Int32), ((oc, i, v) ∈ aj_lcs) → (decode cc pc = .ok (.ldc i, 2)) → (J (pc + 2) L (.int v :: st) Z I G C) → J pc L st Z I G C) ∧
  (∀ (pc : Nat) (L : aj_L) (st : List Value) (Z : aj_Z) (I : aj_I) (G : aj_G) (C : Nat × Nat) (i : Nat) (v : Int32), ((oc, i, v) ∈ aj_lcs) → (decode cc pc = .ok (.ldc_w i, 3)) → (J (pc + 3) L (.int v :: st) Z I G C) → J pc L st Z I G C) ∧
  (∀ (pc : Nat) (L : aj_L) (st : List Value) (Z : aj_Z) (I : aj_I) (G : aj_G) (C : Nat × Nat) (i : Nat) (v : Int64), ((oc, i, v) ∈ aj_lls) → (decode cc pc = .ok (.ldc2_w i, 3)) → (J (pc + 3) L (.long v :: st) Z I G C) → J pc L st Z I G C) ∧
  (∀ (pc : Nat) (L : aj_L) (st : List Value) (Z : aj_Z) (I : aj_I) (G : aj_G) (C : Nat × Nat) , (decode cc pc = .ok (.aconst_null, 1)) → (J (pc + 1) L (.null :: st) Z I G C) → J pc L st Z I G C) ∧
  (∀ (pc : Nat) (L : aj_L) (st : List Value) (Z : aj_Z) (I : aj_I) (G : aj_G) (C : Nat × Nat) (i : Fin 4) (x : Int32), (decode cc pc = .ok (.iload_n i, 1)) → (L[(i : Nat)]? = some (some (.int x))) → (J (pc + 1) L (.int x :: st) Z I G C) → J pc L st Z I G C) ∧
  (∀ (pc : Nat) (L : aj_L) (st : List Value) (Z : aj_Z) (I : aj_I) (G : aj_G) (C : Nat × Nat) (i : Nat) (x : Int32), (decode cc pc = .ok (.iload i, 2)) → (L[i]? = some (some (.int x))) → (J (pc + 2) L (.int x :: st) Z I G C) → J pc L st Z I G C) ∧
  (∀ (pc : Nat) (L : aj_L) (st : List Value) (Z : aj_Z) (I : aj_I) (G : aj_G) (C : Nat × Nat) (i : Fin 4) (x : Int64), (decode cc pc = .ok (.lload_n i, 1)) → (L[(i : Nat)]? = some (some (.long x))) → (J (pc + 1) L (.long x :: st) Z I G C) → J pc L st Z I G C) ∧
  (∀ (pc : Nat) (L : aj_L) (st : List Value) (Z : aj_Z) (I : aj_I) (G : aj_G) (C : Nat × Nat) (i : Nat) (x : Int64), (decode cc pc = .ok (.lload i, 2)) → (L[i]? = some (some (.long x))) → (J (pc + 2) L (.long x :: st) Z I G C) → J pc L st Z I G C) ∧
  (∀ (pc : Nat) (L : aj_L) (st : List Value) (Z : aj_Z) (I : aj_I) (G : aj_G) (C : Nat × Nat) (i : Fin 4) (x : Nat), (decode cc pc = .ok (.aload_n i, 1)) → (L[(i : Nat)]? = some (some (.ref x))) → (J (pc + 1) L (.ref x :: st) Z I G C) → J pc L st Z I G C) ∧
  (∀ (pc : Nat) (L : aj_L) (st : List Value) (Z : aj_Z) (I : aj_I) (G : aj_G) (C : Nat × Nat) (i : Nat) (x : Nat), (decode cc pc = .ok (.aload i, 2)) → (L[i]? = some (some (.ref x))) → (J (pc + 2) L (.ref x :: st) Z I G C) → J pc L st Z I G C) ∧
  (∀ (pc : Nat) (L : aj_L) (st : List Value) (Z : aj_Z) (I : aj_I) (G : aj_G) (C : Nat × Nat) (i : Fin 4), (decode cc pc = .ok (.aload_n i, 1)) → (L[(i : Nat)]? = some (some .null)) → (J (pc + 1) L (.null :: st) Z I G C) → J pc L st Z I G C) ∧
  (∀ (pc : Nat) (L : aj_L) (st : List Value) (Z : aj_Z) (I : aj_I) (G : aj_G) (C : Nat × Nat) (i : Nat), (decode cc pc = .ok (.aload i, 2)) → (L[i]? = some (some .null)) → (J (pc + 2) L (.null :: st) Z I G C) → J pc L st Z I G C)
def aj_C2 (cc : ByteArray) (J : aj_J) : Prop :=
  (∀ (pc : Nat) (L : aj_L) (st : List Value) (Z : aj_Z) (I : aj_I) (G : aj_G) (C : Nat × Nat) (i : Fin 4) (x : Int32), (decode cc pc = .ok (.istore_n i, 1)) → ((i : Nat) < L.length) → (J (pc + 1) (aj_st1 L (i : Nat) (.int x)) st Z I G C) → J pc L (.int x :: st) Z I G C) ∧
  (∀ (pc : Nat) (L : aj_L) (st : List Value) (Z : aj_Z) (I : aj_I) (G : aj_G) (C : Nat × Nat) (i : Nat) (x : Int32), (decode cc pc = .ok (.istore i, 2)) → (i < L.length) → (J (pc + 2) (aj_st1 L i (.int x)) st Z I G C) → J pc L (.int x :: st) Z I G C) ∧
  (∀ (pc : Nat) (L : aj_L) (st : List Value) (Z : aj_Z) (I : aj_I) (G : aj_G) (C : Nat × Nat) (i : Fin 4) (x : Nat), (decode cc pc = .ok (.astore_n i, 1)) → ((i : Nat) < L.length) → (J (pc + 1) (aj_st1 L (i : Nat) (.ref x)) st Z I G C) → J pc L (.ref x :: st) Z I G C) ∧
  (∀ (pc : Nat) (L : aj_L) (st : List Value) (Z : aj_Z) (I : aj_I) (G : aj_G) (C : Nat × Nat) (i : Nat) (x : Nat), (decode cc pc = .ok (.astore i, 2)) → (i < L.length) → (J (pc + 2) (aj_st1 L i (.ref x)) st Z I G C) → J pc L (.ref x :: st) Z I G C) ∧
  (∀ (pc : Nat) (L : aj_L) (st : List Value) (Z : aj_Z) (I : aj_I) (G : aj_G) (C : Nat × Nat) (i : Fin 4), (decode cc pc = .ok (.astore_n i, 1)) → ((i : Nat) < L.length) → (J (pc + 1) (aj_st1 L (i : Nat) .null) st Z I G C) → J pc L (.null :: st) Z I G C) ∧
  (∀ (pc : Nat) (L : aj_L) (st : List Value) (Z : aj_Z) (I : aj_I) (G : aj_G) (C : Nat × Nat) (i : Nat), (decode cc pc = .ok (.astore i, 2)) → (i < L.length) → (J (pc + 2) (aj_st1 L i .null) st Z I G C) → J pc L (.null :: st) Z I G C) ∧
  (∀ (pc : Nat) (L : aj_L) (st : List Value) (Z : aj_Z) (I : aj_I) (G : aj_G) (C : Nat × Nat) (i : Fin 4) (x : Int64), (decode cc pc = .ok (.lstore_n i, 1)) → ((i : Nat) + 1 < L.length) → (J (pc + 1) (aj_st2 L (i : Nat) (.long x)) st Z I G C) → J pc L (.long x :: st) Z I G C) ∧
  (∀ (pc : Nat) (L : aj_L) (st : List Value) (Z : aj_Z) (I : aj_I) (G : aj_G) (C : Nat × Nat) (i : Nat) (x : Int64), (decode cc pc = .ok (.lstore i, 2)) → (i + 1 < L.length) → (J (pc + 2) (aj_st2 L i (.long x)) st Z I G C) → J pc L (.long x :: st) Z I G C) ∧
  (∀ (pc : Nat) (L : aj_L) (st : List Value) (Z : aj_Z) (I : aj_I) (G : aj_G) (C : Nat × Nat) (i : Nat) (n : Int) (x v : Int32), (decode cc pc = .ok (.iinc i n, 3)) → (L[i]? = some (some (.int x))) → (Int32.ofInt n = v) → (J (pc + 3) (aj_st1 L i (.int (x + v))) st Z I G C) → J pc L st Z I G C)
def aj_C3 (cc : ByteArray) (J : aj_J) : Prop :=
  (∀ (pc : Nat) (L : aj_L) (st : List Value) (Z : aj_Z) (I : aj_I) (G : aj_G) (C : Nat × Nat) (x y : Int32), (decode cc pc = .ok (.iadd, 1)) → (J (pc + 1) L (.int (x + y) :: st) Z I G C) → J pc L (.int y :: .int x :: st) Z I G C) ∧
  (∀ (pc : Nat) (L : aj_L) (st : List Value) (Z : aj_Z) (I : aj_I) (G : aj_G) (C : Nat × Nat) (x y : Int32), (decode cc pc = .ok (.isub, 1)) → (J (pc + 1) L (.int (x - y) :: st) Z I G C) → J pc L (.int y :: .int x :: st) Z I G C) ∧
  (∀ (pc : Nat) (L : aj_L) (st : List Value) (Z : aj_Z) (I : aj_I) (G : aj_G) (C : Nat × Nat) (x y : Int32), (decode cc pc = .ok (.imul, 1)) → (J (pc + 1) L (.int (x * y) :: st) Z I G C) → J pc L (.int y :: .int x :: st) Z I G C) ∧
  (∀ (pc : Nat) (L : aj_L) (st : List Value) (Z : aj_Z) (I : aj_I) (G : aj_G) (C : Nat × Nat) (x y : Int32), (decode cc pc = .ok (.iand, 1)) → (J (pc + 1) L (.int (x &&& y) :: st) Z I G C) → J pc L (.int y :: .int x :: st) Z I G C) ∧
  (∀ (pc : Nat) (L : aj_L) (st : List Value) (Z : aj_Z) (I : aj_I) (G : aj_G) (C : Nat × Nat) (x y : Int32), (decode cc pc = .ok (.ior, 1)) → (J (pc + 1) L (.int (x ||| y) :: st) Z I G C) → J pc L (.int y :: .int x :: st) Z I G C) ∧
  (∀ (pc : Nat) (L : aj_L) (st : List Value) (Z : aj_Z) (I : aj_I) (G : aj_G) (C : Nat × Nat) (x y : Int32), (decode cc pc = .ok (.ixor, 1)) → (J (pc + 1) L (.int (x ^^^ y) :: st) Z I G C) → J pc L (.int y :: .int x :: st) Z I G C) ∧
  (∀ (pc : Nat) (L : aj_L) (st : List Value) (Z : aj_Z) (I : aj_I) (G : aj_G) (C : Nat × Nat) (x y : Int32), (decode cc pc = .ok (.ishl, 1)) → (J (pc + 1) L (.int (x <<< (y &&& 31)) :: st) Z I G C) → J pc L (.int y :: .int x :: st) Z I G C) ∧
  (∀ (pc : Nat) (L : aj_L) (st : List Value) (Z : aj_Z) (I : aj_I) (G : aj_G) (C : Nat × Nat) (x y : Int32), (decode cc pc = .ok (.ishr, 1)) → (J (pc + 1) L (.int (x >>> (y &&& 31)) :: st) Z I G C) → J pc L (.int y :: .int x :: st) Z I G C) ∧
  (∀ (pc : Nat) (L : aj_L) (st : List Value) (Z : aj_Z) (I : aj_I) (G : aj_G) (C : Nat × Nat) (x y : Int32), (decode cc pc = .ok (.idiv, 1)) → (¬ y = 0) → (J (pc + 1) L (.int (x / y) :: st) Z I G C) → J pc L (.int y :: .int x :: st) Z I G C) ∧
  (∀ (pc : Nat) (L : aj_L) (st : List Value) (Z : aj_Z) (I : aj_I) (G : aj_G) (C : Nat × Nat) (x y : Int32), (decode cc pc = .ok (.irem, 1)) → (¬ y = 0) → (J (pc + 1) L (.int (x - x / y * y) :: st) Z I G C) → J pc L (.int y :: .int x :: st) Z I G C) ∧
  (∀ (pc : Nat) (L : aj_L) (st : List Value) (Z : aj_Z) (I : aj_I) (G : aj_G) (C : Nat × Nat) (x : Int32), (decode cc pc = .ok (.ineg, 1)) → (J (pc + 1) L (.int (-x) :: st) Z I G C) → J pc L (.int x :: st) Z I G C) ∧
  (∀ (pc : Nat) (L : aj_L) (st : List Value) (Z : aj_Z) (I : aj_I) (G : aj_G) (C : Nat × Nat) (x y : Int64), (decode cc pc = .ok (.ladd, 1)) → (J (pc + 1) L (.long (x + y) :: st) Z I G C) → J pc L (.long y :: .long x :: st) Z I G C) ∧
  (∀ (pc : Nat) (L : aj_L) (st : List Value) (Z : aj_Z) (I : aj_I) (G : aj_G) (C : Nat × Nat) (x y : Int64), (decode cc pc = .ok (.lsub, 1)) → (J (pc + 1) L (.long (x - y) :: st) Z I G C) → J pc L (.long y :: .long x :: st) Z I G C) ∧
  (∀ (pc : Nat) (L : aj_L) (st : List Value) (Z : aj_Z) (I : aj_I) (G : aj_G) (C : Nat × Nat) (x y : Int64), (decode cc pc = .ok (.lmul, 1)) → (J (pc + 1) L (.long (x * y) :: st) Z I G C) → J pc L (.long y :: .long x :: st) Z I G C) ∧
  (∀ (pc : Nat) (L : aj_L) (st : List Value) (Z : aj_Z) (I : aj_I) (G : aj_G) (C : Nat × Nat) (x y : Int64), (decode cc pc = .ok (.land, 1)) → (J (pc + 1) L (.long (x &&& y) :: st) Z I G C) → J pc L (.long y :: .long x :: st) Z I G C) ∧
  (∀ (pc : Nat) (L : aj_L) (st : List Value) (Z : aj_Z) (I : aj_I) (G : aj_G) (C : Nat × Nat) (x y : Int64), (decode cc pc = .ok (.lor, 1)) → (J (pc + 1) L (.long (x ||| y) :: st) Z I G C) → J pc L (.long y :: .long x :: st) Z I G C) ∧
  (∀ (pc : Nat) (L : aj_L) (st : List Value) (Z : aj_Z) (I : aj_I) (G : aj_G) (C : Nat × Nat) (x : Int32), (decode cc pc = .ok (.i2l, 1)) → (J (pc + 1) L (.long x.toInt64 :: st) Z I G C) → J pc L (.int x :: st) Z I G C) ∧
  (∀ (pc : Nat) (L : aj_L) (st : List Value) (Z : aj_Z) (I : aj_I) (G : aj_G) (C : Nat × Nat) (x : Int64), (decode cc pc = .ok (.l2i, 1)) → (J (pc + 1) L (.int x.toInt32 :: st) Z I G C) → J pc L (.long x :: st) Z I G C) ∧
  (∀ (pc : Nat) (L : aj_L) (st : List Value) (Z : aj_Z) (I : aj_I) (G : aj_G) (C : Nat × Nat) (x : Int32), (decode cc pc = .ok (.i2b, 1)) → (J (pc + 1) L (.int x.toInt8.toInt32 :: st) Z I G C) → J pc L (.int x :: st) Z I G C) ∧
  (∀ (pc : Nat) (L : aj_L) (st : List Value) (Z : aj_Z) (I : aj_I) (G : aj_G) (C : Nat × Nat) (x : Int64) (y : Int32), (decode cc pc = .ok (.lushr, 1)) → (J (pc + 1) L (.long (x.toUInt64 >>> (y.toInt64.toUInt64 &&& Int64.toUInt64 63)).toInt64 :: st) Z I G C) → J pc L (.int y :: .long x :: st) Z I G C) ∧
  (∀ (pc : Nat) (L : aj_L) (st : List Value) (Z : aj_Z) (I : aj_I) (G : aj_G) (C : Nat × Nat) (x : Int64) (y : Int32), (decode cc pc = .ok (.lshl, 1)) → (J (pc + 1) L (.long (x <<< (y.toInt64 &&& 63)) :: st) Z I G C) → J pc L (.int y :: .long x :: st) Z I G C) ∧
  (∀ (pc : Nat) (L : aj_L) (st : List Value) (Z : aj_Z) (I : aj_I) (G : aj_G) (C : Nat × Nat) (x : Int64) (y : Int32), (decode cc pc = .ok (.lshr, 1)) → (J (pc + 1) L (.long (x >>> (y.toInt64 &&& 63)) :: st) Z I G C) → J pc L (.int y :: .long x :: st) Z I G C) ∧
  (∀ (pc : Nat) (L : aj_L) (st : List Value) (Z : aj_Z) (I : aj_I) (G : aj_G) (C : Nat × Nat) (x y : Int64), (decode cc pc = .ok (.lcmp, 1)) → (J (pc + 1) L (.int (lg_cmp x y) :: st) Z I G C) → J pc L (.long y :: .long x :: st) Z I G C)
def aj_C4 (cc : ByteArray) (J : aj_J) : Prop :=
  (∀ (pc : Nat) (L : aj_L) (st : List Value) (Z : aj_Z) (I : aj_I) (G : aj_G) (C : Nat × Nat) (v : Value), (decode cc pc = .ok (.dup, 1)) → (v.category = 1) → (J (pc + 1) L (v :: v :: st) Z I G C) → J pc L (v :: st) Z I G C) ∧
  (∀ (pc : Nat) (L : aj_L) (st : List Value) (Z : aj_Z) (I : aj_I) (G : aj_G) (C : Nat × Nat) (v : Value), (decode cc pc = .ok (.pop, 1)) → (v.category = 1) → (J (pc + 1) L st Z I G C) → J pc L (v :: st) Z I G C) ∧
  (∀ (pc : Nat) (L : aj_L) (st : List Value) (Z : aj_Z) (I : aj_I) (G : aj_G) (C : Nat × Nat) (v : Value), (decode cc pc = .ok (.pop2, 1)) → (v.category = 2) → (J (pc + 1) L st Z I G C) → J pc L (v :: st) Z I G C) ∧
  (∀ (pc : Nat) (L : aj_L) (st : List Value) (Z : aj_Z) (I : aj_I) (G : aj_G) (C : Nat × Nat) (v w : Value), (decode cc pc = .ok (.dup_x1, 1)) → (v.category = 1) → (w.category = 1) → (J (pc + 1) L (v :: w :: v :: st) Z I G C) → J pc L (v :: w :: st) Z I G C) ∧
  (∀ (pc : Nat) (L : aj_L) (st : List Value) (Z : aj_Z) (I : aj_I) (G : aj_G) (C : Nat × Nat) (v w : Value), (decode cc pc = .ok (.dup2, 1)) → (v.category = 1) → (w.category = 1) → (J (pc + 1) L (v :: w :: v :: w :: st) Z I G C) → J pc L (v :: w :: st) Z I G C) ∧
  (∀ (pc : Nat) (L : aj_L) (st : List Value) (Z : aj_Z) (I : aj_I) (G : aj_G) (C : Nat × Nat) (v : Value), (decode cc pc = .ok (.dup2, 1)) → (v.category = 2) → (J (pc + 1) L (v :: v :: st) Z I G C) → J pc L (v :: st) Z I G C) ∧
  (∀ (pc : Nat) (L : aj_L) (st : List Value) (Z : aj_Z) (I : aj_I) (G : aj_G) (C : Nat × Nat) (x : Int32) (off : Int) (tgt : Nat), (decode cc pc = .ok (.ifCond .eq off, 3)) → ((pc : Int) + off = (tgt : Int)) → ((x = 0 → J tgt L st Z I G C)) → ((¬ x = 0 → J (pc + 3) L st Z I G C)) → J pc L (.int x :: st) Z I G C) ∧
  (∀ (pc : Nat) (L : aj_L) (st : List Value) (Z : aj_Z) (I : aj_I) (G : aj_G) (C : Nat × Nat) (x : Int32) (off : Int) (tgt : Nat), (decode cc pc = .ok (.ifCond .ne off, 3)) → ((pc : Int) + off = (tgt : Int)) → ((¬ x = 0 → J tgt L st Z I G C)) → ((x = 0 → J (pc + 3) L st Z I G C)) → J pc L (.int x :: st) Z I G C) ∧
  (∀ (pc : Nat) (L : aj_L) (st : List Value) (Z : aj_Z) (I : aj_I) (G : aj_G) (C : Nat × Nat) (x : Int32) (off : Int) (tgt : Nat), (decode cc pc = .ok (.ifCond .lt off, 3)) → ((pc : Int) + off = (tgt : Int)) → ((x < 0 → J tgt L st Z I G C)) → ((¬ x < 0 → J (pc + 3) L st Z I G C)) → J pc L (.int x :: st) Z I G C) ∧
  (∀ (pc : Nat) (L : aj_L) (st : List Value) (Z : aj_Z) (I : aj_I) (G : aj_G) (C : Nat × Nat) (x : Int32) (off : Int) (tgt : Nat), (decode cc pc = .ok (.ifCond .ge off, 3)) → ((pc : Int) + off = (tgt : Int)) → ((0 ≤ x → J tgt L st Z I G C)) → ((¬ 0 ≤ x → J (pc + 3) L st Z I G C)) → J pc L (.int x :: st) Z I G C) ∧
  (∀ (pc : Nat) (L : aj_L) (st : List Value) (Z : aj_Z) (I : aj_I) (G : aj_G) (C : Nat × Nat) (x : Int32) (off : Int) (tgt : Nat), (decode cc pc = .ok (.ifCond .gt off, 3)) → ((pc : Int) + off = (tgt : Int)) → ((0 < x → J tgt L st Z I G C)) → ((¬ 0 < x → J (pc + 3) L st Z I G C)) → J pc L (.int x :: st) Z I G C) ∧
  (∀ (pc : Nat) (L : aj_L) (st : List Value) (Z : aj_Z) (I : aj_I) (G : aj_G) (C : Nat × Nat) (x : Int32) (off : Int) (tgt : Nat), (decode cc pc = .ok (.ifCond .le off, 3)) → ((pc : Int) + off = (tgt : Int)) → ((x ≤ 0 → J tgt L st Z I G C)) → ((¬ x ≤ 0 → J (pc + 3) L st Z I G C)) → J pc L (.int x :: st) Z I G C) ∧
  (∀ (pc : Nat) (L : aj_L) (st : List Value) (Z : aj_Z) (I : aj_I) (G : aj_G) (C : Nat × Nat) (x y : Int32) (off : Int) (tgt : Nat), (decode cc pc = .ok (.if_icmp .eq off, 3)) → ((pc : Int) + off = (tgt : Int)) → ((x = y → J tgt L st Z I G C)) → ((¬ x = y → J (pc + 3) L st Z I G C)) → J pc L (.int y :: .int x :: st) Z I G C) ∧
  (∀ (pc : Nat) (L : aj_L) (st : List Value) (Z : aj_Z) (I : aj_I) (G : aj_G) (C : Nat × Nat) (x y : Int32) (off : Int) (tgt : Nat), (decode cc pc = .ok (.if_icmp .ne off, 3)) → ((pc : Int) + off = (tgt : Int)) → ((¬ x = y → J tgt L st Z I G C)) → ((x = y → J (pc + 3) L st Z I G C)) → J pc L (.int y :: .int x :: st) Z I G C) ∧
  (∀ (pc : Nat) (L : aj_L) (st : List Value) (Z : aj_Z) (I : aj_I) (G : aj_G) (C : Nat × Nat) (x y : Int32) (off : Int) (tgt : Nat), (decode cc pc = .ok (.if_icmp .lt off, 3)) → ((pc : Int) + off = (tgt : Int)) → ((x < y → J tgt L st Z I G C)) → ((¬ x < y → J (pc + 3) L st Z I G C)) → J pc L (.int y :: .int x :: st) Z I G C) ∧
  (∀ (pc : Nat) (L : aj_L) (st : List Value) (Z : aj_Z) (I : aj_I) (G : aj_G) (C : Nat × Nat) (x y : Int32) (off : Int) (tgt : Nat), (decode cc pc = .ok (.if_icmp .ge off, 3)) → ((pc : Int) + off = (tgt : Int)) → ((y ≤ x → J tgt L st Z I G C)) → ((¬ y ≤ x → J (pc + 3) L st Z I G C)) → J pc L (.int y :: .int x :: st) Z I G C) ∧
  (∀ (pc : Nat) (L : aj_L) (st : List Value) (Z : aj_Z) (I : aj_I) (G : aj_G) (C : Nat × Nat) (x y : Int32) (off : Int) (tgt : Nat), (decode cc pc = .ok (.if_icmp .gt off, 3)) → ((pc : Int) + off = (tgt : Int)) → ((y < x → J tgt L st Z I G C)) → ((¬ y < x → J (pc + 3) L st Z I G C)) → J pc L (.int y :: .int x :: st) Z I G C) ∧
  (∀ (pc : Nat) (L : aj_L) (st : List Value) (Z : aj_Z) (I : aj_I) (G : aj_G) (C : Nat × Nat) (x y : Int32) (off : Int) (tgt : Nat), (decode cc pc = .ok (.if_icmp .le off, 3)) → ((pc : Int) + off = (tgt : Int)) → ((x ≤ y → J tgt L st Z I G C)) → ((¬ x ≤ y → J (pc + 3) L st Z I G C)) → J pc L (.int y :: .int x :: st) Z I G C) ∧
  (∀ (pc : Nat) (L : aj_L) (st : List Value) (Z : aj_Z) (I : aj_I) (G : aj_G) (C : Nat × Nat) (off : Int) (tgt : Nat), (decode cc pc = .ok (.goto off, 3)) → ((pc : Int) + off = (tgt : Int)) → (J tgt L st Z I G C) → J pc L st Z I G C) ∧
  (∀ (pc : Nat) (L : aj_L) (st : List Value) (Z : aj_Z) (I : aj_I) (G : aj_G) (C : Nat × Nat) (o : Nat) (off : Int) (tgt : Nat), (decode cc pc = .ok (.ifnonnull off, 3)) → ((pc : Int) + off = (tgt : Int)) → (J tgt L st Z I G C) → J pc L (.ref o :: st) Z I G C) ∧
  (∀ (pc : Nat) (L : aj_L) (st : List Value) (Z : aj_Z) (I : aj_I) (G : aj_G) (C : Nat × Nat) (off : Int), (decode cc pc = .ok (.ifnonnull off, 3)) → (J (pc + 3) L st Z I G C) → J pc L (.null :: st) Z I G C) ∧
  (∀ (pc : Nat) (L : aj_L) (st : List Value) (Z : aj_Z) (I : aj_I) (G : aj_G) (C : Nat × Nat) (o : Nat) (off : Int), (decode cc pc = .ok (.ifnull off, 3)) → (J (pc + 3) L st Z I G C) → J pc L (.ref o :: st) Z I G C) ∧
  (∀ (pc : Nat) (L : aj_L) (st : List Value) (Z : aj_Z) (I : aj_I) (G : aj_G) (C : Nat × Nat) (off : Int) (tgt : Nat), (decode cc pc = .ok (.ifnull off, 3)) → ((pc : Int) + off = (tgt : Int)) → (J tgt L st Z I G C) → J pc L (.null :: st) Z I G C) ∧
  (∀ (pc : Nat) (L : aj_L) (st : List Value) (Z : aj_Z) (I : aj_I) (G : aj_G) (C : Nat × Nat) (df lo hi : Int) (offs : Array Int) (len : Nat) (x : Int32) (tgt : Nat), (decode cc pc = .ok (.tableswitch df lo hi offs, len)) → (x.toInt < lo ∨ hi < x.toInt) → ((pc : Int) + df = (tgt : Int)) → (J tgt L st Z I G C) → J pc L (.int x :: st) Z I G C) ∧
  (∀ (pc : Nat) (L : aj_L) (st : List Value) (Z : aj_Z) (I : aj_I) (G : aj_G) (C : Nat × Nat) (df lo hi : Int) (offs : Array Int) (len : Nat) (x : Int32) (off : Int) (tgt : Nat), (decode cc pc = .ok (.tableswitch df lo hi offs, len)) → (¬ x.toInt < lo) → (¬ hi < x.toInt) → (offs[(x.toInt - lo).toNat]? = some off) → ((pc : Int) + off = (tgt : Int)) → (J tgt L st Z I G C) → J pc L (.int x :: st) Z I G C) ∧
  (∀ (pc : Nat) (L : aj_L) (st : List Value) (Z : aj_Z) (I : aj_I) (G : aj_G) (C : Nat × Nat) (df : Int) (ps : Array (Int × Int)) (len : Nat) (x : Int32) (off : Int) (tgt : Nat), (decode cc pc = .ok (.lookupswitch df ps, len)) → ((ps.toList.zip (ps.toList.drop 1)).all (fun (a, next) => a.1 < next.1) = true) → (Op.lookupswitch.offset ps.toList df x.toInt = off) → ((pc : Int) + off = (tgt : Int)) → (J tgt L st Z I G C) → J pc L (.int x :: st) Z I G C)
def aj_C5 (oc : Nat) (cc : ByteArray) (ini : Bool) (J : aj_J) : Prop :=
  (∀ (pc : Nat) (L : aj_L) (st : List Value) (Z : aj_Z) (I : aj_I) (G : aj_G) (C : Nat × Nat) (i ci k t n o : Nat), ((oc, i, ci, k, t, n) ∈ aj_lfs) → (aj_ity t = true) → (decode cc pc = .ok (.getfield i, 3)) → (Z.2.1 o = some (.inl ci)) → (J (pc + 3) L (.int (I o k) :: st) Z I G C) → J pc L (.ref o :: st) Z I G C) ∧
  (∀ (pc : Nat) (L : aj_L) (st : List Value) (Z : aj_Z) (I : aj_I) (G : aj_G) (C : Nat × Nat) (i ci k t n o : Nat) (v : Value), ((oc, i, ci, k, t, n) ∈ aj_lfs) → (aj_rty t = true) → (decode cc pc = .ok (.getfield i, 3)) → (Z.2.1 o = some (.inl ci)) → (Z.2.2 o k = v) → (J (pc + 3) L (v :: st) Z I G C) → J pc L (.ref o :: st) Z I G C) ∧
  (∀ (pc : Nat) (L : aj_L) (st : List Value) (Z : aj_Z) (I : aj_I) (G : aj_G) (C : Nat × Nat) (i ci k n o : Nat) (x : Int32), ((oc, i, ci, k, 0, n) ∈ aj_lfs) → (n = 0) → (decode cc pc = .ok (.putfield i, 3)) → (Z.2.1 o = some (.inl ci)) → (J (pc + 3) L st Z (aj_u2 I o k x) G C) → J pc L (.int x :: .ref o :: st) Z I G C) ∧
  (∀ (pc : Nat) (L : aj_L) (st : List Value) (Z : aj_Z) (I : aj_I) (G : aj_G) (C : Nat × Nat) (i ci k n o : Nat) (x : Int32), ((oc, i, ci, k, 3, n) ∈ aj_lfs) → (n = 0) → (x = 0 ∨ x = 1) → (decode cc pc = .ok (.putfield i, 3)) → (Z.2.1 o = some (.inl ci)) → (J (pc + 3) L st Z (aj_u2 I o k x) G C) → J pc L (.int x :: .ref o :: st) Z I G C) ∧
  (∀ (pc : Nat) (L : aj_L) (st : List Value) (Z : aj_Z) (I : aj_I) (G : aj_G) (C : Nat × Nat) (i ci k t n o : Nat) (v : Value), ((oc, i, ci, k, t, n) ∈ aj_lfs) → (n = 0 ∨ (n = 1 ∧ ini = true)) → (aj_rty t = true) → (v = .null ∨ ∃ a, v = .ref a) → (decode cc pc = .ok (.putfield i, 3)) → (Z.2.1 o = some (.inl ci)) → (J (pc + 3) L st (Z.1, Z.2.1, aj_u2 Z.2.2 o k v) I G C) → J pc L (v :: .ref o :: st) Z I G C) ∧
  (∀ (pc : Nat) (L : aj_L) (st : List Value) (Z : aj_Z) (I : aj_I) (G : aj_G) (C : Nat × Nat) (i : Nat), ((oc, i) ∈ aj_lss) → (decode cc pc = .ok (.getstatic i, 3)) → (J (pc + 3) L (.ref 0 :: st) Z I G C) → J pc L st Z I G C)
def aj_C6 (X : Option (Nat × (Nat → Int32))) (cc : ByteArray) (J : aj_J) : Prop :=
  (∀ (pc : Nat) (L : aj_L) (st : List Value) (Z : aj_Z) (I : aj_I) (G : aj_G) (C : Nat × Nat) (o n : Nat) (i : Int32), (decode cc pc = .ok (.iaload, 1)) → (Z.2.1 o = some (.inr (0, n))) → (vp_in i n) → (J (pc + 1) L (.int (I o i.toNatClampNeg) :: st) Z I G C) → J pc L (.int i :: .ref o :: st) Z I G C) ∧
  (∀ (pc : Nat) (L : aj_L) (st : List Value) (Z : aj_Z) (I : aj_I) (G : aj_G) (C : Nat × Nat) (o n : Nat) (i : Int32), (decode cc pc = .ok (.laload, 1)) → (Z.2.1 o = some (.inr (1, n))) → (vp_in i n) → (J (pc + 1) L (.long (G o i.toNatClampNeg) :: st) Z I G C) → J pc L (.int i :: .ref o :: st) Z I G C) ∧
  (∀ (pc : Nat) (L : aj_L) (st : List Value) (Z : aj_Z) (I : aj_I) (G : aj_G) (C : Nat × Nat) (o n : Nat) (i : Int32), (decode cc pc = .ok (.baload, 1)) → (Z.2.1 o = some (.inr (2, n))) → (vp_in i n) → (J (pc + 1) L (.int (I o i.toNatClampNeg) :: st) Z I G C) → J pc L (.int i :: .ref o :: st) Z I G C) ∧
  (∀ (pc : Nat) (L : aj_L) (st : List Value) (Z : aj_Z) (I : aj_I) (G : aj_G) (C : Nat × Nat) (o n : Nat) (i : Int32), (decode cc pc = .ok (.baload, 1)) → (Z.2.1 o = some (.inr (3, n))) → (vp_in i n) → (J (pc + 1) L (.int (I o i.toNatClampNeg) :: st) Z I G C) → J pc L (.int i :: .ref o :: st) Z I G C) ∧
  (∀ (pc : Nat) (L : aj_L) (st : List Value) (Z : aj_Z) (I : aj_I) (G : aj_G) (C : Nat × Nat) (o n t ci : Nat) (i : Int32) (v : Value), (decode cc pc = .ok (.aaload, 1)) → (Z.2.1 o = some (.inr (t, n))) → ((t, ci) ∈ aj_tcs) → (vp_in i n) → (Z.2.2 o i.toNatClampNeg = v) → (J (pc + 1) L (v :: st) Z I G C) → J pc L (.int i :: .ref o :: st) Z I G C) ∧
  (∀ (pc : Nat) (L : aj_L) (st : List Value) (Z : aj_Z) (I : aj_I) (G : aj_G) (C : Nat × Nat) (o n : Nat) (i x : Int32), (decode cc pc = .ok (.iastore, 1)) → (Z.2.1 o = some (.inr (0, n))) → (vp_in i n) → (J (pc + 1) L st Z (aj_u2 I o i.toNatClampNeg x) G C) → J pc L (.int x :: .int i :: .ref o :: st) Z I G C) ∧
  (∀ (pc : Nat) (L : aj_L) (st : List Value) (Z : aj_Z) (I : aj_I) (G : aj_G) (C : Nat × Nat) (o n : Nat) (i x : Int32), (decode cc pc = .ok (.bastore, 1)) → (Z.2.1 o = some (.inr (2, n))) → (vp_in i n) → (J (pc + 1) L st Z (aj_u2 I o i.toNatClampNeg x.toInt8.toInt32) G C) → J pc L (.int x :: .int i :: .ref o :: st) Z I G C) ∧
  (∀ (pc : Nat) (L : aj_L) (st : List Value) (Z : aj_Z) (I : aj_I) (G : aj_G) (C : Nat × Nat) (o n : Nat) (i x : Int32), (decode cc pc = .ok (.bastore, 1)) → (Z.2.1 o = some (.inr (3, n))) → (vp_in i n) → (J (pc + 1) L st Z (aj_u2 I o i.toNatClampNeg (x &&& 1)) G C) → J pc L (.int x :: .int i :: .ref o :: st) Z I G C) ∧
  (∀ (pc : Nat) (L : aj_L) (st : List Value) (Z : aj_Z) (I : aj_I) (G : aj_G) (C : Nat × Nat) (o n : Nat) (i : Int32) (x : Int64), (decode cc pc = .ok (.lastore, 1)) → (Z.2.1 o = some (.inr (1, n))) → (vp_in i n) → (J (pc + 1) L st Z I (aj_u2 G o i.toNatClampNeg x) C) → J pc L (.long x :: .int i :: .ref o :: st) Z I G C) ∧
  (∀ (pc : Nat) (L : aj_L) (st : List Value) (Z : aj_Z) (I : aj_I) (G : aj_G) (C : Nat × Nat) (o n t a ci : Nat) (i : Int32), (decode cc pc = .ok (.aastore, 1)) → (Z.2.1 o = some (.inr (t, n))) → ((t, ci) ∈ aj_tcs) → (Z.2.1 a = some (.inl ci)) → (vp_in i n) → (J (pc + 1) L st (Z.1, Z.2.1, aj_u2 Z.2.2 o i.toNatClampNeg (.ref a)) I G C) → J pc L (.ref a :: .int i :: .ref o :: st) Z I G C) ∧
  (∀ (pc : Nat) (L : aj_L) (st : List Value) (Z : aj_Z) (I : aj_I) (G : aj_G) (C : Nat × Nat) (n : Nat) (xs : Nat → Int32) (i : Int32), (decode cc pc = .ok (.iaload, 1)) → (X = some (n, xs)) → (vp_in i n) → (J (pc + 1) L (.int (xs i.toNatClampNeg) :: st) Z I G C) → J pc L (.int i :: .ref 1 :: st) Z I G C) ∧
  (∀ (pc : Nat) (L : aj_L) (st : List Value) (Z : aj_Z) (I : aj_I) (G : aj_G) (C : Nat × Nat) (n : Nat) (xs : Nat → Int32), (decode cc pc = .ok (.arraylength, 1)) → (X = some (n, xs)) → (J (pc + 1) L (.int (Int32.ofNat n) :: st) Z I G C) → J pc L (.ref 1 :: st) Z I G C) ∧
  (∀ (pc : Nat) (L : aj_L) (st : List Value) (Z : aj_Z) (I : aj_I) (G : aj_G) (C : Nat × Nat) (i : Int32), (decode cc pc = .ok (.iaload, 1)) → (vp_in i aj_gn) → (J (pc + 1) L (.int (aj_gv i.toNatClampNeg) :: st) Z I G C) → J pc L (.int i :: .ref 0 :: st) Z I G C)
def aj_C7 (oc : Nat) (cc : ByteArray) (mc ms : Nat) (J : aj_J) : Prop :=
  (∀ (pc : Nat) (L : aj_L) (st : List Value) (Z : aj_Z) (I : aj_I) (G : aj_G) (C : Nat × Nat) (i ci n : Nat), ((oc, i, ci, n) ∈ aj_lns) → (decode cc pc = .ok (.new i, 3)) → (C.1 + 1 ≤ mc) → (C.2 + n ≤ ms) → (J (pc + 3) L (.ref (Z.1 + 2) :: st) (aj_nZ Z (.inl ci)) (aj_nI Z I) (aj_nG Z G) (C.1 + 1, C.2 + n)) → J pc L st Z I G C) ∧
  (∀ (pc : Nat) (L : aj_L) (st : List Value) (Z : aj_Z) (I : aj_I) (G : aj_G) (C : Nat × Nat) (a : ArrayType) (t n : Nat) (x : Int32), ((a, t) ∈ aj_pas) → (decode cc pc = .ok (.newarray a, 2)) → (x = nI n) → (n ≤ 2000) → (C.1 + 1 ≤ mc) → (C.2 + n ≤ ms) → (J (pc + 2) L (.ref (Z.1 + 2) :: st) (aj_nZ Z (.inr (t, n))) (aj_nI Z I) (aj_nG Z G) (C.1 + 1, C.2 + n)) → J pc L (.int x :: st) Z I G C) ∧
  (∀ (pc : Nat) (L : aj_L) (st : List Value) (Z : aj_Z) (I : aj_I) (G : aj_G) (C : Nat × Nat) (i t n : Nat) (x : Int32), ((oc, i, t) ∈ aj_las) → (decode cc pc = .ok (.anewarray i, 3)) → (x = nI n) → (n ≤ 2000) → (C.1 + 1 ≤ mc) → (C.2 + n ≤ ms) → (J (pc + 3) L (.ref (Z.1 + 2) :: st) (aj_nZ Z (.inr (t, n))) (aj_nI Z I) (aj_nG Z G) (C.1 + 1, C.2 + n)) → J pc L (.int x :: st) Z I G C) ∧
  (∀ (pc : Nat) (L : aj_L) (st : List Value) (Z : aj_Z) (I : aj_I) (G : aj_G) (C : Nat × Nat) (i o : Nat), ((oc, i) ∈ aj_los) → (decode cc pc = .ok (.invokespecial i, 3)) → ((st.map fun v => v.category).sum ≤ 8) → (J (pc + 3) L st Z I G C) → J pc L (.ref o :: st) Z I G C) ∧
  (∀ (pc : Nat) (L : aj_L) (st : List Value) (Z : aj_Z) (I : aj_I) (G : aj_G) (C : Nat × Nat) (i : Nat) (x y : Int32), ((oc, i, 0) ∈ aj_lxs) → (decode cc pc = .ok (.invokestatic i, 3)) → ((st.map fun v => v.category).sum ≤ 8) → (J (pc + 3) L (.int (if y < x then y else x) :: st) Z I G C) → J pc L (.int y :: .int x :: st) Z I G C) ∧
  (∀ (pc : Nat) (L : aj_L) (st : List Value) (Z : aj_Z) (I : aj_I) (G : aj_G) (C : Nat × Nat) (i : Nat) (x y : Int32), ((oc, i, 1) ∈ aj_lxs) → (decode cc pc = .ok (.invokestatic i, 3)) → ((st.map fun v => v.category).sum ≤ 8) → (J (pc + 3) L (.int (if x < y then y else x) :: st) Z I G C) → J pc L (.int y :: .int x :: st) Z I G C) ∧
  (∀ (pc : Nat) (L : aj_L) (st : List Value) (Z : aj_Z) (I : aj_I) (G : aj_G) (C : Nat × Nat) (i : Nat) (x y : Int64), ((oc, i, 2) ∈ aj_lxs) → (decode cc pc = .ok (.invokestatic i, 3)) → ((st.map fun v => v.category).sum ≤ 8) → (J (pc + 3) L (.long (if y < x then y else x) :: st) Z I G C) → J pc L (.long y :: .long x :: st) Z I G C)
def aj_C8 (oc : Nat) (cc : ByteArray) (mc ms : Nat) (T : aj_Tt) (J : aj_J) : Prop :=
  (∀ (pc : Nat) (L : aj_L) (st : List Value) (Z : aj_Z) (I : aj_I) (G : aj_G) (C : Nat × Nat) (i y ci n hh k w o : Nat) (as : List Value), ((oc, i, y, 0, ci, n, hh) ∈ aj_lms) → (decode cc pc = .ok (.invokevirtual i, 3)) → (as.length = n) → ((st.map fun v => v.category).sum ≤ 8) → (Z.2.1 o = some (.inl ci)) → ((C.1 ≤ mc → C.2 ≤ ms → C.1 + k ≤ mc ∧ C.2 + w ≤ ms)) → (T k w y (.ref o :: as) Z I G (fun r Z1 I1 G1 => J (pc + 3) L (r.toList ++ st) Z1 I1 G1 (C.1 + k, C.2 + w))) → J pc L (as.reverse ++ .ref o :: st) Z I G C) ∧
  (∀ (pc : Nat) (L : aj_L) (st : List Value) (Z : aj_Z) (I : aj_I) (G : aj_G) (C : Nat × Nat) (i y ci n hh k w : Nat) (as : List Value), ((oc, i, y, 1, ci, n, hh) ∈ aj_lms) → (decode cc pc = .ok (.invokestatic i, 3)) → (as.length = n) → ((st.map fun v => v.category).sum ≤ 8) → ((C.1 ≤ mc → C.2 ≤ ms → C.1 + k ≤ mc ∧ C.2 + w ≤ ms)) → (T k w y as Z I G (fun r Z1 I1 G1 => J (pc + 3) L (r.toList ++ st) Z1 I1 G1 (C.1 + k, C.2 + w))) → J pc L (as.reverse ++ st) Z I G C) ∧
  (∀ (pc : Nat) (L : aj_L) (st : List Value) (Z : aj_Z) (I : aj_I) (G : aj_G) (C : Nat × Nat) (i y ci n hh k w o : Nat) (as : List Value), ((oc, i, y, 2, ci, n, hh) ∈ aj_lms) → (decode cc pc = .ok (.invokespecial i, 3)) → (as.length = n) → ((st.map fun v => v.category).sum ≤ 8) → ((C.1 ≤ mc → C.2 ≤ ms → C.1 + k ≤ mc ∧ C.2 + w ≤ ms)) → (T k w y (.ref o :: as) Z I G (fun r Z1 I1 G1 => J (pc + 3) L (r.toList ++ st) Z1 I1 G1 (C.1 + k, C.2 + w))) → J pc L (as.reverse ++ .ref o :: st) Z I G C)
def aj_C9 (cc : ByteArray) (rt : Option FieldType) (Q : aj_Q) (J : aj_J) : Prop :=
  (∀ (pc : Nat) (L : aj_L) (Z : aj_Z) (I : aj_I) (G : aj_G) (C : Nat × Nat) (ty : FieldType) (v : Int32), (decode cc pc = .ok (.ireturn, 1)) → (rt = some ty) → (narrow ty (.int v) = .int v) → (Q (some (.int v)) Z I G) → J pc L [.int v] Z I G C) ∧
  (∀ (pc : Nat) (L : aj_L) (Z : aj_Z) (I : aj_I) (G : aj_G) (C : Nat × Nat) (v : Int64), (decode cc pc = .ok (.lreturn, 1)) → (rt = some .long) → (Q (some (.long v)) Z I G) → J pc L [.long v] Z I G C) ∧
  (∀ (pc : Nat) (L : aj_L) (Z : aj_Z) (I : aj_I) (G : aj_G) (C : Nat × Nat) (nm : String) (v : Value), (decode cc pc = .ok (.areturn, 1)) → (rt = some (.object nm)) → (v = .null ∨ ∃ a, v = .ref a) → (Q (some v) Z I G) → J pc L [v] Z I G C) ∧
  (∀ (pc : Nat) (L : aj_L) (Z : aj_Z) (I : aj_I) (G : aj_G) (C : Nat × Nat) , (decode cc pc = .ok (.return_, 1)) → (rt = none) → (Q none Z I G) → J pc L [] Z I G C)
def aj_Cl (oc : Nat) (cc : ByteArray) (rt : Option FieldType) (ini : Bool) (mc ms : Nat) (X : Option (Nat × (Nat → Int32))) (T : aj_Tt) (Q : aj_Q) (J : aj_J) : Prop :=
  aj_C1 oc cc J ∧ aj_C2 cc J ∧ aj_C3 cc J ∧ aj_C4 cc J ∧ aj_C5 oc cc ini J ∧ aj_C6 X cc J ∧ aj_C7 oc cc mc ms J ∧ aj_C8 oc cc mc ms T J ∧ aj_C9 cc rt Q J
def aj_T : Nat → aj_Tt
  | 0, _, _, _, _, _, _, _, _ => False
  | d + 1, mc, ms, y, as, Z, I, G, Q => match aj_ms[y]? with
    | none => False
    | some (oc, nm, cc, nL, rt) => (aj_sp as).length ≤ nL ∧ ∀ J : aj_J, aj_Cl oc cc rt (nm.name == "<init>") mc ms none (aj_T d) Q J → J 0 (aj_l0 nL as) [] Z I G (0, 0)
section AJR
variable {oc : Nat} {cc : ByteArray} {rt : Option FieldType} {ini : Bool} {mc ms : Nat} {X : Option (Nat × (Nat → Int32))} {T : aj_Tt} {Q : aj_Q} {J : aj_J} {pc : Nat} {L : aj_L} {st : List Value} {Z : aj_Z} {I : aj_I} {G : aj_G} {C : Nat × Nat}
theorem s_iconst (h : aj_Cl oc cc rt ini mc ms X T Q J) {n : Int} {v : Int32} (h0 : decode cc pc = .ok (.iconst n, 1)) (h1 : Int32.ofInt n = v) (h2 : J (pc + 1) L (.int v :: st) Z I G C) : J pc L st Z I G C := (h.1).1 pc L st Z I G C n v h0 h1 h2
theorem s_bipush (h : aj_Cl oc cc rt ini mc ms X T Q J) {n : Int} {v : Int32} (h0 : decode cc pc = .ok (.bipush n, 2)) (h1 : (Int8.ofInt n).toInt32 = v) (h2 : J (pc + 2) L (.int v :: st) Z I G C) : J pc L st Z I G C := (h.1).2.1 pc L st Z I G C n v h0 h1 h2
theorem s_sipush (h : aj_Cl oc cc rt ini mc ms X T Q J) {n : Int} {v : Int32} (h0 : decode cc pc = .ok (.sipush n, 3)) (h1 : (Int16.ofInt n).toInt32 = v) (h2 : J (pc + 3) L (.int v :: st) Z I G C) : J pc L st Z I G C := (h.1).2.2.1 pc L st Z I G C n v h0 h1 h2
theorem s_lconst (h : aj_Cl oc cc rt ini mc ms X T Q J) {n : Fin 2} {v : Int64} (h0 : decode cc pc = .ok (.lconst n, 1)) (h1 : Int64.ofNat (n : Nat) = v) (h2 : J (pc + 1) L (.long v :: st) Z I G C) : J pc L st Z I G C := (h.1).2.2.2.1 pc L st Z I G C n v h0 h1 h2
theorem s_ldc (h : aj_Cl oc cc rt ini mc ms X T Q J) {i : Nat} {v : Int32} (h0 : (oc, i, v) ∈ aj_lcs) (h1 : decode cc pc = .ok (.ldc i, 2)) (h2 : J (pc + 2) L (.int v :: st) Z I G C) : J pc L st Z I G C := (h.1).2.2.2.2.1 pc L st Z I G C i v h0 h1 h2
theorem s_ldcw (h : aj_Cl oc cc rt ini mc ms X T Q J) {i : Nat} {v : Int32} (h0 : (oc, i, v) ∈ aj_lcs) (h1 : decode cc pc = .ok (.ldc_w i, 3)) (h2 : J (pc + 3) L (.int v :: st) Z I G C) : J pc L st Z I G C := (h.1).2.2.2.2.2.1 pc L st Z I G C i v h0 h1 h2
theorem s_ldc2 (h : aj_Cl oc cc rt ini mc ms X T Q J) {i : Nat} {v : Int64} (h0 : (oc, i, v) ∈ aj_lls) (h1 : decode cc pc = .ok (.ldc2_w i, 3)) (h2 : J (pc + 3) L (.long v :: st) Z I G C) : J pc L st Z I G C := (h.1).2.2.2.2.2.2.1 pc L st Z I G C i v h0 h1 h2
theorem s_null (h : aj_Cl oc cc rt ini mc ms X T Q J)  (h0 : decode cc pc = .ok (.aconst_null, 1)) (h1 : J (pc + 1) L (.null :: st) Z I G C) : J pc L st Z I G C := (h.1).2.2.2.2.2.2.2.1 pc L st Z I G C  h0 h1
theorem s_iload_n (h : aj_Cl oc cc rt ini mc ms X T Q J) {i : Fin 4} {x : Int32} (h0 : decode cc pc = .ok (.iload_n i, 1)) (h1 : L[(i : Nat)]? = some (some (.int x))) (h2 : J (pc + 1) L (.int x :: st) Z I G C) : J pc L st Z I G C := (h.1).2.2.2.2.2.2.2.2.1 pc L st Z I G C i x h0 h1 h2
theorem s_iload (h : aj_Cl oc cc rt ini mc ms X T Q J) {i : Nat} {x : Int32} (h0 : decode cc pc = .ok (.iload i, 2)) (h1 : L[i]? = some (some (.int x))) (h2 : J (pc + 2) L (.int x :: st) Z I G C) : J pc L st Z I G C := (h.1).2.2.2.2.2.2.2.2.2.1 pc L st Z I G C i x h0 h1 h2
theorem s_lload_n (h : aj_Cl oc cc rt ini mc ms X T Q J) {i : Fin 4} {x : Int64} (h0 : decode cc pc = .ok (.lload_n i, 1)) (h1 : L[(i : Nat)]? = some (some (.long x))) (h2 : J (pc + 1) L (.long x :: st) Z I G C) : J pc L st Z I G C := (h.1).2.2.2.2.2.2.2.2.2.2.1 pc L st Z I G C i x h0 h1 h2
theorem s_lload (h : aj_Cl oc cc rt ini mc ms X T Q J) {i : Nat} {x : Int64} (h0 : decode cc pc = .ok (.lload i, 2)) (h1 : L[i]? = some (some (.long x))) (h2 : J (pc + 2) L (.long x :: st) Z I G C) : J pc L st Z I G C := (h.1).2.2.2.2.2.2.2.2.2.2.2.1 pc L st Z I G C i x h0 h1 h2
theorem s_aload_n (h : aj_Cl oc cc rt ini mc ms X T Q J) {i : Fin 4} {x : Nat} (h0 : decode cc pc = .ok (.aload_n i, 1)) (h1 : L[(i : Nat)]? = some (some (.ref x))) (h2 : J (pc + 1) L (.ref x :: st) Z I G C) : J pc L st Z I G C := (h.1).2.2.2.2.2.2.2.2.2.2.2.2.1 pc L st Z I G C i x h0 h1 h2
theorem s_aload (h : aj_Cl oc cc rt ini mc ms X T Q J) {i : Nat} {x : Nat} (h0 : decode cc pc = .ok (.aload i, 2)) (h1 : L[i]? = some (some (.ref x))) (h2 : J (pc + 2) L (.ref x :: st) Z I G C) : J pc L st Z I G C := (h.1).2.2.2.2.2.2.2.2.2.2.2.2.2.1 pc L st Z I G C i x h0 h1 h2
theorem s_aload_nN (h : aj_Cl oc cc rt ini mc ms X T Q J) {i : Fin 4} (h0 : decode cc pc = .ok (.aload_n i, 1)) (h1 : L[(i : Nat)]? = some (some .null)) (h2 : J (pc + 1) L (.null :: st) Z I G C) : J pc L st Z I G C := (h.1).2.2.2.2.2.2.2.2.2.2.2.2.2.2.1 pc L st Z I G C i h0 h1 h2
theorem s_aloadN (h : aj_Cl oc cc rt ini mc ms X T Q J) {i : Nat} (h0 : decode cc pc = .ok (.aload i, 2)) (h1 : L[i]? = some (some .null)) (h2 : J (pc + 2) L (.null :: st) Z I G C) : J pc L st Z I G C := (h.1).2.2.2.2.2.2.2.2.2.2.2.2.2.2.2 pc L st Z I G C i h0 h1 h2
theorem s_istore_n (h : aj_Cl oc cc rt ini mc ms X T Q J) {i : Fin 4} {x : Int32} (h0 : decode cc pc = .ok (.istore_n i, 1)) (h1 : (i : Nat) < L.length) (h2 : J (pc + 1) (aj_st1 L (i : Nat) (.int x)) st Z I G C) : J pc L (.int x :: st) Z I G C := (h.2.1).1 pc L st Z I G C i x h0 h1 h2
theorem s_istore (h : aj_Cl oc cc rt ini mc ms X T Q J) {i : Nat} {x : Int32} (h0 : decode cc pc = .ok (.istore i, 2)) (h1 : i < L.length) (h2 : J (pc + 2) (aj_st1 L i (.int x)) st Z I G C) : J pc L (.int x :: st) Z I G C := (h.2.1).2.1 pc L st Z I G C i x h0 h1 h2
theorem s_astore_n (h : aj_Cl oc cc rt ini mc ms X T Q J) {i : Fin 4} {x : Nat} (h0 : decode cc pc = .ok (.astore_n i, 1)) (h1 : (i : Nat) < L.length) (h2 : J (pc + 1) (aj_st1 L (i : Nat) (.ref x)) st Z I G C) : J pc L (.ref x :: st) Z I G C := (h.2.1).2.2.1 pc L st Z I G C i x h0 h1 h2
theorem s_astore (h : aj_Cl oc cc rt ini mc ms X T Q J) {i : Nat} {x : Nat} (h0 : decode cc pc = .ok (.astore i, 2)) (h1 : i < L.length) (h2 : J (pc + 2) (aj_st1 L i (.ref x)) st Z I G C) : J pc L (.ref x :: st) Z I G C := (h.2.1).2.2.2.1 pc L st Z I G C i x h0 h1 h2
theorem s_astore_nN (h : aj_Cl oc cc rt ini mc ms X T Q J) {i : Fin 4} (h0 : decode cc pc = .ok (.astore_n i, 1)) (h1 : (i : Nat) < L.length) (h2 : J (pc + 1) (aj_st1 L (i : Nat) .null) st Z I G C) : J pc L (.null :: st) Z I G C := (h.2.1).2.2.2.2.1 pc L st Z I G C i h0 h1 h2
theorem s_astoreN (h : aj_Cl oc cc rt ini mc ms X T Q J) {i : Nat} (h0 : decode cc pc = .ok (.astore i, 2)) (h1 : i < L.length) (h2 : J (pc + 2) (aj_st1 L i .null) st Z I G C) : J pc L (.null :: st) Z I G C := (h.2.1).2.2.2.2.2.1 pc L st Z I G C i h0 h1 h2
theorem s_lstore_n (h : aj_Cl oc cc rt ini mc ms X T Q J) {i : Fin 4} {x : Int64} (h0 : decode cc pc = .ok (.lstore_n i, 1)) (h1 : (i : Nat) + 1 < L.length) (h2 : J (pc + 1) (aj_st2 L (i : Nat) (.long x)) st Z I G C) : J pc L (.long x :: st) Z I G C := (h.2.1).2.2.2.2.2.2.1 pc L st Z I G C i x h0 h1 h2
theorem s_lstore (h : aj_Cl oc cc rt ini mc ms X T Q J) {i : Nat} {x : Int64} (h0 : decode cc pc = .ok (.lstore i, 2)) (h1 : i + 1 < L.length) (h2 : J (pc + 2) (aj_st2 L i (.long x)) st Z I G C) : J pc L (.long x :: st) Z I G C := (h.2.1).2.2.2.2.2.2.2.1 pc L st Z I G C i x h0 h1 h2
theorem s_iinc (h : aj_Cl oc cc rt ini mc ms X T Q J) {i : Nat} {n : Int} {x v : Int32} (h0 : decode cc pc = .ok (.iinc i n, 3)) (h1 : L[i]? = some (some (.int x))) (h2 : Int32.ofInt n = v) (h3 : J (pc + 3) (aj_st1 L i (.int (x + v))) st Z I G C) : J pc L st Z I G C := (h.2.1).2.2.2.2.2.2.2.2 pc L st Z I G C i n x v h0 h1 h2 h3
theorem s_iadd (h : aj_Cl oc cc rt ini mc ms X T Q J) {x y : Int32} (h0 : decode cc pc = .ok (.iadd, 1)) (h1 : J (pc + 1) L (.int (x + y) :: st) Z I G C) : J pc L (.int y :: .int x :: st) Z I G C := (h.2.2.1).1 pc L st Z I G C x y h0 h1
theorem s_isub (h : aj_Cl oc cc rt ini mc ms X T Q J) {x y : Int32} (h0 : decode cc pc = .ok (.isub, 1)) (h1 : J (pc + 1) L (.int (x - y) :: st) Z I G C) : J pc L (.int y :: .int x :: st) Z I G C := (h.2.2.1).2.1 pc L st Z I G C x y h0 h1
theorem s_imul (h : aj_Cl oc cc rt ini mc ms X T Q J) {x y : Int32} (h0 : decode cc pc = .ok (.imul, 1)) (h1 : J (pc + 1) L (.int (x * y) :: st) Z I G C) : J pc L (.int y :: .int x :: st) Z I G C := (h.2.2.1).2.2.1 pc L st Z I G C x y h0 h1
theorem s_iand (h : aj_Cl oc cc rt ini mc ms X T Q J) {x y : Int32} (h0 : decode cc pc = .ok (.iand, 1)) (h1 : J (pc + 1) L (.int (x &&& y) :: st) Z I G C) : J pc L (.int y :: .int x :: st) Z I G C := (h.2.2.1).2.2.2.1 pc L st Z I G C x y h0 h1
theorem s_ior (h : aj_Cl oc cc rt ini mc ms X T Q J) {x y : Int32} (h0 : decode cc pc = .ok (.ior, 1)) (h1 : J (pc + 1) L (.int (x ||| y) :: st) Z I G C) : J pc L (.int y :: .int x :: st) Z I G C := (h.2.2.1).2.2.2.2.1 pc L st Z I G C x y h0 h1
theorem s_ixor (h : aj_Cl oc cc rt ini mc ms X T Q J) {x y : Int32} (h0 : decode cc pc = .ok (.ixor, 1)) (h1 : J (pc + 1) L (.int (x ^^^ y) :: st) Z I G C) : J pc L (.int y :: .int x :: st) Z I G C := (h.2.2.1).2.2.2.2.2.1 pc L st Z I G C x y h0 h1
theorem s_ishl (h : aj_Cl oc cc rt ini mc ms X T Q J) {x y : Int32} (h0 : decode cc pc = .ok (.ishl, 1)) (h1 : J (pc + 1) L (.int (x <<< (y &&& 31)) :: st) Z I G C) : J pc L (.int y :: .int x :: st) Z I G C := (h.2.2.1).2.2.2.2.2.2.1 pc L st Z I G C x y h0 h1
theorem s_ishr (h : aj_Cl oc cc rt ini mc ms X T Q J) {x y : Int32} (h0 : decode cc pc = .ok (.ishr, 1)) (h1 : J (pc + 1) L (.int (x >>> (y &&& 31)) :: st) Z I G C) : J pc L (.int y :: .int x :: st) Z I G C := (h.2.2.1).2.2.2.2.2.2.2.1 pc L st Z I G C x y h0 h1
theorem s_idiv (h : aj_Cl oc cc rt ini mc ms X T Q J) {x y : Int32} (h0 : decode cc pc = .ok (.idiv, 1)) (h1 : ¬ y = 0) (h2 : J (pc + 1) L (.int (x / y) :: st) Z I G C) : J pc L (.int y :: .int x :: st) Z I G C := (h.2.2.1).2.2.2.2.2.2.2.2.1 pc L st Z I G C x y h0 h1 h2
theorem s_irem (h : aj_Cl oc cc rt ini mc ms X T Q J) {x y : Int32} (h0 : decode cc pc = .ok (.irem, 1)) (h1 : ¬ y = 0) (h2 : J (pc + 1) L (.int (x - x / y * y) :: st) Z I G C) : J pc L (.int y :: .int x :: st) Z I G C := (h.2.2.1).2.2.2.2.2.2.2.2.2.1 pc L st Z I G C x y h0 h1 h2
theorem s_ineg (h : aj_Cl oc cc rt ini mc ms X T Q J) {x : Int32} (h0 : decode cc pc = .ok (.ineg, 1)) (h1 : J (pc + 1) L (.int (-x) :: st) Z I G C) : J pc L (.int x :: st) Z I G C := (h.2.2.1).2.2.2.2.2.2.2.2.2.2.1 pc L st Z I G C x h0 h1
theorem s_ladd (h : aj_Cl oc cc rt ini mc ms X T Q J) {x y : Int64} (h0 : decode cc pc = .ok (.ladd, 1)) (h1 : J (pc + 1) L (.long (x + y) :: st) Z I G C) : J pc L (.long y :: .long x :: st) Z I G C := (h.2.2.1).2.2.2.2.2.2.2.2.2.2.2.1 pc L st Z I G C x y h0 h1
theorem s_lsub (h : aj_Cl oc cc rt ini mc ms X T Q J) {x y : Int64} (h0 : decode cc pc = .ok (.lsub, 1)) (h1 : J (pc + 1) L (.long (x - y) :: st) Z I G C) : J pc L (.long y :: .long x :: st) Z I G C := (h.2.2.1).2.2.2.2.2.2.2.2.2.2.2.2.1 pc L st Z I G C x y h0 h1
theorem s_lmul (h : aj_Cl oc cc rt ini mc ms X T Q J) {x y : Int64} (h0 : decode cc pc = .ok (.lmul, 1)) (h1 : J (pc + 1) L (.long (x * y) :: st) Z I G C) : J pc L (.long y :: .long x :: st) Z I G C := (h.2.2.1).2.2.2.2.2.2.2.2.2.2.2.2.2.1 pc L st Z I G C x y h0 h1
theorem s_land (h : aj_Cl oc cc rt ini mc ms X T Q J) {x y : Int64} (h0 : decode cc pc = .ok (.land, 1)) (h1 : J (pc + 1) L (.long (x &&& y) :: st) Z I G C) : J pc L (.long y :: .long x :: st) Z I G C := (h.2.2.1).2.2.2.2.2.2.2.2.2.2.2.2.2.2.1 pc L st Z I G C x y h0 h1
theorem s_lor (h : aj_Cl oc cc rt ini mc ms X T Q J) {x y : Int64} (h0 : decode cc pc = .ok (.lor, 1)) (h1 : J (pc + 1) L (.long (x ||| y) :: st) Z I G C) : J pc L (.long y :: .long x :: st) Z I G C := (h.2.2.1).2.2.2.2.2.2.2.2.2.2.2.2.2.2.2.1 pc L st Z I G C x y h0 h1
theorem s_i2l (h : aj_Cl oc cc rt ini mc ms X T Q J) {x : Int32} (h0 : decode cc pc = .ok (.i2l, 1)) (h1 : J (pc + 1) L (.long x.toInt64 :: st) Z I G C) : J pc L (.int x :: st) Z I G C := (h.2.2.1).2.2.2.2.2.2.2.2.2.2.2.2.2.2.2.2.1 pc L st Z I G C x h0 h1
theorem s_l2i (h : aj_Cl oc cc rt ini mc ms X T Q J) {x : Int64} (h0 : decode cc pc = .ok (.l2i, 1)) (h1 : J (pc + 1) L (.int x.toInt32 :: st) Z I G C) : J pc L (.long x :: st) Z I G C := (h.2.2.1).2.2.2.2.2.2.2.2.2.2.2.2.2.2.2.2.2.1 pc L st Z I G C x h0 h1
theorem s_i2b (h : aj_Cl oc cc rt ini mc ms X T Q J) {x : Int32} (h0 : decode cc pc = .ok (.i2b, 1)) (h1 : J (pc + 1) L (.int x.toInt8.toInt32 :: st) Z I G C) : J pc L (.int x :: st) Z I G C := (h.2.2.1).2.2.2.2.2.2.2.2.2.2.2.2.2.2.2.2.2.2.1 pc L st Z I G C x h0 h1
theorem s_lushr (h : aj_Cl oc cc rt ini mc ms X T Q J) {x : Int64} {y : Int32} (h0 : decode cc pc = .ok (.lushr, 1)) (h1 : J (pc + 1) L (.long (x.toUInt64 >>> (y.toInt64.toUInt64 &&& Int64.toUInt64 63)).toInt64 :: st) Z I G C) : J pc L (.int y :: .long x :: st) Z I G C := (h.2.2.1).2.2.2.2.2.2.2.2.2.2.2.2.2.2.2.2.2.2.2.1 pc L st Z I G C x y h0 h1
theorem s_lshl (h : aj_Cl oc cc rt ini mc ms X T Q J) {x : Int64} {y : Int32} (h0 : decode cc pc = .ok (.lshl, 1)) (h1 : J (pc + 1) L (.long (x <<< (y.toInt64 &&& 63)) :: st) Z I G C) : J pc L (.int y :: .long x :: st) Z I G C := (h.2.2.1).2.2.2.2.2.2.2.2.2.2.2.2.2.2.2.2.2.2.2.2.1 pc L st Z I G C x y h0 h1
theorem s_lshr (h : aj_Cl oc cc rt ini mc ms X T Q J) {x : Int64} {y : Int32} (h0 : decode cc pc = .ok (.lshr, 1)) (h1 : J (pc + 1) L (.long (x >>> (y.toInt64 &&& 63)) :: st) Z I G C) : J pc L (.int y :: .long x :: st) Z I G C := (h.2.2.1).2.2.2.2.2.2.2.2.2.2.2.2.2.2.2.2.2.2.2.2.2.1 pc L st Z I G C x y h0 h1
theorem s_lcmp (h : aj_Cl oc cc rt ini mc ms X T Q J) {x y : Int64} (h0 : decode cc pc = .ok (.lcmp, 1)) (h1 : J (pc + 1) L (.int (lg_cmp x y) :: st) Z I G C) : J pc L (.long y :: .long x :: st) Z I G C := (h.2.2.1).2.2.2.2.2.2.2.2.2.2.2.2.2.2.2.2.2.2.2.2.2.2 pc L st Z I G C x y h0 h1
theorem s_dup (h : aj_Cl oc cc rt ini mc ms X T Q J) {v : Value} (h0 : decode cc pc = .ok (.dup, 1)) (h1 : v.category = 1) (h2 : J (pc + 1) L (v :: v :: st) Z I G C) : J pc L (v :: st) Z I G C := (h.2.2.2.1).1 pc L st Z I G C v h0 h1 h2
theorem s_pop (h : aj_Cl oc cc rt ini mc ms X T Q J) {v : Value} (h0 : decode cc pc = .ok (.pop, 1)) (h1 : v.category = 1) (h2 : J (pc + 1) L st Z I G C) : J pc L (v :: st) Z I G C := (h.2.2.2.1).2.1 pc L st Z I G C v h0 h1 h2
theorem s_pop2 (h : aj_Cl oc cc rt ini mc ms X T Q J) {v : Value} (h0 : decode cc pc = .ok (.pop2, 1)) (h1 : v.category = 2) (h2 : J (pc + 1) L st Z I G C) : J pc L (v :: st) Z I G C := (h.2.2.2.1).2.2.1 pc L st Z I G C v h0 h1 h2
theorem s_dup_x1 (h : aj_Cl oc cc rt ini mc ms X T Q J) {v w : Value} (h0 : decode cc pc = .ok (.dup_x1, 1)) (h1 : v.category = 1) (h2 : w.category = 1) (h3 : J (pc + 1) L (v :: w :: v :: st) Z I G C) : J pc L (v :: w :: st) Z I G C := (h.2.2.2.1).2.2.2.1 pc L st Z I G C v w h0 h1 h2 h3
theorem s_dup2 (h : aj_Cl oc cc rt ini mc ms X T Q J) {v w : Value} (h0 : decode cc pc = .ok (.dup2, 1)) (h1 : v.category = 1) (h2 : w.category = 1) (h3 : J (pc + 1) L (v :: w :: v :: w :: st) Z I G C) : J pc L (v :: w :: st) Z I G C := (h.2.2.2.1).2.2.2.2.1 pc L st Z I G C v w h0 h1 h2 h3
theorem s_dup2_2 (h : aj_Cl oc cc rt ini mc ms X T Q J) {v : Value} (h0 : decode cc pc = .ok (.dup2, 1)) (h1 : v.category = 2) (h2 : J (pc + 1) L (v :: v :: st) Z I G C) : J pc L (v :: st) Z I G C := (h.2.2.2.1).2.2.2.2.2.1 pc L st Z I G C v h0 h1 h2
theorem s_if_eq (h : aj_Cl oc cc rt ini mc ms X T Q J) {x : Int32} {off : Int} {tgt : Nat} (h0 : decode cc pc = .ok (.ifCond .eq off, 3)) (h1 : (pc : Int) + off = (tgt : Int)) (h2 : (x = 0 → J tgt L st Z I G C)) (h3 : (¬ x = 0 → J (pc + 3) L st Z I G C)) : J pc L (.int x :: st) Z I G C := (h.2.2.2.1).2.2.2.2.2.2.1 pc L st Z I G C x off tgt h0 h1 h2 h3
theorem s_if_ne (h : aj_Cl oc cc rt ini mc ms X T Q J) {x : Int32} {off : Int} {tgt : Nat} (h0 : decode cc pc = .ok (.ifCond .ne off, 3)) (h1 : (pc : Int) + off = (tgt : Int)) (h2 : (¬ x = 0 → J tgt L st Z I G C)) (h3 : (x = 0 → J (pc + 3) L st Z I G C)) : J pc L (.int x :: st) Z I G C := (h.2.2.2.1).2.2.2.2.2.2.2.1 pc L st Z I G C x off tgt h0 h1 h2 h3
theorem s_if_lt (h : aj_Cl oc cc rt ini mc ms X T Q J) {x : Int32} {off : Int} {tgt : Nat} (h0 : decode cc pc = .ok (.ifCond .lt off, 3)) (h1 : (pc : Int) + off = (tgt : Int)) (h2 : (x < 0 → J tgt L st Z I G C)) (h3 : (¬ x < 0 → J (pc + 3) L st Z I G C)) : J pc L (.int x :: st) Z I G C := (h.2.2.2.1).2.2.2.2.2.2.2.2.1 pc L st Z I G C x off tgt h0 h1 h2 h3
theorem s_if_ge (h : aj_Cl oc cc rt ini mc ms X T Q J) {x : Int32} {off : Int} {tgt : Nat} (h0 : decode cc pc = .ok (.ifCond .ge off, 3)) (h1 : (pc : Int) + off = (tgt : Int)) (h2 : (0 ≤ x → J tgt L st Z I G C)) (h3 : (¬ 0 ≤ x → J (pc + 3) L st Z I G C)) : J pc L (.int x :: st) Z I G C := (h.2.2.2.1).2.2.2.2.2.2.2.2.2.1 pc L st Z I G C x off tgt h0 h1 h2 h3
theorem s_if_gt (h : aj_Cl oc cc rt ini mc ms X T Q J) {x : Int32} {off : Int} {tgt : Nat} (h0 : decode cc pc = .ok (.ifCond .gt off, 3)) (h1 : (pc : Int) + off = (tgt : Int)) (h2 : (0 < x → J tgt L st Z I G C)) (h3 : (¬ 0 < x → J (pc + 3) L st Z I G C)) : J pc L (.int x :: st) Z I G C := (h.2.2.2.1).2.2.2.2.2.2.2.2.2.2.1 pc L st Z I G C x off tgt h0 h1 h2 h3
theorem s_if_le (h : aj_Cl oc cc rt ini mc ms X T Q J) {x : Int32} {off : Int} {tgt : Nat} (h0 : decode cc pc = .ok (.ifCond .le off, 3)) (h1 : (pc : Int) + off = (tgt : Int)) (h2 : (x ≤ 0 → J tgt L st Z I G C)) (h3 : (¬ x ≤ 0 → J (pc + 3) L st Z I G C)) : J pc L (.int x :: st) Z I G C := (h.2.2.2.1).2.2.2.2.2.2.2.2.2.2.2.1 pc L st Z I G C x off tgt h0 h1 h2 h3
theorem s_icmp_eq (h : aj_Cl oc cc rt ini mc ms X T Q J) {x y : Int32} {off : Int} {tgt : Nat} (h0 : decode cc pc = .ok (.if_icmp .eq off, 3)) (h1 : (pc : Int) + off = (tgt : Int)) (h2 : (x = y → J tgt L st Z I G C)) (h3 : (¬ x = y → J (pc + 3) L st Z I G C)) : J pc L (.int y :: .int x :: st) Z I G C := (h.2.2.2.1).2.2.2.2.2.2.2.2.2.2.2.2.1 pc L st Z I G C x y off tgt h0 h1 h2 h3
theorem s_icmp_ne (h : aj_Cl oc cc rt ini mc ms X T Q J) {x y : Int32} {off : Int} {tgt : Nat} (h0 : decode cc pc = .ok (.if_icmp .ne off, 3)) (h1 : (pc : Int) + off = (tgt : Int)) (h2 : (¬ x = y → J tgt L st Z I G C)) (h3 : (x = y → J (pc + 3) L st Z I G C)) : J pc L (.int y :: .int x :: st) Z I G C := (h.2.2.2.1).2.2.2.2.2.2.2.2.2.2.2.2.2.1 pc L st Z I G C x y off tgt h0 h1 h2 h3
theorem s_icmp_lt (h : aj_Cl oc cc rt ini mc ms X T Q J) {x y : Int32} {off : Int} {tgt : Nat} (h0 : decode cc pc = .ok (.if_icmp .lt off, 3)) (h1 : (pc : Int) + off = (tgt : Int)) (h2 : (x < y → J tgt L st Z I G C)) (h3 : (¬ x < y → J (pc + 3) L st Z I G C)) : J pc L (.int y :: .int x :: st) Z I G C := (h.2.2.2.1).2.2.2.2.2.2.2.2.2.2.2.2.2.2.1 pc L st Z I G C x y off tgt h0 h1 h2 h3
theorem s_icmp_ge (h : aj_Cl oc cc rt ini mc ms X T Q J) {x y : Int32} {off : Int} {tgt : Nat} (h0 : decode cc pc = .ok (.if_icmp .ge off, 3)) (h1 : (pc : Int) + off = (tgt : Int)) (h2 : (y ≤ x → J tgt L st Z I G C)) (h3 : (¬ y ≤ x → J (pc + 3) L st Z I G C)) : J pc L (.int y :: .int x :: st) Z I G C := (h.2.2.2.1).2.2.2.2.2.2.2.2.2.2.2.2.2.2.2.1 pc L st Z I G C x y off tgt h0 h1 h2 h3
theorem s_icmp_gt (h : aj_Cl oc cc rt ini mc ms X T Q J) {x y : Int32} {off : Int} {tgt : Nat} (h0 : decode cc pc = .ok (.if_icmp .gt off, 3)) (h1 : (pc : Int) + off = (tgt : Int)) (h2 : (y < x → J tgt L st Z I G C)) (h3 : (¬ y < x → J (pc + 3) L st Z I G C)) : J pc L (.int y :: .int x :: st) Z I G C := (h.2.2.2.1).2.2.2.2.2.2.2.2.2.2.2.2.2.2.2.2.1 pc L st Z I G C x y off tgt h0 h1 h2 h3
theorem s_icmp_le (h : aj_Cl oc cc rt ini mc ms X T Q J) {x y : Int32} {off : Int} {tgt : Nat} (h0 : decode cc pc = .ok (.if_icmp .le off, 3)) (h1 : (pc : Int) + off = (tgt : Int)) (h2 : (x ≤ y → J tgt L st Z I G C)) (h3 : (¬ x ≤ y → J (pc + 3) L st Z I G C)) : J pc L (.int y :: .int x :: st) Z I G C := (h.2.2.2.1).2.2.2.2.2.2.2.2.2.2.2.2.2.2.2.2.2.1 pc L st Z I G C x y off tgt h0 h1 h2 h3
theorem s_goto (h : aj_Cl oc cc rt ini mc ms X T Q J) {off : Int} {tgt : Nat} (h0 : decode cc pc = .ok (.goto off, 3)) (h1 : (pc : Int) + off = (tgt : Int)) (h2 : J tgt L st Z I G C) : J pc L st Z I G C := (h.2.2.2.1).2.2.2.2.2.2.2.2.2.2.2.2.2.2.2.2.2.2.1 pc L st Z I G C off tgt h0 h1 h2
theorem s_ifnonnull (h : aj_Cl oc cc rt ini mc ms X T Q J) {o : Nat} {off : Int} {tgt : Nat} (h0 : decode cc pc = .ok (.ifnonnull off, 3)) (h1 : (pc : Int) + off = (tgt : Int)) (h2 : J tgt L st Z I G C) : J pc L (.ref o :: st) Z I G C := (h.2.2.2.1).2.2.2.2.2.2.2.2.2.2.2.2.2.2.2.2.2.2.2.1 pc L st Z I G C o off tgt h0 h1 h2
theorem s_ifnonnullN (h : aj_Cl oc cc rt ini mc ms X T Q J) {off : Int} (h0 : decode cc pc = .ok (.ifnonnull off, 3)) (h1 : J (pc + 3) L st Z I G C) : J pc L (.null :: st) Z I G C := (h.2.2.2.1).2.2.2.2.2.2.2.2.2.2.2.2.2.2.2.2.2.2.2.2.1 pc L st Z I G C off h0 h1
theorem s_ifnull (h : aj_Cl oc cc rt ini mc ms X T Q J) {o : Nat} {off : Int} (h0 : decode cc pc = .ok (.ifnull off, 3)) (h1 : J (pc + 3) L st Z I G C) : J pc L (.ref o :: st) Z I G C := (h.2.2.2.1).2.2.2.2.2.2.2.2.2.2.2.2.2.2.2.2.2.2.2.2.2.1 pc L st Z I G C o off h0 h1
theorem s_ifnullN (h : aj_Cl oc cc rt ini mc ms X T Q J) {off : Int} {tgt : Nat} (h0 : decode cc pc = .ok (.ifnull off, 3)) (h1 : (pc : Int) + off = (tgt : Int)) (h2 : J tgt L st Z I G C) : J pc L (.null :: st) Z I G C := (h.2.2.2.1).2.2.2.2.2.2.2.2.2.2.2.2.2.2.2.2.2.2.2.2.2.2.1 pc L st Z I G C off tgt h0 h1 h2
theorem s_tableOut (h : aj_Cl oc cc rt ini mc ms X T Q J) {df lo hi : Int} {offs : Array Int} {len : Nat} {x : Int32} {tgt : Nat} (h0 : decode cc pc = .ok (.tableswitch df lo hi offs, len)) (h1 : x.toInt < lo ∨ hi < x.toInt) (h2 : (pc : Int) + df = (tgt : Int)) (h3 : J tgt L st Z I G C) : J pc L (.int x :: st) Z I G C := (h.2.2.2.1).2.2.2.2.2.2.2.2.2.2.2.2.2.2.2.2.2.2.2.2.2.2.2.1 pc L st Z I G C df lo hi offs len x tgt h0 h1 h2 h3
theorem s_tableIn (h : aj_Cl oc cc rt ini mc ms X T Q J) {df lo hi : Int} {offs : Array Int} {len : Nat} {x : Int32} {off : Int} {tgt : Nat} (h0 : decode cc pc = .ok (.tableswitch df lo hi offs, len)) (h1 : ¬ x.toInt < lo) (h2 : ¬ hi < x.toInt) (h3 : offs[(x.toInt - lo).toNat]? = some off) (h4 : (pc : Int) + off = (tgt : Int)) (h5 : J tgt L st Z I G C) : J pc L (.int x :: st) Z I G C := (h.2.2.2.1).2.2.2.2.2.2.2.2.2.2.2.2.2.2.2.2.2.2.2.2.2.2.2.2.1 pc L st Z I G C df lo hi offs len x off tgt h0 h1 h2 h3 h4 h5
theorem s_lookup (h : aj_Cl oc cc rt ini mc ms X T Q J) {df : Int} {ps : Array (Int × Int)} {len : Nat} {x : Int32} {off : Int} {tgt : Nat} (h0 : decode cc pc = .ok (.lookupswitch df ps, len)) (h1 : (ps.toList.zip (ps.toList.drop 1)).all (fun (a, next) => a.1 < next.1) = true) (h2 : Op.lookupswitch.offset ps.toList df x.toInt = off) (h3 : (pc : Int) + off = (tgt : Int)) (h4 : J tgt L st Z I G C) : J pc L (.int x :: st) Z I G C := (h.2.2.2.1).2.2.2.2.2.2.2.2.2.2.2.2.2.2.2.2.2.2.2.2.2.2.2.2.2 pc L st Z I G C df ps len x off tgt h0 h1 h2 h3 h4
theorem s_geti (h : aj_Cl oc cc rt ini mc ms X T Q J) {i ci k t n o : Nat} (h0 : (oc, i, ci, k, t, n) ∈ aj_lfs) (h1 : aj_ity t = true) (h2 : decode cc pc = .ok (.getfield i, 3)) (h3 : Z.2.1 o = some (.inl ci)) (h4 : J (pc + 3) L (.int (I o k) :: st) Z I G C) : J pc L (.ref o :: st) Z I G C := (h.2.2.2.2.1).1 pc L st Z I G C i ci k t n o h0 h1 h2 h3 h4
theorem s_getr (h : aj_Cl oc cc rt ini mc ms X T Q J) {i ci k t n o : Nat} {v : Value} (h0 : (oc, i, ci, k, t, n) ∈ aj_lfs) (h1 : aj_rty t = true) (h2 : decode cc pc = .ok (.getfield i, 3)) (h3 : Z.2.1 o = some (.inl ci)) (h4 : Z.2.2 o k = v) (h5 : J (pc + 3) L (v :: st) Z I G C) : J pc L (.ref o :: st) Z I G C := (h.2.2.2.2.1).2.1 pc L st Z I G C i ci k t n o v h0 h1 h2 h3 h4 h5
theorem s_puti (h : aj_Cl oc cc rt ini mc ms X T Q J) {i ci k n o : Nat} {x : Int32} (h0 : (oc, i, ci, k, 0, n) ∈ aj_lfs) (h1 : n = 0) (h2 : decode cc pc = .ok (.putfield i, 3)) (h3 : Z.2.1 o = some (.inl ci)) (h4 : J (pc + 3) L st Z (aj_u2 I o k x) G C) : J pc L (.int x :: .ref o :: st) Z I G C := (h.2.2.2.2.1).2.2.1 pc L st Z I G C i ci k n o x h0 h1 h2 h3 h4
theorem s_putz (h : aj_Cl oc cc rt ini mc ms X T Q J) {i ci k n o : Nat} {x : Int32} (h0 : (oc, i, ci, k, 3, n) ∈ aj_lfs) (h1 : n = 0) (h2 : x = 0 ∨ x = 1) (h3 : decode cc pc = .ok (.putfield i, 3)) (h4 : Z.2.1 o = some (.inl ci)) (h5 : J (pc + 3) L st Z (aj_u2 I o k x) G C) : J pc L (.int x :: .ref o :: st) Z I G C := (h.2.2.2.2.1).2.2.2.1 pc L st Z I G C i ci k n o x h0 h1 h2 h3 h4 h5
theorem s_putr (h : aj_Cl oc cc rt ini mc ms X T Q J) {i ci k t n o : Nat} {v : Value} (h0 : (oc, i, ci, k, t, n) ∈ aj_lfs) (h1 : n = 0 ∨ (n = 1 ∧ ini = true)) (h2 : aj_rty t = true) (h3 : v = .null ∨ ∃ a, v = .ref a) (h4 : decode cc pc = .ok (.putfield i, 3)) (h5 : Z.2.1 o = some (.inl ci)) (h6 : J (pc + 3) L st (Z.1, Z.2.1, aj_u2 Z.2.2 o k v) I G C) : J pc L (v :: .ref o :: st) Z I G C := (h.2.2.2.2.1).2.2.2.2.1 pc L st Z I G C i ci k t n o v h0 h1 h2 h3 h4 h5 h6
theorem s_gets (h : aj_Cl oc cc rt ini mc ms X T Q J) {i : Nat} (h0 : (oc, i) ∈ aj_lss) (h1 : decode cc pc = .ok (.getstatic i, 3)) (h2 : J (pc + 3) L (.ref 0 :: st) Z I G C) : J pc L st Z I G C := (h.2.2.2.2.1).2.2.2.2.2 pc L st Z I G C i h0 h1 h2
theorem s_iald (h : aj_Cl oc cc rt ini mc ms X T Q J) {o n : Nat} {i : Int32} (h0 : decode cc pc = .ok (.iaload, 1)) (h1 : Z.2.1 o = some (.inr (0, n))) (h2 : vp_in i n) (h3 : J (pc + 1) L (.int (I o i.toNatClampNeg) :: st) Z I G C) : J pc L (.int i :: .ref o :: st) Z I G C := (h.2.2.2.2.2.1).1 pc L st Z I G C o n i h0 h1 h2 h3
theorem s_lald (h : aj_Cl oc cc rt ini mc ms X T Q J) {o n : Nat} {i : Int32} (h0 : decode cc pc = .ok (.laload, 1)) (h1 : Z.2.1 o = some (.inr (1, n))) (h2 : vp_in i n) (h3 : J (pc + 1) L (.long (G o i.toNatClampNeg) :: st) Z I G C) : J pc L (.int i :: .ref o :: st) Z I G C := (h.2.2.2.2.2.1).2.1 pc L st Z I G C o n i h0 h1 h2 h3
theorem s_bald (h : aj_Cl oc cc rt ini mc ms X T Q J) {o n : Nat} {i : Int32} (h0 : decode cc pc = .ok (.baload, 1)) (h1 : Z.2.1 o = some (.inr (2, n))) (h2 : vp_in i n) (h3 : J (pc + 1) L (.int (I o i.toNatClampNeg) :: st) Z I G C) : J pc L (.int i :: .ref o :: st) Z I G C := (h.2.2.2.2.2.1).2.2.1 pc L st Z I G C o n i h0 h1 h2 h3
theorem s_zald (h : aj_Cl oc cc rt ini mc ms X T Q J) {o n : Nat} {i : Int32} (h0 : decode cc pc = .ok (.baload, 1)) (h1 : Z.2.1 o = some (.inr (3, n))) (h2 : vp_in i n) (h3 : J (pc + 1) L (.int (I o i.toNatClampNeg) :: st) Z I G C) : J pc L (.int i :: .ref o :: st) Z I G C := (h.2.2.2.2.2.1).2.2.2.1 pc L st Z I G C o n i h0 h1 h2 h3
theorem s_aald (h : aj_Cl oc cc rt ini mc ms X T Q J) {o n t ci : Nat} {i : Int32} {v : Value} (h0 : decode cc pc = .ok (.aaload, 1)) (h1 : Z.2.1 o = some (.inr (t, n))) (h2 : (t, ci) ∈ aj_tcs) (h3 : vp_in i n) (h4 : Z.2.2 o i.toNatClampNeg = v) (h5 : J (pc + 1) L (v :: st) Z I G C) : J pc L (.int i :: .ref o :: st) Z I G C := (h.2.2.2.2.2.1).2.2.2.2.1 pc L st Z I G C o n t ci i v h0 h1 h2 h3 h4 h5
theorem s_iast (h : aj_Cl oc cc rt ini mc ms X T Q J) {o n : Nat} {i x : Int32} (h0 : decode cc pc = .ok (.iastore, 1)) (h1 : Z.2.1 o = some (.inr (0, n))) (h2 : vp_in i n) (h3 : J (pc + 1) L st Z (aj_u2 I o i.toNatClampNeg x) G C) : J pc L (.int x :: .int i :: .ref o :: st) Z I G C := (h.2.2.2.2.2.1).2.2.2.2.2.1 pc L st Z I G C o n i x h0 h1 h2 h3
theorem s_bast (h : aj_Cl oc cc rt ini mc ms X T Q J) {o n : Nat} {i x : Int32} (h0 : decode cc pc = .ok (.bastore, 1)) (h1 : Z.2.1 o = some (.inr (2, n))) (h2 : vp_in i n) (h3 : J (pc + 1) L st Z (aj_u2 I o i.toNatClampNeg x.toInt8.toInt32) G C) : J pc L (.int x :: .int i :: .ref o :: st) Z I G C := (h.2.2.2.2.2.1).2.2.2.2.2.2.1 pc L st Z I G C o n i x h0 h1 h2 h3
theorem s_zast (h : aj_Cl oc cc rt ini mc ms X T Q J) {o n : Nat} {i x : Int32} (h0 : decode cc pc = .ok (.bastore, 1)) (h1 : Z.2.1 o = some (.inr (3, n))) (h2 : vp_in i n) (h3 : J (pc + 1) L st Z (aj_u2 I o i.toNatClampNeg (x &&& 1)) G C) : J pc L (.int x :: .int i :: .ref o :: st) Z I G C := (h.2.2.2.2.2.1).2.2.2.2.2.2.2.1 pc L st Z I G C o n i x h0 h1 h2 h3
theorem s_last (h : aj_Cl oc cc rt ini mc ms X T Q J) {o n : Nat} {i : Int32} {x : Int64} (h0 : decode cc pc = .ok (.lastore, 1)) (h1 : Z.2.1 o = some (.inr (1, n))) (h2 : vp_in i n) (h3 : J (pc + 1) L st Z I (aj_u2 G o i.toNatClampNeg x) C) : J pc L (.long x :: .int i :: .ref o :: st) Z I G C := (h.2.2.2.2.2.1).2.2.2.2.2.2.2.2.1 pc L st Z I G C o n i x h0 h1 h2 h3
theorem s_aast (h : aj_Cl oc cc rt ini mc ms X T Q J) {o n t a ci : Nat} {i : Int32} (h0 : decode cc pc = .ok (.aastore, 1)) (h1 : Z.2.1 o = some (.inr (t, n))) (h2 : (t, ci) ∈ aj_tcs) (h3 : Z.2.1 a = some (.inl ci)) (h4 : vp_in i n) (h5 : J (pc + 1) L st (Z.1, Z.2.1, aj_u2 Z.2.2 o i.toNatClampNeg (.ref a)) I G C) : J pc L (.ref a :: .int i :: .ref o :: st) Z I G C := (h.2.2.2.2.2.1).2.2.2.2.2.2.2.2.2.1 pc L st Z I G C o n t a ci i h0 h1 h2 h3 h4 h5
theorem s_sald (h : aj_Cl oc cc rt ini mc ms X T Q J) {n : Nat} {xs : Nat → Int32} {i : Int32} (h0 : decode cc pc = .ok (.iaload, 1)) (h1 : X = some (n, xs)) (h2 : vp_in i n) (h3 : J (pc + 1) L (.int (xs i.toNatClampNeg) :: st) Z I G C) : J pc L (.int i :: .ref 1 :: st) Z I G C := (h.2.2.2.2.2.1).2.2.2.2.2.2.2.2.2.2.1 pc L st Z I G C n xs i h0 h1 h2 h3
theorem s_slen (h : aj_Cl oc cc rt ini mc ms X T Q J) {n : Nat} {xs : Nat → Int32} (h0 : decode cc pc = .ok (.arraylength, 1)) (h1 : X = some (n, xs)) (h2 : J (pc + 1) L (.int (Int32.ofNat n) :: st) Z I G C) : J pc L (.ref 1 :: st) Z I G C := (h.2.2.2.2.2.1).2.2.2.2.2.2.2.2.2.2.2.1 pc L st Z I G C n xs h0 h1 h2
theorem s_tald (h : aj_Cl oc cc rt ini mc ms X T Q J) {i : Int32} (h0 : decode cc pc = .ok (.iaload, 1)) (h1 : vp_in i aj_gn) (h2 : J (pc + 1) L (.int (aj_gv i.toNatClampNeg) :: st) Z I G C) : J pc L (.int i :: .ref 0 :: st) Z I G C := (h.2.2.2.2.2.1).2.2.2.2.2.2.2.2.2.2.2.2 pc L st Z I G C i h0 h1 h2
theorem s_new (h : aj_Cl oc cc rt ini mc ms X T Q J) {i ci n : Nat} (h0 : (oc, i, ci, n) ∈ aj_lns) (h1 : decode cc pc = .ok (.new i, 3)) (h2 : C.1 + 1 ≤ mc) (h3 : C.2 + n ≤ ms) (h4 : J (pc + 3) L (.ref (Z.1 + 2) :: st) (aj_nZ Z (.inl ci)) (aj_nI Z I) (aj_nG Z G) (C.1 + 1, C.2 + n)) : J pc L st Z I G C := (h.2.2.2.2.2.2.1).1 pc L st Z I G C i ci n h0 h1 h2 h3 h4
theorem s_newa (h : aj_Cl oc cc rt ini mc ms X T Q J) {a : ArrayType} {t n : Nat} {x : Int32} (h0 : (a, t) ∈ aj_pas) (h1 : decode cc pc = .ok (.newarray a, 2)) (h2 : x = nI n) (h3 : n ≤ 2000) (h4 : C.1 + 1 ≤ mc) (h5 : C.2 + n ≤ ms) (h6 : J (pc + 2) L (.ref (Z.1 + 2) :: st) (aj_nZ Z (.inr (t, n))) (aj_nI Z I) (aj_nG Z G) (C.1 + 1, C.2 + n)) : J pc L (.int x :: st) Z I G C := (h.2.2.2.2.2.2.1).2.1 pc L st Z I G C a t n x h0 h1 h2 h3 h4 h5 h6
theorem s_newr (h : aj_Cl oc cc rt ini mc ms X T Q J) {i t n : Nat} {x : Int32} (h0 : (oc, i, t) ∈ aj_las) (h1 : decode cc pc = .ok (.anewarray i, 3)) (h2 : x = nI n) (h3 : n ≤ 2000) (h4 : C.1 + 1 ≤ mc) (h5 : C.2 + n ≤ ms) (h6 : J (pc + 3) L (.ref (Z.1 + 2) :: st) (aj_nZ Z (.inr (t, n))) (aj_nI Z I) (aj_nG Z G) (C.1 + 1, C.2 + n)) : J pc L (.int x :: st) Z I G C := (h.2.2.2.2.2.2.1).2.2.1 pc L st Z I G C i t n x h0 h1 h2 h3 h4 h5 h6
theorem s_objinit (h : aj_Cl oc cc rt ini mc ms X T Q J) {i o : Nat} (h0 : (oc, i) ∈ aj_los) (h1 : decode cc pc = .ok (.invokespecial i, 3)) (h2 : (st.map fun v => v.category).sum ≤ 8) (h3 : J (pc + 3) L st Z I G C) : J pc L (.ref o :: st) Z I G C := (h.2.2.2.2.2.2.1).2.2.2.1 pc L st Z I G C i o h0 h1 h2 h3
theorem s_mmin (h : aj_Cl oc cc rt ini mc ms X T Q J) {i : Nat} {x y : Int32} (h0 : (oc, i, 0) ∈ aj_lxs) (h1 : decode cc pc = .ok (.invokestatic i, 3)) (h2 : (st.map fun v => v.category).sum ≤ 8) (h3 : J (pc + 3) L (.int (if y < x then y else x) :: st) Z I G C) : J pc L (.int y :: .int x :: st) Z I G C := (h.2.2.2.2.2.2.1).2.2.2.2.1 pc L st Z I G C i x y h0 h1 h2 h3
theorem s_mmax (h : aj_Cl oc cc rt ini mc ms X T Q J) {i : Nat} {x y : Int32} (h0 : (oc, i, 1) ∈ aj_lxs) (h1 : decode cc pc = .ok (.invokestatic i, 3)) (h2 : (st.map fun v => v.category).sum ≤ 8) (h3 : J (pc + 3) L (.int (if x < y then y else x) :: st) Z I G C) : J pc L (.int y :: .int x :: st) Z I G C := (h.2.2.2.2.2.2.1).2.2.2.2.2.1 pc L st Z I G C i x y h0 h1 h2 h3
theorem s_mminl (h : aj_Cl oc cc rt ini mc ms X T Q J) {i : Nat} {x y : Int64} (h0 : (oc, i, 2) ∈ aj_lxs) (h1 : decode cc pc = .ok (.invokestatic i, 3)) (h2 : (st.map fun v => v.category).sum ≤ 8) (h3 : J (pc + 3) L (.long (if y < x then y else x) :: st) Z I G C) : J pc L (.long y :: .long x :: st) Z I G C := (h.2.2.2.2.2.2.1).2.2.2.2.2.2 pc L st Z I G C i x y h0 h1 h2 h3
theorem s_callV (h : aj_Cl oc cc rt ini mc ms X T Q J) {i y ci n hh k w o : Nat} {as : List Value} (h0 : (oc, i, y, 0, ci, n, hh) ∈ aj_lms) (h1 : decode cc pc = .ok (.invokevirtual i, 3)) (h2 : as.length = n) (h3 : (st.map fun v => v.category).sum ≤ 8) (h4 : Z.2.1 o = some (.inl ci)) (h5 : (C.1 ≤ mc → C.2 ≤ ms → C.1 + k ≤ mc ∧ C.2 + w ≤ ms)) (h6 : T k w y (.ref o :: as) Z I G (fun r Z1 I1 G1 => J (pc + 3) L (r.toList ++ st) Z1 I1 G1 (C.1 + k, C.2 + w))) : J pc L (as.reverse ++ .ref o :: st) Z I G C := (h.2.2.2.2.2.2.2.1).1 pc L st Z I G C i y ci n hh k w o as h0 h1 h2 h3 h4 h5 h6
theorem s_callS (h : aj_Cl oc cc rt ini mc ms X T Q J) {i y ci n hh k w : Nat} {as : List Value} (h0 : (oc, i, y, 1, ci, n, hh) ∈ aj_lms) (h1 : decode cc pc = .ok (.invokestatic i, 3)) (h2 : as.length = n) (h3 : (st.map fun v => v.category).sum ≤ 8) (h4 : (C.1 ≤ mc → C.2 ≤ ms → C.1 + k ≤ mc ∧ C.2 + w ≤ ms)) (h5 : T k w y as Z I G (fun r Z1 I1 G1 => J (pc + 3) L (r.toList ++ st) Z1 I1 G1 (C.1 + k, C.2 + w))) : J pc L (as.reverse ++ st) Z I G C := (h.2.2.2.2.2.2.2.1).2.1 pc L st Z I G C i y ci n hh k w as h0 h1 h2 h3 h4 h5
theorem s_callI (h : aj_Cl oc cc rt ini mc ms X T Q J) {i y ci n hh k w o : Nat} {as : List Value} (h0 : (oc, i, y, 2, ci, n, hh) ∈ aj_lms) (h1 : decode cc pc = .ok (.invokespecial i, 3)) (h2 : as.length = n) (h3 : (st.map fun v => v.category).sum ≤ 8) (h4 : (C.1 ≤ mc → C.2 ≤ ms → C.1 + k ≤ mc ∧ C.2 + w ≤ ms)) (h5 : T k w y (.ref o :: as) Z I G (fun r Z1 I1 G1 => J (pc + 3) L (r.toList ++ st) Z1 I1 G1 (C.1 + k, C.2 + w))) : J pc L (as.reverse ++ .ref o :: st) Z I G C := (h.2.2.2.2.2.2.2.1).2.2 pc L st Z I G C i y ci n hh k w o as h0 h1 h2 h3 h4 h5
theorem s_iret (h : aj_Cl oc cc rt ini mc ms X T Q J) {ty : FieldType} {v : Int32} (h0 : decode cc pc = .ok (.ireturn, 1)) (h1 : rt = some ty) (h2 : narrow ty (.int v) = .int v) (h3 : Q (some (.int v)) Z I G) : J pc L [.int v] Z I G C := (h.2.2.2.2.2.2.2.2).1 pc L Z I G C ty v h0 h1 h2 h3
theorem s_lret (h : aj_Cl oc cc rt ini mc ms X T Q J) {v : Int64} (h0 : decode cc pc = .ok (.lreturn, 1)) (h1 : rt = some .long) (h2 : Q (some (.long v)) Z I G) : J pc L [.long v] Z I G C := (h.2.2.2.2.2.2.2.2).2.1 pc L Z I G C v h0 h1 h2
theorem s_aret (h : aj_Cl oc cc rt ini mc ms X T Q J) {nm : String} {v : Value} (h0 : decode cc pc = .ok (.areturn, 1)) (h1 : rt = some (.object nm)) (h2 : v = .null ∨ ∃ a, v = .ref a) (h3 : Q (some v) Z I G) : J pc L [v] Z I G C := (h.2.2.2.2.2.2.2.2).2.2.1 pc L Z I G C nm v h0 h1 h2 h3
theorem s_vret (h : aj_Cl oc cc rt ini mc ms X T Q J)  (h0 : decode cc pc = .ok (.return_, 1)) (h1 : rt = none) (h2 : Q none Z I G) : J pc L [] Z I G C := (h.2.2.2.2.2.2.2.2).2.2.2 pc L Z I G C  h0 h1 h2
theorem s_iconst_m1 (h : aj_Cl oc cc rt ini mc ms X T Q J) (h0 : decode cc pc = .ok (.iconst (-1), 1)) (h1 : J (pc + 1) L (.int (-1) :: st) Z I G C) : J pc L st Z I G C := s_iconst h h0 (by decide) h1
theorem s_iconst_0 (h : aj_Cl oc cc rt ini mc ms X T Q J) (h0 : decode cc pc = .ok (.iconst (0), 1)) (h1 : J (pc + 1) L (.int 0 :: st) Z I G C) : J pc L st Z I G C := s_iconst h h0 (by decide) h1
theorem s_iconst_1 (h : aj_Cl oc cc rt ini mc ms X T Q J) (h0 : decode cc pc = .ok (.iconst (1), 1)) (h1 : J (pc + 1) L (.int 1 :: st) Z I G C) : J pc L st Z I G C := s_iconst h h0 (by decide) h1
theorem s_iconst_2 (h : aj_Cl oc cc rt ini mc ms X T Q J) (h0 : decode cc pc = .ok (.iconst (2), 1)) (h1 : J (pc + 1) L (.int 2 :: st) Z I G C) : J pc L st Z I G C := s_iconst h h0 (by decide) h1
theorem s_iconst_3 (h : aj_Cl oc cc rt ini mc ms X T Q J) (h0 : decode cc pc = .ok (.iconst (3), 1)) (h1 : J (pc + 1) L (.int 3 :: st) Z I G C) : J pc L st Z I G C := s_iconst h h0 (by decide) h1
theorem s_iconst_4 (h : aj_Cl oc cc rt ini mc ms X T Q J) (h0 : decode cc pc = .ok (.iconst (4), 1)) (h1 : J (pc + 1) L (.int 4 :: st) Z I G C) : J pc L st Z I G C := s_iconst h h0 (by decide) h1
theorem s_iconst_5 (h : aj_Cl oc cc rt ini mc ms X T Q J) (h0 : decode cc pc = .ok (.iconst (5), 1)) (h1 : J (pc + 1) L (.int 5 :: st) Z I G C) : J pc L st Z I G C := s_iconst h h0 (by decide) h1
theorem s_lconst_0 (h : aj_Cl oc cc rt ini mc ms X T Q J) (h0 : decode cc pc = .ok (.lconst 0, 1)) (h1 : J (pc + 1) L (.long 0 :: st) Z I G C) : J pc L st Z I G C := s_lconst h h0 (by decide) h1
theorem s_lconst_1 (h : aj_Cl oc cc rt ini mc ms X T Q J) (h0 : decode cc pc = .ok (.lconst 1, 1)) (h1 : J (pc + 1) L (.long 1 :: st) Z I G C) : J pc L st Z I G C := s_lconst h h0 (by decide) h1
theorem s_lif_eq (h : aj_Cl oc cc rt ini mc ms X T Q J) {x y : Int64} {off : Int} {tgt : Nat} (h0 : decode cc pc = .ok (.lcmp, 1)) (h1 : decode cc (pc + 1) = .ok (.ifCond .eq off, 3)) (h2 : ((pc + 1 : Nat) : Int) + off = (tgt : Int)) (h3 : x = y → J tgt L st Z I G C) (h4 : ¬ x = y → J (pc + 1 + 3) L st Z I G C) : J pc L (.long y :: .long x :: st) Z I G C := s_lcmp h h0 (s_if_eq h h1 h2 (fun q => h3 ((lg_cmp_eq x y).mp q)) (fun q => h4 (fun z => q ((lg_cmp_eq x y).mpr z))))
theorem s_lif_ne (h : aj_Cl oc cc rt ini mc ms X T Q J) {x y : Int64} {off : Int} {tgt : Nat} (h0 : decode cc pc = .ok (.lcmp, 1)) (h1 : decode cc (pc + 1) = .ok (.ifCond .ne off, 3)) (h2 : ((pc + 1 : Nat) : Int) + off = (tgt : Int)) (h3 : ¬ x = y → J tgt L st Z I G C) (h4 : x = y → J (pc + 1 + 3) L st Z I G C) : J pc L (.long y :: .long x :: st) Z I G C := s_lcmp h h0 (s_if_ne h h1 h2 (fun q => h3 (fun z => q ((lg_cmp_eq x y).mpr z))) (fun q => h4 ((lg_cmp_eq x y).mp q)))
theorem s_lif_lt (h : aj_Cl oc cc rt ini mc ms X T Q J) {x y : Int64} {off : Int} {tgt : Nat} (h0 : decode cc pc = .ok (.lcmp, 1)) (h1 : decode cc (pc + 1) = .ok (.ifCond .lt off, 3)) (h2 : ((pc + 1 : Nat) : Int) + off = (tgt : Int)) (h3 : x < y → J tgt L st Z I G C) (h4 : ¬ x < y → J (pc + 1 + 3) L st Z I G C) : J pc L (.long y :: .long x :: st) Z I G C := s_lcmp h h0 (s_if_lt h h1 h2 (fun q => h3 ((lg_cmp_lt x y).mp q)) (fun q => h4 (fun z => q ((lg_cmp_lt x y).mpr z))))
theorem s_lif_ge (h : aj_Cl oc cc rt ini mc ms X T Q J) {x y : Int64} {off : Int} {tgt : Nat} (h0 : decode cc pc = .ok (.lcmp, 1)) (h1 : decode cc (pc + 1) = .ok (.ifCond .ge off, 3)) (h2 : ((pc + 1 : Nat) : Int) + off = (tgt : Int)) (h3 : y ≤ x → J tgt L st Z I G C) (h4 : ¬ y ≤ x → J (pc + 1 + 3) L st Z I G C) : J pc L (.long y :: .long x :: st) Z I G C := s_lcmp h h0 (s_if_ge h h1 h2 (fun q => h3 ((lg_cmp_ge x y).mp q)) (fun q => h4 (fun z => q ((lg_cmp_ge x y).mpr z))))
theorem s_lif_gt (h : aj_Cl oc cc rt ini mc ms X T Q J) {x y : Int64} {off : Int} {tgt : Nat} (h0 : decode cc pc = .ok (.lcmp, 1)) (h1 : decode cc (pc + 1) = .ok (.ifCond .gt off, 3)) (h2 : ((pc + 1 : Nat) : Int) + off = (tgt : Int)) (h3 : y < x → J tgt L st Z I G C) (h4 : ¬ y < x → J (pc + 1 + 3) L st Z I G C) : J pc L (.long y :: .long x :: st) Z I G C := s_lcmp h h0 (s_if_gt h h1 h2 (fun q => h3 ((lg_cmp_gt x y).mp q)) (fun q => h4 (fun z => q ((lg_cmp_gt x y).mpr z))))
theorem s_lif_le (h : aj_Cl oc cc rt ini mc ms X T Q J) {x y : Int64} {off : Int} {tgt : Nat} (h0 : decode cc pc = .ok (.lcmp, 1)) (h1 : decode cc (pc + 1) = .ok (.ifCond .le off, 3)) (h2 : ((pc + 1 : Nat) : Int) + off = (tgt : Int)) (h3 : x ≤ y → J tgt L st Z I G C) (h4 : ¬ x ≤ y → J (pc + 1 + 3) L st Z I G C) : J pc L (.long y :: .long x :: st) Z I G C := s_lcmp h h0 (s_if_le h h1 h2 (fun q => h3 ((lg_cmp_le x y).mp q)) (fun q => h4 (fun z => q ((lg_cmp_le x y).mpr z))))
theorem s_V0 (h : aj_Cl oc cc rt ini mc ms X T Q J) {i y ci n hh o : Nat} (h0 : (oc, i, y, 0, ci, 0, hh) ∈ aj_lms) (h1 : decode cc pc = .ok (.invokevirtual i, 3)) (h2 : (st.map fun v => v.category).sum ≤ 8) (h3 : Z.2.1 o = some (.inl ci)) (h4 : T 0 0 y (.ref o :: []) Z I G (fun r Z1 I1 G1 => J (pc + 3) L (r.toList ++ st) Z1 I1 G1 C)) : J pc L (.ref o :: st) Z I G C := s_callV h (k := 0) (w := 0) (as := []) h0 h1 rfl h2 h3 (fun a b => ⟨a, b⟩) h4
theorem s_S0 (h : aj_Cl oc cc rt ini mc ms X T Q J) {i y ci hh : Nat} (h0 : (oc, i, y, 1, ci, 0, hh) ∈ aj_lms) (h1 : decode cc pc = .ok (.invokestatic i, 3)) (h2 : (st.map fun v => v.category).sum ≤ 8) (h4 : T 0 0 y [] Z I G (fun r Z1 I1 G1 => J (pc + 3) L (r.toList ++ st) Z1 I1 G1 C)) : J pc L (st) Z I G C := s_callS h (k := 0) (w := 0) (as := []) h0 h1 rfl h2 (fun a b => ⟨a, b⟩) h4
theorem s_V1 (h : aj_Cl oc cc rt ini mc ms X T Q J) {i y ci n hh o : Nat} {a1 : Value} (h0 : (oc, i, y, 0, ci, 1, hh) ∈ aj_lms) (h1 : decode cc pc = .ok (.invokevirtual i, 3)) (h2 : (st.map fun v => v.category).sum ≤ 8) (h3 : Z.2.1 o = some (.inl ci)) (h4 : T 0 0 y (.ref o :: a1 :: []) Z I G (fun r Z1 I1 G1 => J (pc + 3) L (r.toList ++ st) Z1 I1 G1 C)) : J pc L (a1 :: .ref o :: st) Z I G C := s_callV h (k := 0) (w := 0) (as := [a1]) h0 h1 rfl h2 h3 (fun a b => ⟨a, b⟩) h4
theorem s_S1 (h : aj_Cl oc cc rt ini mc ms X T Q J) {i y ci hh : Nat} {a1 : Value} (h0 : (oc, i, y, 1, ci, 1, hh) ∈ aj_lms) (h1 : decode cc pc = .ok (.invokestatic i, 3)) (h2 : (st.map fun v => v.category).sum ≤ 8) (h4 : T 0 0 y [a1] Z I G (fun r Z1 I1 G1 => J (pc + 3) L (r.toList ++ st) Z1 I1 G1 C)) : J pc L (a1 :: st) Z I G C := s_callS h (k := 0) (w := 0) (as := [a1]) h0 h1 rfl h2 (fun a b => ⟨a, b⟩) h4
theorem s_V2 (h : aj_Cl oc cc rt ini mc ms X T Q J) {i y ci n hh o : Nat} {a1 a2 : Value} (h0 : (oc, i, y, 0, ci, 2, hh) ∈ aj_lms) (h1 : decode cc pc = .ok (.invokevirtual i, 3)) (h2 : (st.map fun v => v.category).sum ≤ 8) (h3 : Z.2.1 o = some (.inl ci)) (h4 : T 0 0 y (.ref o :: a1 :: a2 :: []) Z I G (fun r Z1 I1 G1 => J (pc + 3) L (r.toList ++ st) Z1 I1 G1 C)) : J pc L (a2 :: a1 :: .ref o :: st) Z I G C := s_callV h (k := 0) (w := 0) (as := [a1, a2]) h0 h1 rfl h2 h3 (fun a b => ⟨a, b⟩) h4
theorem s_S2 (h : aj_Cl oc cc rt ini mc ms X T Q J) {i y ci hh : Nat} {a1 a2 : Value} (h0 : (oc, i, y, 1, ci, 2, hh) ∈ aj_lms) (h1 : decode cc pc = .ok (.invokestatic i, 3)) (h2 : (st.map fun v => v.category).sum ≤ 8) (h4 : T 0 0 y [a1, a2] Z I G (fun r Z1 I1 G1 => J (pc + 3) L (r.toList ++ st) Z1 I1 G1 C)) : J pc L (a2 :: a1 :: st) Z I G C := s_callS h (k := 0) (w := 0) (as := [a1, a2]) h0 h1 rfl h2 (fun a b => ⟨a, b⟩) h4
theorem s_V3 (h : aj_Cl oc cc rt ini mc ms X T Q J) {i y ci n hh o : Nat} {a1 a2 a3 : Value} (h0 : (oc, i, y, 0, ci, 3, hh) ∈ aj_lms) (h1 : decode cc pc = .ok (.invokevirtual i, 3)) (h2 : (st.map fun v => v.category).sum ≤ 8) (h3 : Z.2.1 o = some (.inl ci)) (h4 : T 0 0 y (.ref o :: a1 :: a2 :: a3 :: []) Z I G (fun r Z1 I1 G1 => J (pc + 3) L (r.toList ++ st) Z1 I1 G1 C)) : J pc L (a3 :: a2 :: a1 :: .ref o :: st) Z I G C := s_callV h (k := 0) (w := 0) (as := [a1, a2, a3]) h0 h1 rfl h2 h3 (fun a b => ⟨a, b⟩) h4
theorem s_S3 (h : aj_Cl oc cc rt ini mc ms X T Q J) {i y ci hh : Nat} {a1 a2 a3 : Value} (h0 : (oc, i, y, 1, ci, 3, hh) ∈ aj_lms) (h1 : decode cc pc = .ok (.invokestatic i, 3)) (h2 : (st.map fun v => v.category).sum ≤ 8) (h4 : T 0 0 y [a1, a2, a3] Z I G (fun r Z1 I1 G1 => J (pc + 3) L (r.toList ++ st) Z1 I1 G1 C)) : J pc L (a3 :: a2 :: a1 :: st) Z I G C := s_callS h (k := 0) (w := 0) (as := [a1, a2, a3]) h0 h1 rfl h2 (fun a b => ⟨a, b⟩) h4
theorem s_V4 (h : aj_Cl oc cc rt ini mc ms X T Q J) {i y ci n hh o : Nat} {a1 a2 a3 a4 : Value} (h0 : (oc, i, y, 0, ci, 4, hh) ∈ aj_lms) (h1 : decode cc pc = .ok (.invokevirtual i, 3)) (h2 : (st.map fun v => v.category).sum ≤ 8) (h3 : Z.2.1 o = some (.inl ci)) (h4 : T 0 0 y (.ref o :: a1 :: a2 :: a3 :: a4 :: []) Z I G (fun r Z1 I1 G1 => J (pc + 3) L (r.toList ++ st) Z1 I1 G1 C)) : J pc L (a4 :: a3 :: a2 :: a1 :: .ref o :: st) Z I G C := s_callV h (k := 0) (w := 0) (as := [a1, a2, a3, a4]) h0 h1 rfl h2 h3 (fun a b => ⟨a, b⟩) h4
theorem s_S4 (h : aj_Cl oc cc rt ini mc ms X T Q J) {i y ci hh : Nat} {a1 a2 a3 a4 : Value} (h0 : (oc, i, y, 1, ci, 4, hh) ∈ aj_lms) (h1 : decode cc pc = .ok (.invokestatic i, 3)) (h2 : (st.map fun v => v.category).sum ≤ 8) (h4 : T 0 0 y [a1, a2, a3, a4] Z I G (fun r Z1 I1 G1 => J (pc + 3) L (r.toList ++ st) Z1 I1 G1 C)) : J pc L (a4 :: a3 :: a2 :: a1 :: st) Z I G C := s_callS h (k := 0) (w := 0) (as := [a1, a2, a3, a4]) h0 h1 rfl h2 (fun a b => ⟨a, b⟩) h4
theorem s_I0 (h : aj_Cl oc cc rt ini mc ms X T Q J) {i y ci hh k w o : Nat} (h0 : (oc, i, y, 2, ci, 0, hh) ∈ aj_lms) (h1 : decode cc pc = .ok (.invokespecial i, 3)) (h2 : (st.map fun v => v.category).sum ≤ 8) (h3 : C.1 ≤ mc → C.2 ≤ ms → C.1 + k ≤ mc ∧ C.2 + w ≤ ms) (h4 : T k w y (.ref o :: []) Z I G (fun r Z1 I1 G1 => J (pc + 3) L (r.toList ++ st) Z1 I1 G1 (C.1 + k, C.2 + w))) : J pc L (.ref o :: st) Z I G C := s_callI h (as := []) h0 h1 rfl h2 h3 h4
theorem s_I1 (h : aj_Cl oc cc rt ini mc ms X T Q J) {i y ci hh k w o : Nat} {a1 : Value} (h0 : (oc, i, y, 2, ci, 1, hh) ∈ aj_lms) (h1 : decode cc pc = .ok (.invokespecial i, 3)) (h2 : (st.map fun v => v.category).sum ≤ 8) (h3 : C.1 ≤ mc → C.2 ≤ ms → C.1 + k ≤ mc ∧ C.2 + w ≤ ms) (h4 : T k w y (.ref o :: a1 :: []) Z I G (fun r Z1 I1 G1 => J (pc + 3) L (r.toList ++ st) Z1 I1 G1 (C.1 + k, C.2 + w))) : J pc L (a1 :: .ref o :: st) Z I G C := s_callI h (as := [a1]) h0 h1 rfl h2 h3 h4
theorem s_I2 (h : aj_Cl oc cc rt ini mc ms X T Q J) {i y ci hh k w o : Nat} {a1 a2 : Value} (h0 : (oc, i, y, 2, ci, 2, hh) ∈ aj_lms) (h1 : decode cc pc = .ok (.invokespecial i, 3)) (h2 : (st.map fun v => v.category).sum ≤ 8) (h3 : C.1 ≤ mc → C.2 ≤ ms → C.1 + k ≤ mc ∧ C.2 + w ≤ ms) (h4 : T k w y (.ref o :: a1 :: a2 :: []) Z I G (fun r Z1 I1 G1 => J (pc + 3) L (r.toList ++ st) Z1 I1 G1 (C.1 + k, C.2 + w))) : J pc L (a2 :: a1 :: .ref o :: st) Z I G C := s_callI h (as := [a1, a2]) h0 h1 rfl h2 h3 h4
theorem s_ialdN (h : aj_Cl oc cc rt ini mc ms X T Q J) {o n : Nat} {i : Int32} (k : Nat) (hi : i = nI k) (hk : k < n) (hn : n < 2 ^ 31) (h0 : decode cc pc = .ok (.iaload, 1)) (h1 : Z.2.1 o = some (.inr (0, n))) (h2 : J (pc + 1) L (.int (I o k) :: st) Z I G C) : J pc L (.int i :: .ref o :: st) Z I G C := s_iald h h0 h1 (by rw [hi]; exact vp_in_nI hk hn) (by subst hi; rw [nI_clamp (Nat.lt_trans hk hn)]; exact h2)
theorem s_laldN (h : aj_Cl oc cc rt ini mc ms X T Q J) {o n : Nat} {i : Int32} (k : Nat) (hi : i = nI k) (hk : k < n) (hn : n < 2 ^ 31) (h0 : decode cc pc = .ok (.laload, 1)) (h1 : Z.2.1 o = some (.inr (1, n))) (h2 : J (pc + 1) L (.long (G o k) :: st) Z I G C) : J pc L (.int i :: .ref o :: st) Z I G C := s_lald h h0 h1 (by rw [hi]; exact vp_in_nI hk hn) (by subst hi; rw [nI_clamp (Nat.lt_trans hk hn)]; exact h2)
theorem s_baldN (h : aj_Cl oc cc rt ini mc ms X T Q J) {o n : Nat} {i : Int32} (k : Nat) (hi : i = nI k) (hk : k < n) (hn : n < 2 ^ 31) (h0 : decode cc pc = .ok (.baload, 1)) (h1 : Z.2.1 o = some (.inr (2, n))) (h2 : J (pc + 1) L (.int (I o k) :: st) Z I G C) : J pc L (.int i :: .ref o :: st) Z I G C := s_bald h h0 h1 (by rw [hi]; exact vp_in_nI hk hn) (by subst hi; rw [nI_clamp (Nat.lt_trans hk hn)]; exact h2)
theorem s_zaldN (h : aj_Cl oc cc rt ini mc ms X T Q J) {o n : Nat} {i : Int32} (k : Nat) (hi : i = nI k) (hk : k < n) (hn : n < 2 ^ 31) (h0 : decode cc pc = .ok (.baload, 1)) (h1 : Z.2.1 o = some (.inr (3, n))) (h2 : J (pc + 1) L (.int (I o k) :: st) Z I G C) : J pc L (.int i :: .ref o :: st) Z I G C := s_zald h h0 h1 (by rw [hi]; exact vp_in_nI hk hn) (by subst hi; rw [nI_clamp (Nat.lt_trans hk hn)]; exact h2)
end AJR
end
section
/-! The rules are sound over the machine: objects lie behind each other from bs on; number 0 is the static table, number 1 the script. -/
def aj_ca (bs aS b : Nat) : Nat → Nat
  | 0 => aS
  | 1 => b
  | k + 2 => bs + k
def aj_cv (f : Nat → Nat) : Value → Value
  | .ref k => .ref (f k)
  | v => v
theorem aj_cv_cat (f : Nat → Nat) (v : Value) : (aj_cv f v).category = v.category := by cases v <;> rfl
theorem aj_cats (f : Nat → Nat) (st : List Value) : ((st.map (aj_cv f)).map fun v => v.category).sum = (st.map fun v => v.category).sum := by
  induction st with
  | nil => rfl
  | cons a l ih => simp only [List.map_cons, List.sum_cons, ih, aj_cv_cat]
def aj_tv (Z : aj_Z) (I : aj_I) (G : aj_G) (t o k : Nat) : Value := if t = 1 then .long (G o k) else if t < 4 then .int (I o k) else Z.2.2 o k
def aj_dc (d : String) : Nat := if d = "I" then 0 else if d = "J" then 1 else if d = "B" then 2 else if d = "Z" then 3 else 4
def aj_ck (D : va_G) (kA : Nat → ClassId) (f : Nat → Nat) (Z : aj_Z) (I : aj_I) (G : aj_G) (H : Heap) (o : Nat) : Prop := match Z.2.1 o with
  | none => True
  | some (.inl ci) => ∃ r : vw_C, aj_cl[ci]? = some r ∧ t_OB (f o) (D.1 ci) r.2.2 (D.2 ci) H (fun k => aj_cv f (aj_tv Z I G (aj_dc (r.2.1 k).2.2.1) o k))
  | some (.inr (t, n)) => H[f o]? = some (arrV (kA t) n (fun k => aj_cv f (aj_tv Z I G t o k)))
def aj_tys (kA : Nat → ClassId) : List (ClassId × FieldType) := (List.range aj_nt).map (fun t => (kA t, aj_at t))
def aj_kw (D : va_G) (kA : Nat → ClassId) (bs aS : Nat) (U : State) (H : Heap) : Prop :=
  va_K D aj_cl (aj_tys kA) U ∧ (∀ w ∈ aj_nw, va_Nw w U) ∧ (∀ C ∈ aj_ao, va_AO C U) ∧ va_Z aj_gc aj_gf "[I" (.ref aS) (fun q => bs ≤ q) U H ∧ va_T .int aS aj_gn (fun j => .int (aj_gv j)) (fun q => bs ≤ q) U H
def aj_iw (D : va_G) (kA : Nat → ClassId) (bs aS b : Nat) (Z : aj_Z) (I : aj_I) (G : aj_G) (H : Heap) : Prop :=
  H.size = bs + Z.1 ∧ (∀ o, Z.2.1 o ≠ none → 2 ≤ o ∧ o < Z.1 + 2) ∧ ∀ o, aj_ck D kA (aj_ca bs aS b) Z I G H o
def aj_in (D : va_G) (kA : Nat → ClassId) (bs aS b : Nat) (Z : aj_Z) (I : aj_I) (G : aj_G) (H0 H : Heap) (locs : List Loc) : Prop :=
  aj_iw D kA bs aS b Z I G H ∧ va_S (fun q => bs ≤ q) H0 H locs
theorem aj_ca_lt {bs aS b o : Nat} (h : 2 ≤ o) : aj_ca bs aS b o = bs + (o - 2) := by
  obtain ⟨k, rfl⟩ : ∃ k, o = k + 2 := ⟨o - 2, by omega⟩
  rfl
theorem aj_tv_int {Z : aj_Z} {I : aj_I} {G : aj_G} {t o k : Nat} (h1 : t ≠ 1) (h : t < 4) : aj_tv Z I G t o k = .int (I o k) := by
  unfold aj_tv; rw [if_neg h1, if_pos h]
theorem aj_tv_ref {Z : aj_Z} {I : aj_I} {G : aj_G} {t o k : Nat} (h : 4 ≤ t) : aj_tv Z I G t o k = Z.2.2 o k := by
  unfold aj_tv; rw [if_neg (by omega), if_neg (by omega)]
theorem aj_up_ne {α : Type} {f : Nat → α} {k j : Nat} {v : α} (h : j ≠ k) : va_up f k v j = f j := by simp [va_up, h]
theorem aj_up_eq {α : Type} {f : Nat → α} {k : Nat} {v : α} : va_up f k v k = v := by simp [va_up]
theorem aj_ck_obj {D : va_G} {kA : Nat → ClassId} {f : Nat → Nat} {Z : aj_Z} {I : aj_I} {G : aj_G} {H : Heap} {o ci : Nat} (h : aj_ck D kA f Z I G H o) (hk : Z.2.1 o = some (.inl ci)) :
    ∃ r : vw_C, aj_cl[ci]? = some r ∧ t_OB (f o) (D.1 ci) r.2.2 (D.2 ci) H (fun k => aj_cv f (aj_tv Z I G (aj_dc (r.2.1 k).2.2.1) o k)) := by
  unfold aj_ck at h; rw [hk] at h; exact h
theorem aj_ck_arr {D : va_G} {kA : Nat → ClassId} {f : Nat → Nat} {Z : aj_Z} {I : aj_I} {G : aj_G} {H : Heap} {o t n : Nat} (h : aj_ck D kA f Z I G H o) (hk : Z.2.1 o = some (.inr (t, n))) :
    H[f o]? = some (arrV (kA t) n (fun k => aj_cv f (aj_tv Z I G t o k))) := by
  unfold aj_ck at h; rw [hk] at h; exact h
theorem aj_ck_of_obj {D : va_G} {kA : Nat → ClassId} {f : Nat → Nat} {Z : aj_Z} {I : aj_I} {G : aj_G} {H : Heap} {o ci : Nat} (hk : Z.2.1 o = some (.inl ci))
    (h : ∃ r : vw_C, aj_cl[ci]? = some r ∧ t_OB (f o) (D.1 ci) r.2.2 (D.2 ci) H (fun k => aj_cv f (aj_tv Z I G (aj_dc (r.2.1 k).2.2.1) o k))) : aj_ck D kA f Z I G H o := by
  unfold aj_ck; rw [hk]; exact h
theorem aj_ck_of_arr {D : va_G} {kA : Nat → ClassId} {f : Nat → Nat} {Z : aj_Z} {I : aj_I} {G : aj_G} {H : Heap} {o t n : Nat} (hk : Z.2.1 o = some (.inr (t, n)))
    (h : H[f o]? = some (arrV (kA t) n (fun k => aj_cv f (aj_tv Z I G t o k)))) : aj_ck D kA f Z I G H o := by
  unfold aj_ck; rw [hk]; exact h
/-- a cell that nobody touched, in a store that is the same at it -/
theorem aj_ck_kept {D : va_G} {kA : Nat → ClassId} {f : Nat → Nat} {Z Z1 : aj_Z} {I I1 : aj_I} {G G1 : aj_G} {H H1 : Heap} {o : Nat} (h : aj_ck D kA f Z I G H o) (hk : Z1.2.1 o = Z.2.1 o) (hv : ∀ t k, aj_tv Z1 I1 G1 t o k = aj_tv Z I G t o k) (hq : Z.2.1 o ≠ none → H1[f o]? = H[f o]?) : aj_ck D kA f Z1 I1 G1 H1 o := by
  cases hz : Z.2.1 o with
  | none => unfold aj_ck; rw [hk, hz]; trivial
  | some kd =>
    have hq := hq (by rw [hz]; exact fun q => by cases q)
    cases kd with
    | inl ci =>
      obtain ⟨r, h1, h2⟩ := aj_ck_obj h hz
      exact aj_ck_of_obj (hk.trans hz) ⟨r, h1, (h2.kept hq).to (fun k _ => by rw [hv])⟩
    | inr tn =>
      obtain ⟨t, n⟩ := tn
      refine aj_ck_of_arr (hk.trans hz) ?_
      rw [hq, aj_ck_arr h hz]
      congr 2
      funext k
      rw [hv]
theorem aj_in_set {D : va_G} {kA : Nat → ClassId} {bs aS b : Nat} {Z Z1 : aj_Z} {I I1 : aj_I} {G G1 : aj_G} {H0 H H1 : Heap} {locs : List Loc} {o i : Nat} (hi : aj_in D kA bs aS b Z I G H0 H locs) (hk : Z.2.1 o ≠ none) (h1 : Z1.1 = Z.1) (h2 : Z1.2.1 = Z.2.1) (hv : ∀ q, q ≠ o → ∀ t k, aj_tv Z1 I1 G1 t q k = aj_tv Z I G t q k)
    (hz : H1.size = H.size) (hq : ∀ q, q ≠ aj_ca bs aS b o → H1[q]? = H[q]?) (hc : aj_ck D kA (aj_ca bs aS b) Z1 I1 G1 H1 o) : aj_in D kA bs aS b Z1 I1 G1 H0 H1 (locs ++ [⟨aj_ca bs aS b o, i⟩]) := by
  obtain ⟨⟨a1, a2, a3⟩, a4⟩ := hi
  have ho := a2 o hk
  refine ⟨⟨by rw [hz, h1]; exact a1, fun q hq2 => by rw [h1]; exact a2 q (by rw [← h2]; exact hq2), fun q => ?_⟩, a4.put hz hq (by rw [aj_ca_lt ho.1]; exact Nat.le_add_right _ _)⟩
  by_cases hqo : q = o
  · rw [hqo]; exact hc
  · refine aj_ck_kept (a3 q) (by rw [h2]) (hv q hqo) (fun hn => hq _ ?_)
    have hq2 := a2 q hn
    rw [aj_ca_lt hq2.1, aj_ca_lt ho.1]
    omega
/-- a new cell behind all others -/
theorem aj_in_new {D : va_G} {kA : Nat → ClassId} {bs aS b : Nat} {Z : aj_Z} {I : aj_I} {G : aj_G} {H0 H H1 : Heap} {locs : List Loc} {kd : aj_K} (hi : aj_in D kA bs aS b Z I G H0 H locs)
    (hz : H1.size = H.size + 1) (hq : ∀ q, q < H.size → H1[q]? = H[q]?) (hc : aj_ck D kA (aj_ca bs aS b) (aj_nZ Z kd) (aj_nI Z I) (aj_nG Z G) H1 (Z.1 + 2)) : aj_in D kA bs aS b (aj_nZ Z kd) (aj_nI Z I) (aj_nG Z G) H0 H1 locs := by
  obtain ⟨⟨a1, a2, a3⟩, a4⟩ := hi
  refine ⟨⟨by rw [hz, a1]; rfl, fun q hn => ?_, fun q => ?_⟩, ⟨Nat.le_trans a4.1 (by omega), fun q g1 g2 => (hq q (Nat.lt_of_lt_of_le g1 a4.1)).trans (a4.2.1 q g1 g2), a4.2.2⟩⟩
  · by_cases hqo : q = Z.1 + 2
    · subst hqo
      exact ⟨by omega, by show Z.1 + 2 < Z.1 + 1 + 2; omega⟩
    · have hn2 : Z.2.1 q ≠ none := by
        have e : va_up Z.2.1 (Z.1 + 2) (some kd) q = Z.2.1 q := aj_up_ne hqo
        rw [← e]; exact hn
      have := a2 q hn2
      exact ⟨this.1, by show q < Z.1 + 1 + 2; omega⟩
  · by_cases hqo : q = Z.1 + 2
    · rw [hqo]; exact hc
    · refine aj_ck_kept (a3 q) (aj_up_ne hqo) (fun t k => ?_) (fun hn => hq _ ?_)
      · have e1 : aj_nI Z I q = I q := aj_up_ne hqo
        have e2 : aj_nG Z G q = G q := aj_up_ne hqo
        have e3 : (aj_nZ Z kd).2.2 q = Z.2.2 q := aj_up_ne hqo
        unfold aj_tv
        rw [e1, e2, e3]
      · have hq2 := a2 q hn
        rw [aj_ca_lt hq2.1, a1]
        omega
/-! locals -/
def aj_as (f : Nat → Nat) (L : aj_L) : List (Nat × Value) := (List.range L.length).filterMap (fun i => match L[i]? with
  | some (some v) => some (i, aj_cv f v)
  | _ => none)
theorem aj_as_mem {f : Nat → Nat} {L : aj_L} {i : Nat} {w : Value} : (i, w) ∈ aj_as f L ↔ ∃ v, L[i]? = some (some v) ∧ w = aj_cv f v := by
  unfold aj_as
  rw [List.mem_filterMap]
  constructor
  · rintro ⟨j, -, he⟩
    split at he
    next v hv =>
      cases he
      exact ⟨v, hv, rfl⟩
    next => cases he
  · rintro ⟨v, hv, rfl⟩
    refine ⟨i, List.mem_range.mpr (List.getElem?_eq_some_iff.mp hv).1, ?_⟩
    rw [hv]
def aj_lr (f : Nat → Nat) (ls : Array Slot) (nL : Nat) (L : aj_L) : Prop := ls.size = nL ∧ lv_wf ls ∧ L.length = nL ∧ ∀ (i : Nat) (v : Value), L[i]? = some (some v) → ls[i]? = some (.val (aj_cv f v))
theorem aj_lr.has {f : Nat → Nat} {ls : Array Slot} {nL : Nat} {L : aj_L} (h : aj_lr f ls nL L) : lv_has ls nL (aj_as f L) := by
  refine ⟨h.1, h.2.1, fun q hq => ?_⟩
  obtain ⟨i, w⟩ := q
  obtain ⟨v, h1, h2⟩ := aj_as_mem.mp hq
  rw [h2]
  exact h.2.2.2 _ _ h1
theorem aj_lr.of {f : Nat → Nat} {ls : Array Slot} {nL : Nat} {L : aj_L} {l : List (Nat × Value)} (h : lv_has ls nL l) (hL : L.length = nL) (hm : ∀ (i : Nat) (v : Value), L[i]? = some (some v) → (i, aj_cv f v) ∈ l) : aj_lr f ls nL L :=
  ⟨h.1, h.2.1, hL, fun i v hv => h.2.2 (i, aj_cv f v) (hm i v hv)⟩
theorem aj_st1_len : ∀ (L : aj_L) (i : Nat) (v : Value), (aj_st1 L i v).length = L.length
  | [], _, _ => rfl
  | _ :: _, 0, _ => rfl
  | _ :: L, i + 1, v => by simp only [aj_st1, List.length_cons, aj_st1_len L i v]
theorem aj_st1_get : ∀ (L : aj_L) (i : Nat) (v : Value) (j : Nat), (aj_st1 L i v)[j]? = some (some v) ∧ j = i ∨ j ≠ i ∧ (aj_st1 L i v)[j]? = (L[j]?).map (fun a => if j + 1 = i then aj_clr a else a) ∨ j = i ∧ L.length ≤ i ∧ (aj_st1 L i v)[j]? = none
  | [], i, v, j => by
    by_cases h : j = i
    · exact Or.inr (Or.inr ⟨h, Nat.zero_le _, by simp [aj_st1]⟩)
    · exact Or.inr (Or.inl ⟨h, by simp [aj_st1]⟩)
  | a :: L, 0, v, 0 => Or.inl ⟨rfl, rfl⟩
  | a :: L, 0, v, j + 1 => Or.inr (Or.inl ⟨by omega, by simp [aj_st1]⟩)
  | a :: L, i + 1, v, 0 => by
    refine Or.inr (Or.inl ⟨by omega, ?_⟩)
    cases i with
    | zero => simp [aj_st1, aj_cl0]
    | succ i => simp [aj_st1, aj_cl0]
  | a :: L, i + 1, v, j + 1 => by
    have e1 : (aj_st1 (a :: L) (i + 1) v)[j + 1]? = (aj_st1 L i v)[j]? := by simp [aj_st1]
    have e2 : (a :: L)[j + 1]? = L[j]? := by simp
    rcases aj_st1_get L i v j with ⟨h1, h2⟩ | ⟨h1, h2⟩ | ⟨h1, h2, h3⟩
    · exact Or.inl ⟨by rw [e1]; exact h1, by omega⟩
    · refine Or.inr (Or.inl ⟨by omega, ?_⟩)
      rw [e1, e2, h2]
      have : (j + 1 + 1 = i + 1) = (j + 1 = i) := by simp
      simp only [this]
    · exact Or.inr (Or.inr ⟨by omega, by simp only [List.length_cons]; omega, by rw [e1]; exact h3⟩)
theorem aj_clr_val {a : Option Value} {v : Value} (h : aj_clr a = some v) : a = some v ∧ v.category = 1 := by
  unfold aj_clr at h
  split at h
  · cases h
  · cases h
  · next x h1 h2 =>
    subst h
    refine ⟨rfl, ?_⟩
    cases v with
    | long x => exact absurd rfl (h1 x)
    | double x => exact absurd rfl (h2 x)
    | _ => rfl
theorem aj_nn_len : ∀ (L : aj_L) (i : Nat), (aj_nn L i).length = L.length
  | [], _ => rfl
  | _ :: _, 0 => rfl
  | _ :: L, i + 1 => by simp only [aj_nn, List.length_cons, aj_nn_len L i]
theorem aj_nn_get : ∀ (L : aj_L) (i j : Nat) (v : Value), (aj_nn L i)[j]? = some (some v) → j ≠ i ∧ L[j]? = some (some v)
  | [], i, j, v, h => by simp [aj_nn] at h
  | a :: L, 0, 0, v, h => by simp [aj_nn] at h
  | a :: L, 0, j + 1, v, h => ⟨by omega, by simpa [aj_nn] using h⟩
  | a :: L, i + 1, 0, v, h => ⟨by omega, by simpa [aj_nn] using h⟩
  | a :: L, i + 1, j + 1, v, h => by
    have := aj_nn_get L i j v (by simpa [aj_nn] using h)
    exact ⟨by omega, by simpa using this.2⟩
theorem aj_st1_val {L : aj_L} {i j : Nat} {v w : Value} (h : (aj_st1 L i v)[j]? = some (some w)) : (j = i ∧ w = v) ∨ (j ≠ i ∧ L[j]? = some (some w) ∧ (j + 1 = i → w.category = 1)) := by
  rcases aj_st1_get L i v j with ⟨h1, h2⟩ | ⟨h1, h2⟩ | ⟨h1, h2, h3⟩
  · rw [h1] at h
    exact Or.inl ⟨h2, by simpa using h.symm⟩
  · rw [h2] at h
    refine Or.inr ⟨h1, ?_⟩
    cases hL : L[j]? with
    | none => rw [hL] at h; simp at h
    | some a =>
      rw [hL] at h
      simp only [Option.map_some, Option.some.injEq] at h
      by_cases hji : j + 1 = i
      · rw [if_pos hji] at h
        have := aj_clr_val h
        exact ⟨by rw [this.1], fun _ => this.2⟩
      · rw [if_neg hji] at h
        exact ⟨by rw [h], fun q => absurd q hji⟩
  · rw [h3] at h; cases h
theorem aj_lr.st1 {f : Nat → Nat} {ls ls' : Array Slot} {nL i : Nat} {L : aj_L} {v : Value} (hl : aj_lr f ls nL L) (h' : lv_has ls' nL ((i, aj_cv f v) :: (aj_as f L).filter (fun q => !(q.1 == i) && !(q.1 + 1 == i && q.2.category == 2)))) : aj_lr f ls' nL (aj_st1 L i v) := by
  refine aj_lr.of h' (by rw [aj_st1_len]; exact hl.2.2.1) (fun j w hw => ?_)
  rcases aj_st1_val hw with ⟨rfl, rfl⟩ | ⟨h1, h2, h3⟩
  · exact List.mem_cons_self
  · refine List.mem_cons_of_mem _ (List.mem_filter.mpr ⟨aj_as_mem.mpr ⟨w, h2, rfl⟩, ?_⟩)
    by_cases hji : j + 1 = i
    · simp [h1, hji, aj_cv_cat, h3 hji]
    · simp [h1, hji]
theorem aj_lr.st2 {f : Nat → Nat} {ls ls' : Array Slot} {nL i : Nat} {L : aj_L} {v : Value} (hl : aj_lr f ls nL L) (h' : lv_has ls' nL ((i, aj_cv f v) :: (aj_as f L).filter (fun q => !(q.1 == i) && (!(q.1 == i + 1) && !(q.1 + 1 == i && q.2.category == 2))))) : aj_lr f ls' nL (aj_st2 L i v) := by
  refine aj_lr.of h' (by unfold aj_st2; rw [aj_nn_len, aj_st1_len]; exact hl.2.2.1) (fun j w hw => ?_)
  obtain ⟨g1, g2⟩ := aj_nn_get _ _ _ _ hw
  rcases aj_st1_val g2 with ⟨rfl, rfl⟩ | ⟨h1, h2, h3⟩
  · exact List.mem_cons_self
  · refine List.mem_cons_of_mem _ (List.mem_filter.mpr ⟨aj_as_mem.mpr ⟨w, h2, rfl⟩, ?_⟩)
    by_cases hji : j + 1 = i
    · simp [h1, g1, hji, aj_cv_cat, h3 hji]
    · simp [h1, g1, hji]
/-! the frame at hand -/
def aj_fx (D : va_G) (kA : Nat → ClassId) (bs aS : Nat) (p : Program) (s : State) (m : MethodId) (args : Array Value) (c : Code) (nL oc : Nat) (cc : ByteArray) : Prop :=
  p.tables.exec = Jvm.exec ∧ c.code = cc ∧ c.maxLocals = nL ∧ s.vm.findClass (aj_nm oc) = some m.cls ∧ (∀ w ∈ aj_ws, w.before args s = true) ∧ aj_kw D kA bs aS s s.heap ∧ bs ≤ s.heap.size
def aj_jm (D : va_G) (kA : Nat → ClassId) (bs aS b : Nat) (p : Program) (l : Launch) (e : Env) (R : Room) (s : State) (m : MethodId) (args : Array Value) (below : List Frame) (meth : Method) (c : Code) (Q : State → Prop) (nL mc ms : Nat) : aj_J := fun pc L st Z I G C =>
  C.1 ≤ mc → C.2 ≤ ms → ∀ (ls : Array Slot) (H : Heap) (locs : List Loc), aj_lr (aj_ca bs aS b) ls nL L → aj_in D kA bs aS b Z I G s.heap H locs → W p l e R s m args below meth c H locs C.1 C.2 Q (F0 m pc ls (st.map (aj_cv (aj_ca bs aS b))))
end
section
def aj_ty (d : String) : FieldType := (parseFieldDescriptor d).getD .int
def aj_rk : FieldType → Bool
  | .object _ => true
  | .array _ => true
  | _ => false
def aj_df (t : Nat) : Value := if t = 1 then .long 0 else if t < 4 then .int 0 else .null
/-- a class of the table: its fields' words are there, their types are known, their names differ -/
def aj_okc (r : vw_C) : Bool := (u_ws r.1 r.2.1 r.2.2).all (fun w => decide (w ∈ aj_wo)) &&
  (List.range r.2.2).all (fun k => (parseFieldDescriptor (r.2.1 k).2.2.1).isSome && decide ((r.2.1 k).1 = r.1) && decide (defaultValue (aj_ty (r.2.1 k).2.2.1) = aj_df (aj_dc (r.2.1 k).2.2.1)) && (decide (aj_dc (r.2.1 k).2.2.1 < 4) || aj_rk (aj_ty (r.2.1 k).2.2.1))) &&
  (List.range r.2.2).all (fun a => (List.range r.2.2).all (fun b => a == b || !decide ((r.2.1 a).2.1 = (r.2.1 b).2.1)))
/-- a link to a field: own class, pool number, class, field, type, kind (0 plain, 1 final, 2 a nest mate's) -/
def aj_okf (e : Nat × Nat × Nat × Nat × Nat × Nat) : Bool := match aj_cl[e.2.2.1]? with
  | none => false
  | some r => decide (e.2.2.2.1 < r.2.2) && decide (aj_dc (r.2.1 e.2.2.2.1).2.2.1 = e.2.2.2.2.1) &&
    (if e.2.2.2.2.2 = 2 then decide (Cond.fieldLinkNest (aj_nm e.1) e.2.1 r.1 (r.2.1 e.2.2.2.1).2.1 (r.2.1 e.2.2.2.1).2.2.1 aj_host ∈ aj_nw)
     else decide (Cond.fieldLink (aj_nm e.1) e.2.1 r.1 (r.2.1 e.2.2.2.1).2.1 (r.2.1 e.2.2.2.1).2.2.1 ∈ aj_wo) && decide ((r.2.1 e.2.2.2.1).2.2.2 = decide (e.2.2.2.2.2 = 1)) && (decide (e.2.2.2.2.2 = 0) || decide (aj_nm e.1 = r.1)))
/-! what the tables say, by one computation each -/
theorem aj_wo_ws {w : Cond} (h : w ∈ aj_wo) : w ∈ aj_ws := List.mem_append_right _ (List.mem_append_right _ h)
theorem aj_wc_ws {w : Cond} (h : w ∈ aj_wc) : w ∈ aj_ws := List.mem_append_right _ (List.mem_append_left _ h)
theorem aj_ms_ws {y oc nL : Nat} {nm : MethodName} {cc : ByteArray} {rt : Option FieldType} (h : aj_ms[y]? = some (oc, nm, cc, nL, rt)) : Cond.code nm cc nL rt ∈ aj_ws :=
  List.mem_append_left _ (List.mem_map.mpr ⟨_, List.mem_of_getElem? h, rfl⟩)
theorem aj_wcg : aj_wc.all k2_isCode = true := rfl
theorem aj_wog : aj_wo.all goodWord = true := by decide +kernel
theorem aj_good : ∀ w ∈ aj_ws, (w.onTables && w.keeps) = true ∨ ∃ ty, w = .arrayClass ty := by
  intro w hw
  rcases List.mem_append.mp hw with h | h
  · obtain ⟨q, -, rfl⟩ := List.mem_map.mp h
    exact Or.inl rfl
  · rcases List.mem_append.mp h with h | h
    · have := List.all_eq_true.mp aj_wcg w h
      cases w <;> first | (simp [k2_isCode] at this; done) | exact Or.inl rfl
    · exact good_of_word (List.all_eq_true.mp aj_wog w h)
theorem aj_oklc : ∀ q : Nat × Nat × Int32, q ∈ aj_lcs → Cond.constant (aj_nm q.1) q.2.1 q.2.2 ∈ aj_ws := by
  have h : aj_lcs.all (fun q => decide (Cond.constant (aj_nm q.1) q.2.1 q.2.2 ∈ aj_wo)) = true := by decide +kernel
  exact fun q hq => aj_wo_ws (by simpa using List.all_eq_true.mp h q hq)
theorem aj_okll : ∀ q : Nat × Nat × Int64, q ∈ aj_lls → Cond.constantLong (aj_nm q.1) q.2.1 q.2.2 ∈ aj_ws := by
  have h : aj_lls.all (fun q => decide (Cond.constantLong (aj_nm q.1) q.2.1 q.2.2 ∈ aj_wo)) = true := by decide +kernel
  exact fun q hq => aj_wo_ws (by simpa using List.all_eq_true.mp h q hq)
theorem aj_okls : ∀ q : Nat × Nat, q ∈ aj_lss → Cond.fieldLink (aj_nm q.1) q.2 aj_gc aj_gf "[I" ∈ aj_ws := by
  have h : aj_lss.all (fun q => decide (Cond.fieldLink (aj_nm q.1) q.2 aj_gc aj_gf "[I" ∈ aj_wo)) = true := by decide +kernel
  exact fun q hq => aj_wo_ws (by simpa using List.all_eq_true.mp h q hq)
theorem aj_oklo : ∀ q : Nat × Nat, q ∈ aj_los → Cond.methodLink (aj_nm q.1) q.2 objectInit ∈ aj_ws := by
  have h : aj_los.all (fun q => decide (Cond.methodLink (aj_nm q.1) q.2 objectInit ∈ aj_wo)) = true := by decide +kernel
  exact fun q hq => aj_wo_ws (by simpa using List.all_eq_true.mp h q hq)
theorem aj_oko1 : Cond.instanceMethod objectInit ∈ aj_ws := aj_wo_ws (by decide +kernel)
def aj_okn (q : Nat × Nat × Nat × Nat) : Bool := match aj_cl[q.2.2.1]? with
  | none => false
  | some r => decide (r.2.2 = q.2.2.2) && decide (Cond.classLink (aj_nm q.1) q.2.1 r.1 ∈ aj_wo) && decide (Cond.instantiable r.1 q.2.2.2 ∈ aj_wo) && decide (Cond.initialized r.1 ∈ aj_wo)
theorem aj_okns : aj_lns.all aj_okn = true := by decide +kernel
theorem aj_ln_spec {oc i ci n : Nat} (h : (oc, i, ci, n) ∈ aj_lns) : ∃ (C : String) (T : u_T) (N : Nat), aj_cl[ci]? = some (C, T, N) ∧ N = n ∧ Cond.classLink (aj_nm oc) i C ∈ aj_ws ∧ Cond.instantiable C n ∈ aj_ws ∧ Cond.initialized C ∈ aj_ws := by
  have h1 := List.all_eq_true.mp aj_okns _ h
  unfold aj_okn at h1
  dsimp only at h1
  cases hc : aj_cl[ci]? with
  | none => rw [hc] at h1; cases h1
  | some r =>
    rw [hc] at h1
    simp only [Bool.and_eq_true, decide_eq_true_eq] at h1
    exact ⟨r.1, r.2.1, r.2.2, rfl, h1.1.1.1, aj_wo_ws h1.1.1.2, aj_wo_ws h1.1.2, aj_wo_ws h1.2⟩
theorem aj_pa_spec {a : ArrayType} {t : Nat} (h : (a, t) ∈ aj_pas) : t < aj_nt ∧ t < 4 ∧ newarray.typeOf a = aj_at t ∧ Cond.arrayClass (newarray.typeOf a) ∈ aj_ws := by
  have h1 : aj_pas.all (fun q => decide (q.2 < aj_nt) && decide (q.2 < 4) && decide (newarray.typeOf q.1 = aj_at q.2) && decide (Cond.arrayClass (newarray.typeOf q.1) ∈ aj_wo)) = true := by decide +kernel
  have h2 := List.all_eq_true.mp h1 _ h
  simp only [Bool.and_eq_true, decide_eq_true_eq] at h2
  exact ⟨h2.1.1.1, h2.1.1.2, h2.1.2, aj_wo_ws h2.2⟩
def aj_oka (q : Nat × Nat × Nat) : Bool := decide (q.2.2 < aj_nt) && decide (4 ≤ q.2.2) && (match aj_at q.2.2 with
  | .object C => decide (C ∈ aj_ao) && decide (Cond.classLink (aj_nm q.1) q.2.1 C ∈ aj_wo)
  | _ => false)
theorem aj_okas : aj_las.all aj_oka = true := by decide +kernel
theorem aj_la_spec {oc i t : Nat} (h : (oc, i, t) ∈ aj_las) : ∃ C : String, C ∈ aj_ao ∧ aj_at t = .object C ∧ t < aj_nt ∧ 4 ≤ t ∧ Cond.classLink (aj_nm oc) i C ∈ aj_ws := by
  have h1 := List.all_eq_true.mp aj_okas _ h
  unfold aj_oka at h1
  dsimp only at h1
  simp only [Bool.and_eq_true, decide_eq_true_eq] at h1
  obtain ⟨⟨a1, a2⟩, a3⟩ := h1
  split at a3
  next C hC =>
    simp only [Bool.and_eq_true, decide_eq_true_eq] at a3
    exact ⟨C, a3.1, hC, a1, a2, aj_wo_ws a3.2⟩
  next => cases a3
theorem aj_cb (ty : FieldType) : componentBytes ty ≤ 8 := by cases ty <;> exact Nat.le_of_ble_eq_true rfl
theorem aj_RA_prim {s : State} {c : ClassId} {t : Nat} (h4 : t < 4) (h : va_RA s c (aj_at t)) : s.vm.findClass ("[" ++ (aj_at t).toString) = some c := by
  rcases (show t = 0 ∨ t = 1 ∨ t = 2 ∨ t = 3 by omega) with rfl | rfl | rfl | rfl <;> exact h
theorem aj_prim_df {t : Nat} (h4 : t < 4) : defaultValue (aj_at t) = aj_df t := by
  rcases (show t = 0 ∨ t = 1 ∨ t = 2 ∨ t = 3 by omega) with rfl | rfl | rfl | rfl <;> rfl
/-- Math.min and Math.max -/
def aj_okx (q : Nat × Nat × Nat) : Bool := match q.2.2 with
  | 0 => decide (Cond.methodLink (aj_nm q.1) q.2.1 Lib.Math.min.name ∈ aj_wo) && decide (Cond.static Lib.Math.min.name ∈ aj_wo) && decide (Cond.initialized "java/lang/Math" ∈ aj_wo)
  | 1 => decide (Cond.methodLink (aj_nm q.1) q.2.1 Lib.Math.max.name ∈ aj_wo) && decide (Cond.static Lib.Math.max.name ∈ aj_wo) && decide (Cond.initialized "java/lang/Math" ∈ aj_wo)
  | _ => decide (Cond.methodLink (aj_nm q.1) q.2.1 Lib.MathLoose.min_long.x ∈ aj_wo) && decide (Cond.static Lib.MathLoose.min_long.x ∈ aj_wo) && decide (Cond.initialized "java/lang/Math" ∈ aj_wo)
theorem aj_okxs : aj_lxs.all aj_okx = true := by decide +kernel
theorem aj_x0 {oc i : Nat} (h : (oc, i, 0) ∈ aj_lxs) : Cond.methodLink (aj_nm oc) i Lib.Math.min.name ∈ aj_ws ∧ Cond.static Lib.Math.min.name ∈ aj_ws ∧ Cond.initialized "java/lang/Math" ∈ aj_ws ∧ Cond.code Lib.Math.min.name Lib.Math.min.code 2 (some .int) ∈ aj_ws := by
  have h1 := List.all_eq_true.mp aj_okxs _ h
  simp only [aj_okx, Bool.and_eq_true, decide_eq_true_eq] at h1
  exact ⟨aj_wo_ws h1.1.1, aj_wo_ws h1.1.2, aj_wo_ws h1.2, aj_wc_ws (List.mem_of_getElem? (i := 1) rfl)⟩
theorem aj_x1 {oc i : Nat} (h : (oc, i, 1) ∈ aj_lxs) : Cond.methodLink (aj_nm oc) i Lib.Math.max.name ∈ aj_ws ∧ Cond.static Lib.Math.max.name ∈ aj_ws ∧ Cond.initialized "java/lang/Math" ∈ aj_ws ∧ Cond.code Lib.Math.max.name Lib.Math.max.code 2 (some .int) ∈ aj_ws := by
  have h1 := List.all_eq_true.mp aj_okxs _ h
  simp only [aj_okx, Bool.and_eq_true, decide_eq_true_eq] at h1
  exact ⟨aj_wo_ws h1.1.1, aj_wo_ws h1.1.2, aj_wo_ws h1.2, aj_wc_ws (List.mem_of_getElem? (i := 2) rfl)⟩
theorem aj_x2 {oc i : Nat} (h : (oc, i, 2) ∈ aj_lxs) : Cond.methodLink (aj_nm oc) i Lib.MathLoose.min_long.x ∈ aj_ws ∧ Cond.static Lib.MathLoose.min_long.x ∈ aj_ws ∧ Cond.initialized "java/lang/Math" ∈ aj_ws ∧ Cond.code Lib.MathLoose.min_long.x Lib.MathLoose.min_long.code 4 (some .long) ∈ aj_ws := by
  have h1 := List.all_eq_true.mp aj_okxs _ h
  simp only [aj_okx, Bool.and_eq_true, decide_eq_true_eq] at h1
  exact ⟨aj_wo_ws h1.1.1, aj_wo_ws h1.1.2, aj_wo_ws h1.2, aj_wc_ws (List.mem_of_getElem? (i := 3) rfl)⟩
theorem aj_oko2 : Cond.code objectInit ⟨#[0xb1]⟩ 1 none ∈ aj_ws := aj_wc_ws (List.mem_of_getElem? (i := 0) rfl)
/-- a word by its place -/
def aj_has (q : Nat × Nat) (w : Cond) : Bool := !k2_isCode w && goodWord w && (match (aj_run q.1)[q.2]? with
  | some v => decide (v = w)
  | none => false)
theorem aj_has_wo {q : Nat × Nat} {w : Cond} (h : aj_has q w = true) : w ∈ aj_ws := by
  unfold aj_has at h
  simp only [Bool.and_eq_true] at h
  obtain ⟨⟨h1, h2⟩, h3⟩ := h
  split at h3
  next v hv =>
    have hvw : v = w := by simpa using h3
    subst hvw
    exact aj_wo_ws (List.mem_filter.mpr ⟨aj_run_in _ _ (List.mem_of_getElem? hv), by rw [Bool.and_eq_true]; exact ⟨h1, h2⟩⟩)
  next => cases h3
theorem aj_zip {α β : Type} {l : List α} {p : List β} (h : l.length ≤ p.length) {e : α} {i : Nat} (he : l[i]? = some e) : ∃ q, p[i]? = some q ∧ (e, q) ∈ l.zip p := by
  have hi : i < p.length := Nat.lt_of_lt_of_le (List.getElem?_eq_some_iff.mp he).1 h
  exact ⟨p[i], List.getElem?_eq_getElem hi, List.mem_of_getElem? (i := i) (List.getElem?_zip_eq_some.mpr ⟨he, List.getElem?_eq_getElem hi⟩)⟩
/-- a method: its kind (0 virtual, 1 static, 2 a constructor), the places of its words -/
def aj_okq (z : Nat × MethodName × ByteArray × Nat × Option FieldType) (k : Nat × List (Nat × Nat)) : Bool :=
  decide (z.2.2.2.1 ≤ 18) && decide (z.2.1.cls ≠ "java/lang/invoke/MethodHandle") && decide (z.2.1.cls ≠ "java/lang/invoke/VarHandle") && aj_has (k.2.getD 0 (0, 0)) (Cond.initialized z.2.1.cls) &&
    (if k.1 = 0 then aj_has (k.2.getD 1 (0, 0)) (Cond.instanceMethod z.2.1) && aj_has (k.2.getD 2 (0, 0)) (Cond.selects z.2.1.cls z.2.1 z.2.1)
     else if k.1 = 1 then aj_has (k.2.getD 1 (0, 0)) (Cond.static z.2.1) else decide (z.2.1.name = "<init>") && aj_has (k.2.getD 1 (0, 0)) (Cond.instanceMethod z.2.1) && decide (z.2.2.2.2 = none))
theorem aj_okqs : (aj_ms.zip aj_mk).all (fun q => aj_okq q.1 q.2) = true := by decide +kernel
/-- a link to a method: own class, pool number, method, kind, receiver's class, arguments, 1 if a nest mate's -/
def aj_okm (q : Nat × Nat × Nat × Nat × Nat × Nat × Nat) (ps : Nat × Nat) : Bool := match aj_ms[q.2.2.1]?, aj_mk[q.2.2.1]? with
  | some z, some k => decide (q.2.2.2.1 = k.1) && decide ((parseMethodDescriptor z.2.1.desc).map (fun d => d.parameters.length) = some q.2.2.2.2.2.1) &&
    (if q.2.2.2.2.2.2 = 1 then decide (Cond.methodLinkNest (aj_nm q.1) q.2.1 z.2.1 aj_host ∈ aj_nw) else aj_has ps (Cond.methodLink (aj_nm q.1) q.2.1 z.2.1)) &&
    (decide (q.2.2.2.1 ≠ 0) || decide ((aj_cl[q.2.2.2.2.1]?).map (fun r => r.1) = some z.2.1.cls))
  | _, _ => false
theorem aj_okms : (aj_lms.zip aj_lmp).all (fun q => aj_okm q.1 q.2) = true := by decide +kernel
theorem aj_lm_spec {oc i y kd ci n h : Nat} (hm : (oc, i, y, kd, ci, n, h) ∈ aj_lms) : ∃ (oc' : Nat) (nm : MethodName) (cc : ByteArray) (nL : Nat) (rt : Option FieldType), aj_ms[y]? = some (oc', nm, cc, nL, rt) ∧ nL ≤ 18 ∧ (nm.cls ≠ "java/lang/invoke/MethodHandle" ∧ nm.cls ≠ "java/lang/invoke/VarHandle" ∧ (parseMethodDescriptor nm.desc).map (fun d => d.parameters.length) = some n) ∧ Cond.initialized nm.cls ∈ aj_ws ∧
    (Cond.methodLinkNest (aj_nm oc) i nm aj_host ∈ aj_nw ∨ Cond.methodLink (aj_nm oc) i nm ∈ aj_ws) ∧ (kd = 0 → Cond.instanceMethod nm ∈ aj_ws ∧ Cond.selects nm.cls nm nm ∈ aj_ws ∧ ∃ r : vw_C, aj_cl[ci]? = some r ∧ r.1 = nm.cls) ∧ (kd = 1 → Cond.static nm ∈ aj_ws) ∧ (kd = 2 → nm.name = "<init>" ∧ Cond.instanceMethod nm ∈ aj_ws ∧ rt = none) := by
  obtain ⟨j, hj⟩ := List.getElem?_of_mem hm
  obtain ⟨ps, -, hz⟩ := aj_zip (p := aj_lmp) (by decide +kernel) hj
  have h1 := List.all_eq_true.mp aj_okms _ hz
  unfold aj_okm at h1
  dsimp only at h1
  cases hc : aj_ms[y]? with
  | none => rw [hc] at h1; cases h1
  | some z =>
    obtain ⟨k, hk, hzk⟩ := aj_zip (p := aj_mk) (by decide +kernel) hc
    rw [hc, hk] at h1
    have h2 := List.all_eq_true.mp aj_okqs _ hzk
    obtain ⟨oc', nm, cc, nL, rt⟩ := z
    unfold aj_okq at h2
    dsimp only at h1 h2
    simp only [Bool.and_eq_true, Bool.or_eq_true, decide_eq_true_eq] at h1 h2
    obtain ⟨⟨⟨b1, b2⟩, b3⟩, b4⟩ := h1
    obtain ⟨⟨⟨⟨a1, a2⟩, a3⟩, a5⟩, a7⟩ := h2
    refine ⟨oc', nm, cc, nL, rt, rfl, a1, ⟨a2, a3, b2⟩, aj_has_wo a5, ?_, fun hk => ?_, fun hk => ?_, fun hk => ?_⟩
    · by_cases hh : h = 1
      · rw [if_pos hh] at b3; exact Or.inl (by simpa using b3)
      · rw [if_neg hh] at b3; exact Or.inr (aj_has_wo b3)
    · rw [if_pos (by omega)] at a7
      simp only [Bool.and_eq_true] at a7
      refine ⟨aj_has_wo a7.1, aj_has_wo a7.2, ?_⟩
      rcases b4 with b4 | b4
      · exact absurd hk b4
      · cases hr : aj_cl[ci]? with
        | none => rw [hr] at b4; cases b4
        | some r => rw [hr] at b4; exact ⟨r, rfl, Option.some.inj b4⟩
    · rw [if_neg (by omega), if_pos (by omega)] at a7
      exact aj_has_wo a7
    · rw [if_neg (by omega), if_neg (by omega)] at a7
      simp only [Bool.and_eq_true, decide_eq_true_eq] at a7
      exact ⟨a7.1.1, aj_has_wo a7.1.2, a7.2⟩
theorem aj_okcs : aj_cl.all aj_okc = true := by decide +kernel
theorem aj_okfs : aj_lfs.all aj_okf = true := by decide +kernel
theorem aj_cl_spec {ci : Nat} {C : String} {T : u_T} {N : Nat} (hc : aj_cl[ci]? = some (C, T, N)) :
    (∀ w ∈ u_ws C T N, w ∈ aj_ws) ∧ (∀ k, k < N → parseFieldDescriptor (T k).2.2.1 = some (aj_ty (T k).2.2.1)) ∧ (∀ k, k < N → (T k).1 = C) ∧ (∀ k, k < N → defaultValue (aj_ty (T k).2.2.1) = aj_df (aj_dc (T k).2.2.1)) ∧ (∀ k, k < N → 4 ≤ aj_dc (T k).2.2.1 → aj_rk (aj_ty (T k).2.2.1) = true) ∧
    (∀ a, a < N → ∀ b, b < N → a ≠ b → (T a).2.1 ≠ (T b).2.1) := by
  have h := List.all_eq_true.mp aj_okcs _ (List.mem_of_getElem? hc)
  unfold aj_okc at h
  simp only [Bool.and_eq_true] at h
  obtain ⟨⟨h1, h2⟩, h3⟩ := h
  have g2 : ∀ k, k < N → ((parseFieldDescriptor (T k).2.2.1).isSome = true ∧ (T k).1 = C) ∧ defaultValue (aj_ty (T k).2.2.1) = aj_df (aj_dc (T k).2.2.1) ∧ (aj_dc (T k).2.2.1 < 4 ∨ aj_rk (aj_ty (T k).2.2.1) = true) := by
    intro k hk
    have := List.all_eq_true.mp h2 k (List.mem_range.mpr hk)
    simp only [Bool.and_eq_true, Bool.or_eq_true, decide_eq_true_eq] at this
    obtain ⟨⟨⟨a1, a2⟩, a3⟩, a4⟩ := this
    exact ⟨⟨a1, a2⟩, a3, a4⟩
  refine ⟨fun w hw => aj_wo_ws (by simpa using List.all_eq_true.mp h1 w hw), fun k hk => ?_, fun k hk => (g2 k hk).1.2, fun k hk => (g2 k hk).2.1, fun k hk h4 => ?_, fun a ha b hb hab => ?_⟩
  · have := (g2 k hk).1.1
    unfold aj_ty
    cases hp : parseFieldDescriptor (T k).2.2.1 with
    | none => rw [hp] at this; cases this
    | some x => rfl
  · rcases (g2 k hk).2.2 with h5 | h5
    · omega
    · exact h5
  · have := List.all_eq_true.mp (List.all_eq_true.mp h3 a (List.mem_range.mpr ha)) b (List.mem_range.mpr hb)
    simp only [Bool.or_eq_true, beq_iff_eq, Bool.not_eq_true', decide_eq_false_iff_not] at this
    rcases this with h5 | h5
    · exact absurd h5 hab
    · exact h5
theorem aj_lf_spec {oc i ci k t n : Nat} (h : (oc, i, ci, k, t, n) ∈ aj_lfs) : ∃ (C : String) (T : u_T) (N : Nat), aj_cl[ci]? = some (C, T, N) ∧ k < N ∧ aj_dc (T k).2.2.1 = t ∧
    ((n = 2 ∧ Cond.fieldLinkNest (aj_nm oc) i C (T k).2.1 (T k).2.2.1 aj_host ∈ aj_nw) ∨ (n ≠ 2 ∧ Cond.fieldLink (aj_nm oc) i C (T k).2.1 (T k).2.2.1 ∈ aj_ws ∧ (T k).2.2.2 = decide (n = 1) ∧ (n = 0 ∨ aj_nm oc = C))) := by
  have h1 := List.all_eq_true.mp aj_okfs _ h
  unfold aj_okf at h1
  dsimp only at h1
  cases hc : aj_cl[ci]? with
  | none => rw [hc] at h1; cases h1
  | some r =>
    rw [hc] at h1
    dsimp only at h1
    simp only [Bool.and_eq_true, decide_eq_true_eq] at h1
    obtain ⟨⟨a1, a2⟩, a3⟩ := h1
    refine ⟨r.1, r.2.1, r.2.2, rfl, a1, a2, ?_⟩
    by_cases hn : n = 2
    · rw [if_pos hn] at a3
      exact Or.inl ⟨hn, by simpa using a3⟩
    · rw [if_neg hn] at a3
      simp only [Bool.and_eq_true, Bool.or_eq_true, decide_eq_true_eq] at a3
      exact Or.inr ⟨hn, aj_wo_ws a3.1.1, a3.1.2, a3.2⟩
theorem aj_u2_ne {α : Type} {f : Nat → Nat → α} {o k q : Nat} {v : α} (h : q ≠ o) : aj_u2 f o k v q = f q := aj_up_ne h
theorem aj_u2_eq {α : Type} {f : Nat → Nat → α} {o k : Nat} {v : α} : aj_u2 f o k v o = va_up (f o) k v := aj_up_eq
theorem aj_dc0 {d : String} (h : aj_dc d = 0) : d = "I" := by
  unfold aj_dc at h
  by_cases h0 : d = "I"
  · exact h0
  · rw [if_neg h0] at h
    repeat (first | (split at h) | omega)
theorem aj_dc3 {d : String} (h : aj_dc d = 3) : d = "Z" := by
  unfold aj_dc at h
  by_cases h0 : d = "Z"
  · exact h0
  · rw [if_neg h0] at h
    repeat (first | (split at h) | omega)
theorem aj_tyI : aj_ty "I" = .int := by decide +kernel
theorem aj_tyZ : aj_ty "Z" = .boolean := by decide +kernel
end
section
section AJS
variable {D : va_G} {kA : Nat → ClassId} {bs aS b : Nat} {p : Program} {l : Launch} {e : Env} {R : Room} {s : State} {m : MethodId} {args : Array Value} {below : List Frame} {meth : Method} {c : Code} {Q : State → Prop} {nL oc mc ms : Nat} {cc : ByteArray}
theorem aj_S1 (F : aj_fx D kA bs aS p s m args c nL oc cc) : aj_C1 oc cc (aj_jm D kA bs aS b p l e R s m args below meth c Q nL mc ms) := by
  obtain ⟨hx, hb, hml, hown, hts, hkw, hbs⟩ := F
  refine ⟨?_, ?_, ?_, ?_, ?_, ?_, ?_, ?_, ?_, ?_, ?_, ?_, ?_, ?_, ?_, ?_⟩
  · -- iconst
    intro pc L st Z I G C n v p0 p1 p2 g1 g2 ls H locs hl hi
    exact lv_iconst hx hb p0 p1 (p2 g1 g2 ls H locs hl hi)
  · -- bipush
    intro pc L st Z I G C n v p0 p1 p2 g1 g2 ls H locs hl hi
    exact lv_bipush hx hb p0 p1 (p2 g1 g2 ls H locs hl hi)
  · -- sipush
    intro pc L st Z I G C n v p0 p1 p2 g1 g2 ls H locs hl hi
    exact lv_sipush hx hb p0 p1 (p2 g1 g2 ls H locs hl hi)
  · -- lconst
    intro pc L st Z I G C n v p0 p1 p2 g1 g2 ls H locs hl hi
    exact lv_lconst hx hb p0 p1 (p2 g1 g2 ls H locs hl hi)
  · -- ldc
    intro pc L st Z I G C i v p0 p1 p2 g1 g2 ls H locs hl hi
    exact lv_ldc hx hb hown (hts _ (aj_oklc _ p0)) p1 (p2 g1 g2 ls H locs hl hi)
  · -- ldcw
    intro pc L st Z I G C i v p0 p1 p2 g1 g2 ls H locs hl hi
    exact lv_ldcw hx hb hown (hts _ (aj_oklc _ p0)) p1 (p2 g1 g2 ls H locs hl hi)
  · -- ldc2
    intro pc L st Z I G C i v p0 p1 p2 g1 g2 ls H locs hl hi
    exact lv_ldc2 hx hb hown (hts _ (aj_okll _ p0)) p1 (p2 g1 g2 ls H locs hl hi)
  · -- null
    intro pc L st Z I G C  p0 p1 g1 g2 ls H locs hl hi
    exact lv_null hx hb p0 (p1 g1 g2 ls H locs hl hi)
  · -- iload_n
    intro pc L st Z I G C i x p0 p1 p2 g1 g2 ls H locs hl hi
    exact lv_iload_n hx hb p0 rfl (hl.2.2.2 _ _ p1) (p2 g1 g2 ls H locs hl hi)
  · -- iload
    intro pc L st Z I G C i x p0 p1 p2 g1 g2 ls H locs hl hi
    exact lv_iload hx hb p0 (hl.2.2.2 _ _ p1) (p2 g1 g2 ls H locs hl hi)
  · -- lload_n
    intro pc L st Z I G C i x p0 p1 p2 g1 g2 ls H locs hl hi
    exact lv_lload_n hx hb p0 rfl (hl.2.2.2 _ _ p1) (p2 g1 g2 ls H locs hl hi)
  · -- lload
    intro pc L st Z I G C i x p0 p1 p2 g1 g2 ls H locs hl hi
    exact lv_lload hx hb p0 (hl.2.2.2 _ _ p1) (p2 g1 g2 ls H locs hl hi)
  · -- aload_n
    intro pc L st Z I G C i x p0 p1 p2 g1 g2 ls H locs hl hi
    exact lv_aload_n hx hb p0 rfl (hl.2.2.2 _ _ p1) (p2 g1 g2 ls H locs hl hi)
  · -- aload
    intro pc L st Z I G C i x p0 p1 p2 g1 g2 ls H locs hl hi
    exact lv_aload hx hb p0 (hl.2.2.2 _ _ p1) (p2 g1 g2 ls H locs hl hi)
  · -- aload_nN
    intro pc L st Z I G C i p0 p1 p2 g1 g2 ls H locs hl hi
    exact lv_aload_nN hx hb p0 rfl (hl.2.2.2 _ _ p1) (p2 g1 g2 ls H locs hl hi)
  · -- aloadN
    intro pc L st Z I G C i p0 p1 p2 g1 g2 ls H locs hl hi
    exact lv_aloadN hx hb p0 (hl.2.2.2 _ _ p1) (p2 g1 g2 ls H locs hl hi)
theorem aj_S2 (F : aj_fx D kA bs aS p s m args c nL oc cc) : aj_C2 cc (aj_jm D kA bs aS b p l e R s m args below meth c Q nL mc ms) := by
  obtain ⟨hx, hb, hml, hown, hts, hkw, hbs⟩ := F
  refine ⟨?_, ?_, ?_, ?_, ?_, ?_, ?_, ?_, ?_⟩
  · -- istore_n
    intro pc L st Z I G C i x p0 p1 p2 g1 g2 ls H locs hl hi
    exact lv_istore_n hx hb p0 rfl hl.has (by rw [← hl.2.2.1]; exact p1) rfl (fun ls1 h1 => p2 g1 g2 ls1 H locs (hl.st1 h1) hi)
  · -- istore
    intro pc L st Z I G C i x p0 p1 p2 g1 g2 ls H locs hl hi
    exact lv_istore hx hb p0 hl.has (by rw [← hl.2.2.1]; exact p1) rfl (fun ls1 h1 => p2 g1 g2 ls1 H locs (hl.st1 h1) hi)
  · -- astore_n
    intro pc L st Z I G C i x p0 p1 p2 g1 g2 ls H locs hl hi
    exact lv_astore_n hx hb p0 rfl hl.has (by rw [← hl.2.2.1]; exact p1) rfl (fun ls1 h1 => p2 g1 g2 ls1 H locs (hl.st1 h1) hi)
  · -- astore
    intro pc L st Z I G C i x p0 p1 p2 g1 g2 ls H locs hl hi
    exact lv_astore hx hb p0 hl.has (by rw [← hl.2.2.1]; exact p1) rfl (fun ls1 h1 => p2 g1 g2 ls1 H locs (hl.st1 h1) hi)
  · -- astore_nN
    intro pc L st Z I G C i p0 p1 p2 g1 g2 ls H locs hl hi
    exact lv_astore_nN hx hb p0 rfl hl.has (by rw [← hl.2.2.1]; exact p1) rfl (fun ls1 h1 => p2 g1 g2 ls1 H locs (hl.st1 h1) hi)
  · -- astoreN
    intro pc L st Z I G C i p0 p1 p2 g1 g2 ls H locs hl hi
    exact lv_astoreN hx hb p0 hl.has (by rw [← hl.2.2.1]; exact p1) rfl (fun ls1 h1 => p2 g1 g2 ls1 H locs (hl.st1 h1) hi)
  · -- lstore_n
    intro pc L st Z I G C i x p0 p1 p2 g1 g2 ls H locs hl hi
    exact lv_lstore_n hx hb p0 rfl hl.has (by rw [← hl.2.2.1]; exact p1) rfl (fun ls1 h1 => p2 g1 g2 ls1 H locs (hl.st2 h1) hi)
  · -- lstore
    intro pc L st Z I G C i x p0 p1 p2 g1 g2 ls H locs hl hi
    exact lv_lstore hx hb p0 hl.has (by rw [← hl.2.2.1]; exact p1) rfl (fun ls1 h1 => p2 g1 g2 ls1 H locs (hl.st2 h1) hi)
  · -- iinc
    intro pc L st Z I G C i n x v p0 p1 p2 p3 g1 g2 ls H locs hl hi
    obtain ⟨k, hk⟩ := List.getElem?_of_mem (aj_as_mem.mpr ⟨Value.int x, p1, rfl⟩)
    subst p2
    exact lv_iinc (v := x + Int32.ofInt n) hx hb p0 hl.has hk rfl (by rw [← hl.2.2.1]; exact (List.getElem?_eq_some_iff.mp p1).1) rfl (fun ls1 h1 => p3 g1 g2 ls1 H locs (hl.st1 h1) hi)
theorem aj_S3 (F : aj_fx D kA bs aS p s m args c nL oc cc) : aj_C3 cc (aj_jm D kA bs aS b p l e R s m args below meth c Q nL mc ms) := by
  obtain ⟨hx, hb, hml, hown, hts, hkw, hbs⟩ := F
  refine ⟨?_, ?_, ?_, ?_, ?_, ?_, ?_, ?_, ?_, ?_, ?_, ?_, ?_, ?_, ?_, ?_, ?_, ?_, ?_, ?_, ?_, ?_, ?_⟩
  · -- iadd
    intro pc L st Z I G C x y p0 p1 g1 g2 ls H locs hl hi
    exact lv_iadd hx hb p0 (p1 g1 g2 ls H locs hl hi)
  · -- isub
    intro pc L st Z I G C x y p0 p1 g1 g2 ls H locs hl hi
    exact lv_isub hx hb p0 (p1 g1 g2 ls H locs hl hi)
  · -- imul
    intro pc L st Z I G C x y p0 p1 g1 g2 ls H locs hl hi
    exact lv_imul hx hb p0 (p1 g1 g2 ls H locs hl hi)
  · -- iand
    intro pc L st Z I G C x y p0 p1 g1 g2 ls H locs hl hi
    exact lv_iand hx hb p0 (p1 g1 g2 ls H locs hl hi)
  · -- ior
    intro pc L st Z I G C x y p0 p1 g1 g2 ls H locs hl hi
    exact lv_ior hx hb p0 (p1 g1 g2 ls H locs hl hi)
  · -- ixor
    intro pc L st Z I G C x y p0 p1 g1 g2 ls H locs hl hi
    exact lv_ixor hx hb p0 (p1 g1 g2 ls H locs hl hi)
  · -- ishl
    intro pc L st Z I G C x y p0 p1 g1 g2 ls H locs hl hi
    exact lv_ishl hx hb p0 (p1 g1 g2 ls H locs hl hi)
  · -- ishr
    intro pc L st Z I G C x y p0 p1 g1 g2 ls H locs hl hi
    exact lv_ishr hx hb p0 (p1 g1 g2 ls H locs hl hi)
  · -- idiv
    intro pc L st Z I G C x y p0 p1 p2 g1 g2 ls H locs hl hi
    exact lv_idiv hx hb p0 p1 (p2 g1 g2 ls H locs hl hi)
  · -- irem
    intro pc L st Z I G C x y p0 p1 p2 g1 g2 ls H locs hl hi
    exact lv_irem hx hb p0 p1 (p2 g1 g2 ls H locs hl hi)
  · -- ineg
    intro pc L st Z I G C x p0 p1 g1 g2 ls H locs hl hi
    exact lv_ineg hx hb p0 (p1 g1 g2 ls H locs hl hi)
  · -- ladd
    intro pc L st Z I G C x y p0 p1 g1 g2 ls H locs hl hi
    exact lv_ladd hx hb p0 (p1 g1 g2 ls H locs hl hi)
  · -- lsub
    intro pc L st Z I G C x y p0 p1 g1 g2 ls H locs hl hi
    exact lv_lsub hx hb p0 (p1 g1 g2 ls H locs hl hi)
  · -- lmul
    intro pc L st Z I G C x y p0 p1 g1 g2 ls H locs hl hi
    exact lv_lmul hx hb p0 (p1 g1 g2 ls H locs hl hi)
  · -- land
    intro pc L st Z I G C x y p0 p1 g1 g2 ls H locs hl hi
    exact lv_land hx hb p0 (p1 g1 g2 ls H locs hl hi)
  · -- lor
    intro pc L st Z I G C x y p0 p1 g1 g2 ls H locs hl hi
    exact lv_lor hx hb p0 (p1 g1 g2 ls H locs hl hi)
  · -- i2l
    intro pc L st Z I G C x p0 p1 g1 g2 ls H locs hl hi
    exact lv_i2l hx hb p0 rfl (p1 g1 g2 ls H locs hl hi)
  · -- l2i
    intro pc L st Z I G C x p0 p1 g1 g2 ls H locs hl hi
    exact lv_l2i hx hb p0 rfl (p1 g1 g2 ls H locs hl hi)
  · -- i2b
    intro pc L st Z I G C x p0 p1 g1 g2 ls H locs hl hi
    exact lv_i2b hx hb p0 rfl (p1 g1 g2 ls H locs hl hi)
  · -- lushr
    intro pc L st Z I G C x y p0 p1 g1 g2 ls H locs hl hi
    exact lv_lushr hx hb p0 rfl (p1 g1 g2 ls H locs hl hi)
  · -- lshl
    intro pc L st Z I G C x y p0 p1 g1 g2 ls H locs hl hi
    exact lv_lshl hx hb p0 rfl (p1 g1 g2 ls H locs hl hi)
  · -- lshr
    intro pc L st Z I G C x y p0 p1 g1 g2 ls H locs hl hi
    exact lv_lshr hx hb p0 rfl (p1 g1 g2 ls H locs hl hi)
  · -- lcmp
    intro pc L st Z I G C x y p0 p1 g1 g2 ls H locs hl hi
    exact W.lcmp hx hb p0 (p1 g1 g2 ls H locs hl hi)
theorem aj_S4 (F : aj_fx D kA bs aS p s m args c nL oc cc) : aj_C4 cc (aj_jm D kA bs aS b p l e R s m args below meth c Q nL mc ms) := by
  obtain ⟨hx, hb, hml, hown, hts, hkw, hbs⟩ := F
  refine ⟨?_, ?_, ?_, ?_, ?_, ?_, ?_, ?_, ?_, ?_, ?_, ?_, ?_, ?_, ?_, ?_, ?_, ?_, ?_, ?_, ?_, ?_, ?_, ?_, ?_, ?_⟩
  · -- dup
    intro pc L st Z I G C v p0 p1 p2 g1 g2 ls H locs hl hi
    exact lv_dup hx hb p0 (by rw [aj_cv_cat]; exact p1) (p2 g1 g2 ls H locs hl hi)
  · -- pop
    intro pc L st Z I G C v p0 p1 p2 g1 g2 ls H locs hl hi
    exact lv_pop hx hb p0 (by rw [aj_cv_cat]; exact p1) (p2 g1 g2 ls H locs hl hi)
  · -- pop2
    intro pc L st Z I G C v p0 p1 p2 g1 g2 ls H locs hl hi
    exact lv_pop2_2 hx hb p0 (by rw [aj_cv_cat]; exact p1) (p2 g1 g2 ls H locs hl hi)
  · -- dup_x1
    intro pc L st Z I G C v w p0 p1 p2 p3 g1 g2 ls H locs hl hi
    exact lv_dup_x1 hx hb p0 (by rw [aj_cv_cat]; exact p1) (by rw [aj_cv_cat]; exact p2) (p3 g1 g2 ls H locs hl hi)
  · -- dup2
    intro pc L st Z I G C v w p0 p1 p2 p3 g1 g2 ls H locs hl hi
    exact lv_dup2_11 hx hb p0 (by rw [aj_cv_cat]; exact p1) (by rw [aj_cv_cat]; exact p2) (p3 g1 g2 ls H locs hl hi)
  · -- dup2_2
    intro pc L st Z I G C v p0 p1 p2 g1 g2 ls H locs hl hi
    exact lv_dup2_2 hx hb p0 (by rw [aj_cv_cat]; exact p1) (p2 g1 g2 ls H locs hl hi)
  · -- if_eq
    intro pc L st Z I G C x off tgt p0 p1 p2 p3 g1 g2 ls H locs hl hi
    exact lv_if_eq hx hb p0 p1 (fun q => p2 q g1 g2 ls H locs hl hi) (fun q => p3 q g1 g2 ls H locs hl hi)
  · -- if_ne
    intro pc L st Z I G C x off tgt p0 p1 p2 p3 g1 g2 ls H locs hl hi
    exact lv_if_ne hx hb p0 p1 (fun q => p2 q g1 g2 ls H locs hl hi) (fun q => p3 q g1 g2 ls H locs hl hi)
  · -- if_lt
    intro pc L st Z I G C x off tgt p0 p1 p2 p3 g1 g2 ls H locs hl hi
    exact lv_if_lt hx hb p0 p1 (fun q => p2 q g1 g2 ls H locs hl hi) (fun q => p3 q g1 g2 ls H locs hl hi)
  · -- if_ge
    intro pc L st Z I G C x off tgt p0 p1 p2 p3 g1 g2 ls H locs hl hi
    exact lv_if_ge hx hb p0 p1 (fun q => p2 q g1 g2 ls H locs hl hi) (fun q => p3 q g1 g2 ls H locs hl hi)
  · -- if_gt
    intro pc L st Z I G C x off tgt p0 p1 p2 p3 g1 g2 ls H locs hl hi
    exact lv_if_gt hx hb p0 p1 (fun q => p2 q g1 g2 ls H locs hl hi) (fun q => p3 q g1 g2 ls H locs hl hi)
  · -- if_le
    intro pc L st Z I G C x off tgt p0 p1 p2 p3 g1 g2 ls H locs hl hi
    exact lv_if_le hx hb p0 p1 (fun q => p2 q g1 g2 ls H locs hl hi) (fun q => p3 q g1 g2 ls H locs hl hi)
  · -- icmp_eq
    intro pc L st Z I G C x y off tgt p0 p1 p2 p3 g1 g2 ls H locs hl hi
    exact lv_icmp_eq hx hb p0 p1 (fun q => p2 q g1 g2 ls H locs hl hi) (fun q => p3 q g1 g2 ls H locs hl hi)
  · -- icmp_ne
    intro pc L st Z I G C x y off tgt p0 p1 p2 p3 g1 g2 ls H locs hl hi
    exact lv_icmp_ne hx hb p0 p1 (fun q => p2 q g1 g2 ls H locs hl hi) (fun q => p3 q g1 g2 ls H locs hl hi)
  · -- icmp_lt
    intro pc L st Z I G C x y off tgt p0 p1 p2 p3 g1 g2 ls H locs hl hi
    exact lv_icmp_lt hx hb p0 p1 (fun q => p2 q g1 g2 ls H locs hl hi) (fun q => p3 q g1 g2 ls H locs hl hi)
  · -- icmp_ge
    intro pc L st Z I G C x y off tgt p0 p1 p2 p3 g1 g2 ls H locs hl hi
    exact lv_icmp_ge hx hb p0 p1 (fun q => p2 q g1 g2 ls H locs hl hi) (fun q => p3 q g1 g2 ls H locs hl hi)
  · -- icmp_gt
    intro pc L st Z I G C x y off tgt p0 p1 p2 p3 g1 g2 ls H locs hl hi
    exact lv_icmp_gt hx hb p0 p1 (fun q => p2 q g1 g2 ls H locs hl hi) (fun q => p3 q g1 g2 ls H locs hl hi)
  · -- icmp_le
    intro pc L st Z I G C x y off tgt p0 p1 p2 p3 g1 g2 ls H locs hl hi
    exact lv_icmp_le hx hb p0 p1 (fun q => p2 q g1 g2 ls H locs hl hi) (fun q => p3 q g1 g2 ls H locs hl hi)
  · -- goto
    intro pc L st Z I G C off tgt p0 p1 p2 g1 g2 ls H locs hl hi
    exact lv_goto hx hb p0 p1 (p2 g1 g2 ls H locs hl hi)
  · -- ifnonnull
    intro pc L st Z I G C o off tgt p0 p1 p2 g1 g2 ls H locs hl hi
    exact lv_ifnonnull hx hb p0 p1 (p2 g1 g2 ls H locs hl hi)
  · -- ifnonnullN
    intro pc L st Z I G C off p0 p1 g1 g2 ls H locs hl hi
    exact lv_ifnonnullN hx hb p0 (p1 g1 g2 ls H locs hl hi)
  · -- ifnull
    intro pc L st Z I G C o off p0 p1 g1 g2 ls H locs hl hi
    exact lv_ifnull hx hb p0 (p1 g1 g2 ls H locs hl hi)
  · -- ifnullN
    intro pc L st Z I G C off tgt p0 p1 p2 g1 g2 ls H locs hl hi
    exact lv_ifnullN hx hb p0 p1 (p2 g1 g2 ls H locs hl hi)
  · -- tableOut
    intro pc L st Z I G C df lo hi offs len x tgt p0 p1 p2 p3 g1 g2 ls H locs hl hi
    exact lv_tableOut hx hb p0 p1 p2 (p3 g1 g2 ls H locs hl hi)
  · -- tableIn
    intro pc L st Z I G C df lo hi offs len x off tgt p0 p1 p2 p3 p4 p5 g1 g2 ls H locs hl hi
    exact lv_tableIn hx hb p0 p1 p2 p3 p4 (p5 g1 g2 ls H locs hl hi)
  · -- lookup
    intro pc L st Z I G C df ps len x off tgt p0 p1 p2 p3 p4 g1 g2 ls H locs hl hi
    exact lv_lookup hx hb p0 p1 p2 p3 (p4 g1 g2 ls H locs hl hi)
end AJS
end
section
section AJF
variable {D : va_G} {kA : Nat → ClassId} {bs aS b : Nat} {p : Program} {l : Launch} {e : Env} {R : Room} {s : State} {m : MethodId} {args : Array Value} {below : List Frame} {meth : Method} {c : Code} {Q : State → Prop} {nL oc mc ms : Nat} {cc : ByteArray} {H : Heap} {locs : List Loc} {cells slots pc : Nat} {ls : Array Slot} {rest : List Value} {tys : List (ClassId × FieldType)}
theorem aj_Wget (hx : p.tables.exec = Jvm.exec) (hb : c.code = cc) (hown : s.vm.findClass (aj_nm oc) = some m.cls) (hts : ∀ w ∈ aj_ws, w.before args s = true) (hK : va_K D aj_cl tys s) (hnw : ∀ w ∈ aj_nw, va_Nw w s) {i ci k t n a : Nat} {V : Nat → Value} {r : vw_C} (he : (oc, i, ci, k, t, n) ∈ aj_lfs) (hr : aj_cl[ci]? = some r) (hO : t_OB a (D.1 ci) r.2.2 (D.2 ci) H V) (hd : decode cc pc = .ok (.getfield i, 3))
    (kk : aj_dc (r.2.1 k).2.2.1 = t → W p l e R s m args below meth c H locs cells slots Q (F0 m (pc + 3) ls (V k :: rest))) : W p l e R s m args below meth c H locs cells slots Q (F0 m pc ls (.ref a :: rest)) := by
  obtain ⟨C, T, N, hc, hk, hty, hlink⟩ := aj_lf_spec he
  have hrr : r = (C, T, N) := Option.some.inj (hr.symm.trans hc)
  subst hrr
  obtain ⟨hin, hpt, hdcl, -, -, hnm⟩ := aj_cl_spec hc
  obtain ⟨cell, q1, q2, q3, q4⟩ := hO
  obtain ⟨hS, hfc, kC, hkC, hkind⟩ := hK.1 ci _ hc
  obtain ⟨cf, kf, fi, f, hi, hsl⟩ := hS k hk
  have hst := (u_facts hfc hkC (u_lays hts hin hk) hi).1
  have hi2 : s.fieldFound? C (T k).2.1 (T k).2.2.1 = some (cf, kf, fi, f) := by rw [← hdcl k hk]; exact hi
  rcases hlink with ⟨-, h1⟩ | ⟨-, h1, -⟩
  · exact va_Wgetf hx hb hown (va_Nw.use rfl (hnw _ h1)) hi2 hst q1 (by rw [q3]; exact fun h => by cases h) (v := V k) (by rw [hsl]; exact q4 k hk) rfl rfl hd (kk hty)
  · exact W.getf hx hb hown (hts _ h1) hi2 hst q1 (by rw [q3]; exact fun h => by cases h) (v := V k) (by rw [hsl]; exact q4 k hk) rfl rfl hd (kk hty)
theorem aj_Wput (hx : p.tables.exec = Jvm.exec) (hb : c.code = cc) (hown : s.vm.findClass (aj_nm oc) = some m.cls) (hts : ∀ w ∈ aj_ws, w.before args s = true) (hK : va_K D aj_cl tys s) {i ci k t n a : Nat} {V : Nat → Value} {r : vw_C} {v : Value} (he : (oc, i, ci, k, t, n) ∈ aj_lfs) (hn : n = 0 ∨ (n = 1 ∧ meth.name = "<init>")) (hr : aj_cl[ci]? = some r) (hO : t_OB a (D.1 ci) r.2.2 (D.2 ci) H V) (hnr : aj_dc (r.2.1 k).2.2.1 = t → (4 ≤ t → aj_rk (aj_ty (r.2.1 k).2.2.1) = true) → narrow (aj_ty (r.2.1 k).2.2.1) v = v ∧ fits (aj_ty (r.2.1 k).2.2.1) v = true) (hd : decode cc pc = .ok (.putfield i, 3))
    (kk : ∀ (H1 : Heap) (j : Nat), t_OB a (D.1 ci) r.2.2 (D.2 ci) H1 (updV V k v) → H1.size = H.size → (∀ q, q ≠ a → H1[q]? = H[q]?) → aj_dc (r.2.1 k).2.2.1 = t → W p l e R s m args below meth c H1 (locs ++ [⟨a, j⟩]) cells slots Q (F0 m (pc + 3) ls rest)) : W p l e R s m args below meth c H locs cells slots Q (F0 m pc ls (v :: .ref a :: rest)) := by
  obtain ⟨C, T, N, hc, hk, hty, hlink⟩ := aj_lf_spec he
  have hrr : r = (C, T, N) := Option.some.inj (hr.symm.trans hc)
  subst hrr
  obtain ⟨hin, hpt, hdcl, -, hrk, hnm⟩ := aj_cl_spec hc
  have hap := va_apart (own := aj_nm oc) hts hin (fun k => aj_ty (T k).2.2.1) hpt hnm hK hc
  obtain ⟨cell, q1, q2, q3, q4⟩ := hO
  obtain ⟨hS, hfc, kC, hkC, hkind⟩ := hK.1 ci _ hc
  obtain ⟨cf, kf, fi, f, hi, hsl⟩ := hS k hk
  have hst := (u_facts hfc hkC (u_lays hts hin hk) hi).1
  have hi2 : s.fieldFound? C (T k).2.1 (T k).2.2.1 = some (cf, kf, fi, f) := by rw [← hdcl k hk]; exact hi
  obtain ⟨hn1, hn2⟩ := hnr hty (fun h4 => hrk k hk (by rw [hty]; exact h4))
  have hlay := hts _ (hin _ (u_in_lay hk))
  rcases hlink with ⟨h0, -⟩ | ⟨-, h1, h2, h3⟩
  · omega
  · rcases hn with hn | ⟨hn, hini⟩
    · subst hn
      unfold u_lay at hlay
      rw [if_neg (by rw [h2]; decide)] at hlay
      have h6 := u_store hfc hkC hkind hlay hi (hpt k hk) hn1 hn2
      refine W.putK hx hb (f := f) ⟨hown, hts _ h1, ⟨_, _, _, hi2⟩, hst⟩ (by rw [q2]; exact h6) q1 q3 (by rw [hsl]; exact k2_hasslot (q4 k hk)) rfl rfl hd fun H1 e1 e2 e3 => ?_
      rw [hsl] at e1
      exact kk H1 _ ⟨_, e1, q2, q3, t_set q4 hap hk v⟩ e2 e3 hty
    · subst hn
      have h3' : aj_nm oc = C := by rcases h3 with h3 | h3; exact absurd h3 (by decide); exact h3
      unfold u_lay at hlay
      rw [if_pos (by rw [h2]; decide)] at hlay
      have hcf : m.cls = cf := by
        obtain ⟨_, _, c', _, _, _, -, -, hf', -, -, -, hown2, -⟩ := Cond.laysFinal_spec hlay
        have e1 : c' = cf := by have := hi.symm.trans hf'; simp at this; exact this.1.symm
        rw [hdcl k hk, ← h3'] at hown2
        rw [← e1]; exact Option.some.inj (hown.symm.trans hown2)
      have h6 := u_fits hfc hkC hkind (Or.inr hlay) hi (hpt k hk) hn1 hn2
      refine W.putFinK hx hb hown (hts _ h1) hi2 hst hcf hini (by rw [q2]; exact h6) q1 q3 (by rw [hsl]; exact k2_hasslot (q4 k hk)) rfl rfl hd fun H1 e1 e2 e3 => ?_
      rw [hsl] at e1
      exact kk H1 _ ⟨_, e1, q2, q3, t_set q4 hap hk v⟩ e2 e3 hty
theorem aj_S5 {ini : Bool} (F : aj_fx D kA bs aS p s m args c nL oc cc) (hini : ini = true → meth.name = "<init>") : aj_C5 oc cc ini (aj_jm D kA bs aS b p l e R s m args below meth c Q nL mc ms) := by
  obtain ⟨hx, hb, hml, hown, hts, hkw, hbs⟩ := F
  refine ⟨?_, ?_, ?_, ?_, ?_, ?_⟩
  · intro pc L st Z I G C i ci k t n o p0 p1 p2 p3 p4 g1 g2 ls H locs hl hi
    obtain ⟨r, hr, hO⟩ := aj_ck_obj (hi.1.2.2 o) p3
    refine aj_Wget hx hb hown hts hkw.1 hkw.2.1 p0 hr hO p2 (fun ht => ?_)
    have h1 : t ≠ 1 ∧ t < 4 := by
      unfold aj_ity at p1
      simp only [Bool.or_eq_true, beq_iff_eq] at p1
      omega
    rw [ht, aj_tv_int h1.1 h1.2]
    exact p4 g1 g2 ls H locs hl hi
  · intro pc L st Z I G C i ci k t n o v p0 p1 p2 p3 p4 p5 g1 g2 ls H locs hl hi
    obtain ⟨r, hr, hO⟩ := aj_ck_obj (hi.1.2.2 o) p3
    refine aj_Wget hx hb hown hts hkw.1 hkw.2.1 p0 hr hO p2 (fun ht => ?_)
    rw [ht, aj_tv_ref (by simpa [aj_rty] using p1), p4]
    exact p5 g1 g2 ls H locs hl hi
  · intro pc L st Z I G C i ci k n o x p0 p1 p2 p3 p4 g1 g2 ls H locs hl hi
    obtain ⟨r, hr, hO⟩ := aj_ck_obj (hi.1.2.2 o) p3
    refine aj_Wput hx hb hown hts hkw.1 p0 (Or.inl p1) hr hO (fun ht _ => ?_) p2 (fun H1 j hO1 hz hq ht => p4 g1 g2 ls H1 _ hl (aj_in_set hi (by rw [p3]; exact fun q => by cases q) rfl rfl (fun q hqo t k => ?_) hz hq (aj_ck_of_obj p3 ⟨r, hr, hO1.to (fun q hqN => ?_)⟩)))
    · rw [aj_dc0 ht, aj_tyI]
      exact ⟨rfl, rfl⟩
    · unfold aj_tv
      rw [aj_u2_ne hqo]
    · unfold updV
      by_cases hqk : q = k
      · rw [if_pos hqk, hqk, ht, aj_tv_int (by decide) (by decide), aj_u2_eq, aj_up_eq]
      · rw [if_neg hqk]
        unfold aj_tv
        rw [aj_u2_eq, aj_up_ne hqk]
  · intro pc L st Z I G C i ci k n o x p0 p1 px p2 p3 p4 g1 g2 ls H locs hl hi
    obtain ⟨r, hr, hO⟩ := aj_ck_obj (hi.1.2.2 o) p3
    refine aj_Wput hx hb hown hts hkw.1 p0 (Or.inl p1) hr hO (fun ht _ => ?_) p2 (fun H1 j hO1 hz hq ht => p4 g1 g2 ls H1 _ hl (aj_in_set hi (by rw [p3]; exact fun q => by cases q) rfl rfl (fun q hqo t k => ?_) hz hq (aj_ck_of_obj p3 ⟨r, hr, hO1.to (fun q hqN => ?_)⟩)))
    · rw [aj_dc3 ht, aj_tyZ]
      rcases px with rfl | rfl <;> exact ⟨rfl, rfl⟩
    · unfold aj_tv
      rw [aj_u2_ne hqo]
    · unfold updV
      by_cases hqk : q = k
      · rw [if_pos hqk, hqk, ht, aj_tv_int (by decide) (by decide), aj_u2_eq, aj_up_eq]
      · rw [if_neg hqk]
        unfold aj_tv
        rw [aj_u2_eq, aj_up_ne hqk]
  · intro pc L st Z I G C i ci k t n o v p0 p1 p2 pv p3 p4 p5 g1 g2 ls H locs hl hi
    obtain ⟨r, hr, hO⟩ := aj_ck_obj (hi.1.2.2 o) p4
    have h4 : 4 ≤ t := by simpa [aj_rty] using p2
    refine aj_Wput hx hb hown hts hkw.1 p0 (by rcases p1 with p1 | ⟨p1, p1'⟩; exact Or.inl p1; exact Or.inr ⟨p1, hini p1'⟩) hr hO (fun ht hrk => ?_) p3 (fun H1 j hO1 hz hq ht => p5 g1 g2 ls H1 _ hl (aj_in_set hi (by rw [p4]; exact fun q => by cases q) rfl rfl (fun q hqo t k => ?_) hz hq (aj_ck_of_obj p4 ⟨r, hr, hO1.to (fun q hqN => ?_)⟩)))
    · have hk := hrk h4
      generalize aj_ty (r.2.1 k).2.2.1 = ty at hk ⊢
      rcases pv with rfl | ⟨a, rfl⟩ <;> cases ty <;> first | exact ⟨rfl, rfl⟩ | (simp [aj_rk] at hk)
    · unfold aj_tv
      dsimp only
      rw [aj_u2_ne hqo]
    · unfold updV
      by_cases hqk : q = k
      · rw [if_pos hqk, hqk, ht, aj_tv_ref h4]
        dsimp only
        rw [aj_u2_eq, aj_up_eq]
      · rw [if_neg hqk]
        unfold aj_tv
        dsimp only
        rw [aj_u2_eq, aj_up_ne hqk]
  · intro pc L st Z I G C i p0 p1 p2 g1 g2 ls H locs hl hi
    exact va_gets hx hb hkw.2.2.2.1 hi.2 hown (hts _ (aj_okls _ p0)) (fun _ h => h) p1 (p2 g1 g2 ls H locs hl hi)
end AJF
end
section
/-! arrays and new cells -/
theorem aj_tys_at (kA : Nat → ClassId) {t : Nat} (h : t < aj_nt) : (aj_tys kA)[t]? = some (kA t, aj_at t) := by
  unfold aj_tys
  rw [List.getElem?_map, List.getElem?_range h]
  rfl
/-- an array of references: its number of type, the class of its elements -/
def aj_oktc (q : Nat × Nat) : Bool := decide (q.1 < aj_nt) && decide (4 ≤ q.1) && (match aj_cl[q.2]? with
  | some r => decide (aj_at q.1 = .object r.1) && decide (r.1 ∈ aj_ao)
  | none => false)
theorem aj_oktcs : aj_tcs.all aj_oktc = true := by decide +kernel
theorem aj_tc_spec {t ci : Nat} (h : (t, ci) ∈ aj_tcs) : t < aj_nt ∧ 4 ≤ t ∧ ∃ r : vw_C, aj_cl[ci]? = some r ∧ aj_at t = .object r.1 ∧ r.1 ∈ aj_ao := by
  have h1 := List.all_eq_true.mp aj_oktcs _ h
  unfold aj_oktc at h1
  simp only [Bool.and_eq_true, decide_eq_true_eq] at h1
  obtain ⟨⟨a1, a2⟩, a3⟩ := h1
  refine ⟨a1, a2, ?_⟩
  cases hc : aj_cl[ci]? with
  | none => rw [hc] at a3; cases a3
  | some r =>
    rw [hc] at a3
    simp only [Bool.and_eq_true, decide_eq_true_eq] at a3
    exact ⟨r, rfl, a3.1, a3.2⟩
section AJA
variable {D : va_G} {kA : Nat → ClassId} {bs aS b : Nat} {p : Program} {l : Launch} {e : Env} {R : Room} {s : State} {m : MethodId} {args : Array Value} {below : List Frame} {meth : Method} {c : Code} {Q : State → Prop} {nL oc mc ms : Nat} {cc : ByteArray}
theorem aj_in_ast {Z : aj_Z} {I I1 : aj_I} {G G1 : aj_G} {Rf1 : Nat → Nat → Value} {H0 H H1 : Heap} {locs : List Loc} {o t n j : Nat} {v : Value} (hi : aj_in D kA bs aS b Z I G H0 H locs) (hk : Z.2.1 o = some (.inr (t, n))) (hv : ∀ q, q ≠ o → I1 q = I q ∧ G1 q = G q ∧ Rf1 q = Z.2.2 q) (ho : ∀ k, aj_tv (Z.1, Z.2.1, Rf1) I1 G1 t o k = if k = j then v else aj_tv Z I G t o k)
    (he : H1[aj_ca bs aS b o]? = some ((arrV (kA t) n (fun k => aj_cv (aj_ca bs aS b) (aj_tv Z I G t o k))).setSlot j (aj_cv (aj_ca bs aS b) v))) (hz : H1.size = H.size) (hq : ∀ q, q ≠ aj_ca bs aS b o → H1[q]? = H[q]?) : aj_in D kA bs aS b (Z.1, Z.2.1, Rf1) I1 G1 H0 H1 (locs ++ [⟨aj_ca bs aS b o, j⟩]) := by
  refine aj_in_set hi (by rw [hk]; exact fun q => by cases q) rfl rfl (fun q hqo t k => ?_) hz hq (aj_ck_of_arr hk ?_)
  · obtain ⟨h1, h2, h3⟩ := hv q hqo
    unfold aj_tv
    dsimp only
    rw [h1, h2, h3]
  · rw [he, arrV_store]
    congr 2
    funext k
    unfold updV
    rw [ho k]
    by_cases hkj : k = j
    · rw [if_pos hkj, if_pos hkj]
    · rw [if_neg hkj, if_neg hkj]
theorem aj_S6 {X : Option (Nat × (Nat → Int32))} (F : aj_fx D kA bs aS p s m args c nL oc cc) (hX : ∀ n xs, X = some (n, xs) → va_X b n xs s s.heap ∧ b < s.heap.size ∧ ¬ bs ≤ b) : aj_C6 X cc (aj_jm D kA bs aS b p l e R s m args below meth c Q nL mc ms) := by
  obtain ⟨hx, hb, hml, hown, hts, hkw, hbs⟩ := F
  have hA : ∀ t, t < aj_nt → ArrOfT s (kA t) (aj_at t) ∧ va_RA s (kA t) (aj_at t) := fun t h => hkw.1.2 t _ (aj_tys_at kA h)
  have hlt : ∀ {i : Int32} {n : Nat}, vp_in i n → i.toNatClampNeg < n := fun h => Nat.not_le.mp fun q => h (Or.inr q)
  have hin : ∀ {i : Int32} {n : Nat} {cA : ClassId} {f : Nat → Value}, vp_in i n → ¬ (i < 0 ∨ (arrV cA n f).slots.size ≤ i.toNatClampNeg) := fun h => by rw [arrV_size]; exact h
  refine ⟨?_, ?_, ?_, ?_, ?_, ?_, ?_, ?_, ?_, ?_, ?_, ?_, ?_⟩
  · intro pc L st Z I G C o n i p0 p1 p2 p3 g1 g2 ls H locs hl hi
    exact W.iald (v := .int (I o i.toNatClampNeg)) hx hb (aj_ck_arr (hi.1.2.2 o) p1) ((hA 0 (by decide)).1 _ _) (fun q => by cases q) (hin p2) (by rw [arrV_read _ _ (hlt p2)]; rfl) rfl rfl p0 (p3 g1 g2 ls H locs hl hi)
  · intro pc L st Z I G C o n i p0 p1 p2 p3 g1 g2 ls H locs hl hi
    exact W.lald (v := .long (G o i.toNatClampNeg)) hx hb (aj_ck_arr (hi.1.2.2 o) p1) ((hA 1 (by decide)).1 _ _) (fun q => by cases q) (hin p2) (by rw [arrV_read _ _ (hlt p2)]; rfl) rfl rfl p0 (p3 g1 g2 ls H locs hl hi)
  · intro pc L st Z I G C o n i p0 p1 p2 p3 g1 g2 ls H locs hl hi
    exact W.bald (v := .int (I o i.toNatClampNeg)) hx hb (aj_ck_arr (hi.1.2.2 o) p1) ((hA 2 (by decide)).1 _ _) (fun q => by cases q) (hin p2) (by rw [arrV_read _ _ (hlt p2)]; rfl) rfl rfl p0 (p3 g1 g2 ls H locs hl hi)
  · intro pc L st Z I G C o n i p0 p1 p2 p3 g1 g2 ls H locs hl hi
    exact W.zald (v := .int (I o i.toNatClampNeg)) hx hb (aj_ck_arr (hi.1.2.2 o) p1) ((hA 3 (by decide)).1 _ _) (fun q => by cases q) (hin p2) (by rw [arrV_read _ _ (hlt p2)]; rfl) rfl rfl p0 (p3 g1 g2 ls H locs hl hi)
  · intro pc L st Z I G C o n t ci i v p0 p1 pt p2 pv p3 g1 g2 ls H locs hl hi
    obtain ⟨h1, h4, r, hr, hty, -⟩ := aj_tc_spec pt
    have hAt := (hA t h1).1
    rw [hty] at hAt
    exact W.aald (v := aj_cv (aj_ca bs aS b) v) (ty := .object r.1) hx hb (aj_ck_arr (hi.1.2.2 o) p1) (hAt _ _) rfl (fun q => by cases q) (hin p2) (by rw [arrV_read _ _ (hlt p2), aj_tv_ref h4, pv]) rfl rfl p0 (p3 g1 g2 ls H locs hl hi)
  · intro pc L st Z I G C o n i x p0 p1 p2 p3 g1 g2 ls H locs hl hi
    refine W.iast hx hb (aj_ck_arr (hi.1.2.2 o) p1) ((hA 0 (by decide)).1 _ _) (fun q => by cases q) (hin p2) rfl rfl p0 fun H1 e1 z oq => ?_
    exact p3 g1 g2 ls H1 _ hl (aj_in_ast (v := .int x) (Rf1 := Z.2.2) hi p1 (fun q hq => ⟨aj_u2_ne hq, rfl, rfl⟩) (fun k => by
      rw [aj_tv_int (by decide) (by decide), aj_tv_int (by decide) (by decide), aj_u2_eq]
      unfold va_up
      by_cases hk : k = i.toNatClampNeg
      · rw [if_pos hk, if_pos hk]
      · rw [if_neg hk, if_neg hk]) e1 z oq)
  · intro pc L st Z I G C o n i x p0 p1 p2 p3 g1 g2 ls H locs hl hi
    refine W.bast hx hb (aj_ck_arr (hi.1.2.2 o) p1) ((hA 2 (by decide)).1 _ _) (fun q => by cases q) (hin p2) rfl rfl p0 fun H1 e1 z oq => ?_
    exact p3 g1 g2 ls H1 _ hl (aj_in_ast (v := .int x.toInt8.toInt32) (Rf1 := Z.2.2) hi p1 (fun q hq => ⟨aj_u2_ne hq, rfl, rfl⟩) (fun k => by
      rw [aj_tv_int (by decide) (by decide), aj_tv_int (by decide) (by decide), aj_u2_eq]
      unfold va_up
      by_cases hk : k = i.toNatClampNeg
      · rw [if_pos hk, if_pos hk]
      · rw [if_neg hk, if_neg hk]) e1 z oq)
  · intro pc L st Z I G C o n i x p0 p1 p2 p3 g1 g2 ls H locs hl hi
    refine W.zast hx hb (aj_ck_arr (hi.1.2.2 o) p1) ((hA 3 (by decide)).1 _ _) (fun q => by cases q) (hin p2) rfl rfl p0 fun H1 e1 z oq => ?_
    exact p3 g1 g2 ls H1 _ hl (aj_in_ast (v := .int (x &&& 1)) (Rf1 := Z.2.2) hi p1 (fun q hq => ⟨aj_u2_ne hq, rfl, rfl⟩) (fun k => by
      rw [aj_tv_int (by decide) (by decide), aj_tv_int (by decide) (by decide), aj_u2_eq]
      unfold va_up
      by_cases hk : k = i.toNatClampNeg
      · rw [if_pos hk, if_pos hk]
      · rw [if_neg hk, if_neg hk]) e1 z oq)
  · intro pc L st Z I G C o n i x p0 p1 p2 p3 g1 g2 ls H locs hl hi
    refine W.last hx hb (aj_ck_arr (hi.1.2.2 o) p1) ((hA 1 (by decide)).1 _ _) (fun q => by cases q) (hin p2) rfl rfl p0 fun H1 e1 z oq => ?_
    exact p3 g1 g2 ls H1 _ hl (aj_in_ast (v := .long x) (Rf1 := Z.2.2) hi p1 (fun q hq => ⟨rfl, aj_u2_ne hq, rfl⟩) (fun k => by
      show Value.long (aj_u2 G o i.toNatClampNeg x o k) = if k = i.toNatClampNeg then Value.long x else Value.long (G o k)
      rw [aj_u2_eq]
      unfold va_up
      by_cases hk : k = i.toNatClampNeg
      · rw [if_pos hk, if_pos hk]
      · rw [if_neg hk, if_neg hk]) e1 z oq)
  · intro pc L st Z I G C o n t a ci i p0 p1 pt pa p2 p3 g1 g2 ls H locs hl hi
    obtain ⟨h1, h4, r, hr, hty, -⟩ := aj_tc_spec pt
    obtain ⟨r', hr', cellV, q1, q2, q3, q4⟩ := aj_ck_obj (hi.1.2.2 a) pa
    have hcls := (hkw.1.1 ci r hr).2
    have hRA := (hA t h1).2
    rw [hty] at hRA
    obtain ⟨kA', comp, k1, k2, k3, -⟩ := hRA
    have hcomp : comp = D.1 ci := Option.some.inj (k3.symm.trans hcls.1)
    subst hcomp
    obtain ⟨kC, hkC, -⟩ := hcls.2
    refine W.aast hx hb (aj_ck_arr (hi.1.2.2 o) p1) (fun q h => by cases h) (fun h => by cases h) k1 k2 rfl hkC ⟨fun q => p2 (Or.inl q), by rw [arrV_size]; exact hlt p2⟩ q1 (fun q h => by rw [q3] at h; cases h) (by rw [q2]; exact hkC) (by rw [q2]; exact va_assign hcls) rfl rfl p0 fun H1 e1 z oq => ?_
    exact p3 g1 g2 ls H1 _ hl (aj_in_ast (v := .ref a) hi p1 (fun q hq => ⟨rfl, rfl, aj_u2_ne hq⟩) (fun k => by
      rw [aj_tv_ref h4, aj_tv_ref h4]
      dsimp only
      rw [aj_u2_eq]
      unfold va_up
      by_cases hk : k = i.toNatClampNeg
      · rw [if_pos hk]
      · rw [if_neg hk]) e1 z oq)
  · intro pc L st Z I G C n xs i p0 p1 p2 p3 g1 g2 ls H locs hl hi
    obtain ⟨h1, h2, h3⟩ := hX n xs p1
    exact va_sld hx hb h1 h2 h3 hi.2 p2 p0 (p3 g1 g2 ls H locs hl hi)
  · intro pc L st Z I G C n xs p0 p1 p2 g1 g2 ls H locs hl hi
    obtain ⟨h1, h2, h3⟩ := hX n xs p1
    exact va_slen hx hb h1 h2 h3 hi.2 p0 (p2 g1 g2 ls H locs hl hi)
  · intro pc L st Z I G C i p0 p1 p2 g1 g2 ls H locs hl hi
    exact va_ti hx hb hkw.2.2.2.2 hi.2 p1 rfl p0 (p2 g1 g2 ls H locs hl hi)
/-- new cells: the room of the frame holds them -/
theorem aj_S7 (F : aj_fx D kA bs aS p s m args c nL oc cc) (hR : mc ≤ R.cells ∧ ms ≤ R.slots ∧ 1 ≤ R.frames ∧ 37 ≤ R.locals) : aj_C7 oc cc mc ms (aj_jm D kA bs aS b p l e R s m args below meth c Q nL mc ms) := by
  obtain ⟨hx, hb, hml, hown, hts, hkw, hbs⟩ := F
  have hA : ∀ t, t < aj_nt → ArrOfT s (kA t) (aj_at t) ∧ va_RA s (kA t) (aj_at t) := fun t h => hkw.1.2 t _ (aj_tys_at kA h)
  refine ⟨?_, ?_, ?_, ?_, ?_, ?_, ?_⟩
  · intro pc L st Z I G C i ci n p0 p1 p2 p3 p4 g1 g2 ls H locs hl hi
    obtain ⟨C0, T, N, hc, hN, h1, h2, h3⟩ := aj_ln_spec p0
    subst hN
    obtain ⟨hin, hpt, hdcl, hdf, -, -⟩ := aj_cl_spec hc
    have hKn := hkw.1.1 ci _ hc
    refine W.newcK hx hb hown (hts _ h1) (hts _ h2) (hts _ h3) rfl p1 (by omega) (by omega) hKn.2.1 rfl fun H1 kC hkC e1 z1 o1 => ?_
    have hsz : H.size = bs + Z.1 := hi.1.1
    have hB := u_born (fun k => aj_ty (T k).2.2.1) hts hin hKn hkC e1 hpt
    have hgo := p4 p2 p3 ls H1 locs hl (aj_in_new (kd := .inl ci) hi z1 o1 (aj_ck_of_obj (aj_up_eq) ⟨_, hc, by
      rw [hsz] at hB
      refine hB.to (fun k hk => ?_)
      rw [hdf k hk]
      have e1 : aj_nI Z I (Z.1 + 2) = fun _ => 0 := aj_up_eq
      have e2 : aj_nG Z G (Z.1 + 2) = fun _ => 0 := aj_up_eq
      have e3 : (aj_nZ Z (.inl ci)).2.2 (Z.1 + 2) = fun _ => .null := aj_up_eq
      unfold aj_tv aj_df
      rw [e1, e2, e3]
      by_cases ha : aj_dc (T k).2.2.1 = 1
      · rw [if_pos ha]; rfl
      · rw [if_neg ha]
        by_cases hb : aj_dc (T k).2.2.1 < 4
        · rw [if_pos hb]; rfl
        · rw [if_neg hb]; rfl⟩))
    have e9 : (Value.ref H.size :: st.map (aj_cv (aj_ca bs aS b))) = (Value.ref (Z.1 + 2) :: st).map (aj_cv (aj_ca bs aS b)) := by rw [hsz]; rfl
    exact W.eq (g2 := F0 m (pc + 3) ls ((Value.ref (Z.1 + 2) :: st).map (aj_cv (aj_ca bs aS b)))) (by rw [← e9]) hgo
  · intro pc L st Z I G C a t n x p0 p1 p2 pn p3 p4 p5 g1 g2 ls H locs hl hi
    obtain ⟨h1, h4, hty, hw⟩ := aj_pa_spec p0
    subst p2
    have hsz : H.size = bs + Z.1 := hi.1.1
    refine va_newaK hx hb (hts _ hw) rfl p1 rfl (nI_pos (by omega)) (nI_clamp (by omega)) (by have := aj_cb (newarray.typeOf a); rw [hty]; have := aj_cb (aj_at t); calc n * componentBytes (aj_at t) ≤ 2000 * 8 := Nat.mul_le_mul pn this
      _ ≤ 536870912 := by decide) (by omega) (by omega) rfl fun H1 cA e1 z1 o1 hAr hNm => ?_
    have hcA : cA = kA t := by
      have h9 := (hA t h1).2
      rw [hty] at hNm
      have : s.vm.findClass ("[" ++ (aj_at t).toString) = some (kA t) := aj_RA_prim h4 h9
      exact Option.some.inj (hNm.symm.trans this)
    subst hcA
    have hgo := p5 p3 p4 ls H1 locs hl (aj_in_new (kd := .inr (t, n)) hi z1 o1 (aj_ck_of_arr (aj_up_eq) (by
      rw [hsz] at e1
      show H1[bs + Z.1]? = _
      rw [e1, hty]
      congr 2
      funext k
      have e1 : aj_nI Z I (Z.1 + 2) = fun _ => 0 := aj_up_eq
      have e2 : aj_nG Z G (Z.1 + 2) = fun _ => 0 := aj_up_eq
      unfold aj_tv
      rw [e1, e2]
      rw [aj_prim_df h4]
      unfold aj_df
      by_cases ha : t = 1
      · rw [if_pos ha, if_pos ha]; rfl
      · rw [if_neg ha, if_neg ha, if_pos h4, if_pos h4]; rfl)))
    have e9 : (Value.ref H.size :: st.map (aj_cv (aj_ca bs aS b))) = (Value.ref (Z.1 + 2) :: st).map (aj_cv (aj_ca bs aS b)) := by rw [hsz]; rfl
    exact W.eq (g2 := F0 m (pc + 2) ls ((Value.ref (Z.1 + 2) :: st).map (aj_cv (aj_ca bs aS b)))) (by rw [← e9]) hgo
  · intro pc L st Z I G C i t n x p0 p1 p2 pn p3 p4 p5 g1 g2 ls H locs hl hi
    obtain ⟨C0, hC0, hty, h1, h4, hcl⟩ := aj_la_spec p0
    subst p2
    have hsz : H.size = bs + Z.1 := hi.1.1
    have hnc : (nI n).toNatClampNeg = n := nI_clamp (by omega)
    refine W.anew hx hb hown (hts _ hcl) (va_AO.use (hkw.2.2.1 _ hC0)) rfl p1 rfl (nI_pos (by omega)) (by rw [hnc]; omega) (by omega) (by rw [hnc]; omega) fun cA kA' comp f1 f2 f3 f4 => ?_
    rw [hnc]
    have hcA : cA = kA t := by
      have h9 := (hA t h1).2
      rw [hty] at h9
      obtain ⟨_, _, -, -, -, h10⟩ := h9
      exact Option.some.inj (f1.symm.trans h10)
    subst hcA
    generalize hH1 : H.push ({ cls := kA t, slots := Array.replicate n .null, vm := .none } : Cell) = H1
    have z1 : H1.size = H.size + 1 := by rw [← hH1, Array.size_push]
    have e1 : H1[H.size]? = some (arrV (kA t) n (fun _ => .null)) := by rw [← hH1, Array.getElem?_push_size, ← arrV_new]
    have o1 : ∀ q : Nat, q < H.size → H1[q]? = H[q]? := fun q hq => by rw [← hH1, Array.getElem?_push, if_neg (Nat.ne_of_lt hq)]
    have hgo := p5 p3 p4 ls H1 locs hl (aj_in_new (kd := .inr (t, n)) hi z1 o1 (aj_ck_of_arr (aj_up_eq) (by
      rw [hsz] at e1
      show H1[bs + Z.1]? = _
      rw [e1]
      congr 2
      funext k
      have e3 : (aj_nZ Z (.inr (t, n))).2.2 (Z.1 + 2) = fun _ => .null := aj_up_eq
      rw [aj_tv_ref h4, e3]
      rfl)))
    have e9 : (Value.ref H.size :: st.map (aj_cv (aj_ca bs aS b))) = (Value.ref (Z.1 + 2) :: st).map (aj_cv (aj_ca bs aS b)) := by rw [hsz]; rfl
    exact W.eq (g2 := F0 m (pc + 3) ls ((Value.ref (Z.1 + 2) :: st).map (aj_cv (aj_ca bs aS b)))) (by rw [← e9]) hgo
  · intro pc L st Z I G C i o p0 p1 p2 p3 g1 g2 ls H locs hl hi
    have hcs := aj_cats (aj_ca bs aS b) st
    refine W.objInit hx hb hown (hts _ (aj_oklo _ p0)) (hts _ aj_oko1) (hts _ aj_oko2) rfl (by rw [hml]; exact hl.1) (rest := st.map (aj_cv (aj_ca bs aS b))) rfl p1 hR.2.2.1 (by show 2 * 0 + _ + 12 ≤ _; rw [hcs]; omega) ?_
    exact p3 g1 g2 ls H locs hl hi
  · intro pc L st Z I G C i x y p0 p1 p2 p3 g1 g2 ls H locs hl hi
    have hcs := aj_cats (aj_ca bs aS b) st
    obtain ⟨w1, w2, w3, w4⟩ := aj_x0 p0
    exact va_mmin (rest := st.map (aj_cv (aj_ca bs aS b))) hx hb (by rw [hml]; exact hl.1.symm) hown (hts _ w1) (hts _ w2) (hts _ w3) (hts _ w4) hR.2.2.1 (by rw [hcs]; omega) (by omega) (by omega) p1 (p3 g1 g2 ls H locs hl hi)
  · intro pc L st Z I G C i x y p0 p1 p2 p3 g1 g2 ls H locs hl hi
    have hcs := aj_cats (aj_ca bs aS b) st
    obtain ⟨w1, w2, w3, w4⟩ := aj_x1 p0
    exact va_mmax (rest := st.map (aj_cv (aj_ca bs aS b))) hx hb (by rw [hml]; exact hl.1.symm) hown (hts _ w1) (hts _ w2) (hts _ w3) (hts _ w4) hR.2.2.1 (by rw [hcs]; omega) (by omega) (by omega) p1 (p3 g1 g2 ls H locs hl hi)
  · intro pc L st Z I G C i x y p0 p1 p2 p3 g1 g2 ls H locs hl hi
    have hcs := aj_cats (aj_ca bs aS b) st
    obtain ⟨w1, w2, w3, w4⟩ := aj_x2 p0
    exact va_mmin_long (rest := st.map (aj_cv (aj_ca bs aS b))) hx hb (by rw [hml]; exact hl.1.symm) hown (hts _ w1) (hts _ w2) (hts _ w3) (hts _ w4) hR.2.2.1 (by rw [hcs]; omega) (by omega) (by omega) p1 (p3 g1 g2 ls H locs hl hi)
end AJA
end
section
/-! calls, returns, and a method's contract out of its walk -/
def aj_isN : Cond → Bool
  | .fieldLinkNest .. => true
  | .methodLinkNest .. => true
  | _ => false
theorem aj_nws : aj_nw.all aj_isN = true := by decide +kernel
theorem aj_nw_warm {w : Cond} (hn : aj_isN w = true) {s U : State} (hW : s.WarmedH U.vm) (h : va_Nw w s) : va_Nw w U := by
  unfold aj_isN at hn
  split at hn
  · exact va_Nw.warmF hW h
  · exact va_Nw.warmM hW h
  · cases hn
theorem aj_nw_same {w : Cond} (hn : aj_isN w = true) {u U : State} (hv : u.vm = U.vm) (h : va_Nw w u) : va_Nw w U := by
  unfold aj_isN at hn
  split at hn
  · exact va_Nw.same rfl hv h
  · exact va_Nw.same rfl hv h
  · cases hn
theorem aj_kw_same {D : va_G} {kA : Nat → ClassId} {bs aS : Nat} {u U : State} {H : Heap} (hv : u.vm = U.vm) (h : aj_kw D kA bs aS u H) : aj_kw D kA bs aS U H := by
  obtain ⟨h1, h2, h3, h4, h5⟩ := h
  have ha : u.vm.Alike U.vm := by rw [hv]; exact Vm.Alike.refl _
  exact ⟨va_K.moved ha h1, fun w hw => aj_nw_same (List.all_eq_true.mp aj_nws w hw) hv (h2 w hw), fun C hC => va_AO.moved ha (h3 C hC), va_Z.moved ha h4, va_T.moved ha h5⟩
theorem aj_kw_warm {D : va_G} {kA : Nat → ClassId} {bs aS : Nat} {s U : State} {H : Heap} {locs : List Loc} (hW : s.WarmedH U.vm) (h : aj_kw D kA bs aS s s.heap) (hS : va_S (fun q => bs ≤ q) s.heap H locs) : aj_kw D kA bs aS U H := by
  obtain ⟨h1, h2, h3, h4, h5⟩ := h
  exact ⟨va_K.moved hW.alike h1, fun w hw => aj_nw_warm (List.all_eq_true.mp aj_nws w hw) hW (h2 w hw), fun C hC => va_AO.moved hW.alike (h3 C hC), va_Z.moved hW.alike (h4.kept hS.2.1), va_T.moved hW.alike (h5.kept hS.2.1)⟩
def aj_Qc (D : va_G) (kA : Nat → ClassId) (bs aS b : Nat) (Q : aj_Q) : Array Value → State → Outcome → State → Prop := fun _ st oc t =>
  (∃ (r : Option Value) (Z : aj_Z) (I : aj_I) (G : aj_G), oc = .returned (r.map (aj_cv (aj_ca bs aS b))) ∧ Q r Z I G ∧ aj_iw D kA bs aS b Z I G t.heap) ∧ va_F (fun q => bs ≤ q) st t
def aj_Pc (D : va_G) (kA : Nat → ClassId) (bs aS b : Nat) (as : List Value) (Z : aj_Z) (I : aj_I) (G : aj_G) : Array Value → State → Prop :=
  va_Pc (as.map (aj_cv (aj_ca bs aS b))) (fun U => aj_iw D kA bs aS b Z I G U.heap ∧ aj_kw D kA bs aS U U.heap ∧ bs ≤ U.heap.size)
def aj_rm (d mc ms : Nat) : Room := { frames := d, cells := mc, slots := ms, locals := 37 * d }
def aj_MT (l : Launch) (D : va_G) (kA : Nat → ClassId) (bs aS b : Nat) (d mc ms y : Nat) (as : List Value) (Z : aj_Z) (I : aj_I) (G : aj_G) (Q : aj_Q) : Prop :=
  ∀ (oc : Nat) (nm : MethodName) (cc : ByteArray) (nL : Nat) (rt : Option FieldType), aj_ms[y]? = some (oc, nm, cc, nL, rt) → Met l nm (Cond.code nm cc nL rt :: aj_ws) (aj_rm d mc ms) (aj_Pc D kA bs aS b as Z I G) (aj_Qc D kA bs aS b Q) mc ms (fun q => bs ≤ q)
theorem aj_blind {D : va_G} {kA : Nat → ClassId} {bs aS b : Nat} {as : List Value} {Z : aj_Z} {I : aj_I} {G : aj_G} : FrameBlind (aj_Pc D kA bs aS b as Z I G) :=
  fun a U g mk q => ⟨q.1, q.2.1, aj_kw_same (u := U) (U := U.calling g mk a) (H := U.heap) rfl q.2.2.1, q.2.2.2⟩
section AJC
variable {D : va_G} {kA : Nat → ClassId} {bs aS b : Nat} {p : Program} {l : Launch} {e : Env} {R : Room} {s : State} {m : MethodId} {args : Array Value} {below : List Frame} {meth : Method} {c : Code} {Q : State → Prop} {nL oc mc ms : Nat} {cc : ByteArray}
theorem aj_Wrun {k w pc : Nat} {L : aj_L} {st st0 : List Value} {C : Nat × Nat} {H : Heap} {locs : List Loc} {ls : Array Slot} {a : Array Value}
    (hrun : va_Run p l e R s m args below meth c H locs C.1 C.2 k w (F0 m pc ls st0) (st.map (aj_cv (aj_ca bs aS b))) (aj_Qc D kA bs aS b (fun r Z1 I1 G1 => aj_jm D kA bs aS b p l e R s m args below meth c Q nL mc ms (pc + 3) L (r.toList ++ st) Z1 I1 G1 (C.1 + k, C.2 + w)) a) (fun q => bs ≤ q))
    (hc : C.1 + k ≤ mc ∧ C.2 + w ≤ ms) (hl : aj_lr (aj_ca bs aS b) ls nL L) (hS : va_S (fun q => bs ≤ q) s.heap H locs) : W p l e R s m args below meth c H locs C.1 C.2 Q (F0 m pc ls st0) := by
  intro T hT X
  obtain ⟨v, st₀, t, T', L', h0, X', hL, e1, e2, ⟨⟨r, Z1, I1, G1, hv, hq, hw⟩, hz, hk⟩, st'⟩ := hrun T hT X
  have hv : v = r.map (aj_cv (aj_ca bs aS b)) := Outcome.returned.inj hv
  subst hv
  rw [h0] at hz hk
  have hS1 : va_S (fun q => bs ≤ q) s.heap T'.heap (locs ++ L') := ⟨Nat.le_trans hS.1 (by rw [e1]; exact hz), fun q h1 h2 => by rw [e1, hk q (Nat.lt_of_lt_of_le h1 hS.1) h2]; exact hS.2.1 q h1 h2, fun q hq => by
    rcases List.mem_append.mp hq with h | h
    · exact hS.2.2 q h
    · exact hL q h⟩
  obtain ⟨t2, a1, b1⟩ := hq hc.1 hc.2 ls T'.heap (locs ++ L') hl ⟨by rw [e1]; exact hw, hS1⟩ T' rfl X'
  refine ⟨t2, st' t2 ?_, b1⟩
  have e9 : (r.toList ++ st).map (aj_cv (aj_ca bs aS b)) = (r.map (aj_cv (aj_ca bs aS b))).toList ++ st.map (aj_cv (aj_ca bs aS b)) := by cases r <;> rfl
  rw [e9] at a1
  exact a1
theorem aj_S8 {d : Nat} (F : aj_fx D kA bs aS p s m args c nL oc cc) (hR : mc ≤ R.cells ∧ ms ≤ R.slots ∧ d + 1 ≤ R.frames ∧ 37 * (d + 1) ≤ R.locals) (ih : ∀ (k w y : Nat) (as : List Value) (Z : aj_Z) (I : aj_I) (G : aj_G) (Q : aj_Q), aj_T d k w y as Z I G Q → aj_MT l D kA bs aS b d k w y as Z I G Q) : aj_C8 oc cc mc ms (aj_T d) (aj_jm D kA bs aS b p l e R s m args below meth c Q nL mc ms) := by
  obtain ⟨hx, hb, hml, hown, hts, hkw, hbs⟩ := F
  have hG : ∀ {y oc' nL' : Nat} {nm : MethodName} {cc' : ByteArray} {rt : Option FieldType}, aj_ms[y]? = some (oc', nm, cc', nL', rt) → GoodIn aj_ws (Cond.code nm cc' nL' rt :: aj_ws) := fun h w hw => by
    rcases List.mem_cons.mp hw with h1 | h1
    · subst h1; exact ⟨aj_ms_ws h, Or.inl rfl⟩
    · exact ⟨h1, aj_good w h1⟩
  have hgeR : ∀ {H : Heap} {locs : List Loc}, va_S (fun q => bs ≤ q) s.heap H locs → bs ≤ H.size := fun h => Nat.le_trans hbs h.1
  refine ⟨?_, ?_, ?_⟩
  · intro pc L st Z I G C i y ci n h k w o as p0 p1 p2 p3 p4 p5 p6 g1 g2 ls H locs hl hi
    obtain ⟨oc', nm, cc', nL', rt, hms, hnL, hd, hini, hlink, hv, -, -⟩ := aj_lm_spec p0
    obtain ⟨hin, hsel, r, hr, hrc⟩ := hv rfl
    obtain ⟨r', hr', cellB, q1, q2, q3, q4⟩ := aj_ck_obj (hi.1.2.2 o) p4
    have hM := ih k w y (.ref o :: as) Z I G _ p6 oc' nm cc' nL' rt hms
    have hfc := (hkw.1.1 ci r hr).2.1
    have hp : PreV s H nm.cls (aj_ca bs aS b o) (aj_Pc D kA bs aS b (.ref o :: as) Z I G) (as.map (aj_cv (aj_ca bs aS b))) :=
      ⟨aj_blind, ⟨cellB, q1, by rw [q3]; rfl, by rw [q2, ← hrc]; exact hfc⟩, fun U hU hW => ⟨rfl, by rw [hU]; exact hi.1, by rw [hU]; exact aj_kw_warm hW hkw hi.2, by rw [hU]; exact hgeR hi.2⟩⟩
    have hcs := aj_cats (aj_ca bs aS b) st
    have hc2 := p5 g1 g2
    have hstk : (as.reverse ++ .ref o :: st).map (aj_cv (aj_ca bs aS b)) = (as.map (aj_cv (aj_ca bs aS b))).reverse ++ .ref (aj_ca bs aS b o) :: st.map (aj_cv (aj_ca bs aS b)) := by
      rw [List.map_append, List.map_reverse]; rfl
    rcases hlink with h1 | h1
    · exact aj_Wrun (va_runVN (host := aj_host) (rest := st.map (aj_cv (aj_ca bs aS b))) ⟨hx, hb, hml, hown, hts⟩ hM ⟨va_cnB n hts (hG hms) rfl rfl rfl (hkw.2.1 _ h1) (hts _ hini) hd ⟨by show d + 1 ≤ _; omega, by show 8 + (nL' + 11) + 37 * d ≤ _; omega⟩, hts _ hin, hts _ hsel⟩ hp rfl (by rw [List.length_map]; exact p2) hl.1 hstk (lv_room (by rw [hcs]; exact p3)) p1 ⟨by omega, by omega⟩) hc2 hl hi.2
    · exact aj_Wrun (va_runV (rest := st.map (aj_cv (aj_ca bs aS b))) ⟨hx, hb, hml, hown, hts⟩ hM ⟨callB_of n hts (hG hms) rfl rfl rfl (hts _ hini) (hts _ h1) hd ⟨by show d + 1 ≤ _; omega, by show 8 + (nL' + 11) + 37 * d ≤ _; omega⟩, hts _ hin, hts _ hsel⟩ hp rfl (by rw [List.length_map]; exact p2) hl.1 hstk (lv_room (by rw [hcs]; exact p3)) p1 ⟨by omega, by omega⟩) hc2 hl hi.2
  · intro pc L st Z I G C i y ci n h k w as p0 p1 p2 p3 p5 p6 g1 g2 ls H locs hl hi
    obtain ⟨oc', nm, cc', nL', rt, hms, hnL, hd, hini, hlink, -, hv, -⟩ := aj_lm_spec p0
    have hst := hv rfl
    have hM := ih k w y as Z I G _ p6 oc' nm cc' nL' rt hms
    have hp : PreS s H (aj_Pc D kA bs aS b as Z I G) (as.map (aj_cv (aj_ca bs aS b))) :=
      ⟨aj_blind, fun U hU hW => ⟨rfl, by rw [hU]; exact hi.1, by rw [hU]; exact aj_kw_warm hW hkw hi.2, by rw [hU]; exact hgeR hi.2⟩⟩
    have hcs := aj_cats (aj_ca bs aS b) st
    have hc2 := p5 g1 g2
    have hstk : (as.reverse ++ st).map (aj_cv (aj_ca bs aS b)) = (as.map (aj_cv (aj_ca bs aS b))).reverse ++ st.map (aj_cv (aj_ca bs aS b)) := by
      rw [List.map_append, List.map_reverse]
    rcases hlink with h1 | h1
    · exact aj_Wrun (va_runSN (host := aj_host) (rest := st.map (aj_cv (aj_ca bs aS b))) ⟨hx, hb, hml, hown, hts⟩ hM ⟨va_cnB n hts (hG hms) rfl rfl rfl (hkw.2.1 _ h1) (hts _ hini) hd ⟨by show d + 1 ≤ _; omega, by show 8 + (nL' + 11) + 37 * d ≤ _; omega⟩, hts _ hst, trivial⟩ hp rfl (by rw [List.length_map]; exact p2) hl.1 hstk (lv_room (by rw [hcs]; exact p3)) p1 ⟨by omega, by omega⟩) hc2 hl hi.2
    · exact aj_Wrun (va_runS (rest := st.map (aj_cv (aj_ca bs aS b))) ⟨hx, hb, hml, hown, hts⟩ hM ⟨callB_of n hts (hG hms) rfl rfl rfl (hts _ hini) (hts _ h1) hd ⟨by show d + 1 ≤ _; omega, by show 8 + (nL' + 11) + 37 * d ≤ _; omega⟩, hts _ hst⟩ hp rfl (by rw [List.length_map]; exact p2) hl.1 hstk (lv_room (by rw [hcs]; exact p3)) p1 ⟨by omega, by omega⟩) hc2 hl hi.2
  · intro pc L st Z I G C i y ci n h k w o as p0 p1 p2 p3 p5 p6 g1 g2 ls H locs hl hi
    obtain ⟨oc', nm, cc', nL', rt, hms, hnL, hd, hini, hlink, -, -, hv⟩ := aj_lm_spec p0
    obtain ⟨hnm, hin, hrt⟩ := hv rfl
    subst hrt
    have hM := ih k w y (.ref o :: as) Z I G _ p6 oc' nm cc' nL' none hms
    have hp : PreS s H (aj_Pc D kA bs aS b (.ref o :: as) Z I G) (.ref (aj_ca bs aS b o) :: as.map (aj_cv (aj_ca bs aS b))) :=
      ⟨aj_blind, fun U hU hW => ⟨rfl, by rw [hU]; exact hi.1, by rw [hU]; exact aj_kw_warm hW hkw hi.2, by rw [hU]; exact hgeR hi.2⟩⟩
    have hcs := aj_cats (aj_ca bs aS b) st
    have hc2 := p5 g1 g2
    have hstk : (as.reverse ++ .ref o :: st).map (aj_cv (aj_ca bs aS b)) = (as.map (aj_cv (aj_ca bs aS b))).reverse ++ .ref (aj_ca bs aS b o) :: st.map (aj_cv (aj_ca bs aS b)) := by
      rw [List.map_append, List.map_reverse]; rfl
    rcases hlink with h1 | h1
    · exact aj_Wrun (va_runIN (host := aj_host) (rest := st.map (aj_cv (aj_ca bs aS b))) ⟨hx, hb, hml, hown, hts⟩ hM ⟨va_cnB n hts (hG hms) rfl rfl rfl (hkw.2.1 _ h1) (hts _ hini) hd ⟨by show d + 1 ≤ _; omega, by show 8 + (nL' + 11) + 37 * d ≤ _; omega⟩, hnm, hts _ hin⟩ hp rfl (by rw [List.length_map]; exact p2) hl.1 hstk (lv_room (by rw [hcs]; exact p3)) p1 ⟨by omega, by omega⟩) hc2 hl hi.2
    · exact aj_Wrun (va_runI (rest := st.map (aj_cv (aj_ca bs aS b))) ⟨hx, hb, hml, hown, hts⟩ hM ⟨callB_of n hts (hG hms) rfl rfl rfl (hts _ hini) (hts _ h1) hd ⟨by show d + 1 ≤ _; omega, by show 8 + (nL' + 11) + 37 * d ≤ _; omega⟩, hnm, hts _ hin⟩ hp rfl (by rw [List.length_map]; exact p2) hl.1 hstk (lv_room (by rw [hcs]; exact p3)) p1 ⟨by omega, by omega⟩) hc2 hl hi.2
theorem aj_S9 {rt : Option FieldType} {Qp : aj_Q} (F : aj_fx D kA bs aS p s m args c nL oc cc) (hr : meth.sig.returnType = rt) (hlk : meth.locks = false) : aj_C9 cc rt Qp (aj_jm D kA bs aS b p l e R s m args below meth c (MQ below (aj_Qc D kA bs aS b Qp) args s mc ms (fun q => bs ≤ q)) nL mc ms) := by
  obtain ⟨hx, hb, hml, hown, hts, hkw, hbs⟩ := F
  refine ⟨?_, ?_, ?_, ?_⟩
  · intro pc L Z I G C ty v p0 p1 p2 p3 g1 g2 ls H locs hl hi
    exact W.widen g1 g2 (W.zret hx hb (hr.trans p1) p2 (fun t ht hW => ⟨⟨some (.int v), Z, I, G, rfl, p3, by rw [ht]; exact hi.1⟩, hi.2.F ht⟩) hi.2.2.2 p0 hlk)
  · intro pc L Z I G C v p0 p1 p3 g1 g2 ls H locs hl hi
    exact W.widen g1 g2 (W.lret hx hb (hr.trans p1) (fun t ht hW => ⟨⟨some (.long v), Z, I, G, rfl, p3, by rw [ht]; exact hi.1⟩, hi.2.F ht⟩) hi.2.2.2 p0 hlk)
  · intro pc L Z I G C nm v p0 p1 p2 p3 g1 g2 ls H locs hl hi
    exact W.widen g1 g2 (W.aret hx hb (hr.trans p1) (Or.inl ⟨nm, rfl⟩) (by rcases p2 with rfl | ⟨a, rfl⟩; exact Or.inl rfl; exact Or.inr ⟨_, rfl⟩) (fun t ht hW => ⟨⟨some v, Z, I, G, rfl, p3, by rw [ht]; exact hi.1⟩, hi.2.F ht⟩) hi.2.2.2 p0 hlk)
  · intro pc L Z I G C p0 p1 p3 g1 g2 ls H locs hl hi
    exact W.widen g1 g2 (W.vret hx hb (hr.trans p1) (fun t ht hW => ⟨⟨none, Z, I, G, rfl, p3, by rw [ht]; exact hi.1⟩, hi.2.F ht⟩) hi.2.2.2 p0 hlk)
end AJC
/-! the locals at a method's entry -/
theorem aj_sp_len : ∀ (f : Nat → Nat) (vs : List Value), (lg_sl (vs.map (aj_cv f))).length = (aj_sp vs).length
  | _, [] => rfl
  | f, v :: vs => by
    have ih := aj_sp_len f vs
    unfold lg_sl at ih ⊢
    rw [List.map_cons, List.flatMap_cons, List.length_append, ih]
    cases v <;> simp [aj_sp, aj_cv, Value.category] <;> omega
theorem aj_sp_get : ∀ (f : Nat → Nat) (vs : List Value) (n i : Nat) (v : Value), (aj_sp vs)[i]? = some (some v) → (n + i, aj_cv f v) ∈ lv_args n (vs.map (aj_cv f))
  | f, [], n, i, v, h => by simp [aj_sp] at h
  | f, w :: vs, n, 0, v, h => by
    have hw : w = v := by cases w <;> simpa [aj_sp] using h
    subst hw
    rw [List.map_cons]
    exact List.mem_cons_self
  | f, w :: vs, n, i + 1, v, h => by
    rw [List.map_cons]
    unfold lv_args
    refine List.mem_cons_of_mem _ ?_
    by_cases hc : w.category = 2
    · rw [aj_cv_cat, if_pos hc]
      cases i with
      | zero => cases w <;> simp [aj_sp, Value.category] at h hc
      | succ i =>
        have h' : (aj_sp vs)[i]? = some (some v) := by cases w <;> simp [Value.category] at hc <;> simpa [aj_sp] using h
        have := aj_sp_get f vs (n + 2) i v h'
        rw [show n + (i + 1 + 1) = n + 2 + i by omega]
        exact this
    · rw [aj_cv_cat, if_neg hc]
      have h' : (aj_sp vs)[i]? = some (some v) := by cases w <;> first | (simp [Value.category] at hc; done) | simpa [aj_sp] using h
      have := aj_sp_get f vs (n + 1) i v h'
      rw [show n + (i + 1) = n + 1 + i by omega]
      exact this
theorem aj_entry (f : Nat → Nat) (vs : List Value) {n : Nat} (h : (aj_sp vs).length ≤ n) : aj_lr f ((lg_sl (vs.map (aj_cv f)) ++ List.replicate (n - (lg_sl (vs.map (aj_cv f))).length) Slot.unset).toArray) n (aj_l0 n vs) := by
  refine aj_lr.of (lv_entry (vs.map (aj_cv f)) (by rw [aj_sp_len]; exact h)) ?_ (fun i v hv => ?_)
  · unfold aj_l0
    rw [List.length_append, List.length_replicate]
    omega
  · unfold aj_l0 at hv
    by_cases hi : i < (aj_sp vs).length
    · rw [List.getElem?_append_left hi] at hv
      have := aj_sp_get f vs 0 i v hv
      rw [Nat.zero_add] at this
      exact this
    · rw [List.getElem?_append_right (by omega)] at hv
      have := List.mem_of_getElem? hv
      rw [List.mem_replicate] at this
      cases this.2
theorem aj_plain : aj_ms.all (fun q => plainName q.2.1.cls) = true := by decide +kernel
theorem aj_owns : aj_ms.all (fun q => decide (aj_nm q.1 = q.2.1.cls)) = true := by decide +kernel
set_option maxHeartbeats 4000000 in
/-- a method whose walk ends keeps its contract on the machine -/
theorem aj_met (l : Launch) (D : va_G) (kA : Nat → ClassId) (bs aS b : Nat) : ∀ (d mc ms y : Nat) (as : List Value) (Z : aj_Z) (I : aj_I) (G : aj_G) (Q : aj_Q), aj_T d mc ms y as Z I G Q → aj_MT l D kA bs aS b d mc ms y as Z I G Q := by
  intro d
  induction d with
  | zero => intro mc ms y as Z I G Q h; exact h.elim
  | succ d ih =>
    intro mc ms y as Z I G Q h oc nm cc nL rt hms
    have h : (aj_sp as).length ≤ nL ∧ ∀ J : aj_J, aj_Cl oc cc rt (nm.name == "<init>") mc ms none (aj_T d) Q J → J 0 (aj_l0 nL as) [] Z I G (0, 0) := by
      unfold aj_T at h
      rw [hms] at h
      exact h
    obtain ⟨hlen, hT⟩ := h
    refine Met.ofW (cc := cc) (maxL := nL) (ret := rt) (List.all_eq_true.mp aj_plain _ (List.mem_of_getElem? hms)) rfl ?_
    intro p e s m args below meth c s₁ B hml hv
    obtain ⟨rfl, hiw, hkw, hbs⟩ := hv
    have hts : ∀ w ∈ aj_ws, w.before _ s = true := fun w hw => atoms_spec (ws := Cond.code nm cc nL rt :: aj_ws) B.pre w (List.mem_cons_of_mem _ hw)
    have hown : s.vm.findClass (aj_nm oc) = some m.cls := by
      rw [show aj_nm oc = nm.cls by simpa using List.all_eq_true.mp aj_owns _ (List.mem_of_getElem? hms)]
      exact findClass_of_methodNamed B.named
    have F : aj_fx D kA bs aS p s m _ c nL oc cc := ⟨B.exec, B.bytes, hml, hown, hts, hkw, hbs⟩
    have hR : mc ≤ (headSpec (Cond.code nm cc nL rt :: aj_ws) (aj_rm (d + 1) mc ms)).room.cells ∧ ms ≤ (headSpec (Cond.code nm cc nL rt :: aj_ws) (aj_rm (d + 1) mc ms)).room.slots ∧ d + 1 ≤ (headSpec (Cond.code nm cc nL rt :: aj_ws) (aj_rm (d + 1) mc ms)).room.frames ∧ 37 * (d + 1) ≤ (headSpec (Cond.code nm cc nL rt :: aj_ws) (aj_rm (d + 1) mc ms)).room.locals :=
      ⟨Nat.le_refl _, Nat.le_refl _, Nat.le_refl _, Nat.le_refl _⟩
    have hin : (nm.name == "<init>") = true → meth.name = "<init>" := fun h => by rw [(name_of_methodNamed B.named B.method).1]; simpa using h
    have K := hT (aj_jm D kA bs aS b p l e (headSpec (Cond.code nm cc nL rt :: aj_ws) (aj_rm (d + 1) mc ms)).room s m (as.map (aj_cv (aj_ca bs aS b))).toArray below meth c (MQ below (aj_Qc D kA bs aS b Q) (as.map (aj_cv (aj_ca bs aS b))).toArray s mc ms (fun q => bs ≤ q)) nL mc ms) ⟨aj_S1 F, aj_S2 F, aj_S3 F, aj_S4 F, aj_S5 F hin, aj_S6 F (fun n xs h => by cases h), aj_S7 F ⟨hR.1, hR.2.1, by omega, by omega⟩, aj_S8 (b := b) F hR ih, aj_S9 F B.returns B.notSynchronized⟩
    rw [lg_entry_eq]
    exact K (Nat.zero_le _) (Nat.zero_le _) _ s.heap [] (aj_entry _ _ hlen) ⟨hiw, va_S.rf⟩
end
