section
-- ===== PART A: goes FIRST, ahead of the names: the tables' words, and 'selects' of the private methods out of them =====
/-- a private method of a class that the tables say can be made, by its rows of tables_1 -/
def lw_okq (q : MethodName × Nat) : Prop := (q.1.cls ≠ "java/lang/invoke/MethodHandle" ∧ q.1.cls ≠ "java/lang/invoke/VarHandle") ∧ Cond.instantiable q.1.cls q.2 ∈ tables_1 ∧ Cond.privateMethod q.1 ∈ tables_1 ∧ Cond.instanceMethod q.1 ∈ tables_1
theorem lw_p0 : lw_okq (⟨"HoleCounty$Ground", "toDig", "(I)I"⟩, 9) := ⟨⟨by decide +kernel, by decide +kernel⟩, List.mem_of_getElem? (i := 20) (by decide +kernel), List.mem_of_getElem? (i := 173) (by decide +kernel), List.mem_of_getElem? (i := 174) (by decide +kernel)⟩
theorem lw_p1 : lw_okq (⟨"HoleCounty$Ground", "remember", "(I)V"⟩, 9) := ⟨⟨by decide +kernel, by decide +kernel⟩, List.mem_of_getElem? (i := 20) (by decide +kernel), List.mem_of_getElem? (i := 177) (by decide +kernel), List.mem_of_getElem? (i := 178) (by decide +kernel)⟩
theorem lw_p2 : lw_okq (⟨"HoleCounty$Ground", "put", "(II)V"⟩, 9) := ⟨⟨by decide +kernel, by decide +kernel⟩, List.mem_of_getElem? (i := 20) (by decide +kernel), List.mem_of_getElem? (i := 187) (by decide +kernel), List.mem_of_getElem? (i := 188) (by decide +kernel)⟩
theorem lw_p3 : lw_okq (⟨"HoleCounty$Ground", "toFill", "(I)I"⟩, 9) := ⟨⟨by decide +kernel, by decide +kernel⟩, List.mem_of_getElem? (i := 20) (by decide +kernel), List.mem_of_getElem? (i := 196) (by decide +kernel), List.mem_of_getElem? (i := 197) (by decide +kernel)⟩
theorem lw_p4 : lw_okq (⟨"HoleCounty$Ground", "toRoof", "(I)I"⟩, 9) := ⟨⟨by decide +kernel, by decide +kernel⟩, List.mem_of_getElem? (i := 20) (by decide +kernel), List.mem_of_getElem? (i := 204) (by decide +kernel), List.mem_of_getElem? (i := 205) (by decide +kernel)⟩
theorem lw_p5 : lw_okq (⟨"HoleCounty$Ground", "takeBack", "()I"⟩, 9) := ⟨⟨by decide +kernel, by decide +kernel⟩, List.mem_of_getElem? (i := 20) (by decide +kernel), List.mem_of_getElem? (i := 212) (by decide +kernel), List.mem_of_getElem? (i := 213) (by decide +kernel)⟩
theorem lw_p6 : lw_okq (⟨"HoleCounty$Ground", "holeAt", "(I)J"⟩, 9) := ⟨⟨by decide +kernel, by decide +kernel⟩, List.mem_of_getElem? (i := 20) (by decide +kernel), List.mem_of_getElem? (i := 229) (by decide +kernel), List.mem_of_getElem? (i := 230) (by decide +kernel)⟩
theorem lw_p7 : lw_okq (⟨"HoleCounty$Tape", "add", "(C)I"⟩, 6) := ⟨⟨by decide +kernel, by decide +kernel⟩, List.mem_of_getElem? (i := 63) (by decide +kernel), List.mem_of_getElem? (i := 255) (by decide +kernel), List.mem_of_getElem? (i := 256) (by decide +kernel)⟩
theorem lw_p8 : lw_okq (⟨"HoleCounty$Tape", "readGround", "()I"⟩, 6) := ⟨⟨by decide +kernel, by decide +kernel⟩, List.mem_of_getElem? (i := 63) (by decide +kernel), List.mem_of_getElem? (i := 263) (by decide +kernel), List.mem_of_getElem? (i := 264) (by decide +kernel)⟩
theorem lw_p9 : lw_okq (⟨"HoleCounty$Tape", "isNext", "(C)Z"⟩, 6) := ⟨⟨by decide +kernel, by decide +kernel⟩, List.mem_of_getElem? (i := 63) (by decide +kernel), List.mem_of_getElem? (i := 267) (by decide +kernel), List.mem_of_getElem? (i := 268) (by decide +kernel)⟩
theorem lw_p10 : lw_okq (⟨"HoleCounty$Tape", "passBlanks", "()V"⟩, 6) := ⟨⟨by decide +kernel, by decide +kernel⟩, List.mem_of_getElem? (i := 63) (by decide +kernel), List.mem_of_getElem? (i := 271) (by decide +kernel), List.mem_of_getElem? (i := 272) (by decide +kernel)⟩
theorem lw_p11 : lw_okq (⟨"HoleCounty$Tape", "fault", "()I"⟩, 6) := ⟨⟨by decide +kernel, by decide +kernel⟩, List.mem_of_getElem? (i := 63) (by decide +kernel), List.mem_of_getElem? (i := 275) (by decide +kernel), List.mem_of_getElem? (i := 276) (by decide +kernel)⟩
theorem lw_p12 : lw_okq (⟨"HoleCounty$Tape", "nextFigure", "(C)I"⟩, 6) := ⟨⟨by decide +kernel, by decide +kernel⟩, List.mem_of_getElem? (i := 63) (by decide +kernel), List.mem_of_getElem? (i := 279) (by decide +kernel), List.mem_of_getElem? (i := 280) (by decide +kernel)⟩
theorem lw_p13 : lw_okq (⟨"HoleCounty$Tape", "faultBehind", "()I"⟩, 6) := ⟨⟨by decide +kernel, by decide +kernel⟩, List.mem_of_getElem? (i := 63) (by decide +kernel), List.mem_of_getElem? (i := 283) (by decide +kernel), List.mem_of_getElem? (i := 284) (by decide +kernel)⟩
theorem lw_p14 : lw_okq (⟨"HoleCounty$Tape", "wipe", "()V"⟩, 6) := ⟨⟨by decide +kernel, by decide +kernel⟩, List.mem_of_getElem? (i := 63) (by decide +kernel), List.mem_of_getElem? (i := 287) (by decide +kernel), List.mem_of_getElem? (i := 288) (by decide +kernel)⟩
theorem lw_p15 : lw_okq (⟨"HoleCounty$Ground", "become", "([IJ)V"⟩, 9) := ⟨⟨by decide +kernel, by decide +kernel⟩, List.mem_of_getElem? (i := 20) (by decide +kernel), List.mem_of_getElem? (i := 291) (by decide +kernel), List.mem_of_getElem? (i := 292) (by decide +kernel)⟩
def lw_privs_1 : List (MethodName × Nat) := [(⟨"HoleCounty$Ground", "toDig", "(I)I"⟩, 9), (⟨"HoleCounty$Ground", "remember", "(I)V"⟩, 9), (⟨"HoleCounty$Ground", "put", "(II)V"⟩, 9), (⟨"HoleCounty$Ground", "toFill", "(I)I"⟩, 9), (⟨"HoleCounty$Ground", "toRoof", "(I)I"⟩, 9), (⟨"HoleCounty$Ground", "takeBack", "()I"⟩, 9), (⟨"HoleCounty$Ground", "holeAt", "(I)J"⟩, 9), (⟨"HoleCounty$Tape", "add", "(C)I"⟩, 6), (⟨"HoleCounty$Tape", "readGround", "()I"⟩, 6), (⟨"HoleCounty$Tape", "isNext", "(C)Z"⟩, 6), (⟨"HoleCounty$Tape", "passBlanks", "()V"⟩, 6), (⟨"HoleCounty$Tape", "fault", "()I"⟩, 6), (⟨"HoleCounty$Tape", "nextFigure", "(C)I"⟩, 6), (⟨"HoleCounty$Tape", "faultBehind", "()I"⟩, 6), (⟨"HoleCounty$Tape", "wipe", "()V"⟩, 6), (⟨"HoleCounty$Ground", "become", "([IJ)V"⟩, 9)]
theorem lw_r1 : ∀ q ∈ lw_privs_1, lw_okq q := List.forall_mem_cons.mpr ⟨lw_p0, List.forall_mem_cons.mpr ⟨lw_p1, List.forall_mem_cons.mpr ⟨lw_p2, List.forall_mem_cons.mpr ⟨lw_p3, List.forall_mem_cons.mpr ⟨lw_p4, List.forall_mem_cons.mpr ⟨lw_p5, List.forall_mem_cons.mpr ⟨lw_p6, List.forall_mem_cons.mpr ⟨lw_p7, List.forall_mem_cons.mpr ⟨lw_p8, List.forall_mem_cons.mpr ⟨lw_p9, List.forall_mem_cons.mpr ⟨lw_p10, List.forall_mem_cons.mpr ⟨lw_p11, List.forall_mem_cons.mpr ⟨lw_p12, List.forall_mem_cons.mpr ⟨lw_p13, List.forall_mem_cons.mpr ⟨lw_p14, List.forall_mem_cons.mpr ⟨lw_p15, fun _ h => absurd h List.not_mem_nil⟩⟩⟩⟩⟩⟩⟩⟩⟩⟩⟩⟩⟩⟩⟩⟩
theorem lw_p16 : lw_okq (⟨"HoleCounty$Ground", "forget", "()V"⟩, 9) := ⟨⟨by decide +kernel, by decide +kernel⟩, List.mem_of_getElem? (i := 20) (by decide +kernel), List.mem_of_getElem? (i := 295) (by decide +kernel), List.mem_of_getElem? (i := 296) (by decide +kernel)⟩
theorem lw_p17 : lw_okq (⟨"HoleCounty$Tape", "readOwners", "()I"⟩, 6) := ⟨⟨by decide +kernel, by decide +kernel⟩, List.mem_of_getElem? (i := 63) (by decide +kernel), List.mem_of_getElem? (i := 311) (by decide +kernel), List.mem_of_getElem? (i := 312) (by decide +kernel)⟩
theorem lw_p18 : lw_okq (⟨"HoleCounty$Ground", "landOf", "(I)J"⟩, 9) := ⟨⟨by decide +kernel, by decide +kernel⟩, List.mem_of_getElem? (i := 20) (by decide +kernel), List.mem_of_getElem? (i := 316) (by decide +kernel), List.mem_of_getElem? (i := 317) (by decide +kernel)⟩
theorem lw_p19 : lw_okq (⟨"HoleCounty$Tape", "readDay", "()I"⟩, 6) := ⟨⟨by decide +kernel, by decide +kernel⟩, List.mem_of_getElem? (i := 63) (by decide +kernel), List.mem_of_getElem? (i := 325) (by decide +kernel), List.mem_of_getElem? (i := 326) (by decide +kernel)⟩
theorem lw_p20 : lw_okq (⟨"HoleCounty$Tape", "nextRepair", "()I"⟩, 6) := ⟨⟨by decide +kernel, by decide +kernel⟩, List.mem_of_getElem? (i := 63) (by decide +kernel), List.mem_of_getElem? (i := 329) (by decide +kernel), List.mem_of_getElem? (i := 330) (by decide +kernel)⟩
theorem lw_p21 : lw_okq (⟨"HoleCounty$Ground", "repaired", "(I)Z"⟩, 9) := ⟨⟨by decide +kernel, by decide +kernel⟩, List.mem_of_getElem? (i := 20) (by decide +kernel), List.mem_of_getElem? (i := 333) (by decide +kernel), List.mem_of_getElem? (i := 334) (by decide +kernel)⟩
theorem lw_p22 : lw_okq (⟨"HoleCounty$Ground", "taxOfAll", "(JJ)I"⟩, 9) := ⟨⟨by decide +kernel, by decide +kernel⟩, List.mem_of_getElem? (i := 20) (by decide +kernel), List.mem_of_getElem? (i := 344) (by decide +kernel), List.mem_of_getElem? (i := 345) (by decide +kernel)⟩
theorem lw_p23 : lw_okq (⟨"HoleCounty$Ground", "taxOf", "(JJ)I"⟩, 9) := ⟨⟨by decide +kernel, by decide +kernel⟩, List.mem_of_getElem? (i := 20) (by decide +kernel), List.mem_of_getElem? (i := 349) (by decide +kernel), List.mem_of_getElem? (i := 350) (by decide +kernel)⟩
theorem lw_p24 : lw_okq (⟨"HoleCounty$Ground", "kindOf", "(JJ)I"⟩, 9) := ⟨⟨by decide +kernel, by decide +kernel⟩, List.mem_of_getElem? (i := 20) (by decide +kernel), List.mem_of_getElem? (i := 357) (by decide +kernel), List.mem_of_getElem? (i := 358) (by decide +kernel)⟩
theorem lw_p25 : lw_okq (⟨"HoleCounty$Ground", "depths", "()I"⟩, 9) := ⟨⟨by decide +kernel, by decide +kernel⟩, List.mem_of_getElem? (i := 20) (by decide +kernel), List.mem_of_getElem? (i := 369) (by decide +kernel), List.mem_of_getElem? (i := 370) (by decide +kernel)⟩
theorem lw_p26 : lw_okq (⟨"HoleCounty$Ground", "ownerOf", "(J)I"⟩, 9) := ⟨⟨by decide +kernel, by decide +kernel⟩, List.mem_of_getElem? (i := 20) (by decide +kernel), List.mem_of_getElem? (i := 383) (by decide +kernel), List.mem_of_getElem? (i := 384) (by decide +kernel)⟩
theorem lw_p27 : lw_okq (⟨"HoleCounty$Ground", "partOf", "(JI)I"⟩, 9) := ⟨⟨by decide +kernel, by decide +kernel⟩, List.mem_of_getElem? (i := 20) (by decide +kernel), List.mem_of_getElem? (i := 413) (by decide +kernel), List.mem_of_getElem? (i := 414) (by decide +kernel)⟩
theorem lw_p28 : lw_okq (⟨"HoleCounty$Ground", "partOfAll", "(I)I"⟩, 9) := ⟨⟨by decide +kernel, by decide +kernel⟩, List.mem_of_getElem? (i := 20) (by decide +kernel), List.mem_of_getElem? (i := 421) (by decide +kernel), List.mem_of_getElem? (i := 422) (by decide +kernel)⟩
theorem lw_p29 : lw_okq (⟨"HoleCounty$Ground", "leastFilled", "(I)J"⟩, 9) := ⟨⟨by decide +kernel, by decide +kernel⟩, List.mem_of_getElem? (i := 20) (by decide +kernel), List.mem_of_getElem? (i := 435) (by decide +kernel), List.mem_of_getElem? (i := 436) (by decide +kernel)⟩
theorem lw_p30 : lw_okq (⟨"HoleCounty$Mole", "walk", "(IJ)V"⟩, 7) := ⟨⟨by decide +kernel, by decide +kernel⟩, List.mem_of_getElem? (i := 94) (by decide +kernel), List.mem_of_getElem? (i := 476) (by decide +kernel), List.mem_of_getElem? (i := 477) (by decide +kernel)⟩
theorem lw_p31 : lw_okq (⟨"HoleCounty$Mole", "measure", "(IJ)V"⟩, 7) := ⟨⟨by decide +kernel, by decide +kernel⟩, List.mem_of_getElem? (i := 94) (by decide +kernel), List.mem_of_getElem? (i := 482) (by decide +kernel), List.mem_of_getElem? (i := 483) (by decide +kernel)⟩
def lw_privs_2 : List (MethodName × Nat) := [(⟨"HoleCounty$Ground", "forget", "()V"⟩, 9), (⟨"HoleCounty$Tape", "readOwners", "()I"⟩, 6), (⟨"HoleCounty$Ground", "landOf", "(I)J"⟩, 9), (⟨"HoleCounty$Tape", "readDay", "()I"⟩, 6), (⟨"HoleCounty$Tape", "nextRepair", "()I"⟩, 6), (⟨"HoleCounty$Ground", "repaired", "(I)Z"⟩, 9), (⟨"HoleCounty$Ground", "taxOfAll", "(JJ)I"⟩, 9), (⟨"HoleCounty$Ground", "taxOf", "(JJ)I"⟩, 9), (⟨"HoleCounty$Ground", "kindOf", "(JJ)I"⟩, 9), (⟨"HoleCounty$Ground", "depths", "()I"⟩, 9), (⟨"HoleCounty$Ground", "ownerOf", "(J)I"⟩, 9), (⟨"HoleCounty$Ground", "partOf", "(JI)I"⟩, 9), (⟨"HoleCounty$Ground", "partOfAll", "(I)I"⟩, 9), (⟨"HoleCounty$Ground", "leastFilled", "(I)J"⟩, 9), (⟨"HoleCounty$Mole", "walk", "(IJ)V"⟩, 7), (⟨"HoleCounty$Mole", "measure", "(IJ)V"⟩, 7)]
theorem lw_r2 : ∀ q ∈ lw_privs_2, lw_okq q := List.forall_mem_cons.mpr ⟨lw_p16, List.forall_mem_cons.mpr ⟨lw_p17, List.forall_mem_cons.mpr ⟨lw_p18, List.forall_mem_cons.mpr ⟨lw_p19, List.forall_mem_cons.mpr ⟨lw_p20, List.forall_mem_cons.mpr ⟨lw_p21, List.forall_mem_cons.mpr ⟨lw_p22, List.forall_mem_cons.mpr ⟨lw_p23, List.forall_mem_cons.mpr ⟨lw_p24, List.forall_mem_cons.mpr ⟨lw_p25, List.forall_mem_cons.mpr ⟨lw_p26, List.forall_mem_cons.mpr ⟨lw_p27, List.forall_mem_cons.mpr ⟨lw_p28, List.forall_mem_cons.mpr ⟨lw_p29, List.forall_mem_cons.mpr ⟨lw_p30, List.forall_mem_cons.mpr ⟨lw_p31, fun _ h => absurd h List.not_mem_nil⟩⟩⟩⟩⟩⟩⟩⟩⟩⟩⟩⟩⟩⟩⟩⟩
theorem lw_p32 : lw_okq (⟨"HoleCounty$Mole", "seek", "(IIIII)V"⟩, 7) := ⟨⟨by decide +kernel, by decide +kernel⟩, List.mem_of_getElem? (i := 94) (by decide +kernel), List.mem_of_getElem? (i := 499) (by decide +kernel), List.mem_of_getElem? (i := 500) (by decide +kernel)⟩
theorem lw_p33 : lw_okq (⟨"HoleCounty$Ground", "fits", "(JJII)Z"⟩, 9) := ⟨⟨by decide +kernel, by decide +kernel⟩, List.mem_of_getElem? (i := 20) (by decide +kernel), List.mem_of_getElem? (i := 525) (by decide +kernel), List.mem_of_getElem? (i := 526) (by decide +kernel)⟩
theorem lw_p34 : lw_okq (⟨"HoleCounty$Ground", "yearByLot", "()I"⟩, 9) := ⟨⟨by decide +kernel, by decide +kernel⟩, List.mem_of_getElem? (i := 20) (by decide +kernel), List.mem_of_getElem? (i := 535) (by decide +kernel), List.mem_of_getElem? (i := 536) (by decide +kernel)⟩
theorem lw_p35 : lw_okq (⟨"HoleCounty$Ground", "drawn", "()I"⟩, 9) := ⟨⟨by decide +kernel, by decide +kernel⟩, List.mem_of_getElem? (i := 20) (by decide +kernel), List.mem_of_getElem? (i := 539) (by decide +kernel), List.mem_of_getElem? (i := 540) (by decide +kernel)⟩
theorem lw_p36 : lw_okq (⟨"HoleCounty$Ground", "takeAll", "(LHoleCounty$Ground;)V"⟩, 9) := ⟨⟨by decide +kernel, by decide +kernel⟩, List.mem_of_getElem? (i := 20) (by decide +kernel), List.mem_of_getElem? (i := 555) (by decide +kernel), List.mem_of_getElem? (i := 556) (by decide +kernel)⟩
theorem lw_p37 : lw_okq (⟨"HoleCounty", "refusal", "(IIII)I"⟩, 6) := ⟨⟨by decide +kernel, by decide +kernel⟩, List.mem_of_getElem? (i := 12) (by decide +kernel), List.mem_of_getElem? (i := 567) (by decide +kernel), List.mem_of_getElem? (i := 568) (by decide +kernel)⟩
theorem lw_p38 : lw_okq (⟨"HoleCounty$Row", "spans", "(II)Z"⟩, 4) := ⟨⟨by decide +kernel, by decide +kernel⟩, List.mem_of_getElem? (i := 124) (by decide +kernel), List.mem_of_getElem? (i := 577) (by decide +kernel), List.mem_of_getElem? (i := 578) (by decide +kernel)⟩
theorem lw_p39 : lw_okq (⟨"HoleCounty$Row", "areDepths", "(II)Z"⟩, 4) := ⟨⟨by decide +kernel, by decide +kernel⟩, List.mem_of_getElem? (i := 124) (by decide +kernel), List.mem_of_getElem? (i := 581) (by decide +kernel), List.mem_of_getElem? (i := 582) (by decide +kernel)⟩
theorem lw_p40 : lw_okq (⟨"HoleCounty$Row", "put", "(IJ)V"⟩, 4) := ⟨⟨by decide +kernel, by decide +kernel⟩, List.mem_of_getElem? (i := 124) (by decide +kernel), List.mem_of_getElem? (i := 592) (by decide +kernel), List.mem_of_getElem? (i := 593) (by decide +kernel)⟩
theorem lw_p41 : lw_okq (⟨"HoleCounty", "isRight", "(JJ)Z"⟩, 6) := ⟨⟨by decide +kernel, by decide +kernel⟩, List.mem_of_getElem? (i := 12) (by decide +kernel), List.mem_of_getElem? (i := 601) (by decide +kernel), List.mem_of_getElem? (i := 602) (by decide +kernel)⟩
theorem lw_p42 : lw_okq (⟨"HoleCounty$Row", "begin", "(II)V"⟩, 4) := ⟨⟨by decide +kernel, by decide +kernel⟩, List.mem_of_getElem? (i := 124) (by decide +kernel), List.mem_of_getElem? (i := 610) (by decide +kernel), List.mem_of_getElem? (i := 611) (by decide +kernel)⟩
theorem lw_p43 : lw_okq (⟨"HoleCountyModel", "note", "(I)V"⟩, 27) := ⟨⟨by decide +kernel, by decide +kernel⟩, List.mem_of_getElem? (i := 626) (by decide +kernel), List.mem_of_getElem? (i := 725) (by decide +kernel), List.mem_of_getElem? (i := 726) (by decide +kernel)⟩
theorem lw_p44 : lw_okq (⟨"HoleCountyModel", "put", "(IIZ)V"⟩, 27) := ⟨⟨by decide +kernel, by decide +kernel⟩, List.mem_of_getElem? (i := 626) (by decide +kernel), List.mem_of_getElem? (i := 736) (by decide +kernel), List.mem_of_getElem? (i := 737) (by decide +kernel)⟩
theorem lw_p45 : lw_okq (⟨"HoleCountyModel", "look", "()V"⟩, 27) := ⟨⟨by decide +kernel, by decide +kernel⟩, List.mem_of_getElem? (i := 626) (by decide +kernel), List.mem_of_getElem? (i := 763) (by decide +kernel), List.mem_of_getElem? (i := 764) (by decide +kernel)⟩
theorem lw_p46 : lw_okq (⟨"HoleCountyModel", "holeAt", "(I)J"⟩, 27) := ⟨⟨by decide +kernel, by decide +kernel⟩, List.mem_of_getElem? (i := 626) (by decide +kernel), List.mem_of_getElem? (i := 767) (by decide +kernel), List.mem_of_getElem? (i := 768) (by decide +kernel)⟩
theorem lw_p47 : lw_okq (⟨"HoleCountyModel", "readGround", "()Z"⟩, 27) := ⟨⟨by decide +kernel, by decide +kernel⟩, List.mem_of_getElem? (i := 626) (by decide +kernel), List.mem_of_getElem? (i := 793) (by decide +kernel), List.mem_of_getElem? (i := 794) (by decide +kernel)⟩
def lw_privs_3 : List (MethodName × Nat) := [(⟨"HoleCounty$Mole", "seek", "(IIIII)V"⟩, 7), (⟨"HoleCounty$Ground", "fits", "(JJII)Z"⟩, 9), (⟨"HoleCounty$Ground", "yearByLot", "()I"⟩, 9), (⟨"HoleCounty$Ground", "drawn", "()I"⟩, 9), (⟨"HoleCounty$Ground", "takeAll", "(LHoleCounty$Ground;)V"⟩, 9), (⟨"HoleCounty", "refusal", "(IIII)I"⟩, 6), (⟨"HoleCounty$Row", "spans", "(II)Z"⟩, 4), (⟨"HoleCounty$Row", "areDepths", "(II)Z"⟩, 4), (⟨"HoleCounty$Row", "put", "(IJ)V"⟩, 4), (⟨"HoleCounty", "isRight", "(JJ)Z"⟩, 6), (⟨"HoleCounty$Row", "begin", "(II)V"⟩, 4), (⟨"HoleCountyModel", "note", "(I)V"⟩, 27), (⟨"HoleCountyModel", "put", "(IIZ)V"⟩, 27), (⟨"HoleCountyModel", "look", "()V"⟩, 27), (⟨"HoleCountyModel", "holeAt", "(I)J"⟩, 27), (⟨"HoleCountyModel", "readGround", "()Z"⟩, 27)]
theorem lw_r3 : ∀ q ∈ lw_privs_3, lw_okq q := List.forall_mem_cons.mpr ⟨lw_p32, List.forall_mem_cons.mpr ⟨lw_p33, List.forall_mem_cons.mpr ⟨lw_p34, List.forall_mem_cons.mpr ⟨lw_p35, List.forall_mem_cons.mpr ⟨lw_p36, List.forall_mem_cons.mpr ⟨lw_p37, List.forall_mem_cons.mpr ⟨lw_p38, List.forall_mem_cons.mpr ⟨lw_p39, List.forall_mem_cons.mpr ⟨lw_p40, List.forall_mem_cons.mpr ⟨lw_p41, List.forall_mem_cons.mpr ⟨lw_p42, List.forall_mem_cons.mpr ⟨lw_p43, List.forall_mem_cons.mpr ⟨lw_p44, List.forall_mem_cons.mpr ⟨lw_p45, List.forall_mem_cons.mpr ⟨lw_p46, List.forall_mem_cons.mpr ⟨lw_p47, fun _ h => absurd h List.not_mem_nil⟩⟩⟩⟩⟩⟩⟩⟩⟩⟩⟩⟩⟩⟩⟩⟩
theorem lw_p48 : lw_okq (⟨"HoleCountyModel", "takes", "(I)Z"⟩, 27) := ⟨⟨by decide +kernel, by decide +kernel⟩, List.mem_of_getElem? (i := 626) (by decide +kernel), List.mem_of_getElem? (i := 797) (by decide +kernel), List.mem_of_getElem? (i := 798) (by decide +kernel)⟩
theorem lw_p49 : lw_okq (⟨"HoleCountyModel", "nextLetter", "()I"⟩, 27) := ⟨⟨by decide +kernel, by decide +kernel⟩, List.mem_of_getElem? (i := 626) (by decide +kernel), List.mem_of_getElem? (i := 801) (by decide +kernel), List.mem_of_getElem? (i := 802) (by decide +kernel)⟩
theorem lw_p50 : lw_okq (⟨"HoleCountyModel", "end", "(Z)I"⟩, 27) := ⟨⟨by decide +kernel, by decide +kernel⟩, List.mem_of_getElem? (i := 626) (by decide +kernel), List.mem_of_getElem? (i := 806) (by decide +kernel), List.mem_of_getElem? (i := 807) (by decide +kernel)⟩
theorem lw_p51 : lw_okq (⟨"HoleCountyModel", "findHoles", "()V"⟩, 27) := ⟨⟨by decide +kernel, by decide +kernel⟩, List.mem_of_getElem? (i := 626) (by decide +kernel), List.mem_of_getElem? (i := 810) (by decide +kernel), List.mem_of_getElem? (i := 811) (by decide +kernel)⟩
theorem lw_p52 : lw_okq (⟨"HoleCountyModel", "readOwners", "()Z"⟩, 27) := ⟨⟨by decide +kernel, by decide +kernel⟩, List.mem_of_getElem? (i := 626) (by decide +kernel), List.mem_of_getElem? (i := 818) (by decide +kernel), List.mem_of_getElem? (i := 819) (by decide +kernel)⟩
theorem lw_p53 : lw_okq (⟨"HoleCountyModel", "readDay", "()Z"⟩, 27) := ⟨⟨by decide +kernel, by decide +kernel⟩, List.mem_of_getElem? (i := 626) (by decide +kernel), List.mem_of_getElem? (i := 828) (by decide +kernel), List.mem_of_getElem? (i := 829) (by decide +kernel)⟩
theorem lw_p54 : lw_okq (⟨"HoleCountyModel", "readAct", "()Z"⟩, 27) := ⟨⟨by decide +kernel, by decide +kernel⟩, List.mem_of_getElem? (i := 626) (by decide +kernel), List.mem_of_getElem? (i := 832) (by decide +kernel), List.mem_of_getElem? (i := 833) (by decide +kernel)⟩
theorem lw_p55 : lw_okq (⟨"HoleCountyModel", "taxOfAll", "()I"⟩, 27) := ⟨⟨by decide +kernel, by decide +kernel⟩, List.mem_of_getElem? (i := 626) (by decide +kernel), List.mem_of_getElem? (i := 847) (by decide +kernel), List.mem_of_getElem? (i := 848) (by decide +kernel)⟩
theorem lw_p56 : lw_okq (⟨"HoleCountyModel", "taxOf", "(J)I"⟩, 27) := ⟨⟨by decide +kernel, by decide +kernel⟩, List.mem_of_getElem? (i := 626) (by decide +kernel), List.mem_of_getElem? (i := 851) (by decide +kernel), List.mem_of_getElem? (i := 852) (by decide +kernel)⟩
theorem lw_p57 : lw_okq (⟨"HoleCountyModel", "kindOf", "(J)I"⟩, 27) := ⟨⟨by decide +kernel, by decide +kernel⟩, List.mem_of_getElem? (i := 626) (by decide +kernel), List.mem_of_getElem? (i := 855) (by decide +kernel), List.mem_of_getElem? (i := 856) (by decide +kernel)⟩
theorem lw_p58 : lw_okq (⟨"HoleCountyModel", "rimOf", "(J)J"⟩, 27) := ⟨⟨by decide +kernel, by decide +kernel⟩, List.mem_of_getElem? (i := 626) (by decide +kernel), List.mem_of_getElem? (i := 875) (by decide +kernel), List.mem_of_getElem? (i := 876) (by decide +kernel)⟩
theorem lw_p59 : lw_okq (⟨"HoleCountyModel", "ownerOf", "(J)I"⟩, 27) := ⟨⟨by decide +kernel, by decide +kernel⟩, List.mem_of_getElem? (i := 626) (by decide +kernel), List.mem_of_getElem? (i := 879) (by decide +kernel), List.mem_of_getElem? (i := 880) (by decide +kernel)⟩
theorem lw_p60 : lw_okq (⟨"HoleCountyModel", "owned", "(I)J"⟩, 27) := ⟨⟨by decide +kernel, by decide +kernel⟩, List.mem_of_getElem? (i := 626) (by decide +kernel), List.mem_of_getElem? (i := 883) (by decide +kernel), List.mem_of_getElem? (i := 884) (by decide +kernel)⟩
theorem lw_p61 : lw_okq (⟨"HoleCountyModel", "nestedOf", "(J)I"⟩, 27) := ⟨⟨by decide +kernel, by decide +kernel⟩, List.mem_of_getElem? (i := 626) (by decide +kernel), List.mem_of_getElem? (i := 887) (by decide +kernel), List.mem_of_getElem? (i := 888) (by decide +kernel)⟩
theorem lw_p62 : lw_okq (⟨"HoleCountyModel", "partOf", "(JI)I"⟩, 27) := ⟨⟨by decide +kernel, by decide +kernel⟩, List.mem_of_getElem? (i := 626) (by decide +kernel), List.mem_of_getElem? (i := 908) (by decide +kernel), List.mem_of_getElem? (i := 909) (by decide +kernel)⟩
theorem lw_p63 : lw_okq (⟨"HoleCountyModel", "fewestFilled", "(IJ)I"⟩, 27) := ⟨⟨by decide +kernel, by decide +kernel⟩, List.mem_of_getElem? (i := 626) (by decide +kernel), List.mem_of_getElem? (i := 926) (by decide +kernel), List.mem_of_getElem? (i := 927) (by decide +kernel)⟩
def lw_privs_4 : List (MethodName × Nat) := [(⟨"HoleCountyModel", "takes", "(I)Z"⟩, 27), (⟨"HoleCountyModel", "nextLetter", "()I"⟩, 27), (⟨"HoleCountyModel", "end", "(Z)I"⟩, 27), (⟨"HoleCountyModel", "findHoles", "()V"⟩, 27), (⟨"HoleCountyModel", "readOwners", "()Z"⟩, 27), (⟨"HoleCountyModel", "readDay", "()Z"⟩, 27), (⟨"HoleCountyModel", "readAct", "()Z"⟩, 27), (⟨"HoleCountyModel", "taxOfAll", "()I"⟩, 27), (⟨"HoleCountyModel", "taxOf", "(J)I"⟩, 27), (⟨"HoleCountyModel", "kindOf", "(J)I"⟩, 27), (⟨"HoleCountyModel", "rimOf", "(J)J"⟩, 27), (⟨"HoleCountyModel", "ownerOf", "(J)I"⟩, 27), (⟨"HoleCountyModel", "owned", "(I)J"⟩, 27), (⟨"HoleCountyModel", "nestedOf", "(J)I"⟩, 27), (⟨"HoleCountyModel", "partOf", "(JI)I"⟩, 27), (⟨"HoleCountyModel", "fewestFilled", "(IJ)I"⟩, 27)]
theorem lw_r4 : ∀ q ∈ lw_privs_4, lw_okq q := List.forall_mem_cons.mpr ⟨lw_p48, List.forall_mem_cons.mpr ⟨lw_p49, List.forall_mem_cons.mpr ⟨lw_p50, List.forall_mem_cons.mpr ⟨lw_p51, List.forall_mem_cons.mpr ⟨lw_p52, List.forall_mem_cons.mpr ⟨lw_p53, List.forall_mem_cons.mpr ⟨lw_p54, List.forall_mem_cons.mpr ⟨lw_p55, List.forall_mem_cons.mpr ⟨lw_p56, List.forall_mem_cons.mpr ⟨lw_p57, List.forall_mem_cons.mpr ⟨lw_p58, List.forall_mem_cons.mpr ⟨lw_p59, List.forall_mem_cons.mpr ⟨lw_p60, List.forall_mem_cons.mpr ⟨lw_p61, List.forall_mem_cons.mpr ⟨lw_p62, List.forall_mem_cons.mpr ⟨lw_p63, fun _ h => absurd h List.not_mem_nil⟩⟩⟩⟩⟩⟩⟩⟩⟩⟩⟩⟩⟩⟩⟩⟩
theorem lw_p64 : lw_okq (⟨"HoleCountyModel", "does", "(JIJ)Z"⟩, 27) := ⟨⟨by decide +kernel, by decide +kernel⟩, List.mem_of_getElem? (i := 626) (by decide +kernel), List.mem_of_getElem? (i := 930) (by decide +kernel), List.mem_of_getElem? (i := 931) (by decide +kernel)⟩
theorem lw_p65 : lw_okq (⟨"HoleCountyModel", "fewestDug", "(JJJ)I"⟩, 27) := ⟨⟨by decide +kernel, by decide +kernel⟩, List.mem_of_getElem? (i := 626) (by decide +kernel), List.mem_of_getElem? (i := 942) (by decide +kernel), List.mem_of_getElem? (i := 943) (by decide +kernel)⟩
theorem lw_p66 : lw_okq (⟨"HoleCountyModel", "stepsOf", "(II)I"⟩, 27) := ⟨⟨by decide +kernel, by decide +kernel⟩, List.mem_of_getElem? (i := 626) (by decide +kernel), List.mem_of_getElem? (i := 967) (by decide +kernel), List.mem_of_getElem? (i := 968) (by decide +kernel)⟩
theorem lw_p67 : lw_okq (⟨"HoleCountyModel", "nextOrder", "(I)Z"⟩, 27) := ⟨⟨by decide +kernel, by decide +kernel⟩, List.mem_of_getElem? (i := 626) (by decide +kernel), List.mem_of_getElem? (i := 971) (by decide +kernel), List.mem_of_getElem? (i := 972) (by decide +kernel)⟩
theorem lw_p68 : lw_okq (⟨"HoleCountyModel", "nextDraw", "(I)I"⟩, 27) := ⟨⟨by decide +kernel, by decide +kernel⟩, List.mem_of_getElem? (i := 626) (by decide +kernel), List.mem_of_getElem? (i := 993) (by decide +kernel), List.mem_of_getElem? (i := 994) (by decide +kernel)⟩
theorem lw_p69 : lw_okq (⟨"HoleCountyModel", "carried", "(IIZ)I"⟩, 27) := ⟨⟨by decide +kernel, by decide +kernel⟩, List.mem_of_getElem? (i := 626) (by decide +kernel), List.mem_of_getElem? (i := 1009) (by decide +kernel), List.mem_of_getElem? (i := 1010) (by decide +kernel)⟩
theorem lw_p70 : lw_okq (⟨"HoleCountyModel", "lacksRow", "(IIII)I"⟩, 27) := ⟨⟨by decide +kernel, by decide +kernel⟩, List.mem_of_getElem? (i := 626) (by decide +kernel), List.mem_of_getElem? (i := 1032) (by decide +kernel), List.mem_of_getElem? (i := 1033) (by decide +kernel)⟩
def lw_privs_5 : List (MethodName × Nat) := [(⟨"HoleCountyModel", "does", "(JIJ)Z"⟩, 27), (⟨"HoleCountyModel", "fewestDug", "(JJJ)I"⟩, 27), (⟨"HoleCountyModel", "stepsOf", "(II)I"⟩, 27), (⟨"HoleCountyModel", "nextOrder", "(I)Z"⟩, 27), (⟨"HoleCountyModel", "nextDraw", "(I)I"⟩, 27), (⟨"HoleCountyModel", "carried", "(IIZ)I"⟩, 27), (⟨"HoleCountyModel", "lacksRow", "(IIII)I"⟩, 27)]
theorem lw_r5 : ∀ q ∈ lw_privs_5, lw_okq q := List.forall_mem_cons.mpr ⟨lw_p64, List.forall_mem_cons.mpr ⟨lw_p65, List.forall_mem_cons.mpr ⟨lw_p66, List.forall_mem_cons.mpr ⟨lw_p67, List.forall_mem_cons.mpr ⟨lw_p68, List.forall_mem_cons.mpr ⟨lw_p69, List.forall_mem_cons.mpr ⟨lw_p70, fun _ h => absurd h List.not_mem_nil⟩⟩⟩⟩⟩⟩⟩
def lw_privs : List (MethodName × Nat) := lw_privs_1 ++ (lw_privs_2 ++ (lw_privs_3 ++ (lw_privs_4 ++ (lw_privs_5))))
def lw_tbl : List Cond := k2_sels lw_privs ++ tables_1
theorem lw_privs_ok : ∀ q ∈ lw_privs, lw_okq q := by
  show ∀ q ∈ lw_privs_1 ++ (lw_privs_2 ++ (lw_privs_3 ++ (lw_privs_4 ++ (lw_privs_5)))), lw_okq q
  exact List.forall_mem_append.mpr ⟨lw_r1, List.forall_mem_append.mpr ⟨lw_r2, List.forall_mem_append.mpr ⟨lw_r3, List.forall_mem_append.mpr ⟨lw_r4, lw_r5⟩⟩⟩⟩
end
section
def RX0 : String := "HoleCounty$Ground"
def TX0 : u_T := fun k => match k with
  | 0 => ("HoleCounty$Ground", "depth", "[I", true)
  | 1 => ("HoleCounty$Ground", "owner", "[I", true)
  | 2 => ("HoleCounty$Ground", "open", "J", false)
  | 3 => ("HoleCounty$Ground", "nines", "J", false)
  | 4 => ("HoleCounty$Ground", "roofed", "J", false)
  | 5 => ("HoleCounty$Ground", "rate", "I", false)
  | 6 => ("HoleCounty$Ground", "draw", "I", false)
  | 7 => ("HoleCounty$Ground", "ahead", "[I", true)
  | _ => ("HoleCounty$Ground", "known", "I", false)
def tyX0 : Nat → FieldType := fun k => match k with
  | 0 => .array .int
  | 1 => .array .int
  | 2 => .long
  | 3 => .long
  | 4 => .long
  | 5 => .int
  | 6 => .int
  | 7 => .array .int
  | _ => .int
abbrev wsX00 : List Cond := u_ws RX0 TX0 9
theorem nmX0 : ∀ a, a < 9 → ∀ b, b < 9 → a ≠ b → (TX0 a).2.1 ≠ (TX0 b).2.1 := by decide +kernel
theorem tyX0_ok : ∀ k, k < 9 → parseFieldDescriptor (TX0 k).2.2.1 = some (tyX0 k) := by decide +kernel
abbrev cX0_init : ByteArray := prog_2_method_1_code
def yX0_init : MethodName := ⟨RX0, "<init>", "()V"⟩
abbrev cX0_takeAll : ByteArray := prog_2_method_2_code
def yX0_takeAll : MethodName := ⟨RX0, "takeAll", "(LHoleCounty$Ground;)V"⟩
abbrev cX0_put : ByteArray := prog_2_method_3_code
def yX0_put : MethodName := ⟨RX0, "put", "(II)V"⟩
abbrev cX0_become : ByteArray := prog_2_method_4_code
def yX0_become : MethodName := ⟨RX0, "become", "([IJ)V"⟩
abbrev cX0_toDig : ByteArray := prog_2_method_5_code
def yX0_toDig : MethodName := ⟨RX0, "toDig", "(I)I"⟩
abbrev cX0_toFill : ByteArray := prog_2_method_6_code
def yX0_toFill : MethodName := ⟨RX0, "toFill", "(I)I"⟩
abbrev cX0_toRoof : ByteArray := prog_2_method_7_code
def yX0_toRoof : MethodName := ⟨RX0, "toRoof", "(I)I"⟩
abbrev cX0_repaired : ByteArray := prog_2_method_8_code
def yX0_repaired : MethodName := ⟨RX0, "repaired", "(I)Z"⟩
abbrev cX0_remember : ByteArray := prog_2_method_9_code
def yX0_remember : MethodName := ⟨RX0, "remember", "(I)V"⟩
abbrev cX0_forget : ByteArray := prog_2_method_10_code
def yX0_forget : MethodName := ⟨RX0, "forget", "()V"⟩
abbrev cX0_takeBack : ByteArray := prog_2_method_11_code
def yX0_takeBack : MethodName := ⟨RX0, "takeBack", "()I"⟩
abbrev cX0_drawn : ByteArray := prog_2_method_12_code
def yX0_drawn : MethodName := ⟨RX0, "drawn", "()I"⟩
abbrev cX0_yearByLot : ByteArray := prog_2_method_13_code
def yX0_yearByLot : MethodName := ⟨RX0, "yearByLot", "()I"⟩
abbrev cX0_depths : ByteArray := prog_2_method_14_code
def yX0_depths : MethodName := ⟨RX0, "depths", "()I"⟩
abbrev cX0_holeAt : ByteArray := prog_2_method_15_code
def yX0_holeAt : MethodName := ⟨RX0, "holeAt", "(I)J"⟩
abbrev cX0_kindOf : ByteArray := prog_2_method_16_code
def yX0_kindOf : MethodName := ⟨RX0, "kindOf", "(JJ)I"⟩
abbrev cX0_taxOf : ByteArray := prog_2_method_17_code
def yX0_taxOf : MethodName := ⟨RX0, "taxOf", "(JJ)I"⟩
abbrev cX0_taxOfAll : ByteArray := prog_2_method_18_code
def yX0_taxOfAll : MethodName := ⟨RX0, "taxOfAll", "(JJ)I"⟩
abbrev cX0_landOf : ByteArray := prog_2_method_19_code
def yX0_landOf : MethodName := ⟨RX0, "landOf", "(I)J"⟩
abbrev cX0_ownerOf : ByteArray := prog_2_method_20_code
def yX0_ownerOf : MethodName := ⟨RX0, "ownerOf", "(J)I"⟩
abbrev cX0_partOf : ByteArray := prog_2_method_21_code
def yX0_partOf : MethodName := ⟨RX0, "partOf", "(JI)I"⟩
abbrev cX0_partOfAll : ByteArray := prog_2_method_22_code
def yX0_partOfAll : MethodName := ⟨RX0, "partOfAll", "(I)I"⟩
abbrev cX0_leastFilled : ByteArray := prog_2_method_23_code
def yX0_leastFilled : MethodName := ⟨RX0, "leastFilled", "(I)J"⟩
abbrev cX0_fits : ByteArray := prog_2_method_24_code
def yX0_fits : MethodName := ⟨RX0, "fits", "(JJII)Z"⟩
def RX1 : String := "HoleCounty$Mole"
def TX1 : u_T := fun k => match k with
  | 0 => ("HoleCounty$Mole", "holes", "[J", true)
  | 1 => ("HoleCounty$Mole", "apart", "[I", true)
  | 2 => ("HoleCounty$Mole", "nearest", "[I", true)
  | 3 => ("HoleCounty$Mole", "row", "[I", true)
  | 4 => ("HoleCounty$Mole", "best", "[I", true)
  | 5 => ("HoleCounty$Mole", "size", "I", false)
  | _ => ("HoleCounty$Mole", "fewest", "I", false)
def tyX1 : Nat → FieldType := fun k => match k with
  | 0 => .array .long
  | 1 => .array .int
  | 2 => .array .int
  | 3 => .array .int
  | 4 => .array .int
  | 5 => .int
  | _ => .int
abbrev wsX10 : List Cond := u_ws RX1 TX1 7
theorem nmX1 : ∀ a, a < 7 → ∀ b, b < 7 → a ≠ b → (TX1 a).2.1 ≠ (TX1 b).2.1 := by decide +kernel
theorem tyX1_ok : ∀ k, k < 7 → parseFieldDescriptor (TX1 k).2.2.1 = some (tyX1 k) := by decide +kernel
abbrev cX1_init : ByteArray := prog_3_method_1_code
def yX1_init : MethodName := ⟨RX1, "<init>", "()V"⟩
abbrev cX1_walk : ByteArray := prog_3_method_2_code
def yX1_walk : MethodName := ⟨RX1, "walk", "(IJ)V"⟩
abbrev cX1_measure : ByteArray := prog_3_method_3_code
def yX1_measure : MethodName := ⟨RX1, "measure", "(IJ)V"⟩
abbrev cX1_nearestOf : ByteArray := prog_3_method_4_code
def yX1_nearestOf : MethodName := ⟨RX1, "nearestOf", "(JI)I"⟩
abbrev cX1_steps : ByteArray := prog_3_method_5_code
def yX1_steps : MethodName := ⟨RX1, "steps", "(II)I"⟩
abbrev cX1_seek : ByteArray := prog_3_method_6_code
def yX1_seek : MethodName := ⟨RX1, "seek", "(IIIII)V"⟩
def RX2 : String := "HoleCounty$Plane"
def TX2 : u_T := fun k => match k with
  | _ => ("", "", "", false)
def tyX2 : Nat → FieldType := fun k => match k with
  | _ => .int
abbrev wsX20 : List Cond := u_ws RX2 TX2 0
theorem nmX2 : ∀ a, a < 0 → ∀ b, b < 0 → a ≠ b → (TX2 a).2.1 ≠ (TX2 b).2.1 := by decide +kernel
theorem tyX2_ok : ∀ k, k < 0 → parseFieldDescriptor (TX2 k).2.2.1 = some (tyX2 k) := by decide +kernel
abbrev cX2_has : ByteArray := prog_4_method_2_code
def yX2_has : MethodName := ⟨RX2, "has", "(JI)Z"⟩
abbrev cX2_least : ByteArray := prog_4_method_3_code
def yX2_least : MethodName := ⟨RX2, "least", "(J)I"⟩
abbrev cX2_beside : ByteArray := prog_4_method_4_code
def yX2_beside : MethodName := ⟨RX2, "beside", "(J)J"⟩
abbrev cX2_spread : ByteArray := prog_4_method_5_code
def yX2_spread : MethodName := ⟨RX2, "spread", "(JJ)J"⟩
abbrev cX2_firstHole : ByteArray := prog_4_method_6_code
def yX2_firstHole : MethodName := ⟨RX2, "firstHole", "(J)J"⟩
abbrev cX2_holesOf : ByteArray := prog_4_method_7_code
def yX2_holesOf : MethodName := ⟨RX2, "holesOf", "(J)I"⟩
abbrev cX2_rimOf : ByteArray := prog_4_method_8_code
def yX2_rimOf : MethodName := ⟨RX2, "rimOf", "(J)J"⟩
abbrev cX2_fenceOf : ByteArray := prog_4_method_9_code
def yX2_fenceOf : MethodName := ⟨RX2, "fenceOf", "(J)I"⟩
abbrev cX2_withinOf : ByteArray := prog_4_method_10_code
def yX2_withinOf : MethodName := ⟨RX2, "withinOf", "(J)J"⟩
abbrev cX2_nestedIn : ByteArray := prog_4_method_11_code
def yX2_nestedIn : MethodName := ⟨RX2, "nestedIn", "(JJ)I"⟩
abbrev cX2_broadestIn : ByteArray := prog_4_method_12_code
def yX2_broadestIn : MethodName := ⟨RX2, "broadestIn", "(J)I"⟩
abbrev cX2_mostCells : ByteArray := prog_4_method_13_code
def yX2_mostCells : MethodName := ⟨RX2, "mostCells", "(J)J"⟩
abbrev cX2_leastCut : ByteArray := prog_4_method_14_code
def yX2_leastCut : MethodName := ⟨RX2, "leastCut", "(JJ)I"⟩
abbrev cX2_isInPieces : ByteArray := prog_4_method_15_code
def yX2_isInPieces : MethodName := ⟨RX2, "isInPieces", "(J)Z"⟩
abbrev cX2_leastSplit : ByteArray := prog_4_method_16_code
def yX2_leastSplit : MethodName := ⟨RX2, "leastSplit", "(J)J"⟩
abbrev cX2_gapBetween : ByteArray := prog_4_method_17_code
def yX2_gapBetween : MethodName := ⟨RX2, "gapBetween", "(JJJJ)I"⟩
abbrev cX2_leastDug : ByteArray := prog_4_method_18_code
def yX2_leastDug : MethodName := ⟨RX2, "leastDug", "(JJJ)J"⟩
def RX3 : String := "HoleCounty$Row"
def TX3 : u_T := fun k => match k with
  | 0 => ("HoleCounty$Row", "items", "[J", true)
  | 1 => ("HoleCounty$Row", "isThere", "Z", false)
  | 2 => ("HoleCounty$Row", "lane", "I", false)
  | _ => ("HoleCounty$Row", "length", "I", false)
def tyX3 : Nat → FieldType := fun k => match k with
  | 0 => .array .long
  | 1 => .boolean
  | 2 => .int
  | _ => .int
abbrev wsX30 : List Cond := u_ws RX3 TX3 4
theorem nmX3 : ∀ a, a < 4 → ∀ b, b < 4 → a ≠ b → (TX3 a).2.1 ≠ (TX3 b).2.1 := by decide +kernel
theorem tyX3_ok : ∀ k, k < 4 → parseFieldDescriptor (TX3 k).2.2.1 = some (tyX3 k) := by decide +kernel
abbrev cX3_init : ByteArray := prog_5_method_1_code
def yX3_init : MethodName := ⟨RX3, "<init>", "()V"⟩
abbrev cX3_begin : ByteArray := prog_5_method_2_code
def yX3_begin : MethodName := ⟨RX3, "begin", "(II)V"⟩
abbrev cX3_spans : ByteArray := prog_5_method_3_code
def yX3_spans : MethodName := ⟨RX3, "spans", "(II)Z"⟩
abbrev cX3_put : ByteArray := prog_5_method_4_code
def yX3_put : MethodName := ⟨RX3, "put", "(IJ)V"⟩
abbrev cX3_areDepths : ByteArray := prog_5_method_5_code
def yX3_areDepths : MethodName := ⟨RX3, "areDepths", "(II)Z"⟩
def RX4 : String := "HoleCounty$Tape"
def TX4 : u_T := fun k => match k with
  | 0 => ("HoleCounty$Tape", "letters", "[C", true)
  | 1 => ("HoleCounty$Tape", "length", "I", false)
  | 2 => ("HoleCounty$Tape", "place", "I", false)
  | 3 => ("HoleCounty$Tape", "read", "[I", true)
  | 4 => ("HoleCounty$Tape", "roofed", "J", false)
  | _ => ("HoleCounty$Tape", "repairs", "I", false)
def tyX4 : Nat → FieldType := fun k => match k with
  | 0 => .array .char
  | 1 => .int
  | 2 => .int
  | 3 => .array .int
  | 4 => .long
  | _ => .int
abbrev wsX40 : List Cond := u_ws RX4 TX4 6
theorem nmX4 : ∀ a, a < 6 → ∀ b, b < 6 → a ≠ b → (TX4 a).2.1 ≠ (TX4 b).2.1 := by decide +kernel
theorem tyX4_ok : ∀ k, k < 6 → parseFieldDescriptor (TX4 k).2.2.1 = some (tyX4 k) := by decide +kernel
abbrev cX4_init : ByteArray := prog_6_method_1_code
def yX4_init : MethodName := ⟨RX4, "<init>", "()V"⟩
abbrev cX4_add : ByteArray := prog_6_method_2_code
def yX4_add : MethodName := ⟨RX4, "add", "(C)I"⟩
abbrev cX4_wipe : ByteArray := prog_6_method_3_code
def yX4_wipe : MethodName := ⟨RX4, "wipe", "()V"⟩
abbrev cX4_passBlanks : ByteArray := prog_6_method_4_code
def yX4_passBlanks : MethodName := ⟨RX4, "passBlanks", "()V"⟩
abbrev cX4_isNext : ByteArray := prog_6_method_5_code
def yX4_isNext : MethodName := ⟨RX4, "isNext", "(C)Z"⟩
abbrev cX4_nextFigure : ByteArray := prog_6_method_6_code
def yX4_nextFigure : MethodName := ⟨RX4, "nextFigure", "(C)I"⟩
abbrev cX4_fault : ByteArray := prog_6_method_7_code
def yX4_fault : MethodName := ⟨RX4, "fault", "()I"⟩
abbrev cX4_faultBehind : ByteArray := prog_6_method_8_code
def yX4_faultBehind : MethodName := ⟨RX4, "faultBehind", "()I"⟩
abbrev cX4_readGround : ByteArray := prog_6_method_9_code
def yX4_readGround : MethodName := ⟨RX4, "readGround", "()I"⟩
abbrev cX4_readOwners : ByteArray := prog_6_method_10_code
def yX4_readOwners : MethodName := ⟨RX4, "readOwners", "()I"⟩
abbrev cX4_readDay : ByteArray := prog_6_method_11_code
def yX4_readDay : MethodName := ⟨RX4, "readDay", "()I"⟩
abbrev cX4_nextRepair : ByteArray := prog_6_method_12_code
def yX4_nextRepair : MethodName := ⟨RX4, "nextRepair", "()I"⟩
def RX5 : String := "HoleCounty"
def TX5 : u_T := fun k => match k with
  | 0 => ("HoleCounty", "now", "LHoleCounty$Ground;", true)
  | 1 => ("HoleCounty", "kept", "LHoleCounty$Ground;", true)
  | 2 => ("HoleCounty", "hasImage", "Z", false)
  | 3 => ("HoleCounty", "tape", "LHoleCounty$Tape;", true)
  | 4 => ("HoleCounty", "rows", "[LHoleCounty$Row;", true)
  | _ => ("HoleCounty", "mole", "LHoleCounty$Mole;", true)
def tyX5 : Nat → FieldType := fun k => match k with
  | 0 => .object "HoleCounty$Ground"
  | 1 => .object "HoleCounty$Ground"
  | 2 => .boolean
  | 3 => .object "HoleCounty$Tape"
  | 4 => .array (.object "HoleCounty$Row")
  | _ => .object "HoleCounty$Mole"
abbrev wsX50 : List Cond := u_ws RX5 TX5 6
theorem nmX5 : ∀ a, a < 6 → ∀ b, b < 6 → a ≠ b → (TX5 a).2.1 ≠ (TX5 b).2.1 := by decide +kernel
theorem tyX5_ok : ∀ k, k < 6 → parseFieldDescriptor (TX5 k).2.2.1 = some (tyX5 k) := by decide +kernel
abbrev cX5_init : ByteArray := prog_1_method_1_code
def yX5_init : MethodName := ⟨RX5, "<init>", "()V"⟩
abbrev cX5_dig : ByteArray := prog_1_method_2_code
def yX5_dig : MethodName := ⟨RX5, "dig", "(I)I"⟩
abbrev cX5_fill : ByteArray := prog_1_method_3_code
def yX5_fill : MethodName := ⟨RX5, "fill", "(I)I"⟩
abbrev cX5_roof : ByteArray := prog_1_method_4_code
def yX5_roof : MethodName := ⟨RX5, "roof", "(I)I"⟩
abbrev cX5_undo : ByteArray := prog_1_method_5_code
def yX5_undo : MethodName := ⟨RX5, "undo", "()I"⟩
abbrev cX5_own : ByteArray := prog_1_method_6_code
def yX5_own : MethodName := ⟨RX5, "own", "(II)I"⟩
abbrev cX5_rate : ByteArray := prog_1_method_7_code
def yX5_rate : MethodName := ⟨RX5, "rate", "(I)I"⟩
abbrev cX5_told : ByteArray := prog_1_method_8_code
def yX5_told : MethodName := ⟨RX5, "told", "(II)I"⟩
abbrev cX5_type : ByteArray := prog_1_method_9_code
def yX5_type : MethodName := ⟨RX5, "type", "(I)I"⟩
abbrev cX5_ground : ByteArray := prog_1_method_10_code
def yX5_ground : MethodName := ⟨RX5, "ground", "()I"⟩
abbrev cX5_owners : ByteArray := prog_1_method_11_code
def yX5_owners : MethodName := ⟨RX5, "owners", "()I"⟩
abbrev cX5_day : ByteArray := prog_1_method_12_code
def yX5_day : MethodName := ⟨RX5, "day", "()I"⟩
abbrev cX5_count : ByteArray := prog_1_method_13_code
def yX5_count : MethodName := ⟨RX5, "count", "(I)I"⟩
abbrev cX5_hole : ByteArray := prog_1_method_14_code
def yX5_hole : MethodName := ⟨RX5, "hole", "(II)I"⟩
abbrev cX5_cells : ByteArray := prog_1_method_15_code
def yX5_cells : MethodName := ⟨RX5, "cells", "(II)J"⟩
abbrev cX5_part : ByteArray := prog_1_method_16_code
def yX5_part : MethodName := ⟨RX5, "part", "(II)I"⟩
abbrev cX5_pays : ByteArray := prog_1_method_17_code
def yX5_pays : MethodName := ⟨RX5, "pays", "(I)I"⟩
abbrev cX5_worth : ByteArray := prog_1_method_18_code
def yX5_worth : MethodName := ⟨RX5, "worth", "(I)I"⟩
abbrev cX5_filled : ByteArray := prog_1_method_19_code
def yX5_filled : MethodName := ⟨RX5, "filled", "(II)I"⟩
abbrev cX5_split : ByteArray := prog_1_method_20_code
def yX5_split : MethodName := ⟨RX5, "split", "(II)I"⟩
abbrev cX5_dug : ByteArray := prog_1_method_21_code
def yX5_dug : MethodName := ⟨RX5, "dug", "(III)I"⟩
abbrev cX5_loophole : ByteArray := prog_1_method_22_code
def yX5_loophole : MethodName := ⟨RX5, "loophole", "()I"⟩
abbrev cX5_roofs : ByteArray := prog_1_method_23_code
def yX5_roofs : MethodName := ⟨RX5, "roofs", "(I)I"⟩
abbrev cX5_round : ByteArray := prog_1_method_24_code
def yX5_round : MethodName := ⟨RX5, "round", "(II)I"⟩
abbrev cX5_border : ByteArray := prog_1_method_25_code
def yX5_border : MethodName := ⟨RX5, "border", "(I)I"⟩
abbrev cX5_cut : ByteArray := prog_1_method_26_code
def yX5_cut : MethodName := ⟨RX5, "cut", "(I)I"⟩
abbrev cX5_books : ByteArray := prog_1_method_27_code
def yX5_books : MethodName := ⟨RX5, "books", "(JIII)J"⟩
abbrev cX5_lots : ByteArray := prog_1_method_28_code
def yX5_lots : MethodName := ⟨RX5, "lots", "(I)I"⟩
abbrev cX5_seed : ByteArray := prog_1_method_29_code
def yX5_seed : MethodName := ⟨RX5, "seed", "(I)I"⟩
abbrev cX5_image : ByteArray := prog_1_method_30_code
def yX5_image : MethodName := ⟨RX5, "image", "()I"⟩
abbrev cX5_restore : ByteArray := prog_1_method_31_code
def yX5_restore : MethodName := ⟨RX5, "restore", "()I"⟩
abbrev cX5_lay : ByteArray := prog_1_method_32_code
def yX5_lay : MethodName := ⟨RX5, "lay", "(IIIII)I"⟩
abbrev cX5_film : ByteArray := prog_1_method_33_code
def yX5_film : MethodName := ⟨RX5, "film", "(III)I"⟩
abbrev cX5_miscounted : ByteArray := prog_1_method_34_code
def yX5_miscounted : MethodName := ⟨RX5, "miscounted", "(IIII)I"⟩
abbrev cX5_sheet : ByteArray := prog_1_method_35_code
def yX5_sheet : MethodName := ⟨RX5, "sheet", "(III)I"⟩
abbrev cX5_drop : ByteArray := prog_1_method_36_code
def yX5_drop : MethodName := ⟨RX5, "drop", "(I)I"⟩
abbrev cX5_item : ByteArray := prog_1_method_37_code
def yX5_item : MethodName := ⟨RX5, "item", "(IIIJ)I"⟩
abbrev cX5_copy : ByteArray := prog_1_method_38_code
def yX5_copy : MethodName := ⟨RX5, "copy", "(IIIII)I"⟩
abbrev cX5_isCell : ByteArray := prog_1_method_39_code
def yX5_isCell : MethodName := ⟨RX5, "isCell", "(I)Z"⟩
abbrev cX5_isOwner : ByteArray := prog_1_method_40_code
def yX5_isOwner : MethodName := ⟨RX5, "isOwner", "(I)Z"⟩
abbrev cX5_isSheet : ByteArray := prog_1_method_41_code
def yX5_isSheet : MethodName := ⟨RX5, "isSheet", "(I)Z"⟩
abbrev cX5_isLane : ByteArray := prog_1_method_42_code
def yX5_isLane : MethodName := ⟨RX5, "isLane", "(I)Z"⟩
abbrev cX5_refusal : ByteArray := prog_1_method_43_code
def yX5_refusal : MethodName := ⟨RX5, "refusal", "(IIII)I"⟩
abbrev cX5_isRight : ByteArray := prog_1_method_44_code
def yX5_isRight : MethodName := ⟨RX5, "isRight", "(JJ)Z"⟩
abbrev cX5_pick : ByteArray := prog_1_method_45_code
def yX5_pick : MethodName := ⟨RX5, "pick", "(JI)I"⟩
def RX6 : String := "HoleCountyModel"
def TX6 : u_T := fun k => match k with
  | 0 => ("HoleCountyModel", "depths", "[I", true)
  | 1 => ("HoleCountyModel", "owners", "[I", true)
  | 2 => ("HoleCountyModel", "roofs", "J", false)
  | 3 => ("HoleCountyModel", "rate", "I", false)
  | 4 => ("HoleCountyModel", "undos", "[I", true)
  | 5 => ("HoleCountyModel", "undoMany", "I", false)
  | 6 => ("HoleCountyModel", "drawn", "I", false)
  | 7 => ("HoleCountyModel", "dug", "J", false)
  | 8 => ("HoleCountyModel", "deep", "J", false)
  | 9 => ("HoleCountyModel", "holes", "[J", true)
  | 10 => ("HoleCountyModel", "holeMany", "I", false)
  | 11 => ("HoleCountyModel", "tape", "[I", true)
  | 12 => ("HoleCountyModel", "taped", "I", false)
  | 13 => ("HoleCountyModel", "place", "I", false)
  | 14 => ("HoleCountyModel", "reads", "I", false)
  | 15 => ("HoleCountyModel", "read", "[I", true)
  | 16 => ("HoleCountyModel", "row", "[I", true)
  | 17 => ("HoleCountyModel", "order", "[I", true)
  | 18 => ("HoleCountyModel", "bestOrder", "[I", true)
  | 19 => ("HoleCountyModel", "nears", "[I", true)
  | 20 => ("HoleCountyModel", "isKept", "Z", false)
  | 21 => ("HoleCountyModel", "keptRoofs", "J", false)
  | 22 => ("HoleCountyModel", "kept", "[I", true)
  | 23 => ("HoleCountyModel", "lanes", "[I", true)
  | 24 => ("HoleCountyModel", "rowSizes", "[I", true)
  | 25 => ("HoleCountyModel", "items", "[J", true)
  | _ => ("HoleCountyModel", "moved", "[J", true)
def tyX6 : Nat → FieldType := fun k => match k with
  | 0 => .array .int
  | 1 => .array .int
  | 2 => .long
  | 3 => .int
  | 4 => .array .int
  | 5 => .int
  | 6 => .int
  | 7 => .long
  | 8 => .long
  | 9 => .array .long
  | 10 => .int
  | 11 => .array .int
  | 12 => .int
  | 13 => .int
  | 14 => .int
  | 15 => .array .int
  | 16 => .array .int
  | 17 => .array .int
  | 18 => .array .int
  | 19 => .array .int
  | 20 => .boolean
  | 21 => .long
  | 22 => .array .int
  | 23 => .array .int
  | 24 => .array .int
  | 25 => .array .long
  | _ => .array .long
abbrev wsX60 : List Cond := u_ws RX6 TX6 27
theorem nmX6 : ∀ a, a < 27 → ∀ b, b < 27 → a ≠ b → (TX6 a).2.1 ≠ (TX6 b).2.1 := by decide +kernel
theorem tyX6_ok : ∀ k, k < 27 → parseFieldDescriptor (TX6 k).2.2.1 = some (tyX6 k) := by decide +kernel
abbrev cX6_init : ByteArray := prog_8_method_1_code
def yX6_init : MethodName := ⟨RX6, "<init>", "()V"⟩
abbrev cX6_in : ByteArray := prog_8_method_2_code
def yX6_in : MethodName := ⟨RX6, "in", "(JJJ)Z"⟩
abbrev cX6_isCell : ByteArray := prog_8_method_3_code
def yX6_isCell : MethodName := ⟨RX6, "isCell", "(I)Z"⟩
abbrev cX6_has : ByteArray := prog_8_method_4_code
def yX6_has : MethodName := ⟨RX6, "has", "(JI)Z"⟩
abbrev cX6_ones : ByteArray := prog_8_method_5_code
def yX6_ones : MethodName := ⟨RX6, "ones", "(J)I"⟩
abbrev cX6_least : ByteArray := prog_8_method_6_code
def yX6_least : MethodName := ⟨RX6, "least", "(J)I"⟩
abbrev cX6_look : ByteArray := prog_8_method_7_code
def yX6_look : MethodName := ⟨RX6, "look", "()V"⟩
abbrev cX6_beside : ByteArray := prog_8_method_8_code
def yX6_beside : MethodName := ⟨RX6, "beside", "(J)J"⟩
abbrev cX6_grown : ByteArray := prog_8_method_9_code
def yX6_grown : MethodName := ⟨RX6, "grown", "(JJ)J"⟩
abbrev cX6_holeAt : ByteArray := prog_8_method_10_code
def yX6_holeAt : MethodName := ⟨RX6, "holeAt", "(I)J"⟩
abbrev cX6_rimOf : ByteArray := prog_8_method_11_code
def yX6_rimOf : MethodName := ⟨RX6, "rimOf", "(J)J"⟩
abbrev cX6_fenceOf : ByteArray := prog_8_method_12_code
def yX6_fenceOf : MethodName := ⟨RX6, "fenceOf", "(J)I"⟩
abbrev cX6_edge : ByteArray := prog_8_method_13_code
def yX6_edge : MethodName := ⟨RX6, "edge", "()J"⟩
abbrev cX6_withinOf : ByteArray := prog_8_method_14_code
def yX6_withinOf : MethodName := ⟨RX6, "withinOf", "(J)J"⟩
abbrev cX6_kindOf : ByteArray := prog_8_method_15_code
def yX6_kindOf : MethodName := ⟨RX6, "kindOf", "(J)I"⟩
abbrev cX6_taxOf : ByteArray := prog_8_method_16_code
def yX6_taxOf : MethodName := ⟨RX6, "taxOf", "(J)I"⟩
abbrev cX6_findHoles : ByteArray := prog_8_method_17_code
def yX6_findHoles : MethodName := ⟨RX6, "findHoles", "()V"⟩
abbrev cX6_taxOfAll : ByteArray := prog_8_method_18_code
def yX6_taxOfAll : MethodName := ⟨RX6, "taxOfAll", "()I"⟩
abbrev cX6_note : ByteArray := prog_8_method_19_code
def yX6_note : MethodName := ⟨RX6, "note", "(I)V"⟩
abbrev cX6_put : ByteArray := prog_8_method_20_code
def yX6_put : MethodName := ⟨RX6, "put", "(IIZ)V"⟩
abbrev cX6_dig : ByteArray := prog_8_method_21_code
def yX6_dig : MethodName := ⟨RX6, "dig", "(I)I"⟩
abbrev cX6_fill : ByteArray := prog_8_method_22_code
def yX6_fill : MethodName := ⟨RX6, "fill", "(I)I"⟩
abbrev cX6_roof : ByteArray := prog_8_method_23_code
def yX6_roof : MethodName := ⟨RX6, "roof", "(I)I"⟩
abbrev cX6_undo : ByteArray := prog_8_method_24_code
def yX6_undo : MethodName := ⟨RX6, "undo", "()I"⟩
abbrev cX6_own : ByteArray := prog_8_method_25_code
def yX6_own : MethodName := ⟨RX6, "own", "(II)I"⟩
abbrev cX6_rate : ByteArray := prog_8_method_26_code
def yX6_rate : MethodName := ⟨RX6, "rate", "(I)I"⟩
abbrev cX6_told : ByteArray := prog_8_method_27_code
def yX6_told : MethodName := ⟨RX6, "told", "(II)I"⟩
abbrev cX6_type : ByteArray := prog_8_method_28_code
def yX6_type : MethodName := ⟨RX6, "type", "(I)I"⟩
abbrev cX6_nextLetter : ByteArray := prog_8_method_29_code
def yX6_nextLetter : MethodName := ⟨RX6, "nextLetter", "()I"⟩
abbrev cX6_takes : ByteArray := prog_8_method_30_code
def yX6_takes : MethodName := ⟨RX6, "takes", "(I)Z"⟩
abbrev cX6_end : ByteArray := prog_8_method_31_code
def yX6_end : MethodName := ⟨RX6, "end", "(Z)I"⟩
abbrev cX6_readGround : ByteArray := prog_8_method_32_code
def yX6_readGround : MethodName := ⟨RX6, "readGround", "()Z"⟩
abbrev cX6_ground : ByteArray := prog_8_method_33_code
def yX6_ground : MethodName := ⟨RX6, "ground", "()I"⟩
abbrev cX6_readOwners : ByteArray := prog_8_method_34_code
def yX6_readOwners : MethodName := ⟨RX6, "readOwners", "()Z"⟩
abbrev cX6_owners : ByteArray := prog_8_method_35_code
def yX6_owners : MethodName := ⟨RX6, "owners", "()I"⟩
abbrev cX6_readAct : ByteArray := prog_8_method_36_code
def yX6_readAct : MethodName := ⟨RX6, "readAct", "()Z"⟩
abbrev cX6_readDay : ByteArray := prog_8_method_37_code
def yX6_readDay : MethodName := ⟨RX6, "readDay", "()Z"⟩
abbrev cX6_day : ByteArray := prog_8_method_38_code
def yX6_day : MethodName := ⟨RX6, "day", "()I"⟩
abbrev cX6_count : ByteArray := prog_8_method_39_code
def yX6_count : MethodName := ⟨RX6, "count", "(I)I"⟩
abbrev cX6_owned : ByteArray := prog_8_method_40_code
def yX6_owned : MethodName := ⟨RX6, "owned", "(I)J"⟩
abbrev cX6_ownerOf : ByteArray := prog_8_method_41_code
def yX6_ownerOf : MethodName := ⟨RX6, "ownerOf", "(J)I"⟩
abbrev cX6_nestedOf : ByteArray := prog_8_method_42_code
def yX6_nestedOf : MethodName := ⟨RX6, "nestedOf", "(J)I"⟩
abbrev cX6_largestOf : ByteArray := prog_8_method_43_code
def yX6_largestOf : MethodName := ⟨RX6, "largestOf", "(J)I"⟩
abbrev cX6_hole : ByteArray := prog_8_method_44_code
def yX6_hole : MethodName := ⟨RX6, "hole", "(II)I"⟩
abbrev cX6_cells : ByteArray := prog_8_method_45_code
def yX6_cells : MethodName := ⟨RX6, "cells", "(II)J"⟩
abbrev cX6_partOf : ByteArray := prog_8_method_46_code
def yX6_partOf : MethodName := ⟨RX6, "partOf", "(JI)I"⟩
abbrev cX6_part : ByteArray := prog_8_method_47_code
def yX6_part : MethodName := ⟨RX6, "part", "(II)I"⟩
abbrev cX6_pays : ByteArray := prog_8_method_48_code
def yX6_pays : MethodName := ⟨RX6, "pays", "(I)I"⟩
abbrev cX6_worth : ByteArray := prog_8_method_49_code
def yX6_worth : MethodName := ⟨RX6, "worth", "(I)I"⟩
abbrev cX6_filled : ByteArray := prog_8_method_50_code
def yX6_filled : MethodName := ⟨RX6, "filled", "(II)I"⟩
abbrev cX6_fewestFilled : ByteArray := prog_8_method_51_code
def yX6_fewestFilled : MethodName := ⟨RX6, "fewestFilled", "(IJ)I"⟩
abbrev cX6_does : ByteArray := prog_8_method_52_code
def yX6_does : MethodName := ⟨RX6, "does", "(JIJ)Z"⟩
abbrev cX6_split : ByteArray := prog_8_method_53_code
def yX6_split : MethodName := ⟨RX6, "split", "(II)I"⟩
abbrev cX6_fewestDug : ByteArray := prog_8_method_54_code
def yX6_fewestDug : MethodName := ⟨RX6, "fewestDug", "(JJJ)I"⟩
abbrev cX6_dug : ByteArray := prog_8_method_55_code
def yX6_dug : MethodName := ⟨RX6, "dug", "(III)I"⟩
abbrev cX6_loophole : ByteArray := prog_8_method_56_code
def yX6_loophole : MethodName := ⟨RX6, "loophole", "()I"⟩
abbrev cX6_roofs : ByteArray := prog_8_method_57_code
def yX6_roofs : MethodName := ⟨RX6, "roofs", "(I)I"⟩
abbrev cX6_nextOrder : ByteArray := prog_8_method_58_code
def yX6_nextOrder : MethodName := ⟨RX6, "nextOrder", "(I)Z"⟩
abbrev cX6_off : ByteArray := prog_8_method_59_code
def yX6_off : MethodName := ⟨RX6, "off", "(II)I"⟩
abbrev cX6_apart : ByteArray := prog_8_method_60_code
def yX6_apart : MethodName := ⟨RX6, "apart", "(II)I"⟩
abbrev cX6_nearest : ByteArray := prog_8_method_61_code
def yX6_nearest : MethodName := ⟨RX6, "nearest", "(JI)I"⟩
abbrev cX6_stepsOf : ByteArray := prog_8_method_62_code
def yX6_stepsOf : MethodName := ⟨RX6, "stepsOf", "(II)I"⟩
abbrev cX6_round : ByteArray := prog_8_method_63_code
def yX6_round : MethodName := ⟨RX6, "round", "(II)I"⟩
abbrev cX6_border : ByteArray := prog_8_method_64_code
def yX6_border : MethodName := ⟨RX6, "border", "(I)I"⟩
abbrev cX6_cut : ByteArray := prog_8_method_65_code
def yX6_cut : MethodName := ⟨RX6, "cut", "(I)I"⟩
abbrev cX6_books : ByteArray := prog_8_method_66_code
def yX6_books : MethodName := ⟨RX6, "books", "(JIII)J"⟩
abbrev cX6_nextDraw : ByteArray := prog_8_method_67_code
def yX6_nextDraw : MethodName := ⟨RX6, "nextDraw", "(I)I"⟩
abbrev cX6_lots : ByteArray := prog_8_method_68_code
def yX6_lots : MethodName := ⟨RX6, "lots", "(I)I"⟩
abbrev cX6_seed : ByteArray := prog_8_method_69_code
def yX6_seed : MethodName := ⟨RX6, "seed", "(I)I"⟩
abbrev cX6_carried : ByteArray := prog_8_method_70_code
def yX6_carried : MethodName := ⟨RX6, "carried", "(IIZ)I"⟩
abbrev cX6_image : ByteArray := prog_8_method_71_code
def yX6_image : MethodName := ⟨RX6, "image", "()I"⟩
abbrev cX6_restore : ByteArray := prog_8_method_72_code
def yX6_restore : MethodName := ⟨RX6, "restore", "()I"⟩
abbrev cX6_isSheet : ByteArray := prog_8_method_73_code
def yX6_isSheet : MethodName := ⟨RX6, "isSheet", "(II)Z"⟩
abbrev cX6_asLane : ByteArray := prog_8_method_74_code
def yX6_asLane : MethodName := ⟨RX6, "asLane", "(IJ)J"⟩
abbrev cX6_sheet : ByteArray := prog_8_method_75_code
def yX6_sheet : MethodName := ⟨RX6, "sheet", "(III)I"⟩
abbrev cX6_drop : ByteArray := prog_8_method_76_code
def yX6_drop : MethodName := ⟨RX6, "drop", "(I)I"⟩
abbrev cX6_lacksRow : ByteArray := prog_8_method_77_code
def yX6_lacksRow : MethodName := ⟨RX6, "lacksRow", "(IIII)I"⟩
abbrev cX6_item : ByteArray := prog_8_method_78_code
def yX6_item : MethodName := ⟨RX6, "item", "(IIIJ)I"⟩
abbrev cX6_lay : ByteArray := prog_8_method_79_code
def yX6_lay : MethodName := ⟨RX6, "lay", "(IIIII)I"⟩
abbrev cX6_film : ByteArray := prog_8_method_80_code
def yX6_film : MethodName := ⟨RX6, "film", "(III)I"⟩
abbrev cX6_miscounted : ByteArray := prog_8_method_81_code
def yX6_miscounted : MethodName := ⟨RX6, "miscounted", "(IIII)I"⟩
abbrev cX6_copy : ByteArray := prog_8_method_82_code
def yX6_copy : MethodName := ⟨RX6, "copy", "(IIIII)I"⟩
def RJ13 : String := "java/lang/Long"
def TJ13 : u_T := fun k => match k with
  | _ => ("", "", "", false)
def tyJ13 : Nat → FieldType := fun k => match k with
  | _ => .int
abbrev wsJ130 : List Cond := u_ws RJ13 TJ13 0
theorem nmJ13 : ∀ a, a < 0 → ∀ b, b < 0 → a ≠ b → (TJ13 a).2.1 ≠ (TJ13 b).2.1 := by decide +kernel
theorem tyJ13_ok : ∀ k, k < 0 → parseFieldDescriptor (TJ13 k).2.2.1 = some (tyJ13 k) := by decide +kernel
abbrev cJ13_bitCount_95d88 : ByteArray := prog_9_method_50_code
def yJ13_bitCount_95d88 : MethodName := ⟨RJ13, "bitCount", "(J)I"⟩
def RJ9 : String := "java/lang/Math"
def TJ9 : u_T := fun k => match k with
  | _ => ("", "", "", false)
def tyJ9 : Nat → FieldType := fun k => match k with
  | _ => .int
abbrev wsJ90 : List Cond := u_ws RJ9 TJ9 0
theorem nmJ9 : ∀ a, a < 0 → ∀ b, b < 0 → a ≠ b → (TJ9 a).2.1 ≠ (TJ9 b).2.1 := by decide +kernel
theorem tyJ9_ok : ∀ k, k < 0 → parseFieldDescriptor (TJ9 k).2.2.1 = some (tyJ9 k) := by decide +kernel
abbrev cJ9_abs_0f7a4 : ByteArray := prog_10_method_59_code
def yJ9_abs_0f7a4 : MethodName := ⟨RJ9, "abs", "(I)I"⟩
abbrev cJ9_max_7cf53 : ByteArray := prog_10_method_65_code
def yJ9_max_7cf53 : MethodName := ⟨RJ9, "max", "(II)I"⟩
abbrev cJ9_min_7cf53 : ByteArray := prog_10_method_69_code
def yJ9_min_7cf53 : MethodName := ⟨RJ9, "min", "(II)I"⟩
def RJ10 : String := "java/lang/System"
def TJ10 : u_T := fun k => match k with
  | _ => ("", "", "", false)
def tyJ10 : Nat → FieldType := fun k => match k with
  | _ => .int
abbrev wsJ100 : List Cond := u_ws RJ10 TJ10 0
theorem nmJ10 : ∀ a, a < 0 → ∀ b, b < 0 → a ≠ b → (TJ10 a).2.1 ≠ (TJ10 b).2.1 := by decide +kernel
theorem tyJ10_ok : ∀ k, k < 0 → parseFieldDescriptor (TJ10 k).2.2.1 = some (tyJ10 k) := by decide +kernel
def RL : String := "HoleCountyLaw"
abbrev cL_law : ByteArray := code
def yL_law : MethodName := ⟨RL, "law", "([I)Z"⟩
abbrev vwCl : List vw_C := [(RX0, TX0, 9), (RX1, TX1, 7), (RX3, TX3, 4), (RX4, TX4, 6), (RX5, TX5, 6), (RX6, TX6, 27)]
end
section
/-! ===== the abstract machine: worlds of fixed shape, blocks, weakest preconditions ===== -/
abbrev zW : Type := (Nat → Nat → Int32) × (Nat → Nat → Int64)
abbrev zL : Type := List (Option Value)
abbrev zA : Type := Value ⊕ Instr
abbrev zT : Type := (Jvm.ClassFile.Cond × Bool × Nat × Nat) ⊕ (List (Int32 × Nat) × Nat) ⊕ (Nat × Nat × Nat)
abbrev zB : Type := Nat × List zA × zT
abbrev zQ : Type := Option Value → zW → Prop
abbrev zI : Type := MethodName × ByteArray × Nat × Option FieldType × Nat × Bool × Nat
def gI (w : zW) (o k : Nat) : Int32 := w.1 o k
def gL (w : zW) (o k : Nat) : Int64 := w.2 o k
def sI (w : zW) (o k : Nat) (v : Int32) : zW := (fun a b => if a = o ∧ b = k then v else w.1 a b, w.2)
def sL (w : zW) (o k : Nat) (v : Int64) : zW := (w.1, fun a b => if a = o ∧ b = k then v else w.2 a b)
/-- arrays copied: ints, longs -/
def cI (w : zW) (o1 o2 sp dp n : Nat) : zW := (fun a b => if a = o2 then va_cpy (w.1 o1) (w.1 o2) sp dp n b else w.1 a b, w.2)
def cL (w : zW) (o1 o2 sp dp n : Nat) : zW := (w.1, fun a b => if a = o2 then va_cpy (w.2 o1) (w.2 o2) sp dp n b else w.2 a b)
/-- the objects: 0 county, 1 now, 2 kept, 3 tape, 4 rows, 5-8 rows' objects, 9 mole, 10 the reference, then their arrays (kind 0 int, 1 long, 2 char, 3 references), by length; 43 the script, 44 its length -/
def zshL : List (Nat ⊕ (Nat × Nat)) := [.inl 4, .inl 0, .inl 0, .inl 3, .inr (3, 4), .inl 2, .inl 2, .inl 2, .inl 2, .inl 1, .inl 5,
  .inr (0, 36), .inr (0, 36), .inr (0, 10), .inr (0, 36), .inr (0, 36), .inr (0, 10), .inr (2, 160), .inr (0, 41),
  .inr (1, 36), .inr (1, 36), .inr (1, 36), .inr (1, 36), .inr (1, 8), .inr (0, 8), .inr (0, 288), .inr (0, 8), .inr (0, 8),
  .inr (0, 36), .inr (0, 36), .inr (0, 30), .inr (1, 36), .inr (0, 160), .inr (0, 80), .inr (0, 10), .inr (0, 8), .inr (0, 8), .inr (0, 288), .inr (0, 106), .inr (0, 4), .inr (0, 4), .inr (1, 144), .inr (1, 36)]
def zis (o ci : Nat) : Prop := zshL[o]? = some (.inl ci)
def zar (o kd n : Nat) : Prop := zshL[o]? = some (.inr (kd, n))
def zln (o : Nat) : Nat := match zshL[o]? with
  | some (.inr q) => q.2
  | _ => 0
/-- kinds of fields: 0 int, 1 long, 2 boolean, 3 reference -/
def zfkL : List (List Nat) := [[3, 3, 1, 1, 1, 0, 0, 3, 0], [3, 3, 3, 3, 3, 0, 0], [3, 2, 0, 0], [3, 0, 0, 3, 1, 0], [3, 3, 2, 3, 3, 3], [3, 3, 1, 0, 3, 0, 0, 1, 1, 3, 0, 3, 0, 0, 0, 3, 3, 3, 3, 3, 2, 1, 3, 3, 3, 3, 3]]
def zfk (ci k : Nat) : Nat := (zfkL.getD ci []).getD k 9
def zrfL : List (List Nat) := [[1, 2, 0, 3, 4, 9], [11, 12, 0, 0, 0, 0, 0, 13], [14, 15, 0, 0, 0, 0, 0, 16], [17, 0, 0, 18], [], [19], [20], [21], [22], [23, 24, 25, 26, 27], [28, 29, 0, 0, 30, 0, 0, 0, 0, 31, 0, 32, 0, 0, 0, 33, 34, 35, 36, 37, 0, 0, 38, 39, 40, 41, 42]]
def zrf (o k : Nat) : Nat := (zrfL.getD o []).getD k 0
def zre (o j : Nat) : Nat := o + 1 + j
def zsl (x : Int64) (y : Int32) : Int64 := x <<< (y.toInt64 &&& 63)
def zsr (x : Int64) (y : Int32) : Int64 := x >>> (y.toInt64 &&& 63)
def zus (x : Int64) (y : Int32) : Int64 := (x.toUInt64 >>> (y.toInt64.toUInt64 &&& Int64.toUInt64 63)).toInt64
def zrm (x y : Int32) : Int32 := x - x / y * y
def zch (x : Int32) : Int32 := (x.toUInt32 % 65536).toInt32
def zii (f : Int32 → Int32 → Int32) (st : List Value) (k : List Value → Prop) : Prop := match st with
  | .int y :: .int x :: r => k (.int (f x y) :: r)
  | _ => False
def zid (f : Int32 → Int32 → Int32) (st : List Value) (k : List Value → Prop) : Prop := match st with
  | .int y :: .int x :: r => ¬ y = 0 ∧ k (.int (f x y) :: r)
  | _ => False
def zll (f : Int64 → Int64 → Value) (st : List Value) (k : List Value → Prop) : Prop := match st with
  | .long y :: .long x :: r => k (f x y :: r)
  | _ => False
def zls (f : Int64 → Int32 → Int64) (st : List Value) (k : List Value → Prop) : Prop := match st with
  | .int y :: .long x :: r => k (.long (f x y) :: r)
  | _ => False
def zui (f : Int32 → Value) (st : List Value) (k : List Value → Prop) : Prop := match st with
  | .int x :: r => k (f x :: r)
  | _ => False
def zul (f : Int64 → Value) (st : List Value) (k : List Value → Prop) : Prop := match st with
  | .long x :: r => k (f x :: r)
  | _ => False
def zldi (ls : zL) (i : Nat) (k : Value → Prop) : Prop := match ls[i]? with
  | some (some (.int x)) => k (.int x)
  | _ => False
def zldl (ls : zL) (i : Nat) (k : Value → Prop) : Prop := match ls[i]? with
  | some (some (.long x)) => k (.long x)
  | _ => False
def zlda (ls : zL) (i : Nat) (k : Value → Prop) : Prop := match ls[i]? with
  | some (some (.ref x)) => k (.ref x)
  | _ => False
/-- no long stands just ahead of place i -/
def zfree (ls : zL) (i : Nat) : Bool := match i with
  | 0 => true
  | j + 1 => match ls[j]? with
    | some (some (.long _)) => false
    | some (some (.double _)) => false
    | _ => true
def zs1 (ls : zL) (i : Nat) (v : Value) (k : zL → Prop) : Prop := match Nat.blt i ls.length && zfree ls i with
  | true => k (ls.set i (some v))
  | false => False
def zs2 (ls : zL) (i : Nat) (v : Value) (k : zL → Prop) : Prop := match Nat.blt (i + 1) ls.length && zfree ls i with
  | true => k ((ls.set i (some v)).set (i + 1) none)
  | false => False
def zsti (ls : zL) (i : Nat) (st : List Value) (k : zL → List Value → Prop) : Prop := match st with
  | .int x :: r => zs1 ls i (.int x) (fun l => k l r)
  | _ => False
def zstl (ls : zL) (i : Nat) (st : List Value) (k : zL → List Value → Prop) : Prop := match st with
  | .long x :: r => zs2 ls i (.long x) (fun l => k l r)
  | _ => False
def zsta (ls : zL) (i : Nat) (st : List Value) (k : zL → List Value → Prop) : Prop := match st with
  | .ref x :: r => zs1 ls i (.ref x) (fun l => k l r)
  | _ => False
def zinc (ls : zL) (i : Nat) (n : Int) (k : zL → Prop) : Prop := match ls[i]? with
  | some (some (.int x)) => zs1 ls i (.int (x + Int32.ofInt n)) k
  | _ => False
def zget (ci q : Nat) (st : List Value) (w : zW) (k : List Value → Prop) : Prop := match st with
  | .ref o :: r => zis o ci ∧ (match zfk ci q with
    | 0 => k (.int (gI w o q) :: r)
    | 1 => k (.long (gL w o q) :: r)
    | 2 => k (.int (gI w o q) :: r)
    | 3 => k (.ref (zrf o q) :: r)
    | _ => False)
  | _ => False
def zput (ci q : Nat) (st : List Value) (w : zW) (k : List Value → zW → Prop) : Prop := match zfk ci q with
  | 0 => match st with
    | .int x :: .ref o :: r => zis o ci ∧ k r (sI w o q x)
    | _ => False
  | 1 => match st with
    | .long x :: .ref o :: r => zis o ci ∧ k r (sL w o q x)
    | _ => False
  | 2 => match st with
    | .int x :: .ref o :: r => zis o ci ∧ (x = 0 ∨ x = 1) ∧ k r (sI w o q x)
    | _ => False
  | _ => False
def zald (kd : Nat) (st : List Value) (w : zW) (k : List Value → Prop) : Prop := match st with
  | .int j :: .ref o :: r => zar o kd (zln o) ∧ vp_in j (zln o) ∧ k (.int (gI w o j.toNatClampNeg) :: r)
  | _ => False
def zaldl (st : List Value) (w : zW) (k : List Value → Prop) : Prop := match st with
  | .int j :: .ref o :: r => zar o 1 (zln o) ∧ vp_in j (zln o) ∧ k (.long (gL w o j.toNatClampNeg) :: r)
  | _ => False
def zalda (st : List Value) (k : List Value → Prop) : Prop := match st with
  | .int j :: .ref o :: r => zar o 3 (zln o) ∧ vp_in j (zln o) ∧ k (.ref (zre o j.toNatClampNeg) :: r)
  | _ => False
def zast (st : List Value) (w : zW) (k : List Value → zW → Prop) : Prop := match st with
  | .int x :: .int j :: .ref o :: r => zar o 0 (zln o) ∧ vp_in j (zln o) ∧ k r (sI w o j.toNatClampNeg x)
  | _ => False
def zastc (st : List Value) (w : zW) (k : List Value → zW → Prop) : Prop := match st with
  | .int x :: .int j :: .ref o :: r => zar o 2 (zln o) ∧ vp_in j (zln o) ∧ k r (sI w o j.toNatClampNeg (vp_nar .char x))
  | _ => False
def zastl (st : List Value) (w : zW) (k : List Value → zW → Prop) : Prop := match st with
  | .long x :: .int j :: .ref o :: r => zar o 1 (zln o) ∧ vp_in j (zln o) ∧ k r (sL w o j.toNatClampNeg x)
  | _ => False
def zalen (st : List Value) (k : List Value → Prop) : Prop := match st with
  | .ref o :: r => zar o 0 (zln o) ∧ k (.int (Int32.ofNat (zln o)) :: r)
  | _ => False
def zscr (st : List Value) (w : zW) (k : List Value → Prop) : Prop := match st with
  | .int j :: .ref o :: r => o = 43 ∧ vp_in j (gI w 44 0).toNatClampNeg ∧ k (.int (gI w 43 j.toNatClampNeg) :: r)
  | _ => False
def zscl (st : List Value) (w : zW) (k : List Value → Prop) : Prop := match st with
  | .ref o :: r => o = 43 ∧ k (.int (gI w 44 0) :: r)
  | _ => False
def zdup (st : List Value) (k : List Value → Prop) : Prop := match st with
  | .int x :: r => k (.int x :: .int x :: r)
  | .ref x :: r => k (.ref x :: .ref x :: r)
  | _ => False
def zdup2 (st : List Value) (k : List Value → Prop) : Prop := match st with
  | .long x :: r => k (.long x :: .long x :: r)
  | .int x :: .ref y :: r => k (.int x :: .ref y :: .int x :: .ref y :: r)
  | _ => False
def zpop (st : List Value) (k : List Value → Prop) : Prop := match st with
  | .int _ :: r => k r
  | _ => False
/-- one instruction: what must hold ahead of it so that k holds behind it -/
def zone (a : zA) (ls : zL) (st : List Value) (w : zW) (k : zL → List Value → zW → Prop) : Prop := match a with
  | .inl v => k ls (v :: st) w
  | .inr i => match i with
    | .iload n => zldi ls n (fun v => k ls (v :: st) w)
    | .iload_n n => zldi ls n.val (fun v => k ls (v :: st) w)
    | .lload n => zldl ls n (fun v => k ls (v :: st) w)
    | .lload_n n => zldl ls n.val (fun v => k ls (v :: st) w)
    | .aload n => zlda ls n (fun v => k ls (v :: st) w)
    | .aload_n n => zlda ls n.val (fun v => k ls (v :: st) w)
    | .istore n => zsti ls n st (fun l r => k l r w)
    | .istore_n n => zsti ls n.val st (fun l r => k l r w)
    | .lstore n => zstl ls n st (fun l r => k l r w)
    | .lstore_n n => zstl ls n.val st (fun l r => k l r w)
    | .astore n => zsta ls n st (fun l r => k l r w)
    | .astore_n n => zsta ls n.val st (fun l r => k l r w)
    | .iinc n c => zinc ls n c (fun l => k l st w)
    | .iadd => zii (fun x y => x + y) st (fun r => k ls r w)
    | .isub => zii (fun x y => x - y) st (fun r => k ls r w)
    | .imul => zii (fun x y => x * y) st (fun r => k ls r w)
    | .iand => zii (fun x y => x &&& y) st (fun r => k ls r w)
    | .ior => zii (fun x y => x ||| y) st (fun r => k ls r w)
    | .ishl => zii (fun x y => x <<< (y &&& 31)) st (fun r => k ls r w)
    | .ishr => zii (fun x y => x >>> (y &&& 31)) st (fun r => k ls r w)
    | .idiv => zid (fun x y => x / y) st (fun r => k ls r w)
    | .irem => zid zrm st (fun r => k ls r w)
    | .ineg => zui (fun x => .int (-x)) st (fun r => k ls r w)
    | .ladd => zll (fun x y => .long (x + y)) st (fun r => k ls r w)
    | .lsub => zll (fun x y => .long (x - y)) st (fun r => k ls r w)
    | .lmul => zll (fun x y => .long (x * y)) st (fun r => k ls r w)
    | .land => zll (fun x y => .long (x &&& y)) st (fun r => k ls r w)
    | .lor => zll (fun x y => .long (x ||| y)) st (fun r => k ls r w)
    | .lxor => zll (fun x y => .long (x ^^^ y)) st (fun r => k ls r w)
    | .lcmp => zll (fun x y => .int (lg_cmp x y)) st (fun r => k ls r w)
    | .lneg => zul (fun x => .long (-x)) st (fun r => k ls r w)
    | .lshl => zls zsl st (fun r => k ls r w)
    | .lshr => zls zsr st (fun r => k ls r w)
    | .lushr => zls zus st (fun r => k ls r w)
    | .i2l => zui (fun x => .long x.toInt64) st (fun r => k ls r w)
    | .l2i => zul (fun x => .int x.toInt32) st (fun r => k ls r w)
    | .i2b => zui (fun x => .int x.toInt8.toInt32) st (fun r => k ls r w)
    | .i2s => zui (fun x => .int x.toInt16.toInt32) st (fun r => k ls r w)
    | .i2c => zui (fun x => .int (zch x)) st (fun r => k ls r w)
    | .dup => zdup st (fun r => k ls r w)
    | .dup2 => zdup2 st (fun r => k ls r w)
    | .pop => zpop st (fun r => k ls r w)
    | .invokeinterface ci q => zget ci q st w (fun r => k ls r w)
    | .multianewarray ci q => zput ci q st w (fun r w' => k ls r w')
    | .iaload => zald 0 st w (fun r => k ls r w)
    | .caload => zald 2 st w (fun r => k ls r w)
    | .laload => zaldl st w (fun r => k ls r w)
    | .aaload => zalda st (fun r => k ls r w)
    | .iastore => zast st w (fun r w' => k ls r w')
    | .castore => zastc st w (fun r w' => k ls r w')
    | .lastore => zastl st w (fun r w' => k ls r w')
    | .arraylength => zalen st (fun r => k ls r w)
    | .faload => zscr st w (fun r => k ls r w)
    | .monitorenter => zscl st w (fun r => k ls r w)
    | _ => False
def zrun : List zA → zL → List Value → zW → (zL → List Value → zW → Prop) → Prop
  | [], ls, st, w, k => k ls st w
  | a :: as, ls, st, w, k => zone a ls st w (fun ls st w => zrun as ls st w k)
def zbt (c : Jvm.ClassFile.Cond) (x y : Int32) : Prop := match c with
  | .eq => x = y
  | .ne => ¬ x = y
  | .lt => x < y
  | .ge => y ≤ x
  | .gt => y < x
  | .le => x ≤ y
def zbf (c : Jvm.ClassFile.Cond) (x y : Int32) : Prop := match c with
  | .eq => ¬ x = y
  | .ne => x = y
  | .lt => ¬ x < y
  | .ge => ¬ y ≤ x
  | .gt => ¬ y < x
  | .le => ¬ x ≤ y
def zsw (x : Int32) (k : Nat → Prop) (df : Nat) : List (Int32 × Nat) → Prop
  | [] => k df
  | q :: r => (x = q.1 → k q.2) ∧ (¬ x = q.1 → zsw x k df r)
def zcat (st : List Value) : Nat := (st.map fun v => v.category).sum
/-- a call's locals -/
def zent1 (vs : List Value) : zL := vs.flatMap fun v => match v with
  | .long x => [some (.long x), none]
  | .double x => [some (.double x), none]
  | v => [some v]
def zent (vs : List Value) (n : Nat) : zL := zent1 vs ++ List.replicate (n - (zent1 vs).length) none
def zpush (r : Option Value) (st : List Value) : List Value := match r with
  | some v => v :: st
  | none => st
abbrev zP : Type := Nat → Nat → Nat → zL → List Value → zW → zQ → Prop
/-- whose method it is -/
def zrcv (i : zI) (vs : List Value) : Prop := match i.2.2.2.2.2.1 with
  | true => True
  | false => match vs with
    | .ref o :: _ => zis o i.2.2.2.2.1
    | _ => False
def zcall (MI : List zI) (z b d y : Nat) (ls : zL) (st : List Value) (w : zW) (Q : zQ) (P : zP) : Prop := match MI[z]? with
  | none => False
  | some i => match d with
    | 0 => False
    | d + 1 => i.2.2.2.2.2.2 ≤ st.length ∧ (zent1 (st.take i.2.2.2.2.2.2).reverse).length ≤ i.2.2.1 ∧ zcat (st.drop i.2.2.2.2.2.2) ≤ 8 ∧ zrcv i (st.take i.2.2.2.2.2.2).reverse ∧ ∃ Q' : zQ, P d z 0 (zent (st.take i.2.2.2.2.2.2).reverse i.2.2.1) [] w Q' ∧ ∀ r w', Q' r w' → P (d + 1) y b ls (zpush r (st.drop i.2.2.2.2.2.2)) w' Q
def zretk (kd : Nat) (st : List Value) (w : zW) (Q : zQ) : Prop := match kd with
  | 0 => match st with
    | [] => Q none w
    | _ => False
  | 1 => match st with
    | [.int v] => Q (some (.int v)) w
    | _ => False
  | 2 => match st with
    | [.long v] => Q (some (.long v)) w
    | _ => False
  | 3 => match st with
    | [.int v] => (v = 0 ∨ v = 1) ∧ Q (some (.int v)) w
    | _ => False
  | _ => False
def zcopy (kd b d y : Nat) (ls : zL) (st : List Value) (w : zW) (Q : zQ) (P : zP) : Prop := match st with
  | .int n :: .int dp :: .ref o2 :: .int sp :: .ref o1 :: r => 0 < d ∧ zcat r ≤ 8 ∧ zar o1 kd (zln o1) ∧ zar o2 kd (zln o2) ∧ (¬ sp < 0 ∧ ¬ dp < 0 ∧ ¬ n < 0 ∧ sp.toNatClampNeg + n.toNatClampNeg ≤ zln o1 ∧ dp.toNatClampNeg + n.toNatClampNeg ≤ zln o2) ∧
    (match kd with
    | 0 => P d y b ls r (cI w o1 o2 sp.toNatClampNeg dp.toNatClampNeg n.toNatClampNeg) Q
    | 1 => P d y b ls r (cL w o1 o2 sp.toNatClampNeg dp.toNatClampNeg n.toNatClampNeg) Q
    | _ => False)
  | _ => False
def zmath (kd b d y : Nat) (ls : zL) (st : List Value) (w : zW) (Q : zQ) (P : zP) : Prop := match kd with
  | 0 => match st with
    | .int v :: .int u :: r => 0 < d ∧ zcat r ≤ 8 ∧ P d y b ls (.int (if u < v then v else u) :: r) w Q
    | _ => False
  | 1 => match st with
    | .int v :: .int u :: r => 0 < d ∧ zcat r ≤ 8 ∧ P d y b ls (.int (if v < u then v else u) :: r) w Q
    | _ => False
  | 2 => match st with
    | .int u :: r => 0 < d ∧ zcat r ≤ 8 ∧ P d y b ls (.int (if 0 ≤ u then u else 0 - u) :: r) w Q
    | _ => False
  | _ => False
def zterm (MI : List zI) (t : zT) (d y : Nat) (ls : zL) (st : List Value) (w : zW) (Q : zQ) (P : zP) : Prop := match t with
  | .inl (c, false, bt, bf) => match st with
    | .int x :: r => (zbt c x 0 → P d y bt ls r w Q) ∧ (zbf c x 0 → P d y bf ls r w Q)
    | _ => False
  | .inl (c, true, bt, bf) => match st with
    | .int v :: .int u :: r => (zbt c u v → P d y bt ls r w Q) ∧ (zbf c u v → P d y bf ls r w Q)
    | _ => False
  | .inr (.inl (cs, df)) => match st with
    | .int x :: r => zsw x (fun b => P d y b ls r w Q) df cs
    | _ => False
  | .inr (.inr (tag, a, b)) => match tag with
    | 0 => P d y a ls st w Q
    | 1 => zcall MI a b d y ls st w Q P
    | 2 => zretk a st w Q
    | 3 => zcopy a b d y ls st w Q P
    | 4 => zmath a b d y ls st w Q P
    | _ => False
def zbody (MI : List zI) (PG : List (List zB)) (d y b : Nat) (ls : zL) (st : List Value) (w : zW) (Q : zQ) (P : zP) : Prop := match (PG.getD y [])[b]? with
  | none => False
  | some B => zrun B.2.1 ls st w (fun ls st w => zterm MI B.2.2 d y ls st w Q P)
/-- less is known of the locals -/
def zle : zL → zL → Prop
  | [], [] => True
  | a :: r, b :: t => (a = none ∨ a = b) ∧ zle r t
  | _, _ => False
def zclosed (MI : List zI) (PG : List (List zB)) (P : zP) : Prop :=
  (∀ d y b ls st w Q, zbody MI PG d y b ls st w Q P → P d y b ls st w Q) ∧
  (∀ d y b ls ls' st w Q, zle ls ls' → P d y b ls st w Q → P d y b ls' st w Q)
def zWP (MI : List zI) (PG : List (List zB)) (d y b : Nat) (ls : zL) (st : List Value) (w : zW) (Q : zQ) : Prop := ∀ P : zP, zclosed MI PG P → P d y b ls st w Q
/-! monotone -/
theorem zii_mono {f : Int32 → Int32 → Int32} {st : List Value} {k k' : List Value → Prop} (h : ∀ r, k r → k' r) : zii f st k → zii f st k' := by
  unfold zii; split
  · exact h _
  · exact id
theorem zid_mono {f : Int32 → Int32 → Int32} {st : List Value} {k k' : List Value → Prop} (h : ∀ r, k r → k' r) : zid f st k → zid f st k' := by
  unfold zid; split
  · exact fun q => ⟨q.1, h _ q.2⟩
  · exact id
theorem zll_mono {f : Int64 → Int64 → Value} {st : List Value} {k k' : List Value → Prop} (h : ∀ r, k r → k' r) : zll f st k → zll f st k' := by
  unfold zll; split
  · exact h _
  · exact id
theorem zls_mono {f : Int64 → Int32 → Int64} {st : List Value} {k k' : List Value → Prop} (h : ∀ r, k r → k' r) : zls f st k → zls f st k' := by
  unfold zls; split
  · exact h _
  · exact id
theorem zui_mono {f : Int32 → Value} {st : List Value} {k k' : List Value → Prop} (h : ∀ r, k r → k' r) : zui f st k → zui f st k' := by
  unfold zui; split
  · exact h _
  · exact id
theorem zul_mono {f : Int64 → Value} {st : List Value} {k k' : List Value → Prop} (h : ∀ r, k r → k' r) : zul f st k → zul f st k' := by
  unfold zul; split
  · exact h _
  · exact id
theorem zldi_mono {ls : zL} {i : Nat} {k k' : Value → Prop} (h : ∀ r, k r → k' r) : zldi ls i k → zldi ls i k' := by
  unfold zldi; split
  · exact h _
  · exact id
theorem zldl_mono {ls : zL} {i : Nat} {k k' : Value → Prop} (h : ∀ r, k r → k' r) : zldl ls i k → zldl ls i k' := by
  unfold zldl; split
  · exact h _
  · exact id
theorem zlda_mono {ls : zL} {i : Nat} {k k' : Value → Prop} (h : ∀ r, k r → k' r) : zlda ls i k → zlda ls i k' := by
  unfold zlda; split
  · exact h _
  · exact id
theorem zs1_mono {ls : zL} {i : Nat} {v : Value} {k k' : zL → Prop} (h : ∀ r, k r → k' r) : zs1 ls i v k → zs1 ls i v k' := by
  unfold zs1; split
  · exact h _
  · exact id
theorem zs2_mono {ls : zL} {i : Nat} {v : Value} {k k' : zL → Prop} (h : ∀ r, k r → k' r) : zs2 ls i v k → zs2 ls i v k' := by
  unfold zs2; split
  · exact h _
  · exact id
theorem zsti_mono {ls : zL} {i : Nat} {st : List Value} {k k' : zL → List Value → Prop} (h : ∀ l r, k l r → k' l r) : zsti ls i st k → zsti ls i st k' := by
  unfold zsti; split
  · exact zs1_mono (fun l => h l _)
  · exact id
theorem zstl_mono {ls : zL} {i : Nat} {st : List Value} {k k' : zL → List Value → Prop} (h : ∀ l r, k l r → k' l r) : zstl ls i st k → zstl ls i st k' := by
  unfold zstl; split
  · exact zs2_mono (fun l => h l _)
  · exact id
theorem zsta_mono {ls : zL} {i : Nat} {st : List Value} {k k' : zL → List Value → Prop} (h : ∀ l r, k l r → k' l r) : zsta ls i st k → zsta ls i st k' := by
  unfold zsta; split
  · exact zs1_mono (fun l => h l _)
  · exact id
theorem zinc_mono {ls : zL} {i : Nat} {n : Int} {k k' : zL → Prop} (h : ∀ l, k l → k' l) : zinc ls i n k → zinc ls i n k' := by
  unfold zinc; split
  · exact zs1_mono h
  · exact id
theorem zget_mono {ci q : Nat} {st : List Value} {w : zW} {k k' : List Value → Prop} (h : ∀ r, k r → k' r) : zget ci q st w k → zget ci q st w k' := by
  unfold zget; split
  · rintro ⟨h1, h2⟩
    refine ⟨h1, ?_⟩
    revert h2
    split <;> first | exact h _ | exact id
  · exact id
theorem zput_mono {ci q : Nat} {st : List Value} {w : zW} {k k' : List Value → zW → Prop} (h : ∀ r w, k r w → k' r w) : zput ci q st w k → zput ci q st w k' := by
  unfold zput; split
  · split
    · exact fun q => ⟨q.1, h _ _ q.2⟩
    · exact id
  · split
    · exact fun q => ⟨q.1, h _ _ q.2⟩
    · exact id
  · split
    · exact fun q => ⟨q.1, q.2.1, h _ _ q.2.2⟩
    · exact id
  · exact id
theorem zald_mono {kd : Nat} {st : List Value} {w : zW} {k k' : List Value → Prop} (h : ∀ r, k r → k' r) : zald kd st w k → zald kd st w k' := by
  unfold zald; split
  · exact fun q => ⟨q.1, q.2.1, h _ q.2.2⟩
  · exact id
theorem zaldl_mono {st : List Value} {w : zW} {k k' : List Value → Prop} (h : ∀ r, k r → k' r) : zaldl st w k → zaldl st w k' := by
  unfold zaldl; split
  · exact fun q => ⟨q.1, q.2.1, h _ q.2.2⟩
  · exact id
theorem zalda_mono {st : List Value} {k k' : List Value → Prop} (h : ∀ r, k r → k' r) : zalda st k → zalda st k' := by
  unfold zalda; split
  · exact fun q => ⟨q.1, q.2.1, h _ q.2.2⟩
  · exact id
theorem zast_mono {st : List Value} {w : zW} {k k' : List Value → zW → Prop} (h : ∀ r w, k r w → k' r w) : zast st w k → zast st w k' := by
  unfold zast; split
  · exact fun q => ⟨q.1, q.2.1, h _ _ q.2.2⟩
  · exact id
theorem zastc_mono {st : List Value} {w : zW} {k k' : List Value → zW → Prop} (h : ∀ r w, k r w → k' r w) : zastc st w k → zastc st w k' := by
  unfold zastc; split
  · exact fun q => ⟨q.1, q.2.1, h _ _ q.2.2⟩
  · exact id
theorem zastl_mono {st : List Value} {w : zW} {k k' : List Value → zW → Prop} (h : ∀ r w, k r w → k' r w) : zastl st w k → zastl st w k' := by
  unfold zastl; split
  · exact fun q => ⟨q.1, q.2.1, h _ _ q.2.2⟩
  · exact id
theorem zalen_mono {st : List Value} {k k' : List Value → Prop} (h : ∀ r, k r → k' r) : zalen st k → zalen st k' := by
  unfold zalen; split
  · exact fun q => ⟨q.1, h _ q.2⟩
  · exact id
theorem zscr_mono {st : List Value} {w : zW} {k k' : List Value → Prop} (h : ∀ r, k r → k' r) : zscr st w k → zscr st w k' := by
  unfold zscr; split
  · exact fun q => ⟨q.1, q.2.1, h _ q.2.2⟩
  · exact id
theorem zscl_mono {st : List Value} {w : zW} {k k' : List Value → Prop} (h : ∀ r, k r → k' r) : zscl st w k → zscl st w k' := by
  unfold zscl; split
  · exact fun q => ⟨q.1, h _ q.2⟩
  · exact id
theorem zdup_mono {st : List Value} {k k' : List Value → Prop} (h : ∀ r, k r → k' r) : zdup st k → zdup st k' := by
  unfold zdup; split <;> first | exact h _ | exact id
theorem zdup2_mono {st : List Value} {k k' : List Value → Prop} (h : ∀ r, k r → k' r) : zdup2 st k → zdup2 st k' := by
  unfold zdup2; split <;> first | exact h _ | exact id
theorem zpop_mono {st : List Value} {k k' : List Value → Prop} (h : ∀ r, k r → k' r) : zpop st k → zpop st k' := by
  unfold zpop; split <;> first | exact h _ | exact id
theorem zone_mono (a : zA) {ls : zL} {st : List Value} {w : zW} {k k' : zL → List Value → zW → Prop} (h : ∀ l r w, k l r w → k' l r w) : zone a ls st w k → zone a ls st w k' := by
  cases a with
  | inl v => exact h _ _ _
  | inr i =>
    cases i <;> dsimp only [zone] <;> first
      | exact id
      | (refine zldi_mono ?_; intros; apply h; assumption)
      | (refine zldl_mono ?_; intros; apply h; assumption)
      | (refine zlda_mono ?_; intros; apply h; assumption)
      | (refine zsti_mono ?_; intros; apply h; assumption)
      | (refine zstl_mono ?_; intros; apply h; assumption)
      | (refine zsta_mono ?_; intros; apply h; assumption)
      | (refine zinc_mono ?_; intros; apply h; assumption)
      | (refine zii_mono ?_; intros; apply h; assumption)
      | (refine zid_mono ?_; intros; apply h; assumption)
      | (refine zll_mono ?_; intros; apply h; assumption)
      | (refine zls_mono ?_; intros; apply h; assumption)
      | (refine zui_mono ?_; intros; apply h; assumption)
      | (refine zul_mono ?_; intros; apply h; assumption)
      | (refine zdup_mono ?_; intros; apply h; assumption)
      | (refine zdup2_mono ?_; intros; apply h; assumption)
      | (refine zpop_mono ?_; intros; apply h; assumption)
      | (refine zget_mono ?_; intros; apply h; assumption)
      | (refine zput_mono ?_; intros; apply h; assumption)
      | (refine zald_mono ?_; intros; apply h; assumption)
      | (refine zaldl_mono ?_; intros; apply h; assumption)
      | (refine zalda_mono ?_; intros; apply h; assumption)
      | (refine zast_mono ?_; intros; apply h; assumption)
      | (refine zastc_mono ?_; intros; apply h; assumption)
      | (refine zastl_mono ?_; intros; apply h; assumption)
      | (refine zalen_mono ?_; intros; apply h; assumption)
      | (refine zscr_mono ?_; intros; apply h; assumption)
      | (refine zscl_mono ?_; intros; apply h; assumption)
theorem zrun_mono : ∀ (as : List zA) {ls : zL} {st : List Value} {w : zW} {k k' : zL → List Value → zW → Prop} (_ : ∀ l r w, k l r w → k' l r w), zrun as ls st w k → zrun as ls st w k'
  | [], _, _, _, _, _, h, q => h _ _ _ q
  | a :: as, _, _, _, _, _, h, q => zone_mono a (fun _ _ _ q => zrun_mono as h q) q
theorem zsw_mono {x : Int32} {k k' : Nat → Prop} {df : Nat} (h : ∀ b, k b → k' b) : ∀ cs : List (Int32 × Nat), zsw x k df cs → zsw x k' df cs
  | [], q => h _ q
  | _ :: r, q => ⟨fun e => h _ (q.1 e), fun e => zsw_mono h r (q.2 e)⟩
theorem zterm_mono {MI : List zI} {t : zT} {d y : Nat} {ls : zL} {st : List Value} {w : zW} {Q : zQ} {P P' : zP} (h : ∀ d y b ls st w Q, P d y b ls st w Q → P' d y b ls st w Q) : zterm MI t d y ls st w Q P → zterm MI t d y ls st w Q P' := by
  obtain ⟨c, t2, bt, bf⟩ | ⟨cs, df⟩ | ⟨tag, a, b⟩ := t
  · cases t2
    · dsimp only [zterm]
      split
      · exact fun q => ⟨fun e => h _ _ _ _ _ _ _ (q.1 e), fun e => h _ _ _ _ _ _ _ (q.2 e)⟩
      · exact id
    · dsimp only [zterm]
      split
      · exact fun q => ⟨fun e => h _ _ _ _ _ _ _ (q.1 e), fun e => h _ _ _ _ _ _ _ (q.2 e)⟩
      · exact id
  · dsimp only [zterm]
    split
    · exact zsw_mono (fun b => h _ _ _ _ _ _ _) _
    · exact id
  · dsimp only [zterm]
    split
    · exact h _ _ _ _ _ _ _
    · unfold zcall
      split
      · exact id
      · split
        · exact id
        · rintro ⟨h1, h2, h3, h3', Q', h4, h5⟩
          exact ⟨h1, h2, h3, h3', Q', h _ _ _ _ _ _ _ h4, fun r w' q => h _ _ _ _ _ _ _ (h5 r w' q)⟩
    · exact id
    · unfold zcopy
      split
      · rintro ⟨h1, h2, h3, h4, h5, h6⟩
        refine ⟨h1, h2, h3, h4, h5, ?_⟩
        revert h6
        split <;> first | exact h _ _ _ _ _ _ _ | exact id
      · exact id
    · unfold zmath
      split
      · split
        · exact fun q => ⟨q.1, q.2.1, h _ _ _ _ _ _ _ q.2.2⟩
        · exact id
      · split
        · exact fun q => ⟨q.1, q.2.1, h _ _ _ _ _ _ _ q.2.2⟩
        · exact id
      · split
        · exact fun q => ⟨q.1, q.2.1, h _ _ _ _ _ _ _ q.2.2⟩
        · exact id
      · exact id
    · exact id
theorem zbody_mono {MI : List zI} {PG : List (List zB)} {d y b : Nat} {ls : zL} {st : List Value} {w : zW} {Q : zQ} {P P' : zP} (h : ∀ d y b ls st w Q, P d y b ls st w Q → P' d y b ls st w Q) : zbody MI PG d y b ls st w Q P → zbody MI PG d y b ls st w Q P' := by
  unfold zbody
  split
  · exact id
  · exact zrun_mono _ (fun _ _ _ => zterm_mono h)
/-- a block is walked -/
theorem zWP.step {MI : List zI} {PG : List (List zB)} {d y b : Nat} {ls : zL} {st : List Value} {w : zW} {Q : zQ} (h : zbody MI PG d y b ls st w Q (zWP MI PG)) : zWP MI PG d y b ls st w Q :=
  fun P hP => hP.1 _ _ _ _ _ _ _ (zbody_mono (fun _ _ _ _ _ _ _ q => q P hP) h)
/-- locals forgotten -/
theorem zWP.weak {MI : List zI} {PG : List (List zB)} {d y b : Nat} {ls ls' : zL} {st : List Value} {w : zW} {Q : zQ} (hl : zle ls ls') (h : zWP MI PG d y b ls st w Q) : zWP MI PG d y b ls' st w Q :=
  fun P hP => hP.2 _ _ _ _ _ _ _ _ hl (h P hP)
end
section
/-! ===== links: fields, methods, constants, by the class that names them ===== -/
def zAW : List Cond := lw_tbl.filter goodWord
def zisn : Cond → Bool
  | .fieldLinkNest _ _ _ _ _ _ => true
  | .methodLinkNest _ _ _ _ => true
  | _ => false
def zNW : List Cond := lw_tbl.filter zisn
def zsub (a : Nat) : List Cond := match a with
  | 0 => k2_sels lw_privs
  | 1 => tables_1_1
  | 2 => tables_1_2
  | 3 => tables_1_3
  | 4 => tables_1_4
  | 5 => tables_1_5
  | _ => []
def zat (q : Nat × Nat) : Option Cond := (zsub q.1)[q.2]?
theorem zat_in {q : Nat × Nat} {c : Cond} (h : some c = zat q) : c ∈ lw_tbl := by
  obtain ⟨a, b⟩ := q
  have h1 : c ∈ zsub a := List.mem_of_getElem? h.symm
  unfold lw_tbl tables_1
  simp only [List.mem_append]
  match a, h1 with
  | 0, h1 => exact Or.inl h1
  | 1, h1 => exact Or.inr (Or.inl h1)
  | 2, h1 => exact Or.inr (Or.inr (Or.inl h1))
  | 3, h1 => exact Or.inr (Or.inr (Or.inr (Or.inl h1)))
  | 4, h1 => exact Or.inr (Or.inr (Or.inr (Or.inr (Or.inl h1))))
  | 5, h1 => exact Or.inr (Or.inr (Or.inr (Or.inr (Or.inr h1))))
  | _ + 6, h1 => exact absurd h1 List.not_mem_nil
theorem zAW_in {q : Nat × Nat} {c : Cond} (h : some c = zat q) (g : goodWord c = true) : c ∈ zAW := List.mem_filter.mpr ⟨zat_in h, g⟩
theorem zNW_in {q : Nat × Nat} {c : Cond} (h : some c = zat q) (g : zisn c = true) : c ∈ zNW := List.mem_filter.mpr ⟨zat_in h, g⟩
theorem zAW_good : ∀ w ∈ zAW, goodWord w = true := fun w h => (List.mem_filter.mp h).2
theorem zmap {α β : Type} {f g : α → β} {l : List α} (h : l.map f = l.map g) : ∀ a ∈ l, f a = g a := List.map_inj_left.mp h
def zcnL : List String := [RX0, RX1, RX3, RX4, RX5, RX6, RX2, RJ13, RJ9, RL]
def zcn (o : Nat) : String := zcnL.getD o ""
/-- field links: key, class, slot, nest mate's, place in the table -/
def zFL : List (Nat × Nat × Nat × Bool × Nat × Nat) := [(9, 0, 0, false, 1, 25), (15, 0, 1, false, 1, 27), (18, 0, 5, false, 1, 35), (22, 0, 6, false, 1, 37), (25, 0, 7, false, 1, 39), (34, 0, 2, false, 1, 29), (38, 0, 3, false, 1, 31), (41, 0, 4, false, 1, 33), (44, 0, 8, false, 1, 40), (1011, 1, 0, false, 1, 99), (1015, 1, 1, false, 1, 100), (1019, 1, 2, false, 1, 101), (1022, 1, 3, false, 1, 102), (1025, 1, 4, false, 1, 103), (1028, 1, 5, false, 1, 105), (1044, 1, 6, false, 1, 106), (2009, 2, 0, false, 1, 129), (2015, 2, 1, false, 1, 131), (2019, 2, 2, false, 1, 133), (2023, 2, 3, false, 1, 135), (3011, 3, 0, false, 1, 68), (3015, 3, 3, false, 1, 71), (3019, 3, 1, false, 1, 69), (3023, 3, 2, false, 1, 70), (3033, 3, 4, false, 1, 73), (3048, 3, 5, false, 1, 75), (4012, 4, 0, false, 1, 146), (4016, 4, 1, false, 1, 147), (4022, 4, 3, false, 1, 149), (4028, 4, 4, false, 1, 150), (4035, 4, 5, false, 1, 151), (4058, 0, 1, true, 1, 28), (4062, 0, 5, true, 1, 36), (4066, 0, 0, true, 1, 26), (4069, 0, 4, true, 1, 34), (4079, 0, 2, true, 1, 30), (4100, 3, 3, true, 1, 72), (4103, 3, 4, true, 1, 74), (4131, 3, 5, true, 1, 76), (4137, 0, 3, true, 1, 32), (4144, 0, 8, true, 1, 41), (4207, 1, 6, true, 1, 107), (4210, 1, 4, true, 1, 104), (4233, 0, 6, true, 1, 38), (4240, 4, 2, false, 1, 148), (4252, 2, 0, true, 1, 130), (4278, 2, 1, true, 1, 132), (4281, 2, 3, true, 1, 136), (4284, 2, 2, true, 1, 134), (5007, 5, 0, false, 3, 151), (5013, 5, 1, false, 3, 152), (5016, 5, 3, false, 3, 154), (5020, 5, 4, false, 3, 155), (5023, 5, 6, false, 3, 157), (5026, 5, 9, false, 3, 160), (5030, 5, 11, false, 3, 162), (5033, 5, 15, false, 3, 166), (5036, 5, 16, false, 3, 167), (5039, 5, 17, false, 3, 168), (5042, 5, 18, false, 3, 169), (5045, 5, 19, false, 3, 170), (5048, 5, 22, false, 3, 173), (5051, 5, 23, false, 3, 174), (5054, 5, 24, false, 3, 175), (5057, 5, 25, false, 3, 176), (5060, 5, 26, false, 3, 177), (5073, 5, 7, false, 3, 158), (5077, 5, 8, false, 3, 159), (5114, 5, 2, false, 3, 153), (5123, 5, 10, false, 3, 161), (5139, 5, 5, false, 3, 156), (5165, 5, 12, false, 3, 163), (5168, 5, 13, false, 3, 164), (5197, 5, 14, false, 3, 165), (5298, 5, 21, false, 3, 172), (5301, 5, 20, false, 3, 171)]
def zTs : List (u_T × Nat) := [(TX0, 9), (TX1, 7), (TX3, 4), (TX4, 6), (TX5, 6), (TX6, 27)]
def zTd (ci : Nat) : u_T × Nat := zTs.getD ci (TX0, 0)
def zFLw (q : Nat × Nat × Nat × Bool × Nat × Nat) : Cond := match q.2.2.2.1 with
  | false => Cond.fieldLink (zcn (q.1 / 1000)) (q.1 % 1000) ((zTd q.2.1).1 q.2.2.1).1 ((zTd q.2.1).1 q.2.2.1).2.1 ((zTd q.2.1).1 q.2.2.1).2.2.1
  | true => Cond.fieldLinkNest (zcn (q.1 / 1000)) (q.1 % 1000) ((zTd q.2.1).1 q.2.2.1).1 ((zTd q.2.1).1 q.2.2.1).2.1 ((zTd q.2.1).1 q.2.2.1).2.2.1 RX5
set_option maxRecDepth 100000 in
theorem zFL_eq : zFL.map (fun q => some (zFLw q)) = zFL.map (fun q => zat q.2.2.2.2) := rfl
theorem zFL_lt : zFL.all (fun q => Nat.blt q.2.2.1 (zTd q.2.1).2 && Nat.blt q.2.1 6) = true := by decide +kernel
def zKI : List (Nat × Int32 × Nat × Nat) := [(76, 1103515245, 3, 62), (77, 2147483647, 3, 63), (78, 65536, 3, 64), (4189, (-100001), 2, 189), (5249, (-100001), 4, 199), (5290, 65536, 5, 39)]
def zKL : List (Nat × Int64 × Nat × Nat) := [(47, (-1), 1, 190), (87, 63, 2, 120), (89, 67645734912, 2, 121), (91, 1090785345, 2, 122), (93, 34905131040, 2, 123), (95, 68208171135, 2, 124), (1038, (-1), 3, 0), (2030, 9, 3, 104), (4172, (-1), 2, 162), (4174, (-2), 2, 163), (4219, (-68719476736), 3, 43), (4225, (-4), 3, 49), (4290, 36, 3, 124), (5063, 35, 4, 0), (5080, (-1090785346), 4, 56), (5082, (-34905131041), 4, 57), (5084, 68719476735, 4, 58), (5094, (-1), 4, 19), (5100, 68208171135, 4, 145), (5106, 1090785345, 4, 138), (5108, 34905131040, 4, 139), (5110, 63, 4, 140), (5112, 67645734912, 4, 141), (5154, 4, 4, 32), (5156, 99, 4, 37), (5161, 32, 4, 66), (5163, 126, 4, 67), (5178, 9, 4, 84), (5188, 48, 4, 101), (5190, 51, 4, 102), (5195, 5, 4, 115), (5228, 7, 4, 153), (5239, 2, 4, 180), (5241, (-2), 4, 181), (5243, 3, 4, 186), (5250, 9999, 4, 204), (5280, 36, 5, 26), (5282, (-4), 5, 27), (5284, 1103515245, 5, 36), (5286, 12345, 5, 37), (5288, 2147483647, 5, 38), (5317, 12, 5, 90), (6017, (-34905131041), 1, 238), (6019, (-1090785346), 1, 239), (6021, 68719476735, 2, 0), (6034, (-1), 2, 65), (6036, 68208171135, 2, 154), (7314, 6148914691236517205, 2, 7), (7316, 3689348814741910323, 2, 8), (7318, 1085102592571150095, 2, 9), (9118, 4294967295, 5, 95)]
set_option maxRecDepth 100000 in
theorem zKI_eq : zKI.map (fun q => some (Cond.constant (zcn (q.1 / 1000)) (q.1 % 1000) q.2.1)) = zKI.map (fun q => zat q.2.2) := rfl
set_option maxRecDepth 100000 in
theorem zKL_eq : zKL.map (fun q => some (Cond.constantLong (zcn (q.1 / 1000)) (q.1 % 1000) q.2.1)) = zKL.map (fun q => zat q.2.2) := rfl
/-- methods: name, code, locals, answer, class, static, arguments -/
def zMI_0 : List zI := [(yX5_dig, cX5_dig, 2, some .int, 4, false, 2),
  (yX5_fill, cX5_fill, 2, some .int, 4, false, 2),
  (yX5_roof, cX5_roof, 2, some .int, 4, false, 2),
  (yX5_undo, cX5_undo, 1, some .int, 4, false, 1),
  (yX5_own, cX5_own, 4, some .int, 4, false, 3),
  (yX5_rate, cX5_rate, 3, some .int, 4, false, 2),
  (yX5_told, cX5_told, 3, some .int, 4, false, 3),
  (yX5_type, cX5_type, 2, some .int, 4, false, 2),
  (yX5_ground, cX5_ground, 2, some .int, 4, false, 1),
  (yX5_owners, cX5_owners, 2, some .int, 4, false, 1),
  (yX5_day, cX5_day, 3, some .int, 4, false, 1),
  (yX5_count, cX5_count, 2, some .int, 4, false, 2),
  (yX5_hole, cX5_hole, 5, some .int, 4, false, 3),
  (yX5_cells, cX5_cells, 5, some .long, 4, false, 3),
  (yX5_part, cX5_part, 5, some .int, 4, false, 3),
  (yX5_pays, cX5_pays, 2, some .int, 4, false, 2),
  (yX5_worth, cX5_worth, 4, some .int, 4, false, 2),
  (yX5_filled, cX5_filled, 3, some .int, 4, false, 3),
  (yX5_split, cX5_split, 5, some .int, 4, false, 3),
  (yX5_dug, cX5_dug, 8, some .int, 4, false, 4),
  (yX5_loophole, cX5_loophole, 5, some .int, 4, false, 1),
  (yX5_roofs, cX5_roofs, 4, some .int, 4, false, 2),
  (yX5_round, cX5_round, 4, some .int, 4, false, 3),
  (yX5_border, cX5_border, 4, some .int, 4, false, 2),
  (yX5_cut, cX5_cut, 4, some .int, 4, false, 2),
  (yX5_books, cX5_books, 16, some .long, 4, false, 5),
  (yX5_lots, cX5_lots, 4, some .int, 4, false, 2)]
def zMI_1 : List zI := [(yX5_seed, cX5_seed, 3, some .int, 4, false, 2),
  (yX5_image, cX5_image, 1, some .int, 4, false, 1),
  (yX5_restore, cX5_restore, 1, some .int, 4, false, 1),
  (yX5_lay, cX5_lay, 9, some .int, 4, false, 6),
  (yX5_film, cX5_film, 11, some .int, 4, false, 4),
  (yX5_miscounted, cX5_miscounted, 9, some .int, 4, false, 5),
  (yX5_sheet, cX5_sheet, 4, some .int, 4, false, 4),
  (yX5_drop, cX5_drop, 3, some .int, 4, false, 2),
  (yX5_item, cX5_item, 7, some .int, 4, false, 5),
  (yX5_copy, cX5_copy, 8, some .int, 4, false, 6),
  (yX5_isCell, cX5_isCell, 1, some .boolean, 4, true, 1),
  (yX5_isOwner, cX5_isOwner, 1, some .boolean, 4, true, 1),
  (yX5_isSheet, cX5_isSheet, 1, some .boolean, 4, true, 1),
  (yX5_isLane, cX5_isLane, 1, some .boolean, 4, true, 1),
  (yX5_refusal, cX5_refusal, 6, some .int, 4, false, 5),
  (yX5_isRight, cX5_isRight, 7, some .boolean, 4, false, 3),
  (yX5_pick, cX5_pick, 6, some .int, 4, true, 2),
  (yX6_in, cX6_in, 6, some .boolean, 5, true, 3),
  (yX6_isCell, cX6_isCell, 1, some .boolean, 5, true, 1),
  (yX6_has, cX6_has, 3, some .boolean, 5, true, 2),
  (yX6_ones, cX6_ones, 5, some .int, 5, true, 1),
  (yX6_least, cX6_least, 3, some .int, 5, true, 1),
  (yX6_look, cX6_look, 2, none, 5, false, 1),
  (yX6_beside, cX6_beside, 4, some .long, 5, true, 1),
  (yX6_grown, cX6_grown, 8, some .long, 5, true, 2),
  (yX6_holeAt, cX6_holeAt, 2, some .long, 5, false, 2),
  (yX6_rimOf, cX6_rimOf, 3, some .long, 5, false, 2)]
def zMI_2 : List zI := [(yX6_fenceOf, cX6_fenceOf, 3, some .int, 5, true, 1),
  (yX6_edge, cX6_edge, 0, some .long, 5, true, 0),
  (yX6_withinOf, cX6_withinOf, 4, some .long, 5, true, 1),
  (yX6_kindOf, cX6_kindOf, 5, some .int, 5, false, 2),
  (yX6_taxOf, cX6_taxOf, 7, some .int, 5, false, 2),
  (yX6_findHoles, cX6_findHoles, 3, none, 5, false, 1),
  (yX6_taxOfAll, cX6_taxOfAll, 3, some .int, 5, false, 1),
  (yX6_note, cX6_note, 3, none, 5, false, 2),
  (yX6_put, cX6_put, 4, none, 5, false, 4),
  (yX6_dig, cX6_dig, 2, some .int, 5, false, 2),
  (yX6_fill, cX6_fill, 3, some .int, 5, false, 2),
  (yX6_roof, cX6_roof, 2, some .int, 5, false, 2),
  (yX6_undo, cX6_undo, 1, some .int, 5, false, 1),
  (yX6_own, cX6_own, 4, some .int, 5, false, 3),
  (yX6_rate, cX6_rate, 3, some .int, 5, false, 2),
  (yX6_told, cX6_told, 3, some .int, 5, false, 3),
  (yX6_type, cX6_type, 2, some .int, 5, false, 2),
  (yX6_nextLetter, cX6_nextLetter, 1, some .int, 5, false, 1),
  (yX6_takes, cX6_takes, 3, some .boolean, 5, false, 2),
  (yX6_end, cX6_end, 2, some .int, 5, false, 2),
  (yX6_readGround, cX6_readGround, 3, some .boolean, 5, false, 1),
  (yX6_ground, cX6_ground, 3, some .int, 5, false, 1),
  (yX6_readOwners, cX6_readOwners, 3, some .boolean, 5, false, 1),
  (yX6_owners, cX6_owners, 4, some .int, 5, false, 1),
  (yX6_readAct, cX6_readAct, 4, some .boolean, 5, false, 1),
  (yX6_readDay, cX6_readDay, 2, some .boolean, 5, false, 1),
  (yX6_day, cX6_day, 6, some .int, 5, false, 1)]
def zMI_3 : List zI := [(yX6_count, cX6_count, 4, some .int, 5, false, 2),
  (yX6_owned, cX6_owned, 5, some .long, 5, false, 2),
  (yX6_ownerOf, cX6_ownerOf, 7, some .int, 5, false, 2),
  (yX6_nestedOf, cX6_nestedOf, 5, some .int, 5, false, 2),
  (yX6_largestOf, cX6_largestOf, 8, some .int, 5, true, 1),
  (yX6_hole, cX6_hole, 5, some .int, 5, false, 3),
  (yX6_cells, cX6_cells, 5, some .long, 5, false, 3),
  (yX6_partOf, cX6_partOf, 7, some .int, 5, false, 3),
  (yX6_part, cX6_part, 3, some .int, 5, false, 3),
  (yX6_pays, cX6_pays, 4, some .int, 5, false, 2),
  (yX6_worth, cX6_worth, 3, some .int, 5, false, 2),
  (yX6_filled, cX6_filled, 4, some .int, 5, false, 3),
  (yX6_fewestFilled, cX6_fewestFilled, 8, some .int, 5, false, 3),
  (yX6_does, cX6_does, 9, some .boolean, 5, false, 4),
  (yX6_split, cX6_split, 4, some .int, 5, false, 3),
  (yX6_fewestDug, cX6_fewestDug, 12, some .int, 5, false, 4),
  (yX6_dug, cX6_dug, 18, some .int, 5, false, 4),
  (yX6_loophole, cX6_loophole, 5, some .int, 5, false, 1),
  (yX6_roofs, cX6_roofs, 2, some .int, 5, false, 2),
  (yX6_nextOrder, cX6_nextOrder, 7, some .boolean, 5, false, 2),
  (yX6_off, cX6_off, 2, some .int, 5, true, 2),
  (yX6_apart, cX6_apart, 2, some .int, 5, true, 2),
  (yX6_nearest, cX6_nearest, 5, some .int, 5, true, 2),
  (yX6_stepsOf, cX6_stepsOf, 7, some .int, 5, false, 3),
  (yX6_round, cX6_round, 8, some .int, 5, false, 3),
  (yX6_border, cX6_border, 4, some .int, 5, false, 2),
  (yX6_cut, cX6_cut, 8, some .int, 5, false, 2)]
def zMI_4 : List zI := [(yX6_books, cX6_books, 19, some .long, 5, false, 5),
  (yX6_nextDraw, cX6_nextDraw, 2, some .int, 5, false, 2),
  (yX6_lots, cX6_lots, 6, some .int, 5, false, 2),
  (yX6_seed, cX6_seed, 3, some .int, 5, false, 2),
  (yX6_carried, cX6_carried, 5, some .int, 5, false, 4),
  (yX6_image, cX6_image, 2, some .int, 5, false, 1),
  (yX6_restore, cX6_restore, 2, some .int, 5, false, 1),
  (yX6_isSheet, cX6_isSheet, 2, some .boolean, 5, true, 2),
  (yX6_asLane, cX6_asLane, 3, some .long, 5, true, 2),
  (yX6_sheet, cX6_sheet, 5, some .int, 5, false, 4),
  (yX6_drop, cX6_drop, 2, some .int, 5, false, 2),
  (yX6_lacksRow, cX6_lacksRow, 5, some .int, 5, false, 5),
  (yX6_item, cX6_item, 7, some .int, 5, false, 5),
  (yX6_lay, cX6_lay, 10, some .int, 5, false, 6),
  (yX6_film, cX6_film, 6, some .int, 5, false, 4),
  (yX6_miscounted, cX6_miscounted, 12, some .int, 5, false, 5),
  (yX6_copy, cX6_copy, 7, some .int, 5, false, 6),
  (yX0_takeAll, cX0_takeAll, 2, none, 0, false, 2),
  (yX0_put, cX0_put, 5, none, 0, false, 3),
  (yX0_become, cX0_become, 5, none, 0, false, 3),
  (yX0_toDig, cX0_toDig, 2, some .int, 0, false, 2),
  (yX0_toFill, cX0_toFill, 3, some .int, 0, false, 2),
  (yX0_toRoof, cX0_toRoof, 2, some .int, 0, false, 2),
  (yX0_repaired, cX0_repaired, 3, some .boolean, 0, false, 2),
  (yX0_remember, cX0_remember, 2, none, 0, false, 2),
  (yX0_forget, cX0_forget, 1, none, 0, false, 1),
  (yX0_takeBack, cX0_takeBack, 3, some .int, 0, false, 1)]
def zMI_5 : List zI := [(yX0_drawn, cX0_drawn, 1, some .int, 0, false, 1),
  (yX0_yearByLot, cX0_yearByLot, 2, some .int, 0, false, 1),
  (yX0_depths, cX0_depths, 6, some .int, 0, false, 1),
  (yX0_holeAt, cX0_holeAt, 2, some .long, 0, false, 2),
  (yX0_kindOf, cX0_kindOf, 7, some .int, 0, false, 3),
  (yX0_taxOf, cX0_taxOf, 7, some .int, 0, false, 3),
  (yX0_taxOfAll, cX0_taxOfAll, 11, some .int, 0, false, 3),
  (yX0_landOf, cX0_landOf, 5, some .long, 0, false, 2),
  (yX0_ownerOf, cX0_ownerOf, 9, some .int, 0, false, 2),
  (yX0_partOf, cX0_partOf, 7, some .int, 0, false, 3),
  (yX0_partOfAll, cX0_partOfAll, 8, some .int, 0, false, 2),
  (yX0_leastFilled, cX0_leastFilled, 6, some .long, 0, false, 2),
  (yX0_fits, cX0_fits, 9, some .boolean, 0, false, 5),
  (yX1_walk, cX1_walk, 8, none, 1, false, 3),
  (yX1_measure, cX1_measure, 6, none, 1, false, 3),
  (yX1_nearestOf, cX1_nearestOf, 6, some .int, 1, true, 2),
  (yX1_steps, cX1_steps, 2, some .int, 1, true, 2),
  (yX1_seek, cX1_seek, 8, none, 1, false, 6),
  (yX2_has, cX2_has, 3, some .boolean, 6, true, 2),
  (yX2_least, cX2_least, 2, some .int, 6, true, 1),
  (yX2_beside, cX2_beside, 4, some .long, 6, true, 1),
  (yX2_spread, cX2_spread, 9, some .long, 6, true, 2),
  (yX2_firstHole, cX2_firstHole, 2, some .long, 6, true, 1),
  (yX2_holesOf, cX2_holesOf, 5, some .int, 6, true, 1),
  (yX2_rimOf, cX2_rimOf, 2, some .long, 6, true, 1),
  (yX2_fenceOf, cX2_fenceOf, 4, some .int, 6, true, 1),
  (yX2_withinOf, cX2_withinOf, 4, some .long, 6, true, 1)]
def zMI_6 : List zI := [(yX2_nestedIn, cX2_nestedIn, 10, some .int, 6, true, 2),
  (yX2_broadestIn, cX2_broadestIn, 7, some .int, 6, true, 1),
  (yX2_mostCells, cX2_mostCells, 9, some .long, 6, true, 1),
  (yX2_leastCut, cX2_leastCut, 8, some .int, 6, true, 2),
  (yX2_isInPieces, cX2_isInPieces, 2, some .boolean, 6, true, 1),
  (yX2_leastSplit, cX2_leastSplit, 6, some .long, 6, true, 1),
  (yX2_gapBetween, cX2_gapBetween, 13, some .int, 6, true, 4),
  (yX2_leastDug, cX2_leastDug, 14, some .long, 6, true, 3),
  (yX3_begin, cX3_begin, 4, none, 2, false, 3),
  (yX3_spans, cX3_spans, 3, some .boolean, 2, false, 3),
  (yX3_put, cX3_put, 4, none, 2, false, 3),
  (yX3_areDepths, cX3_areDepths, 4, some .boolean, 2, false, 3),
  (yX4_add, cX4_add, 2, some .int, 3, false, 2),
  (yX4_wipe, cX4_wipe, 1, none, 3, false, 1),
  (yX4_passBlanks, cX4_passBlanks, 1, none, 3, false, 1),
  (yX4_isNext, cX4_isNext, 2, some .boolean, 3, false, 2),
  (yX4_nextFigure, cX4_nextFigure, 3, some .int, 3, false, 2),
  (yX4_fault, cX4_fault, 1, some .int, 3, false, 1),
  (yX4_faultBehind, cX4_faultBehind, 1, some .int, 3, false, 1),
  (yX4_readGround, cX4_readGround, 3, some .int, 3, false, 1),
  (yX4_readOwners, cX4_readOwners, 3, some .int, 3, false, 1),
  (yX4_readDay, cX4_readDay, 3, some .int, 3, false, 1),
  (yX4_nextRepair, cX4_nextRepair, 4, some .int, 3, false, 1),
  (yJ13_bitCount_95d88, cJ13_bitCount_95d88, 2, some .int, 7, true, 1)]
abbrev zM4 : Type := (Nat × Nat) × (Nat × Nat) × (Nat × Nat) × (Nat × Nat)
def zMP_0 : List zM4 := [((1, 168), (1, 1), (1, 166), (1, 167)), ((1, 194), (1, 1), (1, 192), (1, 193)), ((1, 202), (1, 1), (1, 200), (1, 201)), ((1, 210), (1, 1), (1, 208), (1, 209)), ((1, 218), (1, 1), (1, 216), (1, 217)), ((1, 222), (1, 1), (1, 220), (1, 221)), ((1, 226), (1, 1), (1, 224), (1, 225)), ((2, 13), (1, 1), (2, 11), (2, 12)), ((2, 21), (1, 1), (2, 19), (2, 20)), ((2, 69), (1, 1), (2, 67), (2, 68)), ((2, 83), (1, 1), (2, 81), (2, 82)), ((2, 102), (1, 1), (2, 100), (2, 101)), ((2, 135), (1, 1), (2, 133), (2, 134)), ((2, 161), (1, 1), (2, 159), (2, 160)), ((2, 168), (1, 1), (2, 166), (2, 167)), ((2, 179), (1, 1), (2, 177), (2, 178)), ((2, 188), (1, 1), (2, 186), (2, 187)), ((2, 193), (1, 1), (2, 191), (2, 192)), ((2, 205), (1, 1), (2, 203), (2, 204)), ((2, 216), (1, 1), (2, 214), (2, 215)), ((2, 226), (1, 1), (2, 224), (2, 225)), ((2, 230), (1, 1), (2, 228), (2, 229)), ((2, 234), (1, 1), (2, 232), (2, 233)), ((3, 26), (1, 1), (3, 24), (3, 25)), ((3, 33), (1, 1), (3, 31), (3, 32)), ((3, 42), (1, 1), (3, 40), (3, 41)), ((3, 53), (1, 1), (3, 51), (3, 52))]
def zMP_1 : List zM4 := [((3, 69), (1, 1), (3, 67), (3, 68)), ((3, 73), (1, 1), (3, 71), (3, 72)), ((3, 81), (1, 1), (3, 79), (3, 80)), ((3, 85), (1, 1), (3, 83), (3, 84)), ((3, 109), (1, 1), (3, 107), (3, 108)), ((3, 119), (1, 1), (3, 117), (3, 118)), ((3, 128), (1, 1), (3, 126), (3, 127)), ((3, 136), (1, 1), (3, 134), (3, 135)), ((3, 140), (1, 1), (3, 138), (3, 139)), ((3, 144), (1, 1), (3, 142), (3, 143)), ((1, 171), (1, 1), (1, 170), (0, 0)), ((2, 171), (1, 1), (2, 170), (0, 0)), ((3, 92), (1, 1), (3, 91), (0, 0)), ((3, 95), (1, 1), (3, 94), (0, 0)), ((3, 89), (1, 1), (3, 88), (0, 37)), ((3, 123), (1, 1), (3, 122), (0, 41)), ((2, 201), (1, 1), (2, 200), (0, 0)), ((4, 3), (1, 6), (4, 2), (0, 0)), ((3, 239), (1, 6), (3, 238), (0, 0)), ((4, 10), (1, 6), (4, 9), (0, 0)), ((4, 125), (1, 6), (4, 124), (0, 0)), ((4, 61), (1, 6), (4, 60), (0, 0)), ((4, 45), (1, 6), (4, 44), (0, 45)), ((4, 55), (1, 6), (4, 54), (0, 0)), ((4, 52), (1, 6), (4, 51), (0, 0)), ((4, 49), (1, 6), (4, 48), (0, 46)), ((4, 157), (1, 6), (4, 156), (0, 58))]
def zMP_2 : List zM4 := [((4, 148), (1, 6), (4, 147), (0, 0)), ((4, 144), (1, 6), (4, 143), (0, 0)), ((4, 172), (1, 6), (4, 171), (0, 0)), ((4, 137), (1, 6), (4, 136), (0, 57)), ((4, 133), (1, 6), (4, 132), (0, 56)), ((4, 92), (1, 6), (4, 91), (0, 51)), ((4, 129), (1, 6), (4, 128), (0, 55)), ((4, 7), (1, 6), (4, 6), (0, 43)), ((4, 18), (1, 6), (4, 17), (0, 44)), ((3, 236), (1, 6), (3, 234), (3, 235)), ((4, 14), (1, 6), (4, 12), (4, 13)), ((4, 23), (1, 6), (4, 21), (4, 22)), ((4, 27), (1, 6), (4, 25), (4, 26)), ((4, 31), (1, 6), (4, 29), (4, 30)), ((4, 36), (1, 6), (4, 34), (4, 35)), ((4, 41), (1, 6), (4, 39), (4, 40)), ((4, 65), (1, 6), (4, 63), (4, 64)), ((4, 83), (1, 6), (4, 82), (0, 49)), ((4, 79), (1, 6), (4, 78), (0, 48)), ((4, 88), (1, 6), (4, 87), (0, 50)), ((4, 75), (1, 6), (4, 74), (0, 47)), ((4, 71), (1, 6), (4, 69), (4, 70)), ((4, 100), (1, 6), (4, 99), (0, 52)), ((4, 96), (1, 6), (4, 94), (4, 95)), ((4, 114), (1, 6), (4, 113), (0, 54)), ((4, 110), (1, 6), (4, 109), (0, 53)), ((4, 106), (1, 6), (4, 104), (4, 105))]
def zMP_3 : List zM4 := [((4, 122), (1, 6), (4, 120), (4, 121)), ((4, 165), (1, 6), (4, 164), (0, 60)), ((4, 161), (1, 6), (4, 160), (0, 59)), ((4, 169), (1, 6), (4, 168), (0, 61)), ((4, 175), (1, 6), (4, 174), (0, 0)), ((4, 152), (1, 6), (4, 150), (4, 151)), ((4, 179), (1, 6), (4, 177), (4, 178)), ((4, 190), (1, 6), (4, 189), (0, 62)), ((4, 185), (1, 6), (4, 183), (4, 184)), ((4, 194), (1, 6), (4, 192), (4, 193)), ((4, 198), (1, 6), (4, 196), (4, 197)), ((4, 203), (1, 6), (4, 201), (4, 202)), ((4, 208), (1, 6), (4, 207), (0, 63)), ((4, 212), (1, 6), (4, 211), (0, 64)), ((4, 216), (1, 6), (4, 214), (4, 215)), ((4, 224), (1, 6), (4, 223), (0, 65)), ((4, 220), (1, 6), (4, 218), (4, 219)), ((4, 228), (1, 6), (4, 226), (4, 227)), ((4, 232), (1, 6), (4, 230), (4, 231)), ((5, 13), (1, 6), (5, 12), (0, 67)), ((5, 5), (1, 6), (5, 4), (0, 0)), ((5, 2), (1, 6), (5, 1), (0, 0)), ((4, 239), (1, 6), (4, 238), (0, 0)), ((5, 9), (1, 6), (5, 8), (0, 66)), ((4, 236), (1, 6), (4, 234), (4, 235)), ((5, 17), (1, 6), (5, 15), (5, 16)), ((5, 21), (1, 6), (5, 19), (5, 20))]
def zMP_4 : List zM4 := [((5, 25), (1, 6), (5, 23), (5, 24)), ((5, 35), (1, 6), (5, 34), (0, 68)), ((5, 31), (1, 6), (5, 29), (5, 30)), ((5, 43), (1, 6), (5, 41), (5, 42)), ((5, 51), (1, 6), (5, 50), (0, 69)), ((5, 47), (1, 6), (5, 45), (5, 46)), ((5, 55), (1, 6), (5, 53), (5, 54)), ((5, 62), (1, 6), (5, 61), (0, 0)), ((5, 77), (1, 6), (5, 76), (0, 0)), ((5, 59), (1, 6), (5, 57), (5, 58)), ((5, 66), (1, 6), (5, 64), (5, 65)), ((5, 74), (1, 6), (5, 73), (0, 70)), ((5, 70), (1, 6), (5, 68), (5, 69)), ((5, 81), (1, 6), (5, 79), (5, 80)), ((5, 85), (1, 6), (5, 83), (5, 84)), ((5, 89), (1, 6), (5, 87), (5, 88)), ((5, 94), (1, 6), (5, 92), (5, 93)), ((3, 77), (1, 2), (3, 76), (0, 36)), ((1, 189), (1, 2), (1, 188), (0, 2)), ((2, 53), (1, 2), (2, 52), (0, 15)), ((1, 175), (1, 2), (1, 174), (0, 0)), ((1, 198), (1, 2), (1, 197), (0, 3)), ((1, 206), (1, 2), (1, 205), (0, 4)), ((2, 95), (1, 2), (2, 94), (0, 21)), ((1, 179), (1, 2), (1, 178), (0, 1)), ((2, 57), (1, 2), (2, 56), (0, 16)), ((1, 214), (1, 2), (1, 213), (0, 5))]
def zMP_5 : List zM4 := [((3, 61), (1, 2), (3, 60), (0, 35)), ((3, 57), (1, 2), (3, 56), (0, 34)), ((2, 131), (1, 2), (2, 130), (0, 25)), ((1, 231), (1, 2), (1, 230), (0, 6)), ((2, 119), (1, 2), (2, 118), (0, 24)), ((2, 111), (1, 2), (2, 110), (0, 23)), ((2, 106), (1, 2), (2, 105), (0, 22)), ((2, 78), (1, 2), (2, 77), (0, 18)), ((2, 145), (1, 2), (2, 144), (0, 26)), ((2, 175), (1, 2), (2, 174), (0, 27)), ((2, 183), (1, 2), (2, 182), (0, 28)), ((2, 197), (1, 2), (2, 196), (0, 29)), ((3, 47), (1, 2), (3, 46), (0, 33)), ((2, 238), (1, 4), (2, 237), (0, 30)), ((3, 4), (1, 4), (3, 3), (0, 31)), ((3, 7), (1, 4), (3, 6), (0, 0)), ((3, 11), (1, 4), (3, 10), (0, 0)), ((3, 21), (1, 4), (3, 20), (0, 32)), ((1, 185), (1, 8), (1, 184), (0, 0)), ((2, 3), (1, 8), (2, 2), (0, 0)), ((1, 237), (1, 8), (1, 236), (0, 0)), ((1, 234), (1, 8), (1, 233), (0, 0)), ((2, 63), (1, 8), (2, 62), (0, 0)), ((2, 60), (1, 8), (2, 59), (0, 0)), ((2, 141), (1, 8), (2, 140), (0, 0)), ((2, 127), (1, 8), (2, 126), (0, 0)), ((2, 153), (1, 8), (2, 152), (0, 0))]
def zMP_6 : List zM4 := [((2, 150), (1, 8), (2, 149), (0, 0)), ((2, 157), (1, 8), (2, 156), (0, 0)), ((3, 29), (1, 8), (3, 28), (0, 0)), ((3, 36), (1, 8), (3, 35), (0, 0)), ((2, 212), (1, 8), (2, 211), (0, 0)), ((2, 208), (1, 8), (2, 207), (0, 0)), ((2, 222), (1, 8), (2, 221), (0, 0)), ((2, 219), (1, 8), (2, 218), (0, 0)), ((3, 132), (1, 5), (3, 131), (0, 42)), ((3, 99), (1, 5), (3, 98), (0, 38)), ((3, 114), (1, 5), (3, 113), (0, 40)), ((3, 103), (1, 5), (3, 102), (0, 39)), ((2, 17), (1, 3), (2, 16), (0, 7)), ((2, 49), (1, 3), (2, 48), (0, 14)), ((2, 33), (1, 3), (2, 32), (0, 10)), ((2, 29), (1, 3), (2, 28), (0, 9)), ((2, 41), (1, 3), (2, 40), (0, 12)), ((2, 37), (1, 3), (2, 36), (0, 11)), ((2, 45), (1, 3), (2, 44), (0, 13)), ((2, 25), (1, 3), (2, 24), (0, 8)), ((2, 73), (1, 3), (2, 72), (0, 17)), ((2, 87), (1, 3), (2, 86), (0, 19)), ((2, 91), (1, 3), (2, 90), (0, 20)), ((2, 6), (1, 9), (2, 5), (0, 0))]
def zMI : List zI := zMI_0 ++ (zMI_1 ++ (zMI_2 ++ (zMI_3 ++ (zMI_4 ++ (zMI_5 ++ (zMI_6)))))) ++ [(yL_law, cL_law, 4, some .boolean, 9, true, 1)]
def zMw (q : zI) : Cond × Cond × Cond × Cond := (Cond.code q.1 q.2.1 q.2.2.1 q.2.2.2.1, Cond.initialized q.1.cls, (match q.2.2.2.2.2.1 with | true => Cond.static q.1 | false => Cond.instanceMethod q.1), (match q.2.2.2.2.2.1 with | true => Cond.static q.1 | false => Cond.selects q.1.cls q.1 q.1))
def zMc (q : zI) : Bool := decide (q.1.cls = zcn q.2.2.2.2.1) && plainName q.1.cls && decide ((parseMethodDescriptor q.1.desc).map (fun d => d.parameters.length + (match q.2.2.2.2.2.1 with | true => 0 | false => 1)) = some q.2.2.2.2.2.2)
set_option maxRecDepth 100000 in
theorem zMI_a0 : (zMI_0.zip zMP_0).map (fun q => some (zMw q.1).1) = (zMI_0.zip zMP_0).map (fun q => zat q.2.1) := rfl
set_option maxRecDepth 100000 in
theorem zMI_b0 : (zMI_0.zip zMP_0).map (fun q => some (zMw q.1).2.1) = (zMI_0.zip zMP_0).map (fun q => zat q.2.2.1) := rfl
set_option maxRecDepth 100000 in
theorem zMI_c0 : (zMI_0.zip zMP_0).map (fun q => some (zMw q.1).2.2.1) = (zMI_0.zip zMP_0).map (fun q => zat q.2.2.2.1) := rfl
set_option maxRecDepth 100000 in
theorem zMI_d0 : (zMI_0.zip zMP_0).map (fun q => match q.1.2.2.2.2.2.1 with | true => none | false => some (zMw q.1).2.2.2) = (zMI_0.zip zMP_0).map (fun q => match q.1.2.2.2.2.2.1 with | true => none | false => zat q.2.2.2.2) := rfl
theorem zMI_l0 : zMI_0.length = zMP_0.length := by decide +kernel
set_option maxRecDepth 100000 in
theorem zMI_k0 : zMI_0.all zMc = true := by decide +kernel
set_option maxRecDepth 100000 in
theorem zMI_a1 : (zMI_1.zip zMP_1).map (fun q => some (zMw q.1).1) = (zMI_1.zip zMP_1).map (fun q => zat q.2.1) := rfl
set_option maxRecDepth 100000 in
theorem zMI_b1 : (zMI_1.zip zMP_1).map (fun q => some (zMw q.1).2.1) = (zMI_1.zip zMP_1).map (fun q => zat q.2.2.1) := rfl
set_option maxRecDepth 100000 in
theorem zMI_c1 : (zMI_1.zip zMP_1).map (fun q => some (zMw q.1).2.2.1) = (zMI_1.zip zMP_1).map (fun q => zat q.2.2.2.1) := rfl
set_option maxRecDepth 100000 in
theorem zMI_d1 : (zMI_1.zip zMP_1).map (fun q => match q.1.2.2.2.2.2.1 with | true => none | false => some (zMw q.1).2.2.2) = (zMI_1.zip zMP_1).map (fun q => match q.1.2.2.2.2.2.1 with | true => none | false => zat q.2.2.2.2) := rfl
theorem zMI_l1 : zMI_1.length = zMP_1.length := by decide +kernel
set_option maxRecDepth 100000 in
theorem zMI_k1 : zMI_1.all zMc = true := by decide +kernel
set_option maxRecDepth 100000 in
theorem zMI_a2 : (zMI_2.zip zMP_2).map (fun q => some (zMw q.1).1) = (zMI_2.zip zMP_2).map (fun q => zat q.2.1) := rfl
set_option maxRecDepth 100000 in
theorem zMI_b2 : (zMI_2.zip zMP_2).map (fun q => some (zMw q.1).2.1) = (zMI_2.zip zMP_2).map (fun q => zat q.2.2.1) := rfl
set_option maxRecDepth 100000 in
theorem zMI_c2 : (zMI_2.zip zMP_2).map (fun q => some (zMw q.1).2.2.1) = (zMI_2.zip zMP_2).map (fun q => zat q.2.2.2.1) := rfl
set_option maxRecDepth 100000 in
theorem zMI_d2 : (zMI_2.zip zMP_2).map (fun q => match q.1.2.2.2.2.2.1 with | true => none | false => some (zMw q.1).2.2.2) = (zMI_2.zip zMP_2).map (fun q => match q.1.2.2.2.2.2.1 with | true => none | false => zat q.2.2.2.2) := rfl
theorem zMI_l2 : zMI_2.length = zMP_2.length := by decide +kernel
set_option maxRecDepth 100000 in
theorem zMI_k2 : zMI_2.all zMc = true := by decide +kernel
set_option maxRecDepth 100000 in
theorem zMI_a3 : (zMI_3.zip zMP_3).map (fun q => some (zMw q.1).1) = (zMI_3.zip zMP_3).map (fun q => zat q.2.1) := rfl
set_option maxRecDepth 100000 in
theorem zMI_b3 : (zMI_3.zip zMP_3).map (fun q => some (zMw q.1).2.1) = (zMI_3.zip zMP_3).map (fun q => zat q.2.2.1) := rfl
set_option maxRecDepth 100000 in
theorem zMI_c3 : (zMI_3.zip zMP_3).map (fun q => some (zMw q.1).2.2.1) = (zMI_3.zip zMP_3).map (fun q => zat q.2.2.2.1) := rfl
set_option maxRecDepth 100000 in
theorem zMI_d3 : (zMI_3.zip zMP_3).map (fun q => match q.1.2.2.2.2.2.1 with | true => none | false => some (zMw q.1).2.2.2) = (zMI_3.zip zMP_3).map (fun q => match q.1.2.2.2.2.2.1 with | true => none | false => zat q.2.2.2.2) := rfl
theorem zMI_l3 : zMI_3.length = zMP_3.length := by decide +kernel
set_option maxRecDepth 100000 in
theorem zMI_k3 : zMI_3.all zMc = true := by decide +kernel
set_option maxRecDepth 100000 in
theorem zMI_a4 : (zMI_4.zip zMP_4).map (fun q => some (zMw q.1).1) = (zMI_4.zip zMP_4).map (fun q => zat q.2.1) := rfl
set_option maxRecDepth 100000 in
theorem zMI_b4 : (zMI_4.zip zMP_4).map (fun q => some (zMw q.1).2.1) = (zMI_4.zip zMP_4).map (fun q => zat q.2.2.1) := rfl
set_option maxRecDepth 100000 in
theorem zMI_c4 : (zMI_4.zip zMP_4).map (fun q => some (zMw q.1).2.2.1) = (zMI_4.zip zMP_4).map (fun q => zat q.2.2.2.1) := rfl
set_option maxRecDepth 100000 in
theorem zMI_d4 : (zMI_4.zip zMP_4).map (fun q => match q.1.2.2.2.2.2.1 with | true => none | false => some (zMw q.1).2.2.2) = (zMI_4.zip zMP_4).map (fun q => match q.1.2.2.2.2.2.1 with | true => none | false => zat q.2.2.2.2) := rfl
theorem zMI_l4 : zMI_4.length = zMP_4.length := by decide +kernel
set_option maxRecDepth 100000 in
theorem zMI_k4 : zMI_4.all zMc = true := by decide +kernel
set_option maxRecDepth 100000 in
theorem zMI_a5 : (zMI_5.zip zMP_5).map (fun q => some (zMw q.1).1) = (zMI_5.zip zMP_5).map (fun q => zat q.2.1) := rfl
set_option maxRecDepth 100000 in
theorem zMI_b5 : (zMI_5.zip zMP_5).map (fun q => some (zMw q.1).2.1) = (zMI_5.zip zMP_5).map (fun q => zat q.2.2.1) := rfl
set_option maxRecDepth 100000 in
theorem zMI_c5 : (zMI_5.zip zMP_5).map (fun q => some (zMw q.1).2.2.1) = (zMI_5.zip zMP_5).map (fun q => zat q.2.2.2.1) := rfl
set_option maxRecDepth 100000 in
theorem zMI_d5 : (zMI_5.zip zMP_5).map (fun q => match q.1.2.2.2.2.2.1 with | true => none | false => some (zMw q.1).2.2.2) = (zMI_5.zip zMP_5).map (fun q => match q.1.2.2.2.2.2.1 with | true => none | false => zat q.2.2.2.2) := rfl
theorem zMI_l5 : zMI_5.length = zMP_5.length := by decide +kernel
set_option maxRecDepth 100000 in
theorem zMI_k5 : zMI_5.all zMc = true := by decide +kernel
set_option maxRecDepth 100000 in
theorem zMI_a6 : (zMI_6.zip zMP_6).map (fun q => some (zMw q.1).1) = (zMI_6.zip zMP_6).map (fun q => zat q.2.1) := rfl
set_option maxRecDepth 100000 in
theorem zMI_b6 : (zMI_6.zip zMP_6).map (fun q => some (zMw q.1).2.1) = (zMI_6.zip zMP_6).map (fun q => zat q.2.2.1) := rfl
set_option maxRecDepth 100000 in
theorem zMI_c6 : (zMI_6.zip zMP_6).map (fun q => some (zMw q.1).2.2.1) = (zMI_6.zip zMP_6).map (fun q => zat q.2.2.2.1) := rfl
set_option maxRecDepth 100000 in
theorem zMI_d6 : (zMI_6.zip zMP_6).map (fun q => match q.1.2.2.2.2.2.1 with | true => none | false => some (zMw q.1).2.2.2) = (zMI_6.zip zMP_6).map (fun q => match q.1.2.2.2.2.2.1 with | true => none | false => zat q.2.2.2.2) := rfl
theorem zMI_l6 : zMI_6.length = zMP_6.length := by decide +kernel
set_option maxRecDepth 100000 in
theorem zMI_k6 : zMI_6.all zMc = true := by decide +kernel
/-- method links: key, method, nest mate's, place -/
def zML : List (Nat × Nat × Bool × Nat × Nat) := [(49, 126, false, 1, 186), (53, 133, false, 2, 54), (56, 132, false, 1, 176), (60, 153, true, 1, 183), (66, 128, false, 2, 96), (70, 129, false, 2, 97), (73, 130, false, 2, 98), (79, 135, false, 3, 58), (83, 156, true, 1, 232), (97, 185, false, 2, 112), (109, 139, false, 2, 116), (113, 160, true, 2, 125), (116, 157, true, 2, 107), (120, 140, false, 2, 108), (123, 159, true, 2, 146), (126, 142, false, 2, 147), (130, 144, false, 2, 184), (134, 141, false, 2, 198), (137, 158, true, 3, 48), (1032, 157, true, 2, 239), (1040, 149, false, 3, 1), (1047, 152, false, 3, 18), (1051, 150, false, 3, 5), (1055, 153, true, 3, 8), (1059, 151, false, 3, 9), (1072, 154, true, 3, 22), (2026, 171, false, 3, 115), (3026, 176, false, 2, 30), (3029, 179, false, 2, 34), (3037, 177, false, 2, 26), (3041, 178, false, 2, 38), (3045, 180, false, 2, 42), (3051, 184, false, 2, 88), (4040, 37, false, 1, 169), (4044, 128, true, 1, 172), (4048, 129, true, 1, 195), (4051, 130, true, 1, 203), (4054, 134, true, 1, 211), (4073, 153, true, 1, 227), (4082, 138, true, 1, 228), (4086, 154, true, 2, 1), (4090, 174, true, 2, 14), (4094, 181, true, 2, 22), (4097, 175, true, 2, 46), (4104, 127, true, 2, 50), (4108, 158, true, 2, 58), (4111, 182, true, 2, 70), (4120, 142, true, 2, 75), (4123, 185, false, 2, 79), (4128, 183, true, 2, 84), (4134, 131, true, 2, 92), (4140, 141, true, 2, 103), (4147, 137, true, 2, 128), (4150, 139, true, 2, 136), (4153, 140, true, 2, 137), (4156, 160, true, 2, 138), (4159, 159, true, 2, 139), (4163, 143, true, 2, 142), (4166, 162, true, 2, 148), (4169, 163, true, 2, 155), (4176, 161, true, 2, 164), (4179, 38, false, 2, 169), (4182, 144, true, 2, 172), (4186, 145, true, 2, 180), (4190, 146, true, 2, 194), (4193, 43, false, 2, 199), (4196, 167, true, 2, 206), (4199, 169, true, 2, 217), (4203, 148, true, 2, 235), (4213, 164, true, 3, 27), (4216, 165, true, 3, 34), (4221, 147, true, 3, 44), (4227, 136, true, 3, 54), (4230, 133, true, 3, 65), (4236, 125, true, 3, 74), (4244, 41, false, 3, 86), (4248, 173, true, 3, 100), (4256, 126, true, 3, 105), (4260, 157, true, 3, 110), (4263, 172, true, 3, 111), (4265, 42, false, 3, 120), (4269, 39, false, 3, 90), (4272, 40, false, 3, 93), (4275, 170, true, 3, 129), (4287, 171, true, 3, 96), (5065, 44, false, 4, 1), (5069, 46, false, 4, 8), (5086, 50, false, 4, 53), (5090, 51, false, 4, 50), (5096, 47, false, 4, 123), (5102, 55, false, 4, 142), (5117, 57, false, 4, 134), (5120, 54, false, 4, 146), (5126, 48, false, 4, 59), (5129, 52, false, 4, 46), (5133, 59, false, 4, 89), (5136, 58, false, 4, 130), (5142, 45, false, 3, 237), (5146, 61, false, 4, 4), (5150, 62, false, 4, 15), (5158, 49, false, 4, 42), (5171, 71, false, 4, 80), (5175, 72, false, 4, 76), (5180, 74, false, 4, 72), (5184, 73, false, 4, 85), (5192, 76, false, 4, 97), (5200, 78, false, 4, 111), (5203, 79, false, 4, 107), (5206, 63, false, 4, 116), (5210, 64, false, 4, 117), (5213, 65, false, 4, 118), (5216, 60, false, 4, 126), (5219, 53, false, 4, 154), (5222, 82, false, 4, 162), (5225, 56, false, 4, 170), (5230, 83, false, 4, 158), (5233, 84, false, 4, 166), (5236, 85, false, 4, 173), (5245, 88, false, 4, 187), (5252, 93, false, 4, 205), (5256, 94, false, 4, 209), (5260, 96, false, 4, 221), (5264, 101, false, 5, 3), (5268, 102, false, 5, 0), (5271, 103, false, 4, 237), (5274, 104, false, 5, 6), (5277, 100, false, 5, 10), (5291, 109, false, 5, 32), (5294, 112, false, 5, 48), (5305, 115, false, 5, 60), (5309, 119, false, 5, 71), (5313, 116, false, 5, 75), (6011, 185, false, 2, 4), (6023, 155, false, 1, 235), (6027, 156, false, 2, 64), (6031, 157, false, 2, 61), (6038, 161, false, 2, 151), (6041, 163, false, 3, 37), (6044, 159, false, 3, 38), (6047, 153, false, 2, 209), (6051, 166, false, 2, 210), (6055, 168, false, 2, 220), (9013, 0, false, 1, 165), (9017, 63, false, 3, 233), (9018, 1, false, 1, 191), (9021, 64, false, 4, 11), (9022, 2, false, 1, 199), (9025, 65, false, 4, 20), (9026, 3, false, 1, 207), (9030, 66, false, 4, 24), (9031, 4, false, 1, 215), (9035, 67, false, 4, 28), (9036, 5, false, 1, 219), (9039, 68, false, 4, 33), (9040, 6, false, 1, 223), (9043, 69, false, 4, 38), (9044, 7, false, 2, 10), (9047, 70, false, 4, 62), (9048, 8, false, 2, 18), (9051, 75, false, 4, 68), (9052, 9, false, 2, 66), (9055, 77, false, 4, 93), (9056, 10, false, 2, 80), (9059, 80, false, 4, 103), (9060, 11, false, 2, 99), (9063, 81, false, 4, 119), (9064, 12, false, 2, 132), (9067, 86, false, 4, 149), (9068, 13, false, 2, 158), (9072, 87, false, 4, 176), (9073, 14, false, 2, 165), (9076, 89, false, 4, 182), (9077, 15, false, 2, 176), (9080, 90, false, 4, 191), (9081, 16, false, 2, 185), (9084, 91, false, 4, 195), (9085, 17, false, 2, 190), (9088, 92, false, 4, 200), (9089, 18, false, 2, 202), (9092, 95, false, 4, 213), (9093, 19, false, 2, 213), (9097, 97, false, 4, 217), (9098, 20, false, 2, 223), (9101, 98, false, 4, 225), (9102, 21, false, 2, 227), (9105, 99, false, 4, 229), (9106, 22, false, 2, 231), (9109, 105, false, 4, 233), (9110, 23, false, 3, 23), (9113, 106, false, 5, 14), (9114, 24, false, 3, 30), (9117, 107, false, 5, 18), (9120, 25, false, 3, 39), (9124, 108, false, 5, 22), (9125, 26, false, 3, 50), (9128, 110, false, 5, 28), (9129, 27, false, 3, 66), (9132, 111, false, 5, 40), (9133, 28, false, 3, 70), (9136, 113, false, 5, 44), (9137, 29, false, 3, 78), (9140, 114, false, 5, 52), (9141, 30, false, 3, 82), (9145, 121, false, 5, 78), (9146, 31, false, 3, 106), (9149, 122, false, 5, 82), (9150, 32, false, 3, 116), (9154, 123, false, 5, 86), (9155, 33, false, 3, 125), (9158, 117, false, 5, 56), (9159, 34, false, 3, 133), (9162, 118, false, 5, 63), (9163, 35, false, 3, 137), (9167, 120, false, 5, 67), (9168, 36, false, 3, 141), (9171, 124, false, 5, 91)]
def zMd (z : Nat) : zI := zMI.getD z (yL_law, cL_law, 0, none, 9, true, 0)
def zMLw (q : Nat × Nat × Bool × Nat × Nat) : Cond := match q.2.2.1 with
  | false => Cond.methodLink (zcn (q.1 / 1000)) (q.1 % 1000) (zMd q.2.1).1
  | true => Cond.methodLinkNest (zcn (q.1 / 1000)) (q.1 % 1000) (zMd q.2.1).1 RX5
set_option maxRecDepth 100000 in
theorem zML_eq : zML.map (fun q => some (zMLw q)) = zML.map (fun q => zat q.2.2.2) := rfl
theorem zML_lt : zML.all (fun q => Nat.blt q.2.1 186) = true := by decide +kernel
theorem zMI_len : zMI.length = 187 := by decide +kernel
def zCL : List (Nat × Nat × Nat) := [(28, 1, 180), (4114, 2, 74)]
set_option maxRecDepth 100000 in
theorem zCL_eq : zCL.map (fun q => some (Cond.methodLink (zcn (q.1 / 1000)) (q.1 % 1000) arraycopyName)) = zCL.map (fun q => zat q.2) := rfl
def zXL : List (Nat × Nat × Nat × Nat) := [(103, 0, 2, 113), (1063, 1, 3, 15), (1068, 2, 3, 12)]
def zXn (k : Nat) : MethodName := match k with
  | 0 => Lib.Math.max.name
  | 1 => Lib.Math.min.name
  | _ => Lib.Math.abs.name
set_option maxRecDepth 100000 in
theorem zXL_eq : zXL.map (fun q => some (Cond.methodLink (zcn (q.1 / 1000)) (q.1 % 1000) (zXn q.2.1))) = zXL.map (fun q => zat q.2.2) := rfl
theorem zmx_max : Cond.static Lib.Math.max.name ∈ zAW ∧ Cond.code Lib.Math.max.name Lib.Math.max.code 2 (some .int) ∈ zAW := ⟨zAW_in (q := (2, 114)) rfl rfl, zAW_in (q := (2, 115)) rfl rfl⟩
theorem zmx_min : Cond.static Lib.Math.min.name ∈ zAW ∧ Cond.code Lib.Math.min.name Lib.Math.min.code 2 (some .int) ∈ zAW := ⟨zAW_in (q := (3, 16)) rfl rfl, zAW_in (q := (3, 17)) rfl rfl⟩
theorem zmx_abs : Cond.static Lib.Math.abs.name ∈ zAW ∧ Cond.code Lib.Math.abs.name Lib.Math.abs.code 1 (some .int) ∈ zAW := ⟨zAW_in (q := (3, 13)) rfl rfl, zAW_in (q := (3, 14)) rfl rfl⟩
theorem zmx_ini : Cond.initialized "java/lang/Math" ∈ zAW := zAW_in (q := (1, 10)) rfl rfl
theorem zac_nat : Cond.native arraycopyName ∈ zAW := zAW_in (q := (1, 182)) rfl rfl
theorem zac_stat : Cond.static arraycopyName ∈ zAW := zAW_in (q := (1, 181)) rfl rfl
theorem zac_ini : Cond.initialized "java/lang/System" ∈ zAW := zAW_in (q := (1, 7)) rfl rfl
def zlayp : List (List (Nat × Nat)) := [[(1, 42), (1, 44), (1, 46), (1, 48), (1, 50), (1, 52), (1, 54), (1, 56), (1, 58)], [(1, 108), (1, 110), (1, 112), (1, 114), (1, 116), (1, 118), (1, 120)], [(1, 137), (1, 139), (1, 141), (1, 143)], [(1, 77), (1, 79), (1, 81), (1, 83), (1, 85), (1, 87)], [(1, 152), (1, 154), (1, 156), (1, 158), (1, 160), (1, 162)], [(3, 178), (3, 180), (3, 182), (3, 184), (3, 186), (3, 188), (3, 190), (3, 192), (3, 194), (3, 196), (3, 198), (3, 200), (3, 202), (3, 204), (3, 206), (3, 208), (3, 210), (3, 212), (3, 214), (3, 216), (3, 218), (3, 220), (3, 222), (3, 224), (3, 226), (3, 228), (3, 230)]]
set_option maxRecDepth 100000 in
theorem zlay_0 : (List.range 9).map (fun k => some (u_lay RX0 TX0 k)) = (List.range 9).map (fun k => zat ((zlayp.getD 0 []).getD k (9, 9))) := rfl
theorem zcls_0 : ∀ w ∈ u_ws RX0 TX0 9, w ∈ zAW := by
  intro w hw
  obtain ⟨k, hk, rfl⟩ := List.mem_map.mp hw
  refine zAW_in (zmap zlay_0 k hk) ?_
  unfold u_lay
  split <;> rfl
set_option maxRecDepth 100000 in
theorem zlay_1 : (List.range 7).map (fun k => some (u_lay RX1 TX1 k)) = (List.range 7).map (fun k => zat ((zlayp.getD 1 []).getD k (9, 9))) := rfl
theorem zcls_1 : ∀ w ∈ u_ws RX1 TX1 7, w ∈ zAW := by
  intro w hw
  obtain ⟨k, hk, rfl⟩ := List.mem_map.mp hw
  refine zAW_in (zmap zlay_1 k hk) ?_
  unfold u_lay
  split <;> rfl
set_option maxRecDepth 100000 in
theorem zlay_2 : (List.range 4).map (fun k => some (u_lay RX3 TX3 k)) = (List.range 4).map (fun k => zat ((zlayp.getD 2 []).getD k (9, 9))) := rfl
theorem zcls_2 : ∀ w ∈ u_ws RX3 TX3 4, w ∈ zAW := by
  intro w hw
  obtain ⟨k, hk, rfl⟩ := List.mem_map.mp hw
  refine zAW_in (zmap zlay_2 k hk) ?_
  unfold u_lay
  split <;> rfl
set_option maxRecDepth 100000 in
theorem zlay_3 : (List.range 6).map (fun k => some (u_lay RX4 TX4 k)) = (List.range 6).map (fun k => zat ((zlayp.getD 3 []).getD k (9, 9))) := rfl
theorem zcls_3 : ∀ w ∈ u_ws RX4 TX4 6, w ∈ zAW := by
  intro w hw
  obtain ⟨k, hk, rfl⟩ := List.mem_map.mp hw
  refine zAW_in (zmap zlay_3 k hk) ?_
  unfold u_lay
  split <;> rfl
set_option maxRecDepth 100000 in
theorem zlay_4 : (List.range 6).map (fun k => some (u_lay RX5 TX5 k)) = (List.range 6).map (fun k => zat ((zlayp.getD 4 []).getD k (9, 9))) := rfl
theorem zcls_4 : ∀ w ∈ u_ws RX5 TX5 6, w ∈ zAW := by
  intro w hw
  obtain ⟨k, hk, rfl⟩ := List.mem_map.mp hw
  refine zAW_in (zmap zlay_4 k hk) ?_
  unfold u_lay
  split <;> rfl
set_option maxRecDepth 100000 in
theorem zlay_5 : (List.range 27).map (fun k => some (u_lay RX6 TX6 k)) = (List.range 27).map (fun k => zat ((zlayp.getD 5 []).getD k (9, 9))) := rfl
theorem zcls_5 : ∀ w ∈ u_ws RX6 TX6 27, w ∈ zAW := by
  intro w hw
  obtain ⟨k, hk, rfl⟩ := List.mem_map.mp hw
  refine zAW_in (zmap zlay_5 k hk) ?_
  unfold u_lay
  split <;> rfl
end
section
/-! ===== the blocks, held against the code ===== -/
def zlen : Instr → Nat
  | .iload _ => 2
  | .lload _ => 2
  | .aload _ => 2
  | .istore _ => 2
  | .lstore _ => 2
  | .astore _ => 2
  | .iinc _ _ => 3
  | _ => 1
def zchk (own : Nat) (a : zA) (i : Instr) (len : Nat) : Bool := match a with
  | .inl v => match v with
    | .int v => match i with
      | .iconst n => decide (Int32.ofInt n = v) && Nat.beq len 1
      | .bipush n => decide ((Int8.ofInt n).toInt32 = v) && Nat.beq len 2
      | .sipush n => decide ((Int16.ofInt n).toInt32 = v) && Nat.beq len 3
      | .ldc idx => Nat.beq len 2 && Nat.blt idx 1000 && zKI.any (fun q => Nat.beq q.1 (own * 1000 + idx) && decide (q.2.1 = v))
      | .ldc_w idx => Nat.beq len 3 && Nat.blt idx 1000 && zKI.any (fun q => Nat.beq q.1 (own * 1000 + idx) && decide (q.2.1 = v))
      | _ => false
    | .long v => match i with
      | .lconst n => decide (Int64.ofNat n.val = v) && Nat.beq len 1
      | .ldc2_w idx => Nat.beq len 3 && Nat.blt idx 1000 && zKL.any (fun q => Nat.beq q.1 (own * 1000 + idx) && decide (q.2.1 = v))
      | _ => false
    | _ => false
  | .inr x => match x with
    | .invokeinterface ci k => match i with
      | .getfield idx => Nat.beq len 3 && Nat.blt idx 1000 && zFL.any (fun q => Nat.beq q.1 (own * 1000 + idx) && Nat.beq q.2.1 ci && Nat.beq q.2.2.1 k)
      | _ => false
    | .multianewarray ci k => match i with
      | .putfield idx => Nat.beq len 3 && Nat.blt idx 1000 && zFL.any (fun q => Nat.beq q.1 (own * 1000 + idx) && Nat.beq q.2.1 ci && Nat.beq q.2.2.1 k)
      | _ => false
    | .faload => Nat.beq own 9 && decide (i = .iaload) && Nat.beq len 1
    | .monitorenter => Nat.beq own 9 && decide (i = .arraylength) && Nat.beq len 1
    | x => decide (i = x) && Nat.beq len (zlen x)
def zpcIs (pcs : List Nat) (b : Nat) (t : Int) : Bool := match pcs[b]? with
  | some p => decide (t = (p : Int))
  | none => false
def zswk (pcs : List Nat) (pc : Nat) (lo : Int) (cs : List (Int32 × Nat)) (offs : Array Int) : Bool :=
  (List.range cs.length).all (fun j => match cs[j]? with
    | some q => match offs[j]? with
      | some off => decide (q.1.toInt = lo + (j : Int)) && zpcIs pcs q.2 ((pc : Int) + off)
      | none => false
    | none => false)
def zlsk (pcs : List Nat) (pc : Nat) : List (Int32 × Nat) → List (Int × Int) → Bool
  | [], [] => true
  | q :: r, p :: t => decide (q.1.toInt = p.1) && zpcIs pcs q.2 ((pc : Int) + p.2) && zlsk pcs pc r t
  | _, _ => false
def zchkT (own : Nat) (ret : Option FieldType) (pcs : List Nat) (pc : Nat) (t : zT) (i : Instr) (len : Nat) : Bool := match t with
  | .inl (c, two, bt, bf) => match i with
    | .ifCond c' off => !two && decide (c = c') && Nat.beq len 3 && zpcIs pcs bt ((pc : Int) + off) && zpcIs pcs bf ((pc + 3 : Nat) : Int)
    | .if_icmp c' off => two && decide (c = c') && Nat.beq len 3 && zpcIs pcs bt ((pc : Int) + off) && zpcIs pcs bf ((pc + 3 : Nat) : Int)
    | _ => false
  | .inr (.inl (cs, df)) => match i with
    | .tableswitch d lo hi offs => Nat.beq offs.size cs.length && decide (hi = lo + (cs.length : Int) - 1) && zpcIs pcs df ((pc : Int) + d) && zswk pcs pc lo cs offs
    | .lookupswitch d ps => (ps.toList.zip (ps.toList.drop 1)).all (fun (a, next) => a.1 < next.1) && zpcIs pcs df ((pc : Int) + d) && zlsk pcs pc cs ps.toList
    | _ => false
  | .inr (.inr (tag, a, b)) => match tag with
    | 0 => match i with
      | .goto off => Nat.beq len 3 && zpcIs pcs a ((pc : Int) + off)
      | _ => false
    | 1 => match i with
      | .invokestatic idx => Nat.beq len 3 && Nat.blt idx 1000 && zpcIs pcs b ((pc + 3 : Nat) : Int) && (zMd a).2.2.2.2.2.1 && zML.any (fun q => Nat.beq q.1 (own * 1000 + idx) && Nat.beq q.2.1 a)
      | .invokevirtual idx => Nat.beq len 3 && Nat.blt idx 1000 && zpcIs pcs b ((pc + 3 : Nat) : Int) && !(zMd a).2.2.2.2.2.1 && zML.any (fun q => Nat.beq q.1 (own * 1000 + idx) && Nat.beq q.2.1 a)
      | _ => false
    | 2 => match i with
      | .return_ => Nat.beq len 1 && Nat.beq a 0 && decide (ret = none)
      | .ireturn => Nat.beq len 1 && ((Nat.beq a 1 && decide (ret = some .int)) || (Nat.beq a 3 && decide (ret = some .boolean)))
      | .lreturn => Nat.beq len 1 && Nat.beq a 2 && decide (ret = some .long)
      | _ => false
    | 3 => match i with
      | .invokestatic idx => Nat.beq len 3 && Nat.blt idx 1000 && zpcIs pcs b ((pc + 3 : Nat) : Int) && Nat.ble a 1 && zCL.any (fun q => Nat.beq q.1 (own * 1000 + idx))
      | _ => false
    | 4 => match i with
      | .invokestatic idx => Nat.beq len 3 && Nat.blt idx 1000 && zpcIs pcs b ((pc + 3 : Nat) : Int) && Nat.ble a 2 && zXL.any (fun q => Nat.beq q.1 (own * 1000 + idx) && Nat.beq q.2.1 a)
      | _ => false
    | _ => false
/-- a block that runs into the next one -/
def zfall (t : zT) : Option Nat := match t with
  | .inr (.inr (tag, a, b)) => match tag with
    | 0 => match b with
      | 0 => none
      | _ => some a
    | _ => none
  | _ => none
def zchkL (own : Nat) (ret : Option FieldType) (cc : ByteArray) (pcs : List Nat) (t : zT) : Nat → List zA → Bool
  | pc, [] => match zfall t with
    | some b => zpcIs pcs b (pc : Int)
    | none => match decode cc pc with
      | .ok (i, len) => zchkT own ret pcs pc t i len
      | _ => false
  | pc, a :: as => match decode cc pc with
    | .ok (i, len) => zchk own a i len && zchkL own ret cc pcs t (pc + len) as
    | _ => false
def zchkB (own : Nat) (ret : Option FieldType) (cc : ByteArray) (pcs : List Nat) (B : zB) : Bool := zchkL own ret cc pcs B.2.2 B.1 B.2.1
def zchkM (y : Nat) (bs : List zB) : Bool := bs.all (zchkB (zMd y).2.2.2.2.1 (zMd y).2.2.2.1 (zMd y).2.1 (bs.map (fun B => B.1)))

def zp_C_dig : List zB := [(0, [.inr (.iload_n 1)], .inr (.inr (1, 37, 1))),
  (4, [], .inl (.eq, false, 4, 2)),
  (7, [.inr (.aload_n 0), .inr (.invokeinterface 4 0), .inr (.iload_n 1)], .inr (.inr (1, 128, 3))),
  (15, [], .inr (.inr (0, 5, 0))),
  (18, [.inl (.int (-1))], .inr (.inr (0, 5, 1))),
  (19, [], .inr (.inr (2, 1, 0)))]
def zp_C_fill : List zB := [(0, [.inr (.iload_n 1)], .inr (.inr (1, 37, 1))),
  (4, [], .inl (.eq, false, 4, 2)),
  (7, [.inr (.aload_n 0), .inr (.invokeinterface 4 0), .inr (.iload_n 1)], .inr (.inr (1, 129, 3))),
  (15, [], .inr (.inr (0, 5, 0))),
  (18, [.inl (.int (-1))], .inr (.inr (0, 5, 1))),
  (19, [], .inr (.inr (2, 1, 0)))]
def zp_C_roof : List zB := [(0, [.inr (.iload_n 1)], .inr (.inr (1, 37, 1))),
  (4, [], .inl (.eq, false, 4, 2)),
  (7, [.inr (.aload_n 0), .inr (.invokeinterface 4 0), .inr (.iload_n 1)], .inr (.inr (1, 130, 3))),
  (15, [], .inr (.inr (0, 5, 0))),
  (18, [.inl (.int (-1))], .inr (.inr (0, 5, 1))),
  (19, [], .inr (.inr (2, 1, 0)))]
def zp_C_undo : List zB := [(0, [.inr (.aload_n 0), .inr (.invokeinterface 4 0)], .inr (.inr (1, 134, 1))),
  (7, [], .inr (.inr (2, 1, 0)))]
def zp_C_own : List zB := [(0, [.inr (.iload_n 1)], .inr (.inr (1, 37, 1))),
  (4, [], .inl (.eq, false, 4, 2)),
  (7, [.inr (.iload_n 2)], .inl (.lt, false, 4, 3)),
  (11, [.inr (.iload_n 2), .inl (.int 4)], .inl (.le, true, 5, 4)),
  (16, [.inl (.int (-1))], .inr (.inr (2, 1, 0))),
  (18, [.inr (.aload_n 0), .inr (.invokeinterface 4 0), .inr (.invokeinterface 0 1), .inr (.iload_n 1), .inr .iaload, .inr (.istore_n 3), .inr (.aload_n 0), .inr (.invokeinterface 4 0), .inr (.invokeinterface 0 1), .inr (.iload_n 1), .inr (.iload_n 2), .inr .iastore, .inr (.iload_n 3)], .inr (.inr (2, 1, 0)))]
def zp_C_rate : List zB := [(0, [.inr (.iload_n 1)], .inl (.lt, false, 2, 1)),
  (4, [.inr (.iload_n 1), .inl (.int 99)], .inl (.le, true, 3, 2)),
  (10, [.inl (.int (-1))], .inr (.inr (2, 1, 0))),
  (12, [.inr (.aload_n 0), .inr (.invokeinterface 4 0), .inr (.invokeinterface 0 5), .inr (.istore_n 2), .inr (.aload_n 0), .inr (.invokeinterface 4 0), .inr (.iload_n 1), .inr (.multianewarray 0 5), .inr (.iload_n 2)], .inr (.inr (2, 1, 0)))]
def zp_C_told : List zB := [(0, [.inr (.iload_n 1)], .inr (.inr (1, 37, 1))),
  (4, [], .inl (.ne, false, 3, 2)),
  (7, [.inl (.int (-1))], .inr (.inr (2, 1, 0))),
  (9, [.inr (.iload_n 2)], .inr (.inl ([(0, 4), (1, 5), (2, 10), (3, 11)], 18))),
  (40, [.inr (.aload_n 0), .inr (.invokeinterface 4 0), .inr (.invokeinterface 0 0), .inr (.iload_n 1), .inr .iaload], .inr (.inr (2, 1, 0))),
  (50, [.inr (.aload_n 0), .inr (.invokeinterface 4 0), .inr (.invokeinterface 0 4), .inr (.iload_n 1)], .inr (.inr (1, 153, 6))),
  (61, [], .inl (.eq, false, 8, 7)),
  (64, [.inl (.int 1)], .inr (.inr (0, 9, 0))),
  (68, [.inl (.int 0)], .inr (.inr (0, 9, 1))),
  (69, [], .inr (.inr (2, 1, 0))),
  (70, [.inr (.aload_n 0), .inr (.invokeinterface 4 0), .inr (.invokeinterface 0 1), .inr (.iload_n 1), .inr .iaload], .inr (.inr (2, 1, 0))),
  (80, [.inr (.aload_n 0), .inr (.invokeinterface 4 0), .inr (.invokeinterface 0 2), .inr (.iload_n 1)], .inr (.inr (1, 153, 12))),
  (91, [], .inl (.eq, false, 16, 13)),
  (94, [.inr (.aload_n 0), .inr (.invokeinterface 4 0), .inr (.iload_n 1)], .inr (.inr (1, 138, 14))),
  (102, [], .inr (.inr (1, 154, 15))),
  (105, [], .inr (.inr (0, 17, 0))),
  (108, [.inl (.int (-4))], .inr (.inr (0, 17, 1))),
  (110, [], .inr (.inr (2, 1, 0))),
  (111, [.inl (.int (-1))], .inr (.inr (2, 1, 0)))]
def zp_C_type : List zB := [(0, [.inr (.iload_n 1), .inl (.int 32)], .inl (.lt, true, 2, 1)),
  (6, [.inr (.iload_n 1), .inl (.int 126)], .inl (.le, true, 3, 2)),
  (12, [.inl (.int (-1))], .inr (.inr (2, 1, 0))),
  (14, [.inr (.aload_n 0), .inr (.invokeinterface 4 3), .inr (.iload_n 1), .inr .i2c], .inr (.inr (1, 174, 4))),
  (23, [], .inr (.inr (2, 1, 0)))]
def zp_C_ground : List zB := [(0, [.inr (.aload_n 0), .inr (.invokeinterface 4 3)], .inr (.inr (1, 181, 1))),
  (7, [.inr (.istore_n 1), .inr (.aload_n 0), .inr (.invokeinterface 4 3)], .inr (.inr (1, 175, 2))),
  (15, [.inr (.iload_n 1)], .inl (.eq, false, 4, 3)),
  (19, [.inr (.iload_n 1)], .inr (.inr (2, 1, 0))),
  (21, [.inr (.aload_n 0), .inr (.invokeinterface 4 0), .inr (.aload_n 0), .inr (.invokeinterface 4 3), .inr (.invokeinterface 3 3), .inr (.aload_n 0), .inr (.invokeinterface 4 3), .inr (.invokeinterface 3 4)], .inr (.inr (1, 127, 5))),
  (42, [.inr (.aload_n 0), .inr (.invokeinterface 4 0), .inr (.invokeinterface 0 2)], .inr (.inr (1, 158, 6))),
  (52, [], .inr (.inr (2, 1, 0)))]
def zp_C_owners : List zB := [(0, [.inr (.aload_n 0), .inr (.invokeinterface 4 3)], .inr (.inr (1, 182, 1))),
  (7, [.inr (.istore_n 1), .inr (.aload_n 0), .inr (.invokeinterface 4 3)], .inr (.inr (1, 175, 2))),
  (15, [.inr (.iload_n 1)], .inl (.eq, false, 4, 3)),
  (19, [.inr (.iload_n 1)], .inr (.inr (2, 1, 0))),
  (21, [.inr (.aload_n 0), .inr (.invokeinterface 4 3), .inr (.invokeinterface 3 3), .inl (.int 0), .inr (.aload_n 0), .inr (.invokeinterface 4 0), .inr (.invokeinterface 0 1), .inl (.int 0), .inl (.int 36)], .inr (.inr (3, 0, 5))),
  (42, [.inl (.int 36), .inr (.aload_n 0), .inr (.invokeinterface 4 0), .inl (.int 4)], .inr (.inr (1, 142, 6))),
  (52, [], .inr (.inr (1, 185, 7))),
  (55, [.inr .isub], .inr (.inr (2, 1, 0)))]
def zp_C_day : List zB := [(0, [.inr (.aload_n 0), .inr (.invokeinterface 4 3)], .inr (.inr (1, 183, 1))),
  (7, [.inr (.istore_n 1), .inr (.aload_n 0), .inr (.invokeinterface 4 3)], .inr (.inr (1, 175, 2))),
  (15, [.inr (.iload_n 1)], .inl (.eq, false, 4, 3)),
  (19, [.inr (.iload_n 1)], .inr (.inr (2, 1, 0))),
  (21, [.inl (.int 0), .inr (.istore_n 2)], .inr (.inr (0, 5, 1))),
  (23, [.inr (.iload_n 2), .inr (.aload_n 0), .inr (.invokeinterface 4 3), .inr (.invokeinterface 3 5)], .inl (.ge, true, 9, 6)),
  (34, [.inr (.aload_n 0), .inr (.invokeinterface 4 0), .inr (.aload_n 0), .inr (.invokeinterface 4 3), .inr (.invokeinterface 3 3), .inr (.iload_n 2), .inr .iaload], .inr (.inr (1, 131, 7))),
  (50, [], .inl (.eq, false, 9, 8)),
  (53, [.inr (.iinc 2 1)], .inr (.inr (0, 5, 0))),
  (59, [.inr (.iload_n 2)], .inr (.inr (2, 1, 0)))]
def zp_C_count : List zB := [(0, [.inr (.iload_n 1)], .inr (.inl ([(0, 1), (1, 3), (2, 5), (3, 7), (4, 8), (5, 9), (6, 11)], 13))),
  (44, [.inr (.aload_n 0), .inr (.invokeinterface 4 0), .inr (.invokeinterface 0 2)], .inr (.inr (1, 158, 2))),
  (54, [], .inr (.inr (2, 1, 0))),
  (55, [.inr (.aload_n 0), .inr (.invokeinterface 4 0), .inr (.invokeinterface 0 2)], .inr (.inr (1, 185, 4))),
  (65, [], .inr (.inr (2, 1, 0))),
  (66, [.inr (.aload_n 0), .inr (.invokeinterface 4 0), .inr (.aload_n 0), .inr (.invokeinterface 4 0), .inr (.invokeinterface 0 2), .inr (.aload_n 0), .inr (.invokeinterface 4 0), .inr (.invokeinterface 0 3)], .inr (.inr (1, 141, 6))),
  (87, [], .inr (.inr (2, 1, 0))),
  (88, [.inr (.aload_n 0), .inr (.invokeinterface 4 0), .inr (.invokeinterface 0 8)], .inr (.inr (2, 1, 0))),
  (96, [.inr (.aload_n 0), .inr (.invokeinterface 4 0), .inr (.invokeinterface 0 5)], .inr (.inr (2, 1, 0))),
  (104, [.inr (.aload_n 0), .inr (.invokeinterface 4 0), .inr (.invokeinterface 0 4)], .inr (.inr (1, 185, 10))),
  (114, [], .inr (.inr (2, 1, 0))),
  (115, [.inr (.aload_n 0), .inr (.invokeinterface 4 0)], .inr (.inr (1, 137, 12))),
  (122, [], .inr (.inr (2, 1, 0))),
  (123, [.inl (.int (-1))], .inr (.inr (2, 1, 0)))]
def zp_C_hole : List zB := [(0, [.inr (.iload_n 1)], .inr (.inr (1, 37, 1))),
  (4, [], .inl (.eq, false, 4, 2)),
  (7, [.inr (.iload_n 2)], .inl (.lt, false, 4, 3)),
  (11, [.inr (.iload_n 2), .inl (.int 7)], .inl (.le, true, 5, 4)),
  (17, [.inl (.int (-1))], .inr (.inr (2, 1, 0))),
  (19, [.inr (.aload_n 0), .inr (.invokeinterface 4 0), .inr (.iload_n 1)], .inr (.inr (1, 138, 6))),
  (27, [.inr (.lstore_n 3), .inr (.lload_n 3), .inl (.long 0), .inr .lcmp], .inl (.ne, false, 8, 7)),
  (34, [.inl (.int (-2))], .inr (.inr (2, 1, 0))),
  (37, [.inr (.iload_n 2)], .inr (.inl ([(0, 9), (1, 11), (2, 13), (3, 15), (4, 17), (5, 20), (6, 22)], 24))),
  (80, [.inr (.lload_n 3)], .inr (.inr (1, 185, 10))),
  (84, [], .inr (.inr (2, 1, 0))),
  (85, [.inr (.aload_n 0), .inr (.invokeinterface 4 0), .inr (.lload_n 3), .inr (.aload_n 0), .inr (.invokeinterface 4 0), .inr (.invokeinterface 0 3)], .inr (.inr (1, 139, 12))),
  (100, [], .inr (.inr (2, 1, 0))),
  (101, [.inr (.aload_n 0), .inr (.invokeinterface 4 0), .inr (.lload_n 3), .inr (.aload_n 0), .inr (.invokeinterface 4 0), .inr (.invokeinterface 0 3)], .inr (.inr (1, 140, 14))),
  (116, [], .inr (.inr (2, 1, 0))),
  (117, [.inr (.lload_n 3)], .inr (.inr (1, 160, 16))),
  (121, [], .inr (.inr (2, 1, 0))),
  (122, [.inr (.lload_n 3)], .inr (.inr (1, 159, 18))),
  (126, [], .inr (.inr (1, 185, 19))),
  (129, [], .inr (.inr (2, 1, 0))),
  (130, [.inr (.aload_n 0), .inr (.invokeinterface 4 0), .inr (.lload_n 3)], .inr (.inr (1, 143, 21))),
  (138, [], .inr (.inr (2, 1, 0))),
  (139, [.inr (.lload_n 3), .inr (.aload_n 0), .inr (.invokeinterface 4 0), .inr (.invokeinterface 0 2)], .inr (.inr (1, 162, 23))),
  (150, [], .inr (.inr (2, 1, 0))),
  (151, [.inr (.lload_n 3)], .inr (.inr (1, 163, 25))),
  (155, [], .inr (.inr (2, 1, 0)))]
def zp_C_cells : List zB := [(0, [.inr (.iload_n 1)], .inr (.inr (1, 37, 1))),
  (4, [], .inl (.eq, false, 4, 2)),
  (7, [.inr (.iload_n 2)], .inl (.lt, false, 4, 3)),
  (11, [.inr (.iload_n 2), .inl (.int 2)], .inl (.le, true, 5, 4)),
  (16, [.inl (.long (-1))], .inr (.inr (2, 2, 0))),
  (20, [.inr (.aload_n 0), .inr (.invokeinterface 4 0), .inr (.iload_n 1)], .inr (.inr (1, 138, 6))),
  (28, [.inr (.lstore_n 3), .inr (.lload_n 3), .inl (.long 0), .inr .lcmp], .inl (.ne, false, 8, 7)),
  (35, [.inl (.long (-2))], .inr (.inr (2, 2, 0))),
  (39, [.inr (.iload_n 2)], .inl (.ne, false, 10, 9)),
  (43, [.inr (.lload_n 3)], .inr (.inr (2, 2, 0))),
  (45, [.inr (.iload_n 2), .inl (.int 1)], .inl (.ne, true, 13, 11)),
  (50, [.inr (.lload_n 3)], .inr (.inr (1, 159, 12))),
  (54, [], .inr (.inr (0, 14, 0))),
  (57, [.inr (.lload_n 3)], .inr (.inr (1, 161, 14))),
  (61, [], .inr (.inr (2, 2, 0)))]
def zp_C_part : List zB := [(0, [.inr (.iload_n 1)], .inr (.inr (1, 37, 1))),
  (4, [], .inl (.eq, false, 4, 2)),
  (7, [.inr (.iload_n 2)], .inr (.inr (1, 38, 3))),
  (11, [], .inl (.ne, false, 5, 4)),
  (14, [.inl (.int (-1))], .inr (.inr (2, 1, 0))),
  (16, [.inr (.aload_n 0), .inr (.invokeinterface 4 0), .inr (.iload_n 1)], .inr (.inr (1, 138, 6))),
  (24, [.inr (.lstore_n 3), .inr (.lload_n 3), .inl (.long 0), .inr .lcmp], .inl (.ne, false, 8, 7)),
  (31, [.inl (.int (-2))], .inr (.inr (0, 9, 0))),
  (36, [.inr (.aload_n 0), .inr (.invokeinterface 4 0), .inr (.lload_n 3), .inr (.iload_n 2)], .inr (.inr (1, 144, 9))),
  (45, [], .inr (.inr (2, 1, 0)))]
def zp_C_pays : List zB := [(0, [.inr (.iload_n 1)], .inr (.inr (1, 38, 1))),
  (4, [], .inl (.eq, false, 4, 2)),
  (7, [.inr (.aload_n 0), .inr (.invokeinterface 4 0), .inr (.iload_n 1)], .inr (.inr (1, 145, 3))),
  (15, [], .inr (.inr (0, 5, 0))),
  (18, [.inl (.int (-1))], .inr (.inr (0, 5, 1))),
  (19, [], .inr (.inr (2, 1, 0)))]
def zp_C_worth : List zB := [(0, [.inr (.iload_n 1)], .inr (.inr (1, 38, 1))),
  (4, [], .inl (.ne, false, 3, 2)),
  (7, [.inl (.int (-100001))], .inr (.inr (2, 1, 0))),
  (10, [.inr (.aload_n 0), .inr (.invokeinterface 4 0), .inr (.invokeinterface 0 2), .inr (.aload_n 0), .inr (.invokeinterface 4 0), .inr (.iload_n 1)], .inr (.inr (1, 142, 4))),
  (25, [.inl (.long (-1)), .inr .lxor, .inr .land, .inr (.lstore_n 2), .inr (.aload_n 0), .inr (.invokeinterface 4 0), .inr (.aload_n 0), .inr (.invokeinterface 4 0), .inr (.invokeinterface 0 2), .inr (.aload_n 0), .inr (.invokeinterface 4 0), .inr (.invokeinterface 0 3)], .inr (.inr (1, 141, 5))),
  (52, [.inr (.aload_n 0), .inr (.invokeinterface 4 0), .inr (.lload_n 2), .inr (.aload_n 0), .inr (.invokeinterface 4 0), .inr (.invokeinterface 0 3)], .inr (.inr (1, 141, 6))),
  (67, [.inr .isub], .inr (.inr (2, 1, 0)))]
def zp_C_filled : List zB := [(0, [.inr (.iload_n 1)], .inl (.lt, false, 4, 1)),
  (4, [.inr (.iload_n 1), .inl (.int 9999)], .inl (.gt, true, 4, 2)),
  (11, [.inr (.iload_n 2), .inl (.int (-1))], .inl (.lt, true, 4, 3)),
  (16, [.inr (.iload_n 2), .inl (.int 1)], .inl (.le, true, 5, 4)),
  (21, [.inl (.int (-1))], .inr (.inr (2, 1, 0))),
  (23, [.inr (.aload_n 0), .inr (.invokeinterface 4 0), .inr (.iload_n 1)], .inr (.inr (1, 146, 6))),
  (31, [.inr (.iload_n 2)], .inr (.inr (1, 43, 7))),
  (35, [], .inr (.inr (2, 1, 0)))]
def zp_C_split : List zB := [(0, [.inr (.iload_n 1)], .inr (.inr (1, 37, 1))),
  (4, [], .inl (.eq, false, 4, 2)),
  (7, [.inr (.iload_n 2), .inl (.int (-1))], .inl (.lt, true, 4, 3)),
  (12, [.inr (.iload_n 2), .inl (.int 1)], .inl (.le, true, 5, 4)),
  (17, [.inl (.int (-1))], .inr (.inr (2, 1, 0))),
  (19, [.inr (.aload_n 0), .inr (.invokeinterface 4 0), .inr (.iload_n 1)], .inr (.inr (1, 138, 6))),
  (27, [.inr (.lstore_n 3), .inr (.lload_n 3), .inl (.long 0), .inr .lcmp], .inl (.ne, false, 8, 7)),
  (34, [.inl (.int (-2))], .inr (.inr (0, 10, 0))),
  (39, [.inr (.lload_n 3)], .inr (.inr (1, 167, 9))),
  (43, [.inr (.iload_n 2)], .inr (.inr (1, 43, 10))),
  (47, [], .inr (.inr (2, 1, 0)))]
def zp_C_dug : List zB := [(0, [.inr (.iload_n 1)], .inr (.inr (1, 37, 1))),
  (4, [], .inl (.eq, false, 6, 2)),
  (7, [.inr (.iload_n 2)], .inr (.inr (1, 37, 3))),
  (11, [], .inl (.eq, false, 6, 4)),
  (14, [.inr (.iload_n 3), .inl (.int (-1))], .inl (.lt, true, 6, 5)),
  (19, [.inr (.iload_n 3), .inl (.int 10)], .inl (.lt, true, 7, 6)),
  (25, [.inl (.int (-1))], .inr (.inr (2, 1, 0))),
  (27, [.inr (.aload_n 0), .inr (.invokeinterface 4 0), .inr (.iload_n 1)], .inr (.inr (1, 138, 8))),
  (35, [.inr (.lstore 4), .inr (.aload_n 0), .inr (.invokeinterface 4 0), .inr (.iload_n 2)], .inr (.inr (1, 138, 9))),
  (45, [.inr (.lstore 6), .inr (.lload 4), .inl (.long 0), .inr .lcmp], .inl (.eq, false, 12, 10)),
  (54, [.inr (.lload 6), .inl (.long 0), .inr .lcmp], .inl (.eq, false, 12, 11)),
  (61, [.inr (.lload 4), .inr (.lload 6), .inr .lcmp], .inl (.ne, false, 13, 12)),
  (69, [.inl (.int (-2))], .inr (.inr (2, 1, 0))),
  (72, [.inr (.lload 4), .inr (.lload 6), .inr (.aload_n 0), .inr (.invokeinterface 4 0), .inr (.invokeinterface 0 2)], .inr (.inr (1, 169, 14))),
  (86, [.inr (.iload_n 3)], .inr (.inr (1, 43, 15))),
  (90, [], .inr (.inr (2, 1, 0)))]
def zp_C_loophole : List zB := [(0, [.inl (.int (-4)), .inr (.istore_n 1), .inr (.aload_n 0), .inr (.invokeinterface 4 0), .inr (.aload_n 0), .inr (.invokeinterface 4 0), .inr (.invokeinterface 0 2), .inr (.aload_n 0), .inr (.invokeinterface 4 0), .inr (.invokeinterface 0 3)], .inr (.inr (1, 141, 1))),
  (24, [.inr (.istore_n 2), .inl (.int 0), .inr (.istore_n 3)], .inr (.inr (0, 2, 1))),
  (27, [.inr (.iload_n 3), .inl (.int 36)], .inl (.ge, true, 10, 3)),
  (33, [.inr (.aload_n 0), .inr (.invokeinterface 4 0), .inr (.invokeinterface 0 2), .inr (.iload_n 3)], .inr (.inr (1, 153, 4))),
  (44, [], .inl (.eq, false, 6, 5)),
  (47, [], .inr (.inr (0, 9, 0))),
  (50, [.inr (.aload_n 0), .inr (.invokeinterface 4 0), .inr (.aload_n 0), .inr (.invokeinterface 4 0), .inr (.invokeinterface 0 2), .inl (.long 1), .inr (.iload_n 3), .inr .lshl, .inr .lor, .inr (.aload_n 0), .inr (.invokeinterface 4 0), .inr (.invokeinterface 0 3)], .inr (.inr (1, 141, 7))),
  (75, [.inr (.istore 4), .inr (.iload 4), .inr (.iload_n 2)], .inl (.ge, true, 9, 8)),
  (83, [.inr (.iload 4), .inr (.istore_n 2), .inr (.iload_n 3), .inr (.istore_n 1)], .inr (.inr (0, 9, 1))),
  (88, [.inr (.iinc 3 1)], .inr (.inr (0, 2, 0))),
  (94, [.inr (.iload_n 1)], .inr (.inr (2, 1, 0)))]
def zp_C_roofs : List zB := [(0, [.inr (.iload_n 1)], .inr (.inr (1, 37, 1))),
  (4, [], .inl (.ne, false, 3, 2)),
  (7, [.inl (.int (-1))], .inr (.inr (2, 1, 0))),
  (9, [.inr (.aload_n 0), .inr (.invokeinterface 4 0), .inr (.iload_n 1)], .inr (.inr (1, 138, 4))),
  (17, [.inr (.lstore_n 2), .inr (.lload_n 2), .inl (.long 0), .inr .lcmp], .inl (.ne, false, 6, 5)),
  (24, [.inl (.int (-2))], .inr (.inr (0, 7, 0))),
  (29, [.inr (.lload_n 2), .inr (.aload_n 0), .inr (.invokeinterface 4 0), .inr (.invokeinterface 0 4), .inl (.long (-1)), .inr .lxor, .inr .land], .inr (.inr (1, 185, 7))),
  (45, [], .inr (.inr (2, 1, 0)))]
def zp_C_round : List zB := [(0, [.inr (.iload_n 1)], .inr (.inr (1, 37, 1))),
  (4, [], .inl (.eq, false, 4, 2)),
  (7, [.inr (.iload_n 2), .inl (.int (-1))], .inl (.lt, true, 4, 3)),
  (12, [.inr (.iload_n 2), .inl (.int 8)], .inl (.lt, true, 5, 4)),
  (18, [.inl (.int (-1))], .inr (.inr (2, 1, 0))),
  (20, [.inr (.aload_n 0), .inr (.invokeinterface 4 0), .inr (.invokeinterface 0 2)], .inr (.inr (1, 158, 6))),
  (30, [.inr (.istore_n 3), .inr (.iload_n 3), .inl (.int 8)], .inl (.le, true, 8, 7)),
  (37, [.inl (.int (-3))], .inr (.inr (2, 1, 0))),
  (40, [.inr (.iload_n 2), .inr (.iload_n 3)], .inl (.lt, true, 10, 9)),
  (45, [.inl (.int (-4))], .inr (.inr (2, 1, 0))),
  (48, [.inr (.aload_n 0), .inr (.invokeinterface 4 5), .inr (.iload_n 1), .inr (.aload_n 0), .inr (.invokeinterface 4 0), .inr (.invokeinterface 0 2)], .inr (.inr (1, 148, 11))),
  (63, [.inr (.iload_n 2)], .inl (.ge, false, 13, 12)),
  (67, [.inr (.aload_n 0), .inr (.invokeinterface 4 5), .inr (.invokeinterface 1 6)], .inr (.inr (0, 14, 0))),
  (77, [.inr (.aload_n 0), .inr (.invokeinterface 4 5), .inr (.invokeinterface 1 4), .inr (.iload_n 2), .inr .iaload], .inr (.inr (0, 14, 1))),
  (86, [], .inr (.inr (2, 1, 0)))]
def zp_C_border : List zB := [(0, [.inr (.iload_n 1)], .inl (.lt, false, 2, 1)),
  (4, [.inr (.iload_n 1), .inl (.int 1)], .inl (.le, true, 3, 2)),
  (9, [.inl (.int (-1))], .inr (.inr (2, 1, 0))),
  (11, [.inr (.aload_n 0), .inr (.invokeinterface 4 0), .inr (.invokeinterface 0 2), .inl (.long 0), .inr .lcmp], .inl (.ne, false, 5, 4)),
  (23, [.inl (.int (-4))], .inr (.inr (2, 1, 0))),
  (26, [.inr (.aload_n 0), .inr (.invokeinterface 4 0), .inr (.invokeinterface 0 2)], .inr (.inr (1, 164, 6))),
  (36, [.inr (.lstore_n 2), .inr (.iload_n 1)], .inl (.ne, false, 9, 7)),
  (41, [.inr (.lload_n 2)], .inr (.inr (1, 154, 8))),
  (45, [], .inr (.inr (0, 10, 0))),
  (48, [.inr (.lload_n 2)], .inr (.inr (1, 160, 10))),
  (52, [], .inr (.inr (2, 1, 0)))]
def zp_C_cut : List zB := [(0, [.inr (.iload_n 1)], .inr (.inr (1, 37, 1))),
  (4, [], .inl (.ne, false, 3, 2)),
  (7, [.inl (.int (-1))], .inr (.inr (2, 1, 0))),
  (9, [.inr (.aload_n 0), .inr (.invokeinterface 4 0), .inr (.iload_n 1)], .inr (.inr (1, 138, 4))),
  (17, [.inr (.lstore_n 2), .inr (.lload_n 2), .inl (.long 0), .inr .lcmp], .inl (.ne, false, 6, 5)),
  (24, [.inl (.int (-2))], .inr (.inr (0, 7, 0))),
  (29, [.inr (.lload_n 2), .inr (.aload_n 0), .inr (.invokeinterface 4 0), .inr (.invokeinterface 0 2)], .inr (.inr (1, 165, 7))),
  (40, [], .inr (.inr (2, 1, 0)))]
def zp_C_books : List zB := [(0, [.inr (.lload_n 1), .inl (.long (-68719476736)), .inr .land, .inl (.long 0), .inr .lcmp], .inl (.ne, false, 3, 1)),
  (10, [.inr (.lload_n 1)], .inr (.inr (1, 185, 2))),
  (14, [.inl (.int 6)], .inl (.le, true, 4, 3)),
  (19, [.inl (.long (-1))], .inr (.inr (2, 2, 0))),
  (23, [.inr (.iload_n 3), .inl (.int (-1))], .inl (.lt, true, 10, 5)),
  (28, [.inr (.iload_n 3), .inl (.int 36)], .inl (.gt, true, 10, 6)),
  (34, [.inr (.iload 4), .inl (.int (-1))], .inl (.lt, true, 10, 7)),
  (40, [.inr (.iload 4), .inl (.int 9999)], .inl (.gt, true, 10, 8)),
  (48, [.inr (.iload 5)], .inl (.lt, false, 10, 9)),
  (53, [.inr (.iload 5), .inl (.int 3)], .inl (.le, true, 11, 10)),
  (59, [.inl (.long (-1))], .inr (.inr (2, 2, 0))),
  (63, [.inl (.int 0), .inr (.istore 6), .inl (.long 0), .inr (.lstore 7), .inr (.lload_n 1), .inr (.lstore 9), .inl (.long 0), .inr (.lstore 11), .inl (.long 0), .inr (.lstore 13), .inl (.int 0), .inr (.istore 15)], .inr (.inr (0, 12, 1))),
  (81, [.inr (.iload 15), .inl (.int 64)], .inl (.ge, true, 22, 13)),
  (88, [.inr (.aload_n 0), .inr (.invokeinterface 4 0), .inr (.lload_n 1), .inr (.lload 13), .inr (.iload_n 3), .inr (.iload 4)], .inr (.inr (1, 147, 14))),
  (101, [], .inl (.eq, false, 19, 15)),
  (104, [.inr (.iload 6)], .inl (.ne, false, 17, 16)),
  (109, [.inr (.lload 13)], .inr (.inr (0, 18, 0))),
  (114, [.inr (.lload 7)], .inr (.inr (0, 18, 1))),
  (116, [.inr (.lstore 7), .inr (.iinc 6 1), .inr (.lload 9), .inr (.lload 13), .inr .land, .inr (.lstore 9), .inr (.lload 11), .inr (.lload 13), .inr .lor, .inr (.lstore 11)], .inr (.inr (0, 19, 1))),
  (135, [.inr (.lload 13), .inr (.lload_n 1), .inr .lsub, .inr (.lload_n 1), .inr .land, .inr (.lstore 13), .inr (.lload 13), .inl (.long 0), .inr .lcmp], .inl (.ne, false, 21, 20)),
  (150, [], .inr (.inr (0, 22, 0))),
  (153, [.inr (.iinc 15 1)], .inr (.inr (0, 12, 0))),
  (159, [.inr (.iload 5)], .inl (.ne, false, 24, 23)),
  (164, [.inr (.iload 6), .inr .i2l], .inr (.inr (2, 2, 0))),
  (168, [.inr (.iload 6)], .inl (.ne, false, 26, 25)),
  (173, [.inl (.long (-4))], .inr (.inr (2, 2, 0))),
  (177, [.inr (.iload 5), .inl (.int 1)], .inl (.ne, true, 28, 27)),
  (183, [.inr (.lload 7)], .inr (.inr (2, 2, 0))),
  (186, [.inr (.iload 5), .inl (.int 2)], .inl (.ne, true, 30, 29)),
  (192, [.inr (.lload 9)], .inr (.inr (0, 31, 0))),
  (197, [.inr (.lload_n 1), .inr (.lload 11), .inl (.long (-1)), .inr .lxor, .inr .land], .inr (.inr (0, 31, 1))),
  (205, [], .inr (.inr (2, 2, 0)))]
def zp_C_lots : List zB := [(0, [.inr (.iload_n 1), .inl (.int 1)], .inl (.lt, true, 2, 1)),
  (5, [.inr (.iload_n 1), .inl (.int 99)], .inl (.le, true, 3, 2)),
  (11, [.inl (.int (-1))], .inr (.inr (2, 1, 0))),
  (13, [.inl (.int 0), .inr (.istore_n 2), .inl (.int 0), .inr (.istore_n 3)], .inr (.inr (0, 4, 1))),
  (17, [.inr (.iload_n 3), .inr (.iload_n 1)], .inl (.ge, true, 7, 5)),
  (22, [.inr (.iload_n 2), .inr (.aload_n 0), .inr (.invokeinterface 4 0)], .inr (.inr (1, 136, 6))),
  (30, [.inr .iadd, .inr (.istore_n 2), .inr (.iinc 3 1)], .inr (.inr (0, 4, 0))),
  (38, [.inr (.aload_n 0), .inr (.invokeinterface 4 0)], .inr (.inr (1, 133, 8))),
  (45, [.inr (.iload_n 2)], .inr (.inr (2, 1, 0)))]
def zp_C_seed : List zB := [(0, [.inr (.iload_n 1)], .inl (.ge, false, 2, 1)),
  (4, [.inl (.int (-1))], .inr (.inr (2, 1, 0))),
  (6, [.inr (.aload_n 0), .inr (.invokeinterface 4 0), .inr (.invokeinterface 0 6), .inr (.istore_n 2), .inr (.aload_n 0), .inr (.invokeinterface 4 0), .inr (.iload_n 1), .inr (.multianewarray 0 6), .inr (.iload_n 2)], .inr (.inr (2, 1, 0)))]
def zp_C_image : List zB := [(0, [.inr (.aload_n 0), .inr (.invokeinterface 4 1), .inr (.aload_n 0), .inr (.invokeinterface 4 0)], .inr (.inr (1, 125, 1))),
  (11, [.inr (.aload_n 0), .inl (.int 1), .inr (.multianewarray 4 2), .inl (.int 1)], .inr (.inr (2, 1, 0)))]
def zp_C_restore : List zB := [(0, [.inr (.aload_n 0), .inr (.invokeinterface 4 2)], .inl (.ne, false, 2, 1)),
  (7, [.inl (.int (-4))], .inr (.inr (2, 1, 0))),
  (10, [.inr (.aload_n 0), .inr (.invokeinterface 4 0), .inr (.aload_n 0), .inr (.invokeinterface 4 1)], .inr (.inr (1, 125, 3))),
  (21, [.inl (.int 1)], .inr (.inr (2, 1, 0)))]
def zp_C_lay : List zB := [(0, [.inr (.iload_n 1)], .inr (.inr (1, 37, 1))),
  (4, [], .inl (.eq, false, 4, 2)),
  (7, [.inr (.iload 5), .inl (.int 1)], .inl (.lt, true, 4, 3)),
  (13, [.inr (.iload 5), .inl (.int 36), .inr (.iload_n 1), .inr .isub], .inl (.le, true, 5, 4)),
  (22, [.inl (.int (-1))], .inr (.inr (2, 1, 0))),
  (24, [.inr (.aload_n 0), .inr (.iload_n 2), .inr (.iload_n 3), .inr (.iload 4), .inr (.iload 5)], .inr (.inr (1, 41, 6))),
  (34, [.inr (.istore 6), .inr (.iload 6)], .inl (.eq, false, 8, 7)),
  (41, [.inr (.iload 6)], .inr (.inr (2, 1, 0))),
  (44, [.inr (.aload_n 0), .inr (.invokeinterface 4 4), .inr (.iload_n 2), .inr .aaload, .inr (.astore 7), .inr (.aload 7), .inr (.iload 4), .inr (.iload 5)], .inr (.inr (1, 173, 9))),
  (61, [], .inl (.ne, false, 11, 10)),
  (64, [.inl (.int (-2))], .inr (.inr (2, 1, 0))),
  (67, [.inl (.int 0), .inr (.istore 8)], .inr (.inr (0, 12, 1))),
  (70, [.inr (.iload 8), .inr (.iload 5)], .inl (.ge, true, 15, 13)),
  (77, [.inr (.aload_n 0), .inr (.invokeinterface 4 0), .inr (.iload_n 1), .inr (.iload 8), .inr .iadd, .inr (.aload 7), .inr (.invokeinterface 2 0), .inr (.iload 4), .inr (.iload 8), .inr .iadd, .inr .laload, .inr .l2i], .inr (.inr (1, 126, 14))),
  (100, [.inr (.iinc 8 1)], .inr (.inr (0, 12, 0))),
  (106, [.inr (.aload_n 0), .inr (.invokeinterface 4 0)], .inr (.inr (1, 133, 16))),
  (113, [.inr (.iload 5)], .inr (.inr (2, 1, 0)))]
def zp_C_film : List zB := [(0, [.inr (.aload_n 0), .inr (.invokeinterface 4 0), .inr (.invokeinterface 0 2)], .inr (.inr (1, 158, 1))),
  (10, [.inr (.istore 4), .inr (.aload_n 0), .inr (.iload_n 1), .inr (.iload_n 2), .inr (.iload_n 3), .inr (.iload 4)], .inr (.inr (1, 41, 2))),
  (21, [.inr (.istore 5), .inr (.iload 5)], .inl (.eq, false, 4, 3)),
  (28, [.inr (.iload 5)], .inr (.inr (2, 1, 0))),
  (31, [.inr (.aload_n 0), .inr (.invokeinterface 4 0), .inr (.invokeinterface 0 2), .inr (.lstore 6), .inl (.int 0), .inr (.istore 8)], .inr (.inr (0, 5, 1))),
  (43, [.inr (.iload 8), .inr (.iload 4)], .inl (.ge, true, 10, 6)),
  (50, [.inr (.lload 6)], .inr (.inr (1, 157, 7))),
  (55, [.inr (.lstore 9), .inr (.aload_n 0), .inr (.invokeinterface 4 4), .inr (.iload_n 1), .inr .aaload, .inr (.iload_n 3), .inr (.iload 8), .inr .iadd, .inr (.aload_n 0), .inr (.invokeinterface 4 0), .inr (.lload 9), .inr (.aload_n 0), .inr (.invokeinterface 4 0), .inr (.invokeinterface 0 3)], .inr (.inr (1, 140, 8))),
  (83, [.inr .i2l], .inr (.inr (1, 172, 9))),
  (87, [.inr (.lload 6), .inr (.lload 9), .inl (.long (-1)), .inr .lxor, .inr .land, .inr (.lstore 6), .inr (.iinc 8 1)], .inr (.inr (0, 5, 0))),
  (104, [.inr (.iload 4)], .inr (.inr (2, 1, 0)))]
def zp_C_miscounted : List zB := [(0, [.inr (.iload 4), .inl (.int 1)], .inl (.lt, true, 2, 1)),
  (6, [.inr (.iload 4), .inl (.int 12)], .inl (.le, true, 3, 2)),
  (13, [.inl (.int (-1))], .inr (.inr (2, 1, 0))),
  (15, [.inr (.aload_n 0), .inr (.iload_n 1), .inr (.iload_n 2), .inr (.iload_n 3), .inl (.int 2), .inr (.iload 4), .inr .imul], .inr (.inr (1, 41, 4))),
  (26, [.inr (.istore 5), .inr (.iload 5)], .inl (.eq, false, 6, 5)),
  (33, [.inr (.iload 5)], .inr (.inr (2, 1, 0))),
  (36, [.inr (.aload_n 0), .inr (.invokeinterface 4 4), .inr (.iload_n 1), .inr .aaload, .inr (.invokeinterface 2 0), .inr (.astore 6), .inl (.int 0), .inr (.istore 7)], .inr (.inr (0, 7, 1))),
  (50, [.inr (.iload 7), .inr (.iload 4)], .inl (.ge, true, 12, 8)),
  (57, [.inr (.iload_n 3), .inl (.int 2), .inr (.iload 7), .inr .imul, .inr .iadd, .inr (.istore 8), .inr (.aload_n 0), .inr (.aload 6), .inr (.iload 8), .inr .laload, .inr (.aload 6), .inr (.iload 8), .inl (.int 1), .inr .iadd, .inr .laload], .inr (.inr (1, 42, 9))),
  (81, [], .inl (.ne, false, 11, 10)),
  (84, [.inr (.iload 7)], .inr (.inr (2, 1, 0))),
  (87, [.inr (.iinc 7 1)], .inr (.inr (0, 7, 0))),
  (93, [.inl (.int (-4))], .inr (.inr (2, 1, 0)))]
def zp_C_sheet : List zB := [(0, [.inr (.iload_n 1)], .inr (.inr (1, 39, 1))),
  (4, [], .inl (.eq, false, 5, 2)),
  (7, [.inr (.iload_n 2)], .inr (.inr (1, 40, 3))),
  (11, [], .inl (.eq, false, 5, 4)),
  (14, [.inr (.iload_n 3), .inl (.int 36)], .inl (.le, true, 6, 5)),
  (20, [.inl (.int (-1))], .inr (.inr (2, 1, 0))),
  (22, [.inr (.iload_n 3)], .inl (.ge, false, 8, 7)),
  (26, [.inl (.int (-14))], .inr (.inr (2, 1, 0))),
  (29, [.inr (.aload_n 0), .inr (.invokeinterface 4 4), .inr (.iload_n 1), .inr .aaload, .inr (.iload_n 2), .inr (.iload_n 3)], .inr (.inr (1, 170, 9))),
  (40, [.inr (.iload_n 3)], .inr (.inr (2, 1, 0)))]
def zp_C_drop : List zB := [(0, [.inr (.iload_n 1)], .inr (.inr (1, 39, 1))),
  (4, [], .inl (.ne, false, 3, 2)),
  (7, [.inl (.int (-1))], .inr (.inr (2, 1, 0))),
  (9, [.inr (.aload_n 0), .inr (.invokeinterface 4 4), .inr (.iload_n 1), .inr .aaload, .inr (.astore_n 2), .inr (.aload_n 2), .inr (.invokeinterface 2 1)], .inl (.ne, false, 5, 4)),
  (23, [.inl (.int (-11))], .inr (.inr (2, 1, 0))),
  (26, [.inr (.aload_n 2), .inl (.int 0), .inr (.multianewarray 2 1), .inr (.aload_n 2), .inr (.invokeinterface 2 3)], .inr (.inr (2, 1, 0)))]
def zp_C_item : List zB := [(0, [.inr (.aload_n 0), .inr (.iload_n 1), .inr (.iload_n 2), .inr (.iload_n 3), .inl (.int 1)], .inr (.inr (1, 41, 1))),
  (8, [.inr (.istore 6), .inr (.iload 6)], .inl (.eq, false, 3, 2)),
  (15, [.inr (.iload 6)], .inr (.inr (2, 1, 0))),
  (18, [.inr (.aload_n 0), .inr (.invokeinterface 4 4), .inr (.iload_n 1), .inr .aaload, .inr (.iload_n 3), .inr (.lload 4)], .inr (.inr (1, 172, 4))),
  (30, [.inl (.int 1)], .inr (.inr (2, 1, 0)))]
def zp_C_copy : List zB := [(0, [.inr (.iload_n 1)], .inr (.inr (1, 39, 1))),
  (4, [], .inl (.eq, false, 4, 2)),
  (7, [.inr (.iload_n 3)], .inr (.inr (1, 39, 3))),
  (11, [], .inl (.ne, false, 5, 4)),
  (14, [.inl (.int (-1))], .inr (.inr (2, 1, 0))),
  (16, [.inr (.aload_n 0), .inr (.invokeinterface 4 4), .inr (.iload_n 1), .inr .aaload, .inr (.astore 6), .inr (.aload_n 0), .inr (.invokeinterface 4 4), .inr (.iload_n 3), .inr .aaload, .inr (.astore 7), .inr (.aload 6), .inr (.invokeinterface 2 1)], .inl (.eq, false, 7, 6)),
  (40, [.inr (.aload 7), .inr (.invokeinterface 2 1)], .inl (.ne, false, 8, 7)),
  (48, [.inl (.int (-11))], .inr (.inr (2, 1, 0))),
  (51, [.inr (.aload 6), .inr (.invokeinterface 2 2), .inr (.aload 7), .inr (.invokeinterface 2 2)], .inl (.eq, true, 10, 9)),
  (64, [.inl (.int (-12))], .inr (.inr (2, 1, 0))),
  (67, [.inr (.aload 6), .inr (.iload_n 2), .inr (.iload 5)], .inr (.inr (1, 171, 11))),
  (75, [], .inl (.eq, false, 14, 12)),
  (78, [.inr (.aload 7), .inr (.iload 4), .inr (.iload 5)], .inr (.inr (1, 171, 13))),
  (87, [], .inl (.ne, false, 15, 14)),
  (90, [.inl (.int (-13))], .inr (.inr (2, 1, 0))),
  (93, [.inr (.aload 6), .inr (.invokeinterface 2 0), .inr (.iload_n 2), .inr (.aload 7), .inr (.invokeinterface 2 0), .inr (.iload 4), .inr (.iload 5)], .inr (.inr (3, 1, 16))),
  (111, [.inr (.iload 5)], .inr (.inr (2, 1, 0)))]
def zp_C_isCell : List zB := [(0, [.inr (.iload_n 0)], .inl (.lt, false, 3, 1)),
  (4, [.inr (.iload_n 0), .inl (.int 36)], .inl (.ge, true, 3, 2)),
  (10, [.inl (.int 1)], .inr (.inr (0, 4, 0))),
  (14, [.inl (.int 0)], .inr (.inr (0, 4, 1))),
  (15, [], .inr (.inr (2, 3, 0)))]
def zp_C_isOwner : List zB := [(0, [.inr (.iload_n 0)], .inl (.lt, false, 3, 1)),
  (4, [.inr (.iload_n 0), .inl (.int 4)], .inl (.ge, true, 3, 2)),
  (9, [.inl (.int 1)], .inr (.inr (0, 4, 0))),
  (13, [.inl (.int 0)], .inr (.inr (0, 4, 1))),
  (14, [], .inr (.inr (2, 3, 0)))]
def zp_C_isSheet : List zB := [(0, [.inr (.iload_n 0)], .inl (.lt, false, 3, 1)),
  (4, [.inr (.iload_n 0), .inl (.int 4)], .inl (.ge, true, 3, 2)),
  (9, [.inl (.int 1)], .inr (.inr (0, 4, 0))),
  (13, [.inl (.int 0)], .inr (.inr (0, 4, 1))),
  (14, [], .inr (.inr (2, 3, 0)))]
def zp_C_isLane : List zB := [(0, [.inr (.iload_n 0)], .inl (.lt, false, 3, 1)),
  (4, [.inr (.iload_n 0), .inl (.int 4)], .inl (.ge, true, 3, 2)),
  (9, [.inl (.int 1)], .inr (.inr (0, 4, 0))),
  (13, [.inl (.int 0)], .inr (.inr (0, 4, 1))),
  (14, [], .inr (.inr (2, 3, 0)))]
def zp_C_refusal : List zB := [(0, [.inr (.iload_n 1)], .inr (.inr (1, 39, 1))),
  (4, [], .inl (.eq, false, 4, 2)),
  (7, [.inr (.iload_n 2)], .inr (.inr (1, 40, 3))),
  (11, [], .inl (.ne, false, 5, 4)),
  (14, [.inl (.int (-1))], .inr (.inr (2, 1, 0))),
  (16, [.inr (.aload_n 0), .inr (.invokeinterface 4 4), .inr (.iload_n 1), .inr .aaload, .inr (.astore 5), .inr (.aload 5), .inr (.invokeinterface 2 1)], .inl (.ne, false, 7, 6)),
  (32, [.inl (.int (-11))], .inr (.inr (2, 1, 0))),
  (35, [.inr (.aload 5), .inr (.invokeinterface 2 2), .inr (.iload_n 2)], .inl (.eq, true, 9, 8)),
  (44, [.inl (.int (-12))], .inr (.inr (2, 1, 0))),
  (47, [.inr (.aload 5), .inr (.iload_n 3), .inr (.iload 4)], .inr (.inr (1, 171, 10))),
  (55, [], .inl (.eq, false, 12, 11)),
  (58, [.inl (.int 0)], .inr (.inr (0, 13, 0))),
  (62, [.inl (.int (-13))], .inr (.inr (0, 13, 1))),
  (64, [], .inr (.inr (2, 1, 0)))]
def zp_C_isRight : List zB := [(0, [.inr (.lload_n 1), .inl (.long 0), .inr .lcmp], .inl (.lt, false, 2, 1)),
  (6, [.inr (.lload_n 1), .inl (.long 36), .inr .lcmp], .inl (.lt, false, 3, 2)),
  (14, [.inl (.int 0)], .inr (.inr (2, 3, 0))),
  (16, [.inr (.aload_n 0), .inr (.invokeinterface 4 0), .inr (.lload_n 1), .inr .l2i], .inr (.inr (1, 138, 4))),
  (25, [.inr (.lstore 5), .inr (.lload 5), .inl (.long 0), .inr .lcmp], .inl (.eq, false, 8, 5)),
  (34, [.inr (.lload 5)], .inr (.inr (1, 185, 6))),
  (39, [.inr .i2l, .inr (.lload_n 3), .inr .lcmp], .inl (.ne, false, 8, 7)),
  (45, [.inl (.int 1)], .inr (.inr (0, 9, 0))),
  (49, [.inl (.int 0)], .inr (.inr (0, 9, 1))),
  (50, [], .inr (.inr (2, 3, 0)))]
def zp_C_pick : List zB := [(0, [.inr (.lload_n 0), .inl (.long (-1)), .inr .lcmp], .inl (.ne, false, 2, 1)),
  (8, [.inl (.int (-4))], .inr (.inr (2, 1, 0))),
  (11, [.inr (.iload_n 2)], .inl (.ge, false, 5, 3)),
  (15, [.inr (.lload_n 0)], .inr (.inr (1, 185, 4))),
  (19, [], .inr (.inr (2, 1, 0))),
  (20, [.inr (.lload_n 0), .inr (.lstore_n 3), .inl (.int 0), .inr (.istore 5)], .inr (.inr (0, 6, 1))),
  (25, [.inr (.iload 5), .inr (.iload_n 2)], .inl (.ge, true, 8, 7)),
  (31, [.inr (.lload_n 3), .inr (.lload_n 3), .inl (.long 1), .inr .lsub, .inr .land, .inr (.lstore_n 3), .inr (.iinc 5 1)], .inr (.inr (0, 6, 0))),
  (43, [.inr (.lload_n 3), .inl (.long 0), .inr .lcmp], .inl (.ne, false, 10, 9)),
  (49, [.inl (.int (-4))], .inr (.inr (0, 11, 0))),
  (54, [.inr (.lload_n 3)], .inr (.inr (1, 154, 11))),
  (58, [], .inr (.inr (2, 1, 0)))]
def zp_N_in : List zB := [(0, [.inr (.lload_n 0), .inr (.lload_n 2), .inr .lcmp], .inl (.lt, false, 3, 1)),
  (6, [.inr (.lload_n 0), .inr (.lload 4), .inr .lcmp], .inl (.gt, false, 3, 2)),
  (13, [.inl (.int 1)], .inr (.inr (0, 4, 0))),
  (17, [.inl (.int 0)], .inr (.inr (0, 4, 1))),
  (18, [], .inr (.inr (2, 3, 0)))]
def zp_N_isCell : List zB := [(0, [.inr (.iload_n 0), .inr .i2l, .inl (.long 0), .inl (.long 35)], .inr (.inr (1, 44, 1))),
  (9, [], .inr (.inr (2, 3, 0)))]
def zp_N_has : List zB := [(0, [.inr (.lload_n 0), .inr (.iload_n 2), .inr .lshr, .inl (.long 1), .inr .land, .inl (.long 1), .inr .lcmp], .inl (.ne, false, 2, 1)),
  (10, [.inl (.int 1)], .inr (.inr (0, 3, 0))),
  (14, [.inl (.int 0)], .inr (.inr (0, 3, 1))),
  (15, [], .inr (.inr (2, 3, 0)))]
def zp_N_ones : List zB := [(0, [.inl (.int 0), .inr (.istore_n 2), .inr (.lload_n 0), .inr (.lstore_n 3)], .inr (.inr (0, 1, 1))),
  (4, [.inr (.lload_n 3), .inl (.long 0), .inr .lcmp], .inl (.eq, false, 3, 2)),
  (10, [.inr (.iinc 2 1), .inr (.lload_n 3), .inr (.lload_n 3), .inl (.long 1), .inr .lsub, .inr .land, .inr (.lstore_n 3)], .inr (.inr (0, 1, 0))),
  (22, [.inr (.iload_n 2)], .inr (.inr (2, 1, 0)))]
def zp_N_least : List zB := [(0, [.inl (.int 0), .inr (.istore_n 2)], .inr (.inr (0, 1, 1))),
  (2, [.inr (.lload_n 0), .inr (.iload_n 2)], .inr (.inr (1, 46, 2))),
  (7, [], .inl (.ne, false, 4, 3)),
  (10, [.inr (.iinc 2 1)], .inr (.inr (0, 1, 0))),
  (16, [.inr (.iload_n 2)], .inr (.inr (2, 1, 0)))]
def zp_N_look : List zB := [(0, [.inr (.aload_n 0), .inl (.long 0), .inr (.multianewarray 5 7), .inr (.aload_n 0), .inl (.long 0), .inr (.multianewarray 5 8), .inl (.int 0), .inr (.istore_n 1)], .inr (.inr (0, 1, 1))),
  (12, [.inr (.iload_n 1), .inl (.int 36)], .inl (.ge, true, 9, 2)),
  (18, [.inr (.aload_n 0), .inr .dup, .inr (.invokeinterface 5 7), .inr (.aload_n 0), .inr (.invokeinterface 5 0), .inr (.iload_n 1), .inr .iaload], .inl (.le, false, 4, 3)),
  (32, [.inl (.long 1), .inr (.iload_n 1), .inr .lshl], .inr (.inr (0, 5, 0))),
  (38, [.inl (.long 0)], .inr (.inr (0, 5, 1))),
  (39, [.inr .lor, .inr (.multianewarray 5 7), .inr (.aload_n 0), .inr .dup, .inr (.invokeinterface 5 8), .inr (.aload_n 0), .inr (.invokeinterface 5 0), .inr (.iload_n 1), .inr .iaload, .inl (.int 9)], .inl (.ne, true, 7, 6)),
  (59, [.inl (.long 1), .inr (.iload_n 1), .inr .lshl], .inr (.inr (0, 8, 0))),
  (65, [.inl (.long 0)], .inr (.inr (0, 8, 1))),
  (66, [.inr .lor, .inr (.multianewarray 5 8), .inr (.iinc 1 1)], .inr (.inr (0, 1, 0))),
  (76, [], .inr (.inr (2, 0, 0)))]
def zp_N_beside : List zB := [(0, [.inr (.lload_n 0), .inl (.long (-1090785346)), .inr .land, .inl (.int 1), .inr .lshr, .inr (.lload_n 0), .inl (.long (-34905131041)), .inr .land, .inl (.int 1), .inr .lshl, .inr .lor, .inr (.lstore_n 2), .inr (.lload_n 2), .inr (.lload_n 0), .inl (.int 6), .inr .lshr, .inr .lor, .inr (.lload_n 0), .inl (.int 6), .inr .lshl, .inr .lor, .inl (.long 68719476735), .inr .land], .inr (.inr (2, 2, 0)))]
def zp_N_grown : List zB := [(0, [.inr (.lload_n 0), .inr (.lload_n 2), .inr .land, .inr (.lstore 4), .inr (.lload 4), .inr (.lload 4)], .inr (.inr (1, 50, 1))),
  (12, [.inr .lor, .inr (.lload_n 2), .inr .land, .inr (.lstore 6)], .inr (.inr (0, 2, 1))),
  (17, [.inr (.lload 6), .inr (.lload 4), .inr .lcmp], .inl (.eq, false, 5, 3)),
  (25, [.inr (.lload 6), .inr (.lstore 4), .inr (.lload 4), .inr (.lload 4)], .inr (.inr (1, 50, 4))),
  (36, [.inr .lor, .inr (.lload_n 2), .inr .land, .inr (.lstore 6)], .inr (.inr (0, 2, 0))),
  (44, [.inr (.lload 4)], .inr (.inr (2, 2, 0)))]
def zp_N_holeAt : List zB := [(0, [.inl (.long 1), .inr (.iload_n 1), .inr .lshl, .inr (.aload_n 0), .inr (.invokeinterface 5 7)], .inr (.inr (1, 51, 1))),
  (10, [], .inr (.inr (2, 2, 0)))]
def zp_N_rimOf : List zB := [(0, [.inr (.lload_n 1)], .inr (.inr (1, 50, 1))),
  (4, [.inr (.aload_n 0), .inr (.invokeinterface 5 7), .inl (.long (-1)), .inr .lxor, .inr .land], .inr (.inr (2, 2, 0)))]
def zp_N_fenceOf : List zB := [(0, [.inr (.lload_n 0), .inr (.lload_n 0), .inl (.long (-1090785346)), .inr .land, .inl (.int 1), .inr .lshr, .inr .land], .inr (.inr (1, 47, 1))),
  (12, [.inr (.lload_n 0), .inr (.lload_n 0), .inl (.int 6), .inr .lshr, .inr .land], .inr (.inr (1, 47, 2))),
  (21, [.inr .iadd, .inr (.istore_n 2), .inl (.int 4), .inr (.lload_n 0)], .inr (.inr (1, 47, 3))),
  (28, [.inr .imul, .inl (.int 2), .inr (.iload_n 2), .inr .imul, .inr .isub], .inr (.inr (2, 1, 0)))]
def zp_N_edge : List zB := [(0, [.inl (.long 68208171135)], .inr (.inr (2, 2, 0)))]
def zp_N_withinOf : List zB := [(0, [.inl (.long 68719476735), .inr (.lload_n 0), .inl (.long (-1)), .inr .lxor, .inr .land, .inr (.lstore_n 2), .inr (.lload_n 2)], .inr (.inr (1, 55, 1))),
  (14, [.inr (.lload_n 2)], .inr (.inr (1, 51, 2))),
  (18, [.inl (.long (-1)), .inr .lxor, .inr .land], .inr (.inr (2, 2, 0)))]
def zp_N_kindOf : List zB := [(0, [.inr (.lload_n 1), .inl (.long 1090785345), .inr .land, .inl (.long 0), .inr .lcmp], .inl (.eq, false, 2, 1)),
  (10, [.inr (.lload_n 1), .inl (.long 34905131040), .inr .land, .inl (.long 0), .inr .lcmp], .inl (.ne, false, 4, 2)),
  (20, [.inr (.lload_n 1), .inl (.long 63), .inr .land, .inl (.long 0), .inr .lcmp], .inl (.eq, false, 5, 3)),
  (30, [.inr (.lload_n 1), .inl (.long 67645734912), .inr .land, .inl (.long 0), .inr .lcmp], .inl (.eq, false, 5, 4)),
  (40, [.inl (.int 1)], .inr (.inr (0, 6, 0))),
  (44, [.inl (.int 0)], .inr (.inr (0, 6, 1))),
  (45, [.inr (.istore_n 3), .inr (.lload_n 1)], .inr (.inr (1, 55, 7))),
  (50, [.inr .land, .inl (.long 0), .inr .lcmp], .inl (.eq, false, 9, 8)),
  (56, [.inl (.int 1)], .inr (.inr (0, 10, 0))),
  (60, [.inl (.int 0)], .inr (.inr (0, 10, 1))),
  (61, [.inr (.istore 4), .inr (.lload_n 1), .inr (.aload_n 0), .inr (.invokeinterface 5 2), .inl (.long (-1)), .inr .lxor, .inr .land, .inl (.long 0), .inr .lcmp], .inl (.ne, false, 12, 11)),
  (78, [.inl (.int 4)], .inr (.inr (0, 20, 0))),
  (82, [.inr (.iload_n 3)], .inl (.eq, false, 14, 13)),
  (86, [.inl (.int 3)], .inr (.inr (0, 20, 0))),
  (90, [.inr (.iload 4)], .inl (.ne, false, 17, 15)),
  (95, [.inr (.lload_n 1), .inr (.aload_n 0), .inr (.invokeinterface 5 8), .inr .land, .inl (.long 0), .inr .lcmp], .inl (.eq, false, 17, 16)),
  (106, [.inl (.int 2)], .inr (.inr (0, 20, 0))),
  (110, [.inr (.iload 4)], .inl (.eq, false, 19, 18)),
  (115, [.inl (.int 1)], .inr (.inr (0, 20, 0))),
  (119, [.inl (.int 0)], .inr (.inr (0, 20, 1))),
  (120, [], .inr (.inr (2, 1, 0)))]
def zp_N_taxOf : List zB := [(0, [.inr (.lload_n 1)], .inr (.inr (1, 47, 1))),
  (4, [.inr (.istore_n 3), .inr (.aload_n 0), .inr (.invokeinterface 5 3), .inr (.iload_n 3), .inl (.int 3)], .inl (.ge, true, 3, 2)),
  (14, [.inr (.iload_n 3)], .inr (.inr (0, 4, 0))),
  (18, [.inl (.int 2), .inr (.iload_n 3), .inr .imul, .inl (.int 3), .inr .isub], .inr (.inr (0, 4, 1))),
  (23, [.inr .imul, .inr (.istore 4), .inr (.aload_n 0), .inr (.lload_n 1)], .inr (.inr (1, 57, 5))),
  (31, [.inr (.istore 5), .inr (.iload 4), .inl (.int 10), .inr .iadd, .inl (.int 3), .inr (.iload_n 3), .inr .imul, .inr .isub, .inr (.istore 6), .inr (.iload 5)], .inl (.ne, false, 7, 6)),
  (49, [.inr (.iload 4)], .inr (.inr (0, 17, 0))),
  (54, [.inr (.iload 5), .inl (.int 1)], .inl (.ne, true, 9, 8)),
  (60, [.inr (.iload 4), .inl (.int 2), .inr .idiv], .inr (.inr (0, 17, 0))),
  (67, [.inr (.iload 5), .inl (.int 2)], .inl (.ne, true, 11, 10)),
  (73, [.inr (.iload 4), .inl (.int 10), .inr .iadd], .inr (.inr (0, 17, 0))),
  (81, [.inr (.iload 5), .inl (.int 3)], .inl (.ne, true, 14, 12)),
  (87, [.inr (.iload 4), .inl (.int 2), .inr .idiv, .inr (.lload_n 1)], .inr (.inr (1, 54, 13))),
  (95, [.inr .iadd], .inr (.inr (0, 17, 0))),
  (99, [.inr (.iload 6)], .inl (.ge, false, 16, 15)),
  (104, [.inl (.int 0)], .inr (.inr (0, 17, 0))),
  (108, [.inr (.iload 6)], .inr (.inr (0, 17, 1))),
  (110, [], .inr (.inr (2, 1, 0)))]
def zp_N_findHoles : List zB := [(0, [.inr (.aload_n 0), .inl (.int 0), .inr (.multianewarray 5 10), .inr (.aload_n 0), .inr (.invokeinterface 5 7), .inr (.lstore_n 1)], .inr (.inr (0, 1, 1))),
  (10, [.inr (.lload_n 1), .inl (.long 0), .inr .lcmp], .inl (.eq, false, 5, 2)),
  (16, [.inr (.aload_n 0), .inr (.invokeinterface 5 9), .inr (.aload_n 0), .inr (.invokeinterface 5 10), .inr (.aload_n 0), .inr (.lload_n 1)], .inr (.inr (1, 48, 3))),
  (29, [], .inr (.inr (1, 52, 4))),
  (32, [.inr .lastore, .inr (.aload_n 0), .inr .dup, .inr (.invokeinterface 5 10), .inl (.int 1), .inr .iadd, .inr (.multianewarray 5 10), .inr (.lload_n 1), .inr (.aload_n 0), .inr (.invokeinterface 5 9), .inr (.aload_n 0), .inr (.invokeinterface 5 10), .inl (.int 1), .inr .isub, .inr .laload, .inl (.long (-1)), .inr .lxor, .inr .land, .inr (.lstore_n 1)], .inr (.inr (0, 1, 0))),
  (64, [], .inr (.inr (2, 0, 0)))]
def zp_N_taxOfAll : List zB := [(0, [.inr (.aload_n 0)], .inr (.inr (1, 59, 1))),
  (4, [.inl (.int 0), .inr (.istore_n 1), .inl (.int 0), .inr (.istore_n 2)], .inr (.inr (0, 2, 1))),
  (8, [.inr (.iload_n 2), .inr (.aload_n 0), .inr (.invokeinterface 5 10)], .inl (.ge, true, 5, 3)),
  (16, [.inr (.iload_n 1), .inr (.aload_n 0), .inr (.aload_n 0), .inr (.invokeinterface 5 9), .inr (.iload_n 2), .inr .laload], .inr (.inr (1, 58, 4))),
  (27, [.inr .iadd, .inr (.istore_n 1), .inr (.iinc 2 1)], .inr (.inr (0, 2, 0))),
  (35, [.inr (.iload_n 1)], .inr (.inr (2, 1, 0)))]
def zp_N_note : List zB := [(0, [.inr (.aload_n 0), .inr (.invokeinterface 5 5), .inl (.int 10)], .inl (.ne, true, 5, 1)),
  (9, [.inl (.int 0), .inr (.istore_n 2)], .inr (.inr (0, 2, 1))),
  (11, [.inr (.iload_n 2), .inl (.int 27)], .inl (.ge, true, 4, 3)),
  (17, [.inr (.aload_n 0), .inr (.invokeinterface 5 4), .inr (.iload_n 2), .inr (.aload_n 0), .inr (.invokeinterface 5 4), .inr (.iload_n 2), .inl (.int 3), .inr .iadd, .inr .iaload, .inr .iastore, .inr (.iinc 2 1)], .inr (.inr (0, 2, 0))),
  (37, [.inr (.aload_n 0), .inr .dup, .inr (.invokeinterface 5 5), .inl (.int 1), .inr .isub, .inr (.multianewarray 5 5)], .inr (.inr (0, 5, 1))),
  (47, [.inr (.aload_n 0), .inr (.invokeinterface 5 4), .inl (.int 3), .inr (.aload_n 0), .inr (.invokeinterface 5 5), .inr .imul, .inr (.iload_n 1), .inr .iastore, .inr (.aload_n 0), .inr (.invokeinterface 5 4), .inl (.int 3), .inr (.aload_n 0), .inr (.invokeinterface 5 5), .inr .imul, .inl (.int 1), .inr .iadd, .inr (.aload_n 0), .inr (.invokeinterface 5 0), .inr (.iload_n 1), .inr .iaload, .inr .iastore, .inr (.aload_n 0), .inr (.invokeinterface 5 4), .inl (.int 3), .inr (.aload_n 0), .inr (.invokeinterface 5 5), .inr .imul, .inl (.int 2), .inr .iadd, .inr (.aload_n 0), .inr (.invokeinterface 5 2), .inr (.iload_n 1)], .inr (.inr (1, 46, 6))),
  (98, [], .inl (.eq, false, 8, 7)),
  (101, [.inl (.int 1)], .inr (.inr (0, 9, 0))),
  (105, [.inl (.int 0)], .inr (.inr (0, 9, 1))),
  (106, [.inr .iastore, .inr (.aload_n 0), .inr .dup, .inr (.invokeinterface 5 5), .inl (.int 1), .inr .iadd, .inr (.multianewarray 5 5)], .inr (.inr (2, 0, 0)))]
def zp_N_put : List zB := [(0, [.inr (.aload_n 0), .inr (.invokeinterface 5 0), .inr (.iload_n 1), .inr (.iload_n 2), .inr .iastore, .inr (.aload_n 0), .inr (.iload_n 3)], .inl (.eq, false, 2, 1)),
  (12, [.inr (.aload_n 0), .inr (.invokeinterface 5 2), .inl (.long 1), .inr (.iload_n 1), .inr .lshl, .inr .lor], .inr (.inr (0, 3, 0))),
  (23, [.inr (.aload_n 0), .inr (.invokeinterface 5 2), .inl (.long 1), .inr (.iload_n 1), .inr .lshl, .inl (.long (-1)), .inr .lxor, .inr .land], .inr (.inr (0, 3, 1))),
  (35, [.inr (.multianewarray 5 2)], .inr (.inr (2, 0, 0)))]
def zp_N_dig : List zB := [(0, [.inr (.iload_n 1)], .inr (.inr (1, 45, 1))),
  (4, [], .inl (.ne, false, 3, 2)),
  (7, [.inl (.int (-1))], .inr (.inr (2, 1, 0))),
  (9, [.inr (.aload_n 0), .inr (.invokeinterface 5 0), .inr (.iload_n 1), .inr .iaload, .inl (.int 9)], .inl (.ne, true, 5, 4)),
  (20, [.inl (.int (-3))], .inr (.inr (2, 1, 0))),
  (23, [.inr (.aload_n 0), .inr (.iload_n 1)], .inr (.inr (1, 61, 6))),
  (28, [.inr (.aload_n 0), .inr (.invokeinterface 5 0), .inr (.iload_n 1), .inr .dup2, .inr .iaload, .inl (.int 1), .inr .iadd, .inr .iastore, .inr (.aload_n 0), .inr (.invokeinterface 5 0), .inr (.iload_n 1), .inr .iaload], .inr (.inr (2, 1, 0)))]
def zp_N_fill : List zB := [(0, [.inr (.iload_n 1)], .inr (.inr (1, 45, 1))),
  (4, [], .inl (.ne, false, 3, 2)),
  (7, [.inl (.int (-1))], .inr (.inr (2, 1, 0))),
  (9, [.inr (.aload_n 0), .inr (.invokeinterface 5 0), .inr (.iload_n 1), .inr .iaload, .inr (.istore_n 2), .inr (.iload_n 2)], .inl (.ne, false, 5, 4)),
  (20, [.inl (.int (-2))], .inr (.inr (2, 1, 0))),
  (23, [.inr (.aload_n 0), .inr (.iload_n 1)], .inr (.inr (1, 61, 6))),
  (28, [.inr (.aload_n 0), .inr (.iload_n 1), .inl (.int 0), .inl (.int 0)], .inr (.inr (1, 62, 7))),
  (35, [.inr (.iload_n 2)], .inr (.inr (2, 1, 0)))]
def zp_N_roof : List zB := [(0, [.inr (.iload_n 1)], .inr (.inr (1, 45, 1))),
  (4, [], .inl (.ne, false, 3, 2)),
  (7, [.inl (.int (-1))], .inr (.inr (2, 1, 0))),
  (9, [.inr (.aload_n 0), .inr (.invokeinterface 5 0), .inr (.iload_n 1), .inr .iaload], .inl (.ne, false, 5, 4)),
  (18, [.inl (.int (-2))], .inr (.inr (2, 1, 0))),
  (21, [.inr (.aload_n 0), .inr (.iload_n 1)], .inr (.inr (1, 61, 6))),
  (26, [.inr (.aload_n 0), .inr .dup, .inr (.invokeinterface 5 2), .inl (.long 1), .inr (.iload_n 1), .inr .lshl, .inr .lxor, .inr (.multianewarray 5 2), .inr (.aload_n 0), .inr (.invokeinterface 5 2), .inr (.iload_n 1)], .inr (.inr (1, 46, 7))),
  (46, [], .inl (.eq, false, 9, 8)),
  (49, [.inl (.int 1)], .inr (.inr (0, 10, 0))),
  (53, [.inl (.int 0)], .inr (.inr (0, 10, 1))),
  (54, [], .inr (.inr (2, 1, 0)))]
def zp_N_undo : List zB := [(0, [.inr (.aload_n 0), .inr (.invokeinterface 5 5)], .inl (.ne, false, 2, 1)),
  (7, [.inl (.int (-4))], .inr (.inr (2, 1, 0))),
  (10, [.inr (.aload_n 0), .inr .dup, .inr (.invokeinterface 5 5), .inl (.int 1), .inr .isub, .inr (.multianewarray 5 5), .inr (.aload_n 0), .inr (.aload_n 0), .inr (.invokeinterface 5 4), .inl (.int 3), .inr (.aload_n 0), .inr (.invokeinterface 5 5), .inr .imul, .inr .iaload, .inr (.aload_n 0), .inr (.invokeinterface 5 4), .inl (.int 3), .inr (.aload_n 0), .inr (.invokeinterface 5 5), .inr .imul, .inl (.int 1), .inr .iadd, .inr .iaload, .inr (.aload_n 0), .inr (.invokeinterface 5 4), .inl (.int 3), .inr (.aload_n 0), .inr (.invokeinterface 5 5), .inr .imul, .inl (.int 2), .inr .iadd, .inr .iaload, .inl (.int 1)], .inl (.ne, true, 4, 3)),
  (62, [.inl (.int 1)], .inr (.inr (0, 5, 0))),
  (66, [.inl (.int 0)], .inr (.inr (0, 5, 1))),
  (67, [], .inr (.inr (1, 62, 6))),
  (70, [.inr (.aload_n 0), .inr (.invokeinterface 5 5)], .inr (.inr (2, 1, 0)))]
def zp_N_own : List zB := [(0, [.inr (.iload_n 1)], .inr (.inr (1, 45, 1))),
  (4, [], .inl (.eq, false, 4, 2)),
  (7, [.inr (.iload_n 2), .inr .i2l, .inl (.long 0), .inl (.long 4)], .inr (.inr (1, 44, 3))),
  (16, [], .inl (.ne, false, 5, 4)),
  (19, [.inl (.int (-1))], .inr (.inr (2, 1, 0))),
  (21, [.inr (.aload_n 0), .inr (.invokeinterface 5 1), .inr (.iload_n 1), .inr .iaload, .inr (.istore_n 3), .inr (.aload_n 0), .inr (.invokeinterface 5 1), .inr (.iload_n 1), .inr (.iload_n 2), .inr .iastore, .inr (.iload_n 3)], .inr (.inr (2, 1, 0)))]
def zp_N_rate : List zB := [(0, [.inr (.iload_n 1), .inr .i2l, .inl (.long 0), .inl (.long 99)], .inr (.inr (1, 44, 1))),
  (9, [], .inl (.ne, false, 3, 2)),
  (12, [.inl (.int (-1))], .inr (.inr (2, 1, 0))),
  (14, [.inr (.aload_n 0), .inr (.invokeinterface 5 3), .inr (.istore_n 2), .inr (.aload_n 0), .inr (.iload_n 1), .inr (.multianewarray 5 3), .inr (.iload_n 2)], .inr (.inr (2, 1, 0)))]
def zp_N_told : List zB := [(0, [.inr (.iload_n 1)], .inr (.inr (1, 45, 1))),
  (4, [], .inl (.ne, false, 3, 2)),
  (7, [.inl (.int (-1))], .inr (.inr (2, 1, 0))),
  (9, [.inr (.aload_n 0)], .inr (.inr (1, 49, 4))),
  (13, [.inr (.iload_n 2)], .inr (.inl ([(0, 5), (1, 6), (2, 11), (3, 12)], 19))),
  (44, [.inr (.aload_n 0), .inr (.invokeinterface 5 0), .inr (.iload_n 1), .inr .iaload], .inr (.inr (2, 1, 0))),
  (51, [.inr (.aload_n 0), .inr (.invokeinterface 5 2), .inr (.iload_n 1)], .inr (.inr (1, 46, 7))),
  (59, [], .inl (.eq, false, 9, 8)),
  (62, [.inl (.int 1)], .inr (.inr (0, 10, 0))),
  (66, [.inl (.int 0)], .inr (.inr (0, 10, 1))),
  (67, [], .inr (.inr (2, 1, 0))),
  (68, [.inr (.aload_n 0), .inr (.invokeinterface 5 1), .inr (.iload_n 1), .inr .iaload], .inr (.inr (2, 1, 0))),
  (75, [.inr (.aload_n 0), .inr (.invokeinterface 5 7), .inr (.iload_n 1)], .inr (.inr (1, 46, 13))),
  (83, [], .inl (.eq, false, 17, 14)),
  (86, [.inr (.aload_n 0), .inr (.iload_n 1)], .inr (.inr (1, 52, 15))),
  (91, [], .inr (.inr (1, 48, 16))),
  (94, [], .inr (.inr (0, 18, 0))),
  (97, [.inl (.int (-4))], .inr (.inr (0, 18, 1))),
  (99, [], .inr (.inr (2, 1, 0))),
  (100, [.inl (.int (-1))], .inr (.inr (2, 1, 0)))]
def zp_N_type : List zB := [(0, [.inr (.iload_n 1), .inr .i2l, .inl (.long 32), .inl (.long 126)], .inr (.inr (1, 44, 1))),
  (11, [], .inl (.ne, false, 3, 2)),
  (14, [.inl (.int (-1))], .inr (.inr (2, 1, 0))),
  (16, [.inr (.aload_n 0), .inr (.invokeinterface 5 12), .inl (.int 160)], .inl (.ne, true, 5, 4)),
  (26, [.inl (.int (-3))], .inr (.inr (2, 1, 0))),
  (29, [.inr (.aload_n 0), .inr (.invokeinterface 5 11), .inr (.aload_n 0), .inr (.invokeinterface 5 12), .inr (.iload_n 1), .inr .iastore, .inr (.aload_n 0), .inr .dup, .inr (.invokeinterface 5 12), .inl (.int 1), .inr .iadd, .inr (.multianewarray 5 12), .inr (.aload_n 0), .inr (.invokeinterface 5 12)], .inr (.inr (2, 1, 0)))]
def zp_N_nextLetter : List zB := [(0, [.inr (.aload_n 0), .inr (.invokeinterface 5 13), .inr (.aload_n 0), .inr (.invokeinterface 5 12)], .inl (.ge, true, 3, 1)),
  (11, [.inr (.aload_n 0), .inr (.invokeinterface 5 11), .inr (.aload_n 0), .inr (.invokeinterface 5 13), .inr .iaload, .inl (.int 32)], .inl (.ne, true, 3, 2)),
  (25, [.inr (.aload_n 0), .inr .dup, .inr (.invokeinterface 5 13), .inl (.int 1), .inr .iadd, .inr (.multianewarray 5 13)], .inr (.inr (0, 0, 0))),
  (38, [.inr (.aload_n 0), .inr (.invokeinterface 5 13), .inr (.aload_n 0), .inr (.invokeinterface 5 12)], .inl (.ge, true, 5, 4)),
  (49, [.inr (.aload_n 0), .inr (.invokeinterface 5 11), .inr (.aload_n 0), .inr (.invokeinterface 5 13), .inr .iaload], .inr (.inr (0, 6, 0))),
  (61, [.inl (.int (-1))], .inr (.inr (0, 6, 1))),
  (62, [], .inr (.inr (2, 1, 0)))]
def zp_N_takes : List zB := [(0, [.inr (.aload_n 0)], .inr (.inr (1, 71, 1))),
  (4, [.inr (.iload_n 1)], .inl (.ne, true, 3, 2)),
  (8, [.inl (.int 1)], .inr (.inr (0, 4, 0))),
  (12, [.inl (.int 0)], .inr (.inr (0, 4, 1))),
  (13, [.inr (.istore_n 2), .inr (.aload_n 0), .inr .dup, .inr (.invokeinterface 5 13), .inr (.iload_n 2)], .inl (.eq, false, 6, 5)),
  (23, [.inl (.int 1)], .inr (.inr (0, 7, 0))),
  (27, [.inl (.int 0)], .inr (.inr (0, 7, 1))),
  (28, [.inr .iadd, .inr (.multianewarray 5 13), .inr (.iload_n 2)], .inr (.inr (2, 3, 0)))]
def zp_N_end : List zB := [(0, [.inr (.iload_n 1)], .inl (.ne, false, 3, 1)),
  (4, [.inr (.aload_n 0)], .inr (.inr (1, 71, 2))),
  (8, [.inr .pop], .inr (.inr (0, 3, 1))),
  (9, [.inr (.aload_n 0), .inl (.int 0), .inr (.multianewarray 5 12), .inr (.iload_n 1)], .inl (.eq, false, 5, 4)),
  (18, [.inl (.int 0)], .inr (.inr (0, 6, 0))),
  (22, [.inl (.int (-20)), .inr (.aload_n 0), .inr (.invokeinterface 5 13), .inr .isub], .inr (.inr (0, 6, 1))),
  (29, [], .inr (.inr (2, 1, 0)))]
def zp_N_readGround : List zB := [(0, [.inr (.aload_n 0), .inl (.int 0), .inr (.multianewarray 5 13), .inl (.int 0), .inr (.istore_n 1)], .inr (.inr (0, 1, 1))),
  (7, [.inr (.iload_n 1), .inl (.int 36)], .inl (.ge, true, 17, 2)),
  (13, [.inr (.iload_n 1)], .inl (.le, false, 7, 3)),
  (17, [.inr (.iload_n 1), .inl (.int 6), .inr .irem], .inl (.ne, false, 7, 4)),
  (24, [.inr (.aload_n 0), .inl (.int 47)], .inr (.inr (1, 72, 5))),
  (30, [], .inl (.ne, false, 7, 6)),
  (33, [.inl (.int 0)], .inr (.inr (2, 3, 0))),
  (35, [.inr (.aload_n 0)], .inr (.inr (1, 71, 8))),
  (39, [.inl (.int 48), .inr .isub, .inr (.istore_n 2), .inr (.iload_n 2), .inr .i2l, .inl (.long 0), .inl (.long 9)], .inr (.inr (1, 44, 9))),
  (52, [], .inl (.ne, false, 11, 10)),
  (55, [.inl (.int 0)], .inr (.inr (2, 3, 0))),
  (57, [.inr (.aload_n 0), .inr .dup, .inr (.invokeinterface 5 13), .inl (.int 1), .inr .iadd, .inr (.multianewarray 5 13), .inr (.aload_n 0), .inr (.invokeinterface 5 15), .inr (.iload_n 1), .inr (.iload_n 2)], .inl (.le, false, 15, 12)),
  (76, [.inr (.aload_n 0), .inl (.int 94)], .inr (.inr (1, 72, 13))),
  (82, [], .inl (.eq, false, 15, 14)),
  (85, [.inl (.int 100), .inr (.iload_n 2), .inr .iadd], .inr (.inr (0, 16, 0))),
  (92, [.inr (.iload_n 2)], .inr (.inr (0, 16, 1))),
  (93, [.inr .iastore, .inr (.iinc 1 1)], .inr (.inr (0, 1, 0))),
  (100, [.inr (.aload_n 0)], .inr (.inr (1, 71, 18))),
  (104, [], .inl (.ge, false, 20, 19)),
  (107, [.inl (.int 1)], .inr (.inr (0, 21, 0))),
  (111, [.inl (.int 0)], .inr (.inr (0, 21, 1))),
  (112, [], .inr (.inr (2, 3, 0)))]
def zp_N_ground : List zB := [(0, [.inr (.aload_n 0), .inr (.aload_n 0)], .inr (.inr (1, 74, 1))),
  (5, [], .inr (.inr (1, 73, 2))),
  (8, [.inr (.istore_n 1), .inr (.iload_n 1)], .inl (.ge, false, 4, 3)),
  (13, [.inr (.iload_n 1)], .inr (.inr (2, 1, 0))),
  (15, [.inl (.int 0), .inr (.istore_n 2)], .inr (.inr (0, 5, 1))),
  (17, [.inr (.iload_n 2), .inl (.int 36)], .inl (.ge, true, 11, 6)),
  (23, [.inr (.aload_n 0), .inr (.iload_n 2), .inr (.aload_n 0), .inr (.invokeinterface 5 15), .inr (.iload_n 2), .inr .iaload, .inl (.int 100), .inr .irem, .inr (.aload_n 0), .inr (.invokeinterface 5 15), .inr (.iload_n 2), .inr .iaload, .inl (.int 99)], .inl (.le, true, 8, 7)),
  (45, [.inl (.int 1)], .inr (.inr (0, 9, 0))),
  (49, [.inl (.int 0)], .inr (.inr (0, 9, 1))),
  (50, [], .inr (.inr (1, 62, 10))),
  (53, [.inr (.iinc 2 1)], .inr (.inr (0, 5, 0))),
  (59, [.inr (.aload_n 0), .inl (.int 0), .inr (.multianewarray 5 5), .inr (.aload_n 0)], .inr (.inr (1, 49, 12))),
  (68, [.inr (.aload_n 0)], .inr (.inr (1, 59, 13))),
  (72, [.inr (.aload_n 0), .inr (.invokeinterface 5 10)], .inr (.inr (2, 1, 0)))]
def zp_N_readOwners : List zB := [(0, [.inr (.aload_n 0), .inl (.int 0), .inr (.multianewarray 5 13), .inl (.int 0), .inr (.istore_n 1)], .inr (.inr (0, 1, 1))),
  (7, [.inr (.iload_n 1), .inl (.int 36)], .inl (.ge, true, 15, 2)),
  (13, [.inr (.iload_n 1)], .inl (.le, false, 6, 3)),
  (17, [.inr (.iload_n 1), .inl (.int 6), .inr .irem], .inl (.ne, false, 6, 4)),
  (24, [.inr (.aload_n 0), .inl (.int 47)], .inr (.inr (1, 72, 5))),
  (30, [.inr .pop], .inr (.inr (0, 6, 1))),
  (31, [.inr (.aload_n 0)], .inr (.inr (1, 71, 7))),
  (35, [.inr (.istore_n 2), .inr (.iload_n 2), .inl (.int 45)], .inl (.eq, true, 11, 8)),
  (42, [.inr (.iload_n 2), .inr .i2l, .inl (.long 48), .inl (.long 51)], .inr (.inr (1, 44, 9))),
  (53, [], .inl (.ne, false, 11, 10)),
  (56, [.inl (.int 0)], .inr (.inr (2, 3, 0))),
  (58, [.inr (.aload_n 0), .inr .dup, .inr (.invokeinterface 5 13), .inl (.int 1), .inr .iadd, .inr (.multianewarray 5 13), .inr (.aload_n 0), .inr (.invokeinterface 5 15), .inr (.iload_n 1), .inr (.iload_n 2), .inl (.int 45)], .inl (.ne, true, 13, 12)),
  (79, [.inl (.int 4)], .inr (.inr (0, 14, 0))),
  (83, [.inr (.iload_n 2), .inl (.int 48), .inr .isub], .inr (.inr (0, 14, 1))),
  (87, [.inr .iastore, .inr (.iinc 1 1)], .inr (.inr (0, 1, 0))),
  (94, [.inr (.aload_n 0)], .inr (.inr (1, 71, 16))),
  (98, [], .inl (.ge, false, 18, 17)),
  (101, [.inl (.int 1)], .inr (.inr (0, 19, 0))),
  (105, [.inl (.int 0)], .inr (.inr (0, 19, 1))),
  (106, [], .inr (.inr (2, 3, 0)))]
def zp_N_owners : List zB := [(0, [.inr (.aload_n 0), .inr (.aload_n 0)], .inr (.inr (1, 76, 1))),
  (5, [], .inr (.inr (1, 73, 2))),
  (8, [.inr (.istore_n 1), .inr (.iload_n 1)], .inl (.ge, false, 4, 3)),
  (13, [.inr (.iload_n 1)], .inr (.inr (2, 1, 0))),
  (15, [.inl (.int 0), .inr (.istore_n 2), .inl (.int 0), .inr (.istore_n 3)], .inr (.inr (0, 5, 1))),
  (19, [.inr (.iload_n 3), .inl (.int 36)], .inl (.ge, true, 10, 6)),
  (25, [.inr (.aload_n 0), .inr (.invokeinterface 5 1), .inr (.iload_n 3), .inr (.aload_n 0), .inr (.invokeinterface 5 15), .inr (.iload_n 3), .inr .iaload, .inr .iastore, .inr (.iload_n 2), .inr (.aload_n 0), .inr (.invokeinterface 5 15), .inr (.iload_n 3), .inr .iaload, .inl (.int 4)], .inl (.ge, true, 8, 7)),
  (48, [.inl (.int 1)], .inr (.inr (0, 9, 0))),
  (52, [.inl (.int 0)], .inr (.inr (0, 9, 1))),
  (53, [.inr .iadd, .inr (.istore_n 2), .inr (.iinc 3 1)], .inr (.inr (0, 5, 0))),
  (61, [.inr (.iload_n 2)], .inr (.inr (2, 1, 0)))]
def zp_N_readAct : List zB := [(0, [.inr (.aload_n 0)], .inr (.inr (1, 71, 1))),
  (4, [.inr (.istore_n 1), .inr (.iload_n 1), .inl (.int 100)], .inl (.eq, true, 5, 2)),
  (11, [.inr (.iload_n 1), .inl (.int 102)], .inl (.eq, true, 5, 3)),
  (17, [.inr (.iload_n 1), .inl (.int 114)], .inl (.eq, true, 5, 4)),
  (23, [.inl (.int 0)], .inr (.inr (2, 3, 0))),
  (25, [.inr (.aload_n 0), .inr .dup, .inr (.invokeinterface 5 13), .inl (.int 1), .inr .iadd, .inr (.multianewarray 5 13), .inr (.aload_n 0)], .inr (.inr (1, 71, 6))),
  (39, [.inl (.int 48), .inr .isub, .inr (.istore_n 2), .inr (.iload_n 2), .inr .i2l, .inl (.long 0), .inl (.long 5)], .inr (.inr (1, 44, 7))),
  (52, [], .inl (.ne, false, 9, 8)),
  (55, [.inl (.int 0)], .inr (.inr (2, 3, 0))),
  (57, [.inr (.aload_n 0), .inr .dup, .inr (.invokeinterface 5 13), .inl (.int 1), .inr .iadd, .inr (.multianewarray 5 13), .inr (.aload_n 0)], .inr (.inr (1, 71, 10))),
  (71, [.inl (.int 48), .inr .isub, .inr (.istore_n 3), .inr (.iload_n 3), .inr .i2l, .inl (.long 0), .inl (.long 5)], .inr (.inr (1, 44, 11))),
  (84, [], .inl (.ne, false, 13, 12)),
  (87, [.inl (.int 0)], .inr (.inr (2, 3, 0))),
  (89, [.inr (.aload_n 0), .inr .dup, .inr (.invokeinterface 5 13), .inl (.int 1), .inr .iadd, .inr (.multianewarray 5 13), .inr (.aload_n 0), .inr (.invokeinterface 5 15), .inr (.aload_n 0), .inr (.invokeinterface 5 14), .inl (.int 100), .inr (.iload_n 1), .inr .imul, .inl (.int 6), .inr (.iload_n 2), .inr .imul, .inr .iadd, .inr (.iload_n 3), .inr .iadd, .inr .iastore, .inl (.int 1)], .inr (.inr (2, 3, 0)))]
def zp_N_readDay : List zB := [(0, [.inr (.aload_n 0), .inl (.int 0), .inr (.multianewarray 5 13), .inr (.aload_n 0), .inl (.int 0), .inr (.multianewarray 5 14), .inl (.int 1), .inr (.istore_n 1)], .inr (.inr (0, 1, 1))),
  (12, [.inr (.iload_n 1)], .inl (.eq, false, 7, 2)),
  (16, [.inr (.aload_n 0)], .inr (.inr (1, 78, 3))),
  (20, [], .inl (.ne, false, 5, 4)),
  (23, [.inl (.int 0)], .inr (.inr (2, 3, 0))),
  (25, [.inr (.aload_n 0), .inr .dup, .inr (.invokeinterface 5 14), .inl (.int 1), .inr .iadd, .inr (.multianewarray 5 14), .inr (.aload_n 0), .inl (.int 59)], .inr (.inr (1, 72, 6))),
  (41, [.inr (.istore_n 1)], .inr (.inr (0, 1, 0))),
  (45, [.inr (.aload_n 0)], .inr (.inr (1, 71, 8))),
  (49, [], .inl (.ge, false, 10, 9)),
  (52, [.inl (.int 1)], .inr (.inr (0, 11, 0))),
  (56, [.inl (.int 0)], .inr (.inr (0, 11, 1))),
  (57, [], .inr (.inr (2, 3, 0)))]
def zp_N_day : List zB := [(0, [.inr (.aload_n 0), .inr (.aload_n 0)], .inr (.inr (1, 79, 1))),
  (5, [], .inr (.inr (1, 73, 2))),
  (8, [.inr (.istore_n 1), .inr (.iload_n 1)], .inl (.ge, false, 4, 3)),
  (13, [.inr (.iload_n 1)], .inr (.inr (2, 1, 0))),
  (15, [.inl (.int 0), .inr (.istore_n 2)], .inr (.inr (0, 5, 1))),
  (17, [.inr (.iload_n 2), .inr (.aload_n 0), .inr (.invokeinterface 5 14)], .inl (.ge, true, 16, 6)),
  (25, [.inr (.aload_n 0), .inr (.invokeinterface 5 15), .inr (.iload_n 2), .inr .iaload, .inl (.int 100), .inr .idiv, .inr (.istore_n 3), .inr (.aload_n 0), .inr (.invokeinterface 5 15), .inr (.iload_n 2), .inr .iaload, .inl (.int 100), .inr .irem, .inr (.istore 4), .inr (.iload_n 3), .inl (.int 100)], .inl (.ne, true, 9, 7)),
  (52, [.inr (.aload_n 0), .inr (.iload 4)], .inr (.inr (1, 63, 8))),
  (58, [], .inr (.inr (0, 13, 0))),
  (61, [.inr (.iload_n 3), .inl (.int 102)], .inl (.ne, true, 12, 10)),
  (67, [.inr (.aload_n 0), .inr (.iload 4)], .inr (.inr (1, 64, 11))),
  (73, [], .inr (.inr (0, 13, 0))),
  (76, [.inr (.aload_n 0), .inr (.iload 4)], .inr (.inr (1, 65, 13))),
  (82, [.inr (.istore 5), .inr (.iload 5)], .inl (.ge, false, 15, 14)),
  (89, [.inr (.iload_n 2)], .inr (.inr (2, 1, 0))),
  (91, [.inr (.iinc 2 1)], .inr (.inr (0, 5, 0))),
  (97, [.inr (.aload_n 0), .inr (.invokeinterface 5 14)], .inr (.inr (2, 1, 0)))]
def zp_N_count : List zB := [(0, [.inr (.aload_n 0)], .inr (.inr (1, 49, 1))),
  (4, [.inl (.int 0), .inr (.istore_n 2), .inl (.int 0), .inr (.istore_n 3)], .inr (.inr (0, 2, 1))),
  (8, [.inr (.iload_n 3), .inl (.int 36)], .inl (.ge, true, 4, 3)),
  (14, [.inr (.iload_n 2), .inr (.aload_n 0), .inr (.invokeinterface 5 0), .inr (.iload_n 3), .inr .iaload, .inr .iadd, .inr (.istore_n 2), .inr (.iinc 3 1)], .inr (.inr (0, 2, 0))),
  (29, [.inr (.aload_n 0)], .inr (.inr (1, 59, 5))),
  (33, [.inr (.iload_n 1)], .inr (.inl ([(0, 6), (1, 7), (2, 9), (3, 11), (4, 12), (5, 13), (6, 15)], 16))),
  (76, [.inr (.aload_n 0), .inr (.invokeinterface 5 10)], .inr (.inr (2, 1, 0))),
  (81, [.inr (.aload_n 0), .inr (.invokeinterface 5 7)], .inr (.inr (1, 47, 8))),
  (88, [], .inr (.inr (2, 1, 0))),
  (89, [.inr (.aload_n 0)], .inr (.inr (1, 60, 10))),
  (93, [], .inr (.inr (2, 1, 0))),
  (94, [.inr (.aload_n 0), .inr (.invokeinterface 5 5)], .inr (.inr (2, 1, 0))),
  (99, [.inr (.aload_n 0), .inr (.invokeinterface 5 3)], .inr (.inr (2, 1, 0))),
  (104, [.inr (.aload_n 0), .inr (.invokeinterface 5 2)], .inr (.inr (1, 47, 14))),
  (111, [], .inr (.inr (2, 1, 0))),
  (112, [.inr (.iload_n 2)], .inr (.inr (2, 1, 0))),
  (114, [.inl (.int (-1))], .inr (.inr (2, 1, 0)))]
def zp_N_owned : List zB := [(0, [.inl (.long 0), .inr (.lstore_n 2), .inl (.int 0), .inr (.istore 4)], .inr (.inr (0, 1, 1))),
  (5, [.inr (.iload 4), .inl (.int 36)], .inl (.ge, true, 6, 2)),
  (12, [.inr (.lload_n 2), .inr (.aload_n 0), .inr (.invokeinterface 5 1), .inr (.iload 4), .inr .iaload, .inr (.iload_n 1)], .inl (.ne, true, 4, 3)),
  (24, [.inl (.long 1), .inr (.iload 4), .inr .lshl], .inr (.inr (0, 5, 0))),
  (31, [.inl (.long 0)], .inr (.inr (0, 5, 1))),
  (32, [.inr .lor, .inr (.lstore_n 2), .inr (.iinc 4 1)], .inr (.inr (0, 1, 0))),
  (40, [.inr (.lload_n 2)], .inr (.inr (2, 2, 0)))]
def zp_N_ownerOf : List zB := [(0, [.inl (.int 4), .inr (.istore_n 3), .inl (.int 0), .inr (.istore 4), .inl (.int 0), .inr (.istore 5)], .inr (.inr (0, 1, 1))),
  (8, [.inr (.iload 5), .inl (.int 4)], .inl (.ge, true, 12, 2)),
  (14, [.inr (.aload_n 0), .inr (.lload_n 1)], .inr (.inr (1, 53, 3))),
  (19, [.inr (.aload_n 0), .inr (.iload 5)], .inr (.inr (1, 82, 4))),
  (25, [.inr .land], .inr (.inr (1, 47, 5))),
  (29, [.inr (.istore 6), .inr (.iload 6), .inr (.iload 4)], .inl (.le, true, 7, 6)),
  (38, [.inr (.iload 5)], .inr (.inr (0, 8, 0))),
  (43, [.inr (.iload_n 3)], .inr (.inr (0, 8, 1))),
  (44, [.inr (.istore_n 3), .inr (.iload 6), .inr (.iload 4)], .inl (.le, true, 10, 9)),
  (52, [.inr (.iload 6)], .inr (.inr (0, 11, 0))),
  (57, [.inr (.iload 4)], .inr (.inr (0, 11, 1))),
  (59, [.inr (.istore 4), .inr (.iinc 5 1)], .inr (.inr (0, 1, 0))),
  (67, [.inr (.iload_n 3)], .inr (.inr (2, 1, 0)))]
def zp_N_nestedOf : List zB := [(0, [.inr (.aload_n 0)], .inr (.inr (1, 59, 1))),
  (4, [.inl (.int 0), .inr (.istore_n 3), .inl (.int 0), .inr (.istore 4)], .inr (.inr (0, 2, 1))),
  (9, [.inr (.iload 4), .inr (.aload_n 0), .inr (.invokeinterface 5 10)], .inl (.ge, true, 9, 3)),
  (18, [.inr (.iload_n 3), .inr (.aload_n 0), .inr (.invokeinterface 5 9), .inr (.iload 4), .inr .laload, .inr (.lload_n 1), .inr .lcmp], .inl (.eq, false, 7, 4)),
  (31, [.inr (.lload_n 1), .inr (.aload_n 0), .inr (.invokeinterface 5 9), .inr (.iload 4), .inr .laload], .inr (.inr (1, 56, 5))),
  (42, [.inl (.long (-1)), .inr .lxor, .inr .land, .inl (.long 0), .inr .lcmp], .inl (.ne, false, 7, 6)),
  (52, [.inl (.int 1)], .inr (.inr (0, 8, 0))),
  (56, [.inl (.int 0)], .inr (.inr (0, 8, 1))),
  (57, [.inr .iadd, .inr (.istore_n 3), .inr (.iinc 4 1)], .inr (.inr (0, 2, 0))),
  (65, [.inr (.iload_n 3)], .inr (.inr (2, 1, 0)))]
def zp_N_largestOf : List zB := [(0, [.inl (.int 0), .inr (.istore_n 2), .inr (.lload_n 0), .inr (.lstore_n 3), .inl (.int 1), .inr (.istore 5)], .inr (.inr (0, 1, 1))),
  (7, [.inr (.lload_n 3), .inl (.long 0), .inr .lcmp], .inl (.eq, false, 3, 2)),
  (13, [.inr (.iload 5), .inr (.istore_n 2), .inr (.lload_n 3), .inl (.long (-1090785346)), .inr .land, .inl (.int 1), .inr .lshr, .inr (.lstore 6), .inr (.lload_n 3), .inr (.lload 6), .inr .land, .inr (.lload_n 3), .inl (.int 6), .inr .lshr, .inr .land, .inr (.lload 6), .inl (.int 6), .inr .lshr, .inr .land, .inr (.lstore_n 3), .inr (.iinc 5 1)], .inr (.inr (0, 1, 0))),
  (47, [.inr (.iload_n 2)], .inr (.inr (2, 1, 0)))]
def zp_N_hole : List zB := [(0, [.inr (.iload_n 1)], .inr (.inr (1, 45, 1))),
  (4, [], .inl (.eq, false, 4, 2)),
  (7, [.inr (.iload_n 2), .inr .i2l, .inl (.long 0), .inl (.long 7)], .inr (.inr (1, 44, 3))),
  (16, [], .inl (.ne, false, 5, 4)),
  (19, [.inl (.int (-1))], .inr (.inr (2, 1, 0))),
  (21, [.inr (.aload_n 0)], .inr (.inr (1, 49, 6))),
  (25, [.inr (.aload_n 0), .inr (.invokeinterface 5 7), .inr (.iload_n 1)], .inr (.inr (1, 46, 7))),
  (33, [], .inl (.ne, false, 9, 8)),
  (36, [.inl (.int (-2))], .inr (.inr (2, 1, 0))),
  (39, [.inr (.aload_n 0), .inr (.iload_n 1)], .inr (.inr (1, 52, 10))),
  (44, [.inr (.lstore_n 3), .inr (.iload_n 2)], .inr (.inl ([(0, 11), (1, 13), (2, 15), (3, 17), (4, 19), (5, 22), (6, 24)], 26))),
  (88, [.inr (.lload_n 3)], .inr (.inr (1, 47, 12))),
  (92, [], .inr (.inr (2, 1, 0))),
  (93, [.inr (.aload_n 0), .inr (.lload_n 3)], .inr (.inr (1, 57, 14))),
  (98, [], .inr (.inr (2, 1, 0))),
  (99, [.inr (.aload_n 0), .inr (.lload_n 3)], .inr (.inr (1, 58, 16))),
  (104, [], .inr (.inr (2, 1, 0))),
  (105, [.inr (.lload_n 3)], .inr (.inr (1, 54, 18))),
  (109, [], .inr (.inr (2, 1, 0))),
  (110, [.inr (.aload_n 0), .inr (.lload_n 3)], .inr (.inr (1, 53, 20))),
  (115, [], .inr (.inr (1, 47, 21))),
  (118, [], .inr (.inr (2, 1, 0))),
  (119, [.inr (.aload_n 0), .inr (.lload_n 3)], .inr (.inr (1, 83, 23))),
  (124, [], .inr (.inr (2, 1, 0))),
  (125, [.inr (.aload_n 0), .inr (.lload_n 3)], .inr (.inr (1, 84, 25))),
  (130, [], .inr (.inr (2, 1, 0))),
  (131, [.inr (.lload_n 3)], .inr (.inr (1, 85, 27))),
  (135, [], .inr (.inr (2, 1, 0)))]
def zp_N_cells : List zB := [(0, [.inr (.iload_n 1)], .inr (.inr (1, 45, 1))),
  (4, [], .inl (.eq, false, 4, 2)),
  (7, [.inr (.iload_n 2), .inr .i2l, .inl (.long 0), .inl (.long 2)], .inr (.inr (1, 44, 3))),
  (16, [], .inl (.ne, false, 5, 4)),
  (19, [.inl (.long (-1))], .inr (.inr (2, 2, 0))),
  (23, [.inr (.aload_n 0)], .inr (.inr (1, 49, 6))),
  (27, [.inr (.aload_n 0), .inr (.invokeinterface 5 7), .inr (.iload_n 1)], .inr (.inr (1, 46, 7))),
  (35, [], .inl (.ne, false, 9, 8)),
  (38, [.inl (.long (-2))], .inr (.inr (2, 2, 0))),
  (42, [.inr (.aload_n 0), .inr (.iload_n 1)], .inr (.inr (1, 52, 10))),
  (47, [.inr (.lstore_n 3), .inr (.iload_n 2)], .inl (.ne, false, 12, 11)),
  (52, [.inr (.lload_n 3)], .inr (.inr (0, 16, 0))),
  (56, [.inr (.iload_n 2), .inl (.int 1)], .inl (.ne, true, 15, 13)),
  (61, [.inr (.aload_n 0), .inr (.lload_n 3)], .inr (.inr (1, 53, 14))),
  (66, [], .inr (.inr (0, 16, 0))),
  (69, [.inr (.lload_n 3)], .inr (.inr (1, 56, 16))),
  (73, [], .inr (.inr (2, 2, 0)))]
def zp_N_partOf : List zB := [(0, [.inr (.aload_n 0), .inr (.lload_n 1)], .inr (.inr (1, 53, 1))),
  (5, [.inr (.lstore 4), .inr (.lload 4), .inr (.aload_n 0), .inl (.int 4)], .inr (.inr (1, 82, 2))),
  (14, [.inl (.long (-1)), .inr .lxor, .inr .land], .inr (.inr (1, 47, 3))),
  (22, [.inr (.istore 6), .inr (.iload 6)], .inl (.ne, false, 5, 4)),
  (29, [.inl (.int 0)], .inr (.inr (0, 9, 0))),
  (33, [.inr (.aload_n 0), .inr (.lload_n 1)], .inr (.inr (1, 58, 6))),
  (38, [.inr (.lload 4), .inr (.aload_n 0), .inr (.iload_n 3)], .inr (.inr (1, 82, 7))),
  (45, [.inr .land], .inr (.inr (1, 47, 8))),
  (49, [.inr .imul, .inr (.iload 6), .inr .idiv], .inr (.inr (0, 9, 1))),
  (53, [], .inr (.inr (2, 1, 0)))]
def zp_N_part : List zB := [(0, [.inr (.iload_n 1)], .inr (.inr (1, 45, 1))),
  (4, [], .inl (.eq, false, 4, 2)),
  (7, [.inr (.iload_n 2), .inr .i2l, .inl (.long 0), .inl (.long 3)], .inr (.inr (1, 44, 3))),
  (16, [], .inl (.ne, false, 5, 4)),
  (19, [.inl (.int (-1))], .inr (.inr (2, 1, 0))),
  (21, [.inr (.aload_n 0)], .inr (.inr (1, 49, 6))),
  (25, [.inr (.aload_n 0), .inr (.invokeinterface 5 7), .inr (.iload_n 1)], .inr (.inr (1, 46, 7))),
  (33, [], .inl (.eq, false, 11, 8)),
  (36, [.inr (.aload_n 0), .inr (.aload_n 0), .inr (.iload_n 1)], .inr (.inr (1, 52, 9))),
  (42, [.inr (.iload_n 2)], .inr (.inr (1, 88, 10))),
  (46, [], .inr (.inr (0, 12, 0))),
  (49, [.inl (.int (-2))], .inr (.inr (0, 12, 1))),
  (51, [], .inr (.inr (2, 1, 0)))]
def zp_N_pays : List zB := [(0, [.inr (.iload_n 1), .inr .i2l, .inl (.long 0), .inl (.long 3)], .inr (.inr (1, 44, 1))),
  (9, [], .inl (.ne, false, 3, 2)),
  (12, [.inl (.int (-1))], .inr (.inr (2, 1, 0))),
  (14, [.inr (.aload_n 0)], .inr (.inr (1, 49, 4))),
  (18, [.inr (.aload_n 0)], .inr (.inr (1, 59, 5))),
  (22, [.inl (.int 0), .inr (.istore_n 2), .inl (.int 0), .inr (.istore_n 3)], .inr (.inr (0, 6, 1))),
  (26, [.inr (.iload_n 3), .inr (.aload_n 0), .inr (.invokeinterface 5 10)], .inl (.ge, true, 9, 7)),
  (34, [.inr (.iload_n 2), .inr (.aload_n 0), .inr (.aload_n 0), .inr (.invokeinterface 5 9), .inr (.iload_n 3), .inr .laload, .inr (.iload_n 1)], .inr (.inr (1, 88, 8))),
  (46, [.inr .iadd, .inr (.istore_n 2), .inr (.iinc 3 1)], .inr (.inr (0, 6, 0))),
  (54, [.inr (.iload_n 2)], .inr (.inr (2, 1, 0)))]
def zp_N_worth : List zB := [(0, [.inr (.iload_n 1), .inr .i2l, .inl (.long 0), .inl (.long 3)], .inr (.inr (1, 44, 1))),
  (9, [], .inl (.ne, false, 3, 2)),
  (12, [.inl (.int (-100001))], .inr (.inr (2, 1, 0))),
  (15, [.inr (.aload_n 0)], .inr (.inr (1, 49, 4))),
  (19, [.inr (.aload_n 0)], .inr (.inr (1, 60, 5))),
  (23, [.inr (.istore_n 2), .inr (.aload_n 0), .inr .dup, .inr (.invokeinterface 5 7), .inr (.aload_n 0), .inr (.iload_n 1)], .inr (.inr (1, 82, 6))),
  (34, [.inl (.long (-1)), .inr .lxor, .inr .land, .inr (.multianewarray 5 7), .inr (.iload_n 2), .inr (.aload_n 0)], .inr (.inr (1, 60, 7))),
  (47, [.inr .isub], .inr (.inr (2, 1, 0)))]
def zp_N_filled : List zB := [(0, [.inr (.iload_n 1), .inr .i2l, .inl (.long 0), .inl (.long 9999)], .inr (.inr (1, 44, 1))),
  (9, [], .inl (.eq, false, 4, 2)),
  (12, [.inr (.iload_n 2), .inr .i2l, .inl (.long (-1)), .inl (.long 1)], .inr (.inr (1, 44, 3))),
  (21, [], .inl (.ne, false, 5, 4)),
  (24, [.inl (.int (-1))], .inr (.inr (2, 1, 0))),
  (26, [.inr (.aload_n 0)], .inr (.inr (1, 49, 6))),
  (30, [.inr (.aload_n 0), .inr (.iload_n 1), .inl (.long 0)], .inr (.inr (1, 93, 7))),
  (36, [.inr (.istore_n 3), .inr (.iload_n 3)], .inl (.lt, false, 9, 8)),
  (41, [.inr (.iload_n 2)], .inl (.ge, false, 10, 9)),
  (45, [.inr (.iload_n 3)], .inr (.inr (0, 13, 0))),
  (49, [.inr (.iload_n 2), .inr (.iload_n 3)], .inl (.ge, true, 12, 11)),
  (54, [.inr (.aload_n 0), .inr (.invokeinterface 5 16), .inr (.iload_n 2), .inr .iaload], .inr (.inr (0, 13, 0))),
  (63, [.inl (.int (-4))], .inr (.inr (0, 13, 1))),
  (65, [], .inr (.inr (2, 1, 0)))]
def zp_N_fewestFilled : List zB := [(0, [.inr (.aload_n 0), .inl (.long 0), .inr (.iload_n 1), .inr (.lload_n 2)], .inr (.inr (1, 94, 1))),
  (7, [], .inl (.eq, false, 3, 2)),
  (10, [.inl (.int 0)], .inr (.inr (2, 1, 0))),
  (12, [.inr (.lload_n 2), .inl (.long 0), .inr .lcmp], .inl (.ne, false, 5, 4)),
  (18, [.inr (.aload_n 0), .inr (.invokeinterface 5 7)], .inr (.inr (0, 6, 0))),
  (25, [.inr (.lload_n 2)], .inr (.inr (0, 6, 1))),
  (26, [.inr (.lstore 4), .inl (.int 0), .inr (.istore 6)], .inr (.inr (0, 7, 1))),
  (31, [.inr (.iload 6), .inl (.int 36)], .inl (.ge, true, 14, 8)),
  (38, [.inr (.lload 4), .inr (.iload 6)], .inr (.inr (1, 46, 9))),
  (45, [], .inl (.eq, false, 13, 10)),
  (48, [.inr (.aload_n 0), .inl (.long 1), .inr (.iload 6), .inr .lshl, .inr (.iload_n 1), .inr (.lload_n 2)], .inr (.inr (1, 94, 11))),
  (58, [], .inl (.eq, false, 13, 12)),
  (61, [.inr (.aload_n 0), .inr (.invokeinterface 5 16), .inl (.int 0), .inr (.iload 6), .inr .iastore, .inl (.int 1)], .inr (.inr (2, 1, 0))),
  (71, [.inr (.iinc 6 1)], .inr (.inr (0, 7, 0))),
  (77, [.inl (.int 0), .inr (.istore 6)], .inr (.inr (0, 15, 1))),
  (80, [.inr (.iload 6), .inl (.int 36)], .inl (.ge, true, 27, 16)),
  (87, [.inr (.iload 6), .inl (.int 1), .inr .iadd, .inr (.istore 7)], .inr (.inr (0, 17, 1))),
  (93, [.inr (.iload 7), .inl (.int 36)], .inl (.ge, true, 26, 18)),
  (100, [.inr (.lload 4), .inr (.iload 6)], .inr (.inr (1, 46, 19))),
  (107, [], .inl (.eq, false, 25, 20)),
  (110, [.inr (.lload 4), .inr (.iload 7)], .inr (.inr (1, 46, 21))),
  (117, [], .inl (.eq, false, 25, 22)),
  (120, [.inr (.aload_n 0), .inl (.long 1), .inr (.iload 6), .inr .lshl, .inl (.long 1), .inr (.iload 7), .inr .lshl, .inr .lor, .inr (.iload_n 1), .inr (.lload_n 2)], .inr (.inr (1, 94, 23))),
  (135, [], .inl (.eq, false, 25, 24)),
  (138, [.inr (.aload_n 0), .inr (.invokeinterface 5 16), .inl (.int 0), .inr (.iload 6), .inr .iastore, .inr (.aload_n 0), .inr (.invokeinterface 5 16), .inl (.int 1), .inr (.iload 7), .inr .iastore, .inl (.int 2)], .inr (.inr (2, 1, 0))),
  (156, [.inr (.iinc 7 1)], .inr (.inr (0, 17, 0))),
  (162, [.inr (.iinc 6 1)], .inr (.inr (0, 15, 0))),
  (168, [.inl (.int (-4))], .inr (.inr (2, 1, 0)))]
def zp_N_does : List zB := [(0, [.inr (.lload 4), .inl (.long 0), .inr .lcmp], .inl (.eq, false, 8, 1)),
  (7, [.inr (.lload 4), .inr (.lload_n 1), .inl (.long (-1)), .inr .lxor, .inr .land, .inr (.lstore 6), .inr (.lload 6), .inl (.long 0), .inr .lcmp], .inl (.eq, false, 6, 2)),
  (24, [.inl (.long 1), .inr (.lload 6)], .inr (.inr (1, 48, 3))),
  (30, [.inr .lshl, .inr (.lload 6)], .inr (.inr (1, 51, 4))),
  (36, [.inr (.lload 6), .inr .lcmp], .inl (.eq, false, 6, 5)),
  (42, [.inl (.int 1)], .inr (.inr (0, 7, 0))),
  (46, [.inl (.int 0)], .inr (.inr (0, 7, 1))),
  (47, [], .inr (.inr (2, 3, 0))),
  (48, [.inr (.aload_n 0), .inr (.invokeinterface 5 7), .inr (.lstore 6), .inr (.aload_n 0), .inr .dup, .inr (.invokeinterface 5 7), .inr (.lload_n 1), .inl (.long (-1)), .inr .lxor, .inr .land, .inr (.multianewarray 5 7), .inr (.aload_n 0)], .inr (.inr (1, 60, 9))),
  (72, [.inr (.iload_n 3)], .inl (.gt, true, 11, 10)),
  (76, [.inl (.int 1)], .inr (.inr (0, 12, 0))),
  (80, [.inl (.int 0)], .inr (.inr (0, 12, 1))),
  (81, [.inr (.istore 8), .inr (.aload_n 0), .inr (.lload 6), .inr (.multianewarray 5 7), .inr (.iload 8)], .inr (.inr (2, 3, 0)))]
def zp_N_split : List zB := [(0, [.inr (.iload_n 1)], .inr (.inr (1, 45, 1))),
  (4, [], .inl (.eq, false, 4, 2)),
  (7, [.inr (.iload_n 2), .inr .i2l, .inl (.long (-1)), .inl (.long 1)], .inr (.inr (1, 44, 3))),
  (16, [], .inl (.ne, false, 5, 4)),
  (19, [.inl (.int (-1))], .inr (.inr (2, 1, 0))),
  (21, [.inr (.aload_n 0)], .inr (.inr (1, 49, 6))),
  (25, [.inr (.aload_n 0), .inr (.invokeinterface 5 7), .inr (.iload_n 1)], .inr (.inr (1, 46, 7))),
  (33, [], .inl (.ne, false, 9, 8)),
  (36, [.inl (.int (-2))], .inr (.inr (2, 1, 0))),
  (39, [.inr (.aload_n 0), .inl (.int 0), .inr (.aload_n 0), .inr (.iload_n 1)], .inr (.inr (1, 52, 10))),
  (46, [], .inr (.inr (1, 93, 11))),
  (49, [.inr (.istore_n 3), .inr (.iload_n 3)], .inl (.lt, false, 13, 12)),
  (54, [.inr (.iload_n 2)], .inl (.ge, false, 14, 13)),
  (58, [.inr (.iload_n 3)], .inr (.inr (0, 17, 0))),
  (62, [.inr (.iload_n 2), .inr (.iload_n 3)], .inl (.ge, true, 16, 15)),
  (67, [.inr (.aload_n 0), .inr (.invokeinterface 5 16), .inr (.iload_n 2), .inr .iaload], .inr (.inr (0, 17, 0))),
  (76, [.inl (.int (-4))], .inr (.inr (0, 17, 1))),
  (78, [], .inr (.inr (2, 1, 0)))]
def zp_N_fewestDug : List zB := [(0, [.inr (.lload_n 1), .inr (.aload_n 0), .inr (.invokeinterface 5 7)], .inr (.inr (1, 51, 1))),
  (8, [.inr (.lstore 7), .inl (.int 0), .inr (.istore 9)], .inr (.inr (0, 2, 1))),
  (13, [.inr (.lload 7), .inr (.lload_n 3), .inr .land, .inl (.long 0), .inr .lcmp], .inl (.ne, false, 7, 3)),
  (22, [.inr (.iload 9), .inl (.int 40)], .inl (.ge, true, 7, 4)),
  (29, [.inr (.lload 7), .inr (.lload 7)], .inr (.inr (1, 50, 5))),
  (36, [.inr (.lload 5), .inr .land, .inr .lor, .inr (.lstore 10), .inr (.lload 10), .inr (.aload_n 0), .inr (.invokeinterface 5 7), .inr (.lload 10), .inr .lor], .inr (.inr (1, 51, 6))),
  (54, [.inr (.lstore 7), .inr (.iinc 9 1)], .inr (.inr (0, 2, 0))),
  (62, [.inr (.iload 9)], .inr (.inr (2, 1, 0)))]
def zp_N_dug : List zB := [(0, [.inr (.iload_n 1)], .inr (.inr (1, 45, 1))),
  (4, [], .inl (.eq, false, 6, 2)),
  (7, [.inr (.iload_n 2)], .inr (.inr (1, 45, 3))),
  (11, [], .inl (.eq, false, 6, 4)),
  (14, [.inr (.iload_n 3), .inr .i2l, .inl (.long (-1)), .inl (.long 9)], .inr (.inr (1, 44, 5))),
  (25, [], .inl (.ne, false, 7, 6)),
  (28, [.inl (.int (-1))], .inr (.inr (2, 1, 0))),
  (30, [.inr (.aload_n 0)], .inr (.inr (1, 49, 8))),
  (34, [.inr (.aload_n 0), .inr (.invokeinterface 5 7), .inr (.iload_n 1)], .inr (.inr (1, 46, 9))),
  (42, [], .inl (.eq, false, 15, 10)),
  (45, [.inr (.aload_n 0), .inr (.invokeinterface 5 7), .inr (.iload_n 2)], .inr (.inr (1, 46, 11))),
  (53, [], .inl (.eq, false, 15, 12)),
  (56, [.inr (.aload_n 0), .inr (.iload_n 1)], .inr (.inr (1, 52, 13))),
  (61, [.inr (.iload_n 2)], .inr (.inr (1, 46, 14))),
  (65, [], .inl (.eq, false, 16, 15)),
  (68, [.inl (.int (-2))], .inr (.inr (2, 1, 0))),
  (71, [.inl (.long 1), .inr (.iload_n 1), .inr .lshl, .inr (.lstore 4), .inl (.long 1), .inr (.iload_n 2), .inr .lshl, .inr (.lstore 6), .inr (.aload_n 0), .inr (.lload 4), .inr (.lload 6), .inl (.long 68719476735)], .inr (.inr (1, 96, 17))),
  (92, [.inr (.istore 8), .inl (.long 68719476735), .inr (.aload_n 0), .inr (.invokeinterface 5 7), .inl (.long (-1)), .inr .lxor, .inr .land, .inr (.lstore 9), .inl (.int 0), .inr (.istore 11), .inl (.int 0), .inr (.istore 12)], .inr (.inr (0, 18, 1))),
  (114, [.inr (.iload 12), .inr (.iload 8)], .inl (.ge, true, 33, 19)),
  (121, [.inr (.iload 12), .inr (.iload_n 3)], .inl (.gt, true, 33, 20)),
  (127, [.inl (.int 0), .inr (.istore 13)], .inr (.inr (0, 21, 1))),
  (130, [.inr (.iload 13)], .inl (.ne, false, 32, 22)),
  (135, [.inr (.lload 9), .inl (.long 1), .inr (.iload 11), .inl (.int 1), .inr .iadd, .inr .lshl, .inl (.long 1), .inr .lsub, .inl (.long (-1)), .inr .lxor, .inr .land, .inr (.lstore 14), .inr (.aload_n 0), .inr (.invokeinterface 5 7), .inr (.lstore 16), .inr (.lload 9), .inr (.iload 11)], .inr (.inr (1, 46, 23))),
  (165, [.inr (.istore 13), .inr (.aload_n 0), .inr .dup, .inr (.invokeinterface 5 7), .inl (.long 1), .inr (.iload 11), .inr .lshl, .inr .lor, .inr (.multianewarray 5 7), .inr (.iload 13)], .inl (.eq, false, 27, 24)),
  (185, [.inr (.aload_n 0), .inr (.lload 4), .inr (.lload 6), .inr (.lload 14)], .inr (.inr (1, 96, 25))),
  (195, [.inr (.iload 8), .inr (.iload 12), .inr .isub, .inl (.int 1), .inr .isub], .inl (.ne, true, 27, 26)),
  (205, [.inl (.int 1)], .inr (.inr (0, 28, 0))),
  (209, [.inl (.int 0)], .inr (.inr (0, 28, 1))),
  (210, [.inr (.istore 13), .inr (.aload_n 0), .inr (.iload 13)], .inl (.eq, false, 30, 29)),
  (218, [.inr (.aload_n 0), .inr (.invokeinterface 5 7)], .inr (.inr (0, 31, 0))),
  (225, [.inr (.lload 16)], .inr (.inr (0, 31, 1))),
  (227, [.inr (.multianewarray 5 7), .inr (.aload_n 0), .inr (.invokeinterface 5 16), .inr (.iload 12), .inr (.iload 11), .inr .iastore, .inr (.iinc 11 1)], .inr (.inr (0, 21, 0))),
  (245, [.inr (.iinc 12 1)], .inr (.inr (0, 18, 0))),
  (251, [.inr (.iload_n 3)], .inl (.ge, false, 35, 34)),
  (255, [.inr (.iload 8)], .inr (.inr (0, 38, 0))),
  (260, [.inr (.iload_n 3), .inr (.iload 8)], .inl (.ge, true, 37, 36)),
  (266, [.inr (.aload_n 0), .inr (.invokeinterface 5 16), .inr (.iload_n 3), .inr .iaload], .inr (.inr (0, 38, 0))),
  (275, [.inl (.int (-4))], .inr (.inr (0, 38, 1))),
  (277, [], .inr (.inr (2, 1, 0)))]
def zp_N_loophole : List zB := [(0, [.inr (.aload_n 0)], .inr (.inr (1, 49, 1))),
  (4, [.inr (.aload_n 0)], .inr (.inr (1, 60, 2))),
  (8, [.inr (.istore_n 1), .inl (.int (-4)), .inr (.istore_n 2), .inl (.int 0), .inr (.istore_n 3)], .inr (.inr (0, 3, 1))),
  (14, [.inr (.iload_n 3), .inl (.int 36)], .inl (.ge, true, 14, 4)),
  (20, [.inr (.aload_n 0), .inr (.invokeinterface 5 0), .inr (.iload_n 3), .inr .iaload], .inl (.ne, false, 13, 5)),
  (29, [.inr (.aload_n 0), .inr .dup, .inr (.invokeinterface 5 7), .inl (.long 1), .inr (.iload_n 3), .inr .lshl, .inr .lor, .inr (.multianewarray 5 7), .inr (.aload_n 0)], .inr (.inr (1, 60, 6))),
  (45, [.inr (.istore 4), .inr (.aload_n 0), .inr .dup, .inr (.invokeinterface 5 7), .inl (.long 1), .inr (.iload_n 3), .inr .lshl, .inl (.long (-1)), .inr .lxor, .inr .land, .inr (.multianewarray 5 7), .inr (.iload 4), .inr (.iload_n 1)], .inl (.ge, true, 8, 7)),
  (69, [.inr (.iload_n 3)], .inr (.inr (0, 9, 0))),
  (73, [.inr (.iload_n 2)], .inr (.inr (0, 9, 1))),
  (74, [.inr (.istore_n 2), .inr (.iload 4), .inr (.iload_n 1)], .inl (.ge, true, 11, 10)),
  (81, [.inr (.iload 4)], .inr (.inr (0, 12, 0))),
  (86, [.inr (.iload_n 1)], .inr (.inr (0, 12, 1))),
  (87, [.inr (.istore_n 1)], .inr (.inr (0, 13, 1))),
  (88, [.inr (.iinc 3 1)], .inr (.inr (0, 3, 0))),
  (94, [.inr (.iload_n 2)], .inr (.inr (2, 1, 0)))]
def zp_N_roofs : List zB := [(0, [.inr (.iload_n 1)], .inr (.inr (1, 45, 1))),
  (4, [], .inl (.ne, false, 3, 2)),
  (7, [.inl (.int (-1))], .inr (.inr (2, 1, 0))),
  (9, [.inr (.aload_n 0)], .inr (.inr (1, 49, 4))),
  (13, [.inr (.aload_n 0), .inr (.invokeinterface 5 7), .inr (.iload_n 1)], .inr (.inr (1, 46, 5))),
  (21, [], .inl (.eq, false, 9, 6)),
  (24, [.inr (.aload_n 0), .inr (.iload_n 1)], .inr (.inr (1, 52, 7))),
  (29, [.inr (.aload_n 0), .inr (.invokeinterface 5 2), .inl (.long (-1)), .inr .lxor, .inr .land], .inr (.inr (1, 47, 8))),
  (41, [], .inr (.inr (0, 10, 0))),
  (44, [.inl (.int (-2))], .inr (.inr (0, 10, 1))),
  (46, [], .inr (.inr (2, 1, 0)))]
def zp_N_nextOrder : List zB := [(0, [.inr (.iload_n 1), .inl (.int 2), .inr .isub, .inr (.istore_n 2)], .inr (.inr (0, 1, 1))),
  (4, [.inr (.iload_n 2)], .inl (.lt, false, 4, 2)),
  (8, [.inr (.aload_n 0), .inr (.invokeinterface 5 17), .inr (.iload_n 2), .inr .iaload, .inr (.aload_n 0), .inr (.invokeinterface 5 17), .inr (.iload_n 2), .inl (.int 1), .inr .iadd, .inr .iaload], .inl (.le, true, 4, 3)),
  (25, [.inr (.iinc 2 (-1))], .inr (.inr (0, 1, 0))),
  (31, [.inr (.iload_n 2)], .inl (.ge, false, 6, 5)),
  (35, [.inl (.int 0)], .inr (.inr (2, 3, 0))),
  (37, [.inr (.iload_n 1), .inl (.int 1), .inr .isub, .inr (.istore_n 3)], .inr (.inr (0, 7, 1))),
  (41, [.inr (.aload_n 0), .inr (.invokeinterface 5 17), .inr (.iload_n 3), .inr .iaload, .inr (.aload_n 0), .inr (.invokeinterface 5 17), .inr (.iload_n 2), .inr .iaload], .inl (.ge, true, 9, 8)),
  (56, [.inr (.iinc 3 (-1))], .inr (.inr (0, 7, 0))),
  (62, [.inr (.aload_n 0), .inr (.invokeinterface 5 17), .inr (.iload_n 2), .inr .iaload, .inr (.istore 4), .inr (.aload_n 0), .inr (.invokeinterface 5 17), .inr (.iload_n 2), .inr (.aload_n 0), .inr (.invokeinterface 5 17), .inr (.iload_n 3), .inr .iaload, .inr .iastore, .inr (.aload_n 0), .inr (.invokeinterface 5 17), .inr (.iload_n 3), .inr (.iload 4), .inr .iastore, .inr (.iload_n 1), .inl (.int 1), .inr .isub, .inr (.istore 5), .inr (.iload_n 2), .inl (.int 1), .inr .iadd, .inr (.istore 6)], .inr (.inr (0, 10, 1))),
  (100, [.inr (.iload 6), .inr (.iload 5)], .inl (.ge, true, 12, 11)),
  (107, [.inr (.aload_n 0), .inr (.invokeinterface 5 17), .inr (.iload 6), .inr .iaload, .inr (.istore 4), .inr (.aload_n 0), .inr (.invokeinterface 5 17), .inr (.iload 6), .inr (.aload_n 0), .inr (.invokeinterface 5 17), .inr (.iload 5), .inr .iaload, .inr .iastore, .inr (.aload_n 0), .inr (.invokeinterface 5 17), .inr (.iload 5), .inr (.iload 4), .inr .iastore, .inr (.iinc 5 (-1)), .inr (.iinc 6 1)], .inr (.inr (0, 10, 0))),
  (148, [.inl (.int 1)], .inr (.inr (2, 3, 0)))]
def zp_N_off : List zB := [(0, [.inr (.iload_n 0), .inr (.iload_n 1)], .inl (.le, true, 2, 1)),
  (5, [.inr (.iload_n 0), .inr (.iload_n 1), .inr .isub], .inr (.inr (0, 3, 0))),
  (11, [.inr (.iload_n 1), .inr (.iload_n 0), .inr .isub], .inr (.inr (0, 3, 1))),
  (14, [], .inr (.inr (2, 1, 0)))]
def zp_N_apart : List zB := [(0, [.inr (.iload_n 0), .inl (.int 6), .inr .idiv, .inr (.iload_n 1), .inl (.int 6), .inr .idiv], .inr (.inr (1, 101, 1))),
  (11, [.inr (.iload_n 0), .inl (.int 6), .inr .irem, .inr (.iload_n 1), .inl (.int 6), .inr .irem], .inr (.inr (1, 101, 2))),
  (22, [.inr .iadd], .inr (.inr (2, 1, 0)))]
def zp_N_nearest : List zB := [(0, [.inr (.lload_n 0)], .inr (.inr (1, 48, 1))),
  (4, [.inr (.istore_n 3), .inl (.int 0), .inr (.istore 4)], .inr (.inr (0, 2, 1))),
  (8, [.inr (.iload 4), .inl (.int 36)], .inl (.ge, true, 11, 3)),
  (15, [.inr (.lload_n 0), .inr (.iload 4)], .inr (.inr (1, 46, 4))),
  (21, [], .inl (.eq, false, 9, 5)),
  (24, [.inr (.iload 4), .inr (.iload_n 2)], .inr (.inr (1, 102, 6))),
  (30, [.inr (.iload_n 3), .inr (.iload_n 2)], .inr (.inr (1, 102, 7))),
  (35, [], .inl (.ge, true, 9, 8)),
  (38, [.inr (.iload 4)], .inr (.inr (0, 10, 0))),
  (43, [.inr (.iload_n 3)], .inr (.inr (0, 10, 1))),
  (44, [.inr (.istore_n 3), .inr (.iinc 4 1)], .inr (.inr (0, 2, 0))),
  (51, [.inr (.iload_n 3)], .inr (.inr (2, 1, 0)))]
def zp_N_stepsOf : List zB := [(0, [.inr (.iload_n 1), .inr (.istore_n 3), .inl (.int 0), .inr (.istore 4), .inl (.int 0), .inr (.istore 5)], .inr (.inr (0, 1, 1))),
  (8, [.inr (.iload 5), .inr (.iload_n 2)], .inl (.ge, true, 4, 2)),
  (14, [.inr (.aload_n 0), .inr (.invokeinterface 5 19), .inl (.int 8), .inr (.iload_n 3), .inr .imul, .inr (.aload_n 0), .inr (.invokeinterface 5 17), .inr (.iload 5), .inr .iaload, .inr .iadd, .inr .iaload, .inr (.istore 6), .inr (.iload 4), .inr (.iload_n 3), .inr (.iload 6)], .inr (.inr (1, 102, 3))),
  (41, [.inr .iadd, .inr (.istore 4), .inr (.iload 6), .inr (.istore_n 3), .inr (.iinc 5 1)], .inr (.inr (0, 1, 0))),
  (53, [.inr (.iload 4)], .inr (.inr (2, 1, 0)))]
def zp_N_round : List zB := [(0, [.inr (.iload_n 1)], .inr (.inr (1, 45, 1))),
  (4, [], .inl (.eq, false, 4, 2)),
  (7, [.inr (.iload_n 2), .inr .i2l, .inl (.long (-1)), .inl (.long 7)], .inr (.inr (1, 44, 3))),
  (18, [], .inl (.ne, false, 5, 4)),
  (21, [.inl (.int (-1))], .inr (.inr (2, 1, 0))),
  (23, [.inr (.aload_n 0)], .inr (.inr (1, 49, 6))),
  (27, [.inr (.aload_n 0)], .inr (.inr (1, 59, 7))),
  (31, [.inr (.aload_n 0), .inr (.invokeinterface 5 10), .inl (.int 8)], .inl (.le, true, 9, 8)),
  (40, [.inl (.int (-3))], .inr (.inr (2, 1, 0))),
  (43, [.inr (.aload_n 0), .inr (.invokeinterface 5 10), .inr (.istore_n 3), .inl (.int 0), .inr (.istore 4)], .inr (.inr (0, 10, 1))),
  (51, [.inr (.iload 4), .inl (.int 36), .inr (.iload_n 3), .inr .imul], .inl (.ge, true, 13, 11)),
  (60, [.inr (.aload_n 0), .inr (.invokeinterface 5 19), .inl (.int 8), .inr (.iload 4), .inr (.iload_n 3), .inr .idiv, .inr .imul, .inr (.iload 4), .inr (.iload_n 3), .inr .irem, .inr .iadd, .inr (.aload_n 0), .inr (.invokeinterface 5 9), .inr (.iload 4), .inr (.iload_n 3), .inr .irem, .inr .laload, .inr (.iload 4), .inr (.iload_n 3), .inr .idiv], .inr (.inr (1, 103, 12))),
  (92, [.inr .iastore, .inr (.iinc 4 1)], .inr (.inr (0, 10, 0))),
  (99, [.inl (.int 0), .inr (.istore 4)], .inr (.inr (0, 14, 1))),
  (102, [.inr (.iload 4), .inr (.iload_n 3)], .inl (.ge, true, 16, 15)),
  (108, [.inr (.aload_n 0), .inr (.invokeinterface 5 17), .inr (.iload 4), .inr (.iload 4), .inr .iastore, .inr (.iinc 4 1)], .inr (.inr (0, 14, 0))),
  (123, [.inl (.int (-1)), .inr (.istore 4), .inl (.int 1), .inr (.istore 5)], .inr (.inr (0, 17, 1))),
  (129, [.inr (.iload 5)], .inl (.eq, false, 26, 18)),
  (134, [.inr (.aload_n 0), .inr (.iload_n 1), .inr (.iload_n 3)], .inr (.inr (1, 104, 19))),
  (140, [.inr (.istore 6), .inr (.iload 4)], .inl (.lt, false, 21, 20)),
  (147, [.inr (.iload 6), .inr (.iload 4)], .inl (.ge, true, 24, 21)),
  (154, [.inr (.iload 6), .inr (.istore 4), .inl (.int 0), .inr (.istore 7)], .inr (.inr (0, 22, 1))),
  (161, [.inr (.iload 7), .inr (.iload_n 3)], .inl (.ge, true, 24, 23)),
  (167, [.inr (.aload_n 0), .inr (.invokeinterface 5 18), .inr (.iload 7), .inr (.aload_n 0), .inr (.invokeinterface 5 17), .inr (.iload 7), .inr .iaload, .inr .iastore, .inr (.iinc 7 1)], .inr (.inr (0, 22, 0))),
  (187, [.inr (.aload_n 0), .inr (.iload_n 3)], .inr (.inr (1, 100, 25))),
  (192, [.inr (.istore 5)], .inr (.inr (0, 17, 0))),
  (197, [.inr (.iload_n 2)], .inl (.ge, false, 28, 27)),
  (201, [.inr (.iload 4)], .inr (.inr (0, 32, 0))),
  (206, [.inr (.iload_n 2), .inr (.iload_n 3)], .inl (.ge, true, 31, 29)),
  (211, [.inr (.aload_n 0), .inr (.invokeinterface 5 9), .inr (.aload_n 0), .inr (.invokeinterface 5 18), .inr (.iload_n 2), .inr .iaload, .inr .laload], .inr (.inr (1, 48, 30))),
  (225, [], .inr (.inr (0, 32, 0))),
  (228, [.inl (.int (-4))], .inr (.inr (0, 32, 1))),
  (230, [], .inr (.inr (2, 1, 0)))]
def zp_N_border : List zB := [(0, [.inr (.iload_n 1), .inr .i2l, .inl (.long 0), .inl (.long 1)], .inr (.inr (1, 44, 1))),
  (7, [], .inl (.ne, false, 3, 2)),
  (10, [.inl (.int (-1))], .inr (.inr (2, 1, 0))),
  (12, [.inr (.aload_n 0)], .inr (.inr (1, 49, 4))),
  (16, [.inr (.aload_n 0)], .inr (.inr (1, 59, 5))),
  (20, [.inl (.int (-1)), .inr (.istore_n 2), .inl (.int 0), .inr (.istore_n 3)], .inr (.inr (0, 6, 1))),
  (24, [.inr (.iload_n 3), .inr (.aload_n 0), .inr (.invokeinterface 5 10)], .inl (.ge, true, 14, 7)),
  (32, [.inr (.iload_n 2)], .inl (.lt, false, 11, 8)),
  (36, [.inr (.aload_n 0), .inr (.invokeinterface 5 9), .inr (.iload_n 3), .inr .laload], .inr (.inr (1, 47, 9))),
  (45, [.inr (.aload_n 0), .inr (.invokeinterface 5 9), .inr (.iload_n 2), .inr .laload], .inr (.inr (1, 47, 10))),
  (54, [], .inl (.le, true, 12, 11)),
  (57, [.inr (.iload_n 3)], .inr (.inr (0, 13, 0))),
  (61, [.inr (.iload_n 2)], .inr (.inr (0, 13, 1))),
  (62, [.inr (.istore_n 2), .inr (.iinc 3 1)], .inr (.inr (0, 6, 0))),
  (69, [.inr (.iload_n 2)], .inl (.ge, false, 16, 15)),
  (73, [.inl (.int (-4))], .inr (.inr (0, 20, 0))),
  (78, [.inr (.iload_n 1)], .inl (.ne, false, 19, 17)),
  (82, [.inr (.aload_n 0), .inr (.invokeinterface 5 9), .inr (.iload_n 2), .inr .laload], .inr (.inr (1, 48, 18))),
  (91, [], .inr (.inr (0, 20, 0))),
  (94, [.inr (.aload_n 0), .inr (.invokeinterface 5 9), .inr (.iload_n 2), .inr .laload], .inr (.inr (1, 54, 20))),
  (103, [], .inr (.inr (2, 1, 0)))]
def zp_N_cut : List zB := [(0, [.inr (.iload_n 1)], .inr (.inr (1, 45, 1))),
  (4, [], .inl (.ne, false, 3, 2)),
  (7, [.inl (.int (-1))], .inr (.inr (2, 1, 0))),
  (9, [.inr (.aload_n 0)], .inr (.inr (1, 49, 4))),
  (13, [.inr (.aload_n 0), .inr (.invokeinterface 5 7), .inr (.iload_n 1)], .inr (.inr (1, 46, 5))),
  (21, [], .inl (.ne, false, 7, 6)),
  (24, [.inl (.int (-2))], .inr (.inr (2, 1, 0))),
  (27, [.inr (.aload_n 0), .inr (.iload_n 1)], .inr (.inr (1, 52, 8))),
  (32, [.inr (.lstore_n 2), .inr (.aload_n 0), .inr (.lload_n 2)], .inr (.inr (1, 53, 9))),
  (38, [.inr (.lstore 4), .inr (.lload_n 2)], .inr (.inr (1, 85, 10))),
  (44, [.inr (.istore 6), .inl (.int 0), .inr (.istore 7)], .inr (.inr (0, 11, 1))),
  (49, [.inr (.iload 7), .inl (.int 36)], .inl (.ge, true, 19, 12)),
  (56, [.inr (.lload 4), .inr (.iload 7)], .inr (.inr (1, 46, 13))),
  (63, [], .inl (.eq, false, 18, 14)),
  (66, [.inl (.long 1), .inr (.iload 7), .inr .lshl, .inr (.aload_n 0), .inr (.invokeinterface 5 7), .inl (.long 1), .inr (.iload 7), .inr .lshl, .inr .lor], .inr (.inr (1, 51, 15))),
  (82, [], .inr (.inr (1, 85, 16))),
  (85, [.inr (.iload 6)], .inl (.le, true, 18, 17)),
  (90, [.inr (.iload 7)], .inr (.inr (2, 1, 0))),
  (93, [.inr (.iinc 7 1)], .inr (.inr (0, 11, 0))),
  (99, [.inl (.int (-4))], .inr (.inr (2, 1, 0)))]
def zp_N_books : List zB := [(0, [.inr (.lload_n 1), .inl (.long 0), .inl (.long 68719476735)], .inr (.inr (1, 44, 1))),
  (8, [], .inl (.eq, false, 10, 2)),
  (11, [.inr (.lload_n 1)], .inr (.inr (1, 47, 3))),
  (15, [.inl (.int 6)], .inl (.gt, true, 10, 4)),
  (20, [.inr (.iload_n 3), .inr .i2l, .inl (.long (-1)), .inl (.long 36)], .inr (.inr (1, 44, 5))),
  (31, [], .inl (.eq, false, 10, 6)),
  (34, [.inr (.iload 4), .inr .i2l, .inl (.long (-1)), .inl (.long 9999)], .inr (.inr (1, 44, 7))),
  (46, [], .inl (.eq, false, 10, 8)),
  (49, [.inr (.iload 5), .inr .i2l, .inl (.long 0), .inl (.long 3)], .inr (.inr (1, 44, 9))),
  (59, [], .inl (.ne, false, 11, 10)),
  (62, [.inl (.long (-1))], .inr (.inr (2, 2, 0))),
  (66, [.inr (.aload_n 0)], .inr (.inr (1, 49, 12))),
  (70, [.inr (.aload_n 0), .inr (.invokeinterface 5 7), .inr (.lload_n 1), .inl (.long (-1)), .inr .lxor, .inr .land, .inr (.lstore 6), .inr (.aload_n 0), .inr .dup, .inr (.invokeinterface 5 8), .inr (.lload_n 1), .inl (.long (-1)), .inr .lxor, .inr .land, .inr (.multianewarray 5 8), .inl (.int 0), .inr (.istore 8), .inl (.long 0), .inr (.lstore 9), .inr (.lload_n 1), .inr (.lstore 11), .inr (.lload_n 1), .inr (.lstore 13), .inl (.int 1), .inr (.istore 15), .inr (.lload_n 1), .inr (.lstore 16)], .inr (.inr (0, 13, 1))),
  (114, [.inr (.iload 15)], .inl (.eq, false, 24, 14)),
  (119, [.inr (.aload_n 0), .inr (.lload 6), .inr (.lload 16), .inr .lor, .inr (.multianewarray 5 7), .inr (.aload_n 0)], .inr (.inr (1, 60, 15))),
  (132, [.inr (.istore 18), .inr (.iload_n 3)], .inl (.lt, false, 17, 16)),
  (138, [.inr (.aload_n 0), .inr (.invokeinterface 5 10), .inr (.iload_n 3)], .inl (.ne, true, 20, 17)),
  (146, [.inr (.iload 4)], .inl (.lt, false, 19, 18)),
  (151, [.inr (.iload 18), .inr (.iload 4)], .inl (.ne, true, 20, 19)),
  (158, [.inr (.iinc 8 1), .inr (.lload 16), .inr (.lstore 9), .inr (.lload 11), .inr (.lload 16), .inr .land, .inr (.lstore 11), .inr (.lload 13), .inr (.lload 16), .inl (.long (-1)), .inr .lxor, .inr .land, .inr (.lstore 13)], .inr (.inr (0, 20, 1))),
  (183, [.inr (.lload 16), .inl (.long 0), .inr .lcmp], .inl (.eq, false, 22, 21)),
  (190, [.inl (.int 1)], .inr (.inr (0, 23, 0))),
  (194, [.inl (.int 0)], .inr (.inr (0, 23, 1))),
  (195, [.inr (.istore 15), .inr (.lload 16), .inl (.long 1), .inr .lsub, .inr (.lload_n 1), .inr .land, .inr (.lstore 16)], .inr (.inr (0, 13, 0))),
  (208, [.inr (.iload 5)], .inl (.ne, false, 26, 25)),
  (213, [.inr (.iload 8), .inr .i2l], .inr (.inr (0, 33, 0))),
  (219, [.inr (.iload 8)], .inl (.ne, false, 28, 27)),
  (224, [.inl (.long (-4))], .inr (.inr (0, 33, 0))),
  (230, [.inr (.iload 5), .inl (.int 1)], .inl (.ne, true, 30, 29)),
  (236, [.inr (.lload 9)], .inr (.inr (0, 33, 0))),
  (241, [.inr (.iload 5), .inl (.int 2)], .inl (.ne, true, 32, 31)),
  (247, [.inr (.lload 11)], .inr (.inr (0, 33, 0))),
  (252, [.inr (.lload 13)], .inr (.inr (0, 33, 1))),
  (254, [], .inr (.inr (2, 2, 0)))]
def zp_N_nextDraw : List zB := [(0, [.inr (.aload_n 0), .inr (.aload_n 0), .inr (.invokeinterface 5 6), .inr .i2l, .inl (.long 1103515245), .inr .lmul, .inl (.long 12345), .inr .ladd, .inl (.long 2147483647), .inr .land, .inr .l2i, .inr (.multianewarray 5 6), .inr (.aload_n 0), .inr (.invokeinterface 5 6), .inl (.int 65536), .inr .idiv, .inr (.iload_n 1), .inr .irem], .inr (.inr (2, 1, 0)))]
def zp_N_lots : List zB := [(0, [.inr (.iload_n 1), .inr .i2l, .inl (.long 1), .inl (.long 99)], .inr (.inr (1, 44, 1))),
  (9, [], .inl (.ne, false, 3, 2)),
  (12, [.inl (.int (-1))], .inr (.inr (2, 1, 0))),
  (14, [.inl (.int 0), .inr (.istore_n 2), .inl (.int 0), .inr (.istore_n 3)], .inr (.inr (0, 4, 1))),
  (18, [.inr (.iload_n 3), .inr (.iload_n 1)], .inl (.ge, true, 18, 5)),
  (23, [.inr (.aload_n 0), .inl (.int 36)], .inr (.inr (1, 109, 6))),
  (29, [.inr (.istore 4), .inr (.aload_n 0), .inl (.int 4)], .inr (.inr (1, 109, 7))),
  (36, [], .inl (.ne, false, 9, 8)),
  (39, [.inl (.int 1)], .inr (.inr (0, 10, 0))),
  (43, [.inl (.int 0)], .inr (.inr (0, 10, 1))),
  (44, [.inr (.istore 5), .inr (.iload 5)], .inl (.eq, false, 14, 11)),
  (51, [.inr (.aload_n 0), .inr (.invokeinterface 5 0), .inr (.iload 4), .inr .iaload], .inl (.le, false, 14, 12)),
  (61, [.inr (.aload_n 0), .inr (.iload 4), .inl (.int 0), .inl (.int 0)], .inr (.inr (1, 62, 13))),
  (69, [.inr (.iinc 2 100)], .inr (.inr (0, 14, 1))),
  (72, [.inr (.iload 5)], .inl (.ne, false, 17, 15)),
  (77, [.inr (.aload_n 0), .inr (.invokeinterface 5 0), .inr (.iload 4), .inr .iaload, .inl (.int 9)], .inl (.ge, true, 17, 16)),
  (89, [.inr (.aload_n 0), .inr (.invokeinterface 5 0), .inr (.iload 4), .inr .dup2, .inr .iaload, .inl (.int 1), .inr .iadd, .inr .iastore, .inr (.iinc 2 1)], .inr (.inr (0, 17, 1))),
  (103, [.inr (.iinc 3 1)], .inr (.inr (0, 4, 0))),
  (109, [.inr (.aload_n 0), .inl (.int 0), .inr (.multianewarray 5 5), .inr (.iload_n 2)], .inr (.inr (2, 1, 0)))]
def zp_N_seed : List zB := [(0, [.inr (.iload_n 1)], .inl (.ge, false, 2, 1)),
  (4, [.inl (.int (-1))], .inr (.inr (2, 1, 0))),
  (6, [.inr (.aload_n 0), .inr (.invokeinterface 5 6), .inr (.istore_n 2), .inr (.aload_n 0), .inr (.iload_n 1), .inr (.multianewarray 5 6), .inr (.iload_n 2)], .inr (.inr (2, 1, 0)))]
def zp_N_carried : List zB := [(0, [.inr (.iload_n 1), .inl (.int 72)], .inl (.ge, true, 13, 1)),
  (6, [.inr (.iload_n 1), .inl (.int 36), .inr .irem, .inr (.istore 4), .inr (.aload_n 0), .inr (.invokeinterface 5 0), .inr (.iload 4), .inr (.iload_n 3)], .inl (.eq, false, 4, 2)),
  (22, [.inr (.iload_n 1), .inl (.int 36)], .inl (.ge, true, 4, 3)),
  (28, [.inr (.iload_n 2)], .inr (.inr (0, 5, 0))),
  (32, [.inr (.aload_n 0), .inr (.invokeinterface 5 0), .inr (.iload 4), .inr .iaload], .inr (.inr (0, 5, 1))),
  (39, [.inr .iastore, .inr (.aload_n 0), .inr (.invokeinterface 5 1), .inr (.iload 4), .inr (.iload_n 3)], .inl (.eq, false, 8, 6)),
  (50, [.inr (.iload_n 1), .inl (.int 36)], .inl (.lt, true, 8, 7)),
  (56, [.inr (.iload_n 2)], .inr (.inr (0, 9, 0))),
  (60, [.inr (.aload_n 0), .inr (.invokeinterface 5 1), .inr (.iload 4), .inr .iaload], .inr (.inr (0, 9, 1))),
  (67, [.inr .iastore, .inr (.iload_n 1), .inl (.int 36)], .inl (.ge, true, 11, 10)),
  (74, [.inr (.aload_n 0), .inr (.invokeinterface 5 0), .inr (.iload 4), .inr .iaload], .inr (.inr (0, 12, 0))),
  (84, [.inr (.aload_n 0), .inr (.invokeinterface 5 1), .inr (.iload 4), .inr .iaload], .inr (.inr (0, 12, 1))),
  (91, [], .inr (.inr (2, 1, 0))),
  (92, [.inr (.iload_n 1), .inl (.int 102)], .inl (.ge, true, 18, 14)),
  (98, [.inr (.aload_n 0), .inr (.invokeinterface 5 4), .inr (.iload_n 1), .inl (.int 72), .inr .isub, .inr (.iload_n 3)], .inl (.eq, false, 16, 15)),
  (110, [.inr (.iload_n 2)], .inr (.inr (0, 17, 0))),
  (114, [.inr (.aload_n 0), .inr (.invokeinterface 5 4), .inr (.iload_n 1), .inl (.int 72), .inr .isub, .inr .iaload], .inr (.inr (0, 17, 1))),
  (123, [.inr .iastore, .inr (.aload_n 0), .inr (.invokeinterface 5 4), .inr (.iload_n 1), .inl (.int 72), .inr .isub, .inr .iaload], .inr (.inr (2, 1, 0))),
  (134, [.inr (.aload_n 0), .inr (.iload_n 3)], .inl (.eq, false, 21, 19)),
  (139, [.inr (.iload_n 1), .inl (.int 102)], .inl (.ne, true, 21, 20)),
  (145, [.inr (.iload_n 2)], .inr (.inr (0, 22, 0))),
  (149, [.inr (.aload_n 0), .inr (.invokeinterface 5 3)], .inr (.inr (0, 22, 1))),
  (153, [.inr (.multianewarray 5 3), .inr (.aload_n 0), .inr (.iload_n 3)], .inl (.eq, false, 25, 23)),
  (161, [.inr (.iload_n 1), .inl (.int 103)], .inl (.ne, true, 25, 24)),
  (167, [.inr (.iload_n 2)], .inr (.inr (0, 26, 0))),
  (171, [.inr (.aload_n 0), .inr (.invokeinterface 5 5)], .inr (.inr (0, 26, 1))),
  (175, [.inr (.multianewarray 5 5), .inr (.aload_n 0), .inr (.iload_n 3)], .inl (.eq, false, 29, 27)),
  (183, [.inr (.iload_n 1), .inl (.int 104)], .inl (.ne, true, 29, 28)),
  (189, [.inr (.iload_n 2)], .inr (.inr (0, 30, 0))),
  (193, [.inr (.aload_n 0), .inr (.invokeinterface 5 6)], .inr (.inr (0, 30, 1))),
  (197, [.inr (.multianewarray 5 6), .inr (.iload_n 1), .inl (.int 102)], .inl (.ne, true, 32, 31)),
  (206, [.inr (.aload_n 0), .inr (.invokeinterface 5 3)], .inr (.inr (0, 35, 0))),
  (213, [.inr (.iload_n 1), .inl (.int 103)], .inl (.ne, true, 34, 33)),
  (219, [.inr (.aload_n 0), .inr (.invokeinterface 5 5)], .inr (.inr (0, 35, 0))),
  (226, [.inr (.aload_n 0), .inr (.invokeinterface 5 6)], .inr (.inr (0, 35, 1))),
  (230, [], .inr (.inr (2, 1, 0)))]
def zp_N_image : List zB := [(0, [.inl (.int 0), .inr (.istore_n 1)], .inr (.inr (0, 1, 1))),
  (2, [.inr (.iload_n 1), .inl (.int 105)], .inl (.ge, true, 4, 2)),
  (8, [.inr (.aload_n 0), .inr (.invokeinterface 5 22), .inr (.iload_n 1), .inr (.aload_n 0), .inr (.iload_n 1), .inl (.int 0), .inl (.int 0)], .inr (.inr (1, 112, 3))),
  (20, [.inr .iastore, .inr (.iinc 1 1)], .inr (.inr (0, 1, 0))),
  (27, [.inr (.aload_n 0), .inr (.aload_n 0), .inr (.invokeinterface 5 2), .inr (.multianewarray 5 21), .inr (.aload_n 0), .inl (.int 1), .inr (.multianewarray 5 20), .inl (.int 1)], .inr (.inr (2, 1, 0)))]
def zp_N_restore : List zB := [(0, [.inr (.aload_n 0), .inr (.invokeinterface 5 20)], .inl (.ne, false, 2, 1)),
  (7, [.inl (.int (-4))], .inr (.inr (2, 1, 0))),
  (10, [.inl (.int 0), .inr (.istore_n 1)], .inr (.inr (0, 3, 1))),
  (12, [.inr (.iload_n 1), .inl (.int 105)], .inl (.ge, true, 6, 4)),
  (18, [.inr (.aload_n 0), .inr (.iload_n 1), .inr (.aload_n 0), .inr (.invokeinterface 5 22), .inr (.iload_n 1), .inr .iaload, .inl (.int 1)], .inr (.inr (1, 112, 5))),
  (30, [.inr .pop, .inr (.iinc 1 1)], .inr (.inr (0, 3, 0))),
  (37, [.inr (.aload_n 0), .inr (.aload_n 0), .inr (.invokeinterface 5 21), .inr (.multianewarray 5 2), .inl (.int 1)], .inr (.inr (2, 1, 0)))]
def zp_N_isSheet : List zB := [(0, [.inr (.iload_n 0), .inr .i2l, .inl (.long 0), .inl (.long 3)], .inr (.inr (1, 44, 1))),
  (9, [], .inl (.eq, false, 5, 2)),
  (12, [.inr (.iload_n 1), .inr .i2l, .inl (.long 0), .inl (.long 3)], .inr (.inr (1, 44, 3))),
  (21, [], .inl (.eq, false, 5, 4)),
  (24, [.inl (.int 1)], .inr (.inr (0, 6, 0))),
  (28, [.inl (.int 0)], .inr (.inr (0, 6, 1))),
  (29, [], .inr (.inr (2, 3, 0)))]
def zp_N_asLane : List zB := [(0, [.inr (.iload_n 0)], .inl (.ne, false, 2, 1)),
  (4, [.inr (.lload_n 1), .inl (.int 56), .inr .lshl, .inl (.int 56), .inr .lshr], .inr (.inr (0, 7, 0))),
  (14, [.inr (.iload_n 0), .inl (.int 1)], .inl (.ne, true, 4, 3)),
  (19, [.inr (.lload_n 1), .inl (.int 48), .inr .lshl, .inl (.int 48), .inr .lshr], .inr (.inr (0, 7, 0))),
  (29, [.inr (.iload_n 0), .inl (.int 2)], .inl (.ne, true, 6, 5)),
  (34, [.inr (.lload_n 1), .inl (.int 32), .inr .lshl, .inl (.int 32), .inr .lshr], .inr (.inr (0, 7, 0))),
  (44, [.inr (.lload_n 1)], .inr (.inr (0, 7, 1))),
  (45, [], .inr (.inr (2, 2, 0)))]
def zp_N_sheet : List zB := [(0, [.inr (.iload_n 1), .inr (.iload_n 2)], .inr (.inr (1, 115, 1))),
  (5, [], .inl (.eq, false, 3, 2)),
  (8, [.inr (.iload_n 3), .inl (.int 36)], .inl (.le, true, 4, 3)),
  (14, [.inl (.int (-1))], .inr (.inr (2, 1, 0))),
  (16, [.inr (.iload_n 3)], .inl (.ge, false, 6, 5)),
  (20, [.inl (.int (-14))], .inr (.inr (2, 1, 0))),
  (23, [.inr (.aload_n 0), .inr (.invokeinterface 5 23), .inr (.iload_n 1), .inr (.iload_n 2), .inr .iastore, .inr (.aload_n 0), .inr (.invokeinterface 5 24), .inr (.iload_n 1), .inr (.iload_n 3), .inr .iastore, .inl (.int 0), .inr (.istore 4)], .inr (.inr (0, 7, 1))),
  (40, [.inr (.iload 4), .inl (.int 36)], .inl (.ge, true, 9, 8)),
  (47, [.inr (.aload_n 0), .inr (.invokeinterface 5 25), .inl (.int 36), .inr (.iload_n 1), .inr .imul, .inr (.iload 4), .inr .iadd, .inl (.long 0), .inr .lastore, .inr (.iinc 4 1)], .inr (.inr (0, 7, 0))),
  (66, [.inr (.iload_n 3)], .inr (.inr (2, 1, 0)))]
def zp_N_drop : List zB := [(0, [.inr (.iload_n 1), .inr .i2l, .inl (.long 0), .inl (.long 3)], .inr (.inr (1, 44, 1))),
  (9, [], .inl (.ne, false, 3, 2)),
  (12, [.inl (.int (-1))], .inr (.inr (2, 1, 0))),
  (14, [.inr (.aload_n 0), .inr (.invokeinterface 5 23), .inr (.iload_n 1), .inr .iaload], .inl (.ge, false, 5, 4)),
  (23, [.inl (.int (-11))], .inr (.inr (2, 1, 0))),
  (26, [.inr (.aload_n 0), .inr (.invokeinterface 5 23), .inr (.iload_n 1), .inl (.int (-1)), .inr .iastore, .inr (.aload_n 0), .inr (.invokeinterface 5 24), .inr (.iload_n 1), .inr .iaload], .inr (.inr (2, 1, 0)))]
def zp_N_lacksRow : List zB := [(0, [.inr (.aload_n 0), .inr (.invokeinterface 5 23), .inr (.iload_n 1), .inr .iaload, .inr (.iload_n 2)], .inl (.eq, true, 5, 1)),
  (10, [.inr (.aload_n 0), .inr (.invokeinterface 5 23), .inr (.iload_n 1), .inr .iaload], .inl (.ge, false, 3, 2)),
  (19, [.inl (.int (-11))], .inr (.inr (0, 4, 0))),
  (24, [.inl (.int (-12))], .inr (.inr (0, 4, 1))),
  (26, [], .inr (.inr (2, 1, 0))),
  (27, [.inr (.iload_n 3), .inr .i2l, .inl (.long 0), .inr (.aload_n 0), .inr (.invokeinterface 5 24), .inr (.iload_n 1), .inr .iaload, .inr (.iload 4), .inr .isub, .inr .i2l], .inr (.inr (1, 44, 6))),
  (43, [], .inl (.eq, false, 8, 7)),
  (46, [.inl (.int 0)], .inr (.inr (0, 9, 0))),
  (50, [.inl (.int (-13))], .inr (.inr (0, 9, 1))),
  (52, [], .inr (.inr (2, 1, 0)))]
def zp_N_item : List zB := [(0, [.inr (.iload_n 1), .inr (.iload_n 2)], .inr (.inr (1, 115, 1))),
  (5, [], .inl (.ne, false, 3, 2)),
  (8, [.inl (.int (-1))], .inr (.inr (2, 1, 0))),
  (10, [.inr (.aload_n 0), .inr (.iload_n 1), .inr (.iload_n 2), .inr (.iload_n 3), .inl (.int 1)], .inr (.inr (1, 119, 4))),
  (18, [.inr (.istore 6), .inr (.iload 6)], .inl (.ge, false, 6, 5)),
  (25, [.inr (.iload 6)], .inr (.inr (2, 1, 0))),
  (28, [.inr (.aload_n 0), .inr (.invokeinterface 5 25), .inl (.int 36), .inr (.iload_n 1), .inr .imul, .inr (.iload_n 3), .inr .iadd, .inr (.iload_n 2), .inr (.lload 4)], .inr (.inr (1, 116, 7))),
  (44, [.inr .lastore, .inl (.int 1)], .inr (.inr (2, 1, 0)))]
def zp_N_lay : List zB := [(0, [.inr (.iload_n 1)], .inr (.inr (1, 45, 1))),
  (4, [], .inl (.eq, false, 6, 2)),
  (7, [.inr (.iload_n 2), .inr (.iload_n 3)], .inr (.inr (1, 115, 3))),
  (12, [], .inl (.eq, false, 6, 4)),
  (15, [.inr (.iload 5), .inr .i2l, .inl (.long 1), .inl (.int 36), .inr (.iload_n 1), .inr .isub, .inr .i2l], .inr (.inr (1, 44, 5))),
  (27, [], .inl (.ne, false, 7, 6)),
  (30, [.inl (.int (-1))], .inr (.inr (2, 1, 0))),
  (32, [.inr (.aload_n 0), .inr (.iload_n 2), .inr (.iload_n 3), .inr (.iload 4), .inr (.iload 5)], .inr (.inr (1, 119, 8))),
  (42, [.inr (.istore 6), .inl (.int 36), .inr (.iload_n 2), .inr .imul, .inr (.iload 4), .inr .iadd, .inr (.istore 7), .inl (.int 0), .inr (.istore 8)], .inr (.inr (0, 9, 1))),
  (56, [.inr (.iload 8), .inr (.iload 5)], .inl (.ge, true, 16, 10)),
  (63, [.inr (.iload 6)], .inl (.ne, false, 16, 11)),
  (68, [.inr (.aload_n 0), .inr (.invokeinterface 5 25), .inr (.iload 7), .inr (.iload 8), .inr .iadd, .inr .laload, .inl (.long 0), .inl (.long 9)], .inr (.inr (1, 44, 12))),
  (85, [], .inl (.eq, false, 14, 13)),
  (88, [.inl (.int 0)], .inr (.inr (0, 15, 0))),
  (92, [.inl (.int (-2))], .inr (.inr (0, 15, 1))),
  (94, [.inr (.istore 6), .inr (.iinc 8 1)], .inr (.inr (0, 9, 0))),
  (102, [.inr (.iload 6)], .inl (.ge, false, 18, 17)),
  (107, [.inr (.iload 6)], .inr (.inr (2, 1, 0))),
  (110, [.inl (.int 0), .inr (.istore 8)], .inr (.inr (0, 19, 1))),
  (113, [.inr (.iload 8), .inr (.iload 5)], .inl (.ge, true, 27, 20)),
  (120, [.inr (.aload_n 0), .inr (.invokeinterface 5 25), .inr (.iload 7), .inr (.iload 8), .inr .iadd, .inr .laload, .inr .l2i, .inr (.istore 9), .inr (.aload_n 0), .inr (.iload_n 1), .inr (.iload 8), .inr .iadd, .inr (.iload 9), .inr (.iload 9)], .inl (.le, false, 24, 21)),
  (145, [.inr (.aload_n 0), .inr (.invokeinterface 5 2), .inr (.iload_n 1), .inr (.iload 8), .inr .iadd], .inr (.inr (1, 46, 22))),
  (156, [], .inl (.eq, false, 24, 23)),
  (159, [.inl (.int 1)], .inr (.inr (0, 25, 0))),
  (163, [.inl (.int 0)], .inr (.inr (0, 25, 1))),
  (164, [], .inr (.inr (1, 62, 26))),
  (167, [.inr (.iinc 8 1)], .inr (.inr (0, 19, 0))),
  (173, [.inr (.aload_n 0), .inl (.int 0), .inr (.multianewarray 5 5), .inr (.iload 5)], .inr (.inr (2, 1, 0)))]
def zp_N_film : List zB := [(0, [.inr (.iload_n 1), .inr (.iload_n 2)], .inr (.inr (1, 115, 1))),
  (5, [], .inl (.ne, false, 3, 2)),
  (8, [.inl (.int (-1))], .inr (.inr (2, 1, 0))),
  (10, [.inr (.aload_n 0)], .inr (.inr (1, 49, 4))),
  (14, [.inr (.aload_n 0)], .inr (.inr (1, 59, 5))),
  (18, [.inr (.aload_n 0), .inr (.iload_n 1), .inr (.iload_n 2), .inr (.iload_n 3), .inr (.aload_n 0), .inr (.invokeinterface 5 10)], .inr (.inr (1, 119, 6))),
  (29, [.inr (.istore 4), .inr (.iload 4)], .inl (.ge, false, 8, 7)),
  (36, [.inr (.iload 4)], .inr (.inr (2, 1, 0))),
  (39, [.inl (.int 0), .inr (.istore 5)], .inr (.inr (0, 9, 1))),
  (42, [.inr (.iload 5), .inr (.aload_n 0), .inr (.invokeinterface 5 10)], .inl (.ge, true, 13, 10)),
  (51, [.inr (.aload_n 0), .inr (.invokeinterface 5 25), .inl (.int 36), .inr (.iload_n 1), .inr .imul, .inr (.iload_n 3), .inr .iadd, .inr (.iload 5), .inr .iadd, .inr (.iload_n 2), .inr (.aload_n 0), .inr (.aload_n 0), .inr (.invokeinterface 5 9), .inr (.iload 5), .inr .laload], .inr (.inr (1, 58, 11))),
  (76, [.inr .i2l], .inr (.inr (1, 116, 12))),
  (80, [.inr .lastore, .inr (.iinc 5 1)], .inr (.inr (0, 9, 0))),
  (87, [.inr (.aload_n 0), .inr (.invokeinterface 5 10)], .inr (.inr (2, 1, 0)))]
def zp_N_miscounted : List zB := [(0, [.inr (.iload_n 1), .inr (.iload_n 2)], .inr (.inr (1, 115, 1))),
  (5, [], .inl (.eq, false, 4, 2)),
  (8, [.inr (.iload 4), .inr .i2l, .inl (.long 1), .inl (.long 12)], .inr (.inr (1, 44, 3))),
  (18, [], .inl (.ne, false, 5, 4)),
  (21, [.inl (.int (-1))], .inr (.inr (2, 1, 0))),
  (23, [.inr (.aload_n 0), .inr (.iload_n 1), .inr (.iload_n 2), .inr (.iload_n 3), .inl (.int 2), .inr (.iload 4), .inr .imul], .inr (.inr (1, 119, 6))),
  (34, [.inr (.istore 5), .inr (.iload 5)], .inl (.ge, false, 8, 7)),
  (41, [.inr (.iload 5)], .inr (.inr (2, 1, 0))),
  (44, [.inr (.aload_n 0)], .inr (.inr (1, 49, 9))),
  (48, [.inl (.int 0), .inr (.istore 6)], .inr (.inr (0, 10, 1))),
  (51, [.inr (.iload 6), .inr (.iload 4)], .inl (.ge, true, 23, 11)),
  (58, [.inr (.aload_n 0), .inr (.invokeinterface 5 25), .inl (.int 36), .inr (.iload_n 1), .inr .imul, .inr (.iload_n 3), .inr .iadd, .inl (.int 2), .inr (.iload 6), .inr .imul, .inr .iadd, .inr .laload, .inr (.lstore 7), .inr (.aload_n 0), .inr (.invokeinterface 5 25), .inl (.int 36), .inr (.iload_n 1), .inr .imul, .inr (.iload_n 3), .inr .iadd, .inl (.int 2), .inr (.iload 6), .inr .imul, .inr .iadd, .inl (.int 1), .inr .iadd, .inr .laload, .inr (.lstore 9), .inr (.lload 7), .inl (.long 0), .inl (.long 35)], .inr (.inr (1, 44, 12))),
  (105, [], .inl (.eq, false, 19, 13)),
  (108, [.inr (.aload_n 0), .inr (.invokeinterface 5 7), .inr (.lload 7), .inr .l2i], .inr (.inr (1, 46, 14))),
  (118, [], .inl (.eq, false, 19, 15)),
  (121, [.inr (.aload_n 0), .inr (.lload 7), .inr .l2i], .inr (.inr (1, 52, 16))),
  (128, [], .inr (.inr (1, 47, 17))),
  (131, [.inr .i2l, .inr (.lload 9), .inr .lcmp], .inl (.ne, false, 19, 18)),
  (138, [.inl (.int 1)], .inr (.inr (0, 20, 0))),
  (142, [.inl (.int 0)], .inr (.inr (0, 20, 1))),
  (143, [.inr (.istore 11), .inr (.iload 11)], .inl (.ne, false, 22, 21)),
  (150, [.inr (.iload 6)], .inr (.inr (2, 1, 0))),
  (153, [.inr (.iinc 6 1)], .inr (.inr (0, 10, 0))),
  (159, [.inl (.int (-4))], .inr (.inr (2, 1, 0)))]
def zp_N_copy : List zB := [(0, [.inr (.iload_n 1), .inr .i2l, .inl (.long 0), .inl (.long 3)], .inr (.inr (1, 44, 1))),
  (9, [], .inl (.eq, false, 4, 2)),
  (12, [.inr (.iload_n 3), .inr .i2l, .inl (.long 0), .inl (.long 3)], .inr (.inr (1, 44, 3))),
  (21, [], .inl (.ne, false, 5, 4)),
  (24, [.inl (.int (-1))], .inr (.inr (2, 1, 0))),
  (26, [.inr (.aload_n 0), .inr (.invokeinterface 5 23), .inr (.iload_n 1), .inr .iaload], .inl (.lt, false, 7, 6)),
  (35, [.inr (.aload_n 0), .inr (.invokeinterface 5 23), .inr (.iload_n 3), .inr .iaload], .inl (.ge, false, 8, 7)),
  (44, [.inl (.int (-11))], .inr (.inr (2, 1, 0))),
  (47, [.inr (.aload_n 0), .inr (.invokeinterface 5 23), .inr (.iload_n 1), .inr .iaload, .inr (.aload_n 0), .inr (.invokeinterface 5 23), .inr (.iload_n 3), .inr .iaload], .inl (.eq, true, 10, 9)),
  (62, [.inl (.int (-12))], .inr (.inr (2, 1, 0))),
  (65, [.inr (.iload 5)], .inl (.lt, false, 15, 11)),
  (70, [.inr (.iload_n 2), .inr .i2l, .inl (.long 0), .inr (.aload_n 0), .inr (.invokeinterface 5 24), .inr (.iload_n 1), .inr .iaload, .inr .i2l, .inr (.iload 5), .inr .i2l, .inr .lsub], .inr (.inr (1, 44, 12))),
  (87, [], .inl (.eq, false, 15, 13)),
  (90, [.inr (.iload 4), .inr .i2l, .inl (.long 0), .inr (.aload_n 0), .inr (.invokeinterface 5 24), .inr (.iload_n 3), .inr .iaload, .inr .i2l, .inr (.iload 5), .inr .i2l, .inr .lsub], .inr (.inr (1, 44, 14))),
  (108, [], .inl (.ne, false, 16, 15)),
  (111, [.inl (.int (-13))], .inr (.inr (2, 1, 0))),
  (114, [.inl (.int 0), .inr (.istore 6)], .inr (.inr (0, 17, 1))),
  (117, [.inr (.iload 6), .inr (.iload 5)], .inl (.ge, true, 19, 18)),
  (124, [.inr (.aload_n 0), .inr (.invokeinterface 5 26), .inr (.iload 6), .inr (.aload_n 0), .inr (.invokeinterface 5 25), .inl (.int 36), .inr (.iload_n 1), .inr .imul, .inr (.iload_n 2), .inr .iadd, .inr (.iload 6), .inr .iadd, .inr .laload, .inr .lastore, .inr (.iinc 6 1)], .inr (.inr (0, 17, 0))),
  (151, [.inl (.int 0), .inr (.istore 6)], .inr (.inr (0, 20, 1))),
  (154, [.inr (.iload 6), .inr (.iload 5)], .inl (.ge, true, 22, 21)),
  (161, [.inr (.aload_n 0), .inr (.invokeinterface 5 25), .inl (.int 36), .inr (.iload_n 3), .inr .imul, .inr (.iload 4), .inr .iadd, .inr (.iload 6), .inr .iadd, .inr (.aload_n 0), .inr (.invokeinterface 5 26), .inr (.iload 6), .inr .laload, .inr .lastore, .inr (.iinc 6 1)], .inr (.inr (0, 20, 0))),
  (189, [.inr (.iload 5)], .inr (.inr (2, 1, 0)))]
def zp_G_takeAll : List zB := [(0, [.inr (.aload_n 1), .inr (.invokeinterface 0 0), .inl (.int 0), .inr (.aload_n 0), .inr (.invokeinterface 0 0), .inl (.int 0), .inl (.int 36)], .inr (.inr (3, 0, 1))),
  (15, [.inr (.aload_n 1), .inr (.invokeinterface 0 1), .inl (.int 0), .inr (.aload_n 0), .inr (.invokeinterface 0 1), .inl (.int 0), .inl (.int 36)], .inr (.inr (3, 0, 2))),
  (30, [.inr (.aload_n 0), .inr (.aload_n 1), .inr (.invokeinterface 0 2), .inr (.multianewarray 0 2), .inr (.aload_n 0), .inr (.aload_n 1), .inr (.invokeinterface 0 3), .inr (.multianewarray 0 3), .inr (.aload_n 0), .inr (.aload_n 1), .inr (.invokeinterface 0 4), .inr (.multianewarray 0 4), .inr (.aload_n 0), .inr (.aload_n 1), .inr (.invokeinterface 0 5), .inr (.multianewarray 0 5), .inr (.aload_n 0), .inr (.aload_n 1), .inr (.invokeinterface 0 6), .inr (.multianewarray 0 6), .inr (.aload_n 1), .inr (.invokeinterface 0 7), .inl (.int 0), .inr (.aload_n 0), .inr (.invokeinterface 0 7), .inl (.int 0), .inl (.int 10)], .inr (.inr (3, 0, 3))),
  (85, [.inr (.aload_n 0), .inr (.aload_n 1), .inr (.invokeinterface 0 8), .inr (.multianewarray 0 8)], .inr (.inr (2, 0, 0)))]
def zp_G_put : List zB := [(0, [.inl (.long 1), .inr (.iload_n 1), .inr .lshl, .inr (.lstore_n 3), .inr (.aload_n 0), .inr (.invokeinterface 0 0), .inr (.iload_n 1), .inr (.iload_n 2), .inr .iastore, .inr (.aload_n 0), .inr (.iload_n 2)], .inl (.le, false, 2, 1)),
  (16, [.inr (.aload_n 0), .inr (.invokeinterface 0 2), .inr (.lload_n 3), .inr .lor], .inr (.inr (0, 3, 0))),
  (25, [.inr (.aload_n 0), .inr (.invokeinterface 0 2), .inr (.lload_n 3), .inl (.long (-1)), .inr .lxor, .inr .land], .inr (.inr (0, 3, 1))),
  (35, [.inr (.multianewarray 0 2), .inr (.aload_n 0), .inr (.iload_n 2), .inl (.int 9)], .inl (.ne, true, 5, 4)),
  (45, [.inr (.aload_n 0), .inr (.invokeinterface 0 3), .inr (.lload_n 3), .inr .lor], .inr (.inr (0, 6, 0))),
  (54, [.inr (.aload_n 0), .inr (.invokeinterface 0 3), .inr (.lload_n 3), .inl (.long (-1)), .inr .lxor, .inr .land], .inr (.inr (0, 6, 1))),
  (64, [.inr (.multianewarray 0 3), .inr (.aload_n 0), .inr (.iload_n 2)], .inl (.le, false, 8, 7)),
  (72, [.inr (.aload_n 0), .inr (.invokeinterface 0 4)], .inr (.inr (0, 9, 0))),
  (79, [.inr (.aload_n 0), .inr (.invokeinterface 0 4), .inr (.lload_n 3), .inl (.long (-1)), .inr .lxor, .inr .land], .inr (.inr (0, 9, 1))),
  (89, [.inr (.multianewarray 0 4)], .inr (.inr (2, 0, 0)))]
def zp_G_become : List zB := [(0, [.inl (.int 0), .inr (.istore 4)], .inr (.inr (0, 1, 1))),
  (3, [.inr (.iload 4), .inl (.int 36)], .inl (.ge, true, 5, 2)),
  (10, [.inr (.iload 4), .inr (.aload_n 1), .inr .arraylength], .inl (.ge, true, 5, 3)),
  (17, [.inr (.aload_n 0), .inr (.iload 4), .inr (.aload_n 1), .inr (.iload 4), .inr .iaload], .inr (.inr (1, 126, 4))),
  (27, [.inr (.iinc 4 1)], .inr (.inr (0, 1, 0))),
  (33, [.inr (.aload_n 0), .inr (.lload_n 2), .inr (.multianewarray 0 4), .inr (.aload_n 0)], .inr (.inr (1, 133, 6))),
  (42, [], .inr (.inr (2, 0, 0)))]
def zp_G_toDig : List zB := [(0, [.inr (.aload_n 0), .inr (.invokeinterface 0 0), .inr (.iload_n 1), .inr .iaload, .inl (.int 9)], .inl (.lt, true, 2, 1)),
  (11, [.inl (.int (-3))], .inr (.inr (2, 1, 0))),
  (14, [.inr (.aload_n 0), .inr (.iload_n 1)], .inr (.inr (1, 132, 3))),
  (19, [.inr (.aload_n 0), .inr (.iload_n 1), .inr (.aload_n 0), .inr (.invokeinterface 0 0), .inr (.iload_n 1), .inr .iaload, .inl (.int 1), .inr .iadd], .inr (.inr (1, 126, 4))),
  (32, [.inr (.aload_n 0), .inr (.invokeinterface 0 0), .inr (.iload_n 1), .inr .iaload], .inr (.inr (2, 1, 0)))]
def zp_G_toFill : List zB := [(0, [.inr (.aload_n 0), .inr (.invokeinterface 0 0), .inr (.iload_n 1), .inr .iaload, .inr (.istore_n 2), .inr (.iload_n 2)], .inl (.ne, false, 2, 1)),
  (11, [.inl (.int (-2))], .inr (.inr (2, 1, 0))),
  (14, [.inr (.aload_n 0), .inr (.iload_n 1)], .inr (.inr (1, 132, 3))),
  (19, [.inr (.aload_n 0), .inr (.iload_n 1), .inl (.int 0)], .inr (.inr (1, 126, 4))),
  (25, [.inr (.iload_n 2)], .inr (.inr (2, 1, 0)))]
def zp_G_toRoof : List zB := [(0, [.inr (.aload_n 0), .inr (.invokeinterface 0 0), .inr (.iload_n 1), .inr .iaload], .inl (.ne, false, 2, 1)),
  (9, [.inl (.int (-2))], .inr (.inr (2, 1, 0))),
  (12, [.inr (.aload_n 0), .inr (.iload_n 1)], .inr (.inr (1, 132, 3))),
  (17, [.inr (.aload_n 0), .inr .dup, .inr (.invokeinterface 0 4), .inl (.long 1), .inr (.iload_n 1), .inr .lshl, .inr .lxor, .inr (.multianewarray 0 4), .inr (.aload_n 0), .inr (.invokeinterface 0 4), .inr (.iload_n 1)], .inr (.inr (1, 153, 4))),
  (37, [], .inl (.eq, false, 6, 5)),
  (40, [.inl (.int 1)], .inr (.inr (0, 7, 0))),
  (44, [.inl (.int 0)], .inr (.inr (0, 7, 1))),
  (45, [], .inr (.inr (2, 1, 0)))]
def zp_G_repaired : List zB := [(0, [.inr (.iload_n 1), .inl (.int 36), .inr .irem, .inr (.istore_n 2), .inr (.iload_n 1), .inl (.int 36), .inr .idiv], .inr (.inl ([(0, 1), (1, 6)], 11))),
  (36, [.inr (.aload_n 0), .inr (.iload_n 2)], .inr (.inr (1, 128, 2))),
  (41, [], .inl (.lt, false, 4, 3)),
  (44, [.inl (.int 1)], .inr (.inr (0, 5, 0))),
  (48, [.inl (.int 0)], .inr (.inr (0, 5, 1))),
  (49, [], .inr (.inr (2, 3, 0))),
  (50, [.inr (.aload_n 0), .inr (.iload_n 2)], .inr (.inr (1, 129, 7))),
  (55, [], .inl (.lt, false, 9, 8)),
  (58, [.inl (.int 1)], .inr (.inr (0, 10, 0))),
  (62, [.inl (.int 0)], .inr (.inr (0, 10, 1))),
  (63, [], .inr (.inr (2, 3, 0))),
  (64, [.inr (.aload_n 0), .inr (.iload_n 2)], .inr (.inr (1, 130, 12))),
  (69, [], .inl (.lt, false, 14, 13)),
  (72, [.inl (.int 1)], .inr (.inr (0, 15, 0))),
  (76, [.inl (.int 0)], .inr (.inr (0, 15, 1))),
  (77, [], .inr (.inr (2, 3, 0)))]
def zp_G_remember : List zB := [(0, [.inr (.aload_n 0), .inr (.invokeinterface 0 8), .inl (.int 10)], .inl (.ne, true, 3, 1)),
  (9, [.inr (.aload_n 0), .inr (.invokeinterface 0 7), .inl (.int 1), .inr (.aload_n 0), .inr (.invokeinterface 0 7), .inl (.int 0), .inl (.int 9)], .inr (.inr (3, 0, 2))),
  (24, [.inr (.aload_n 0), .inr .dup, .inr (.invokeinterface 0 8), .inl (.int 1), .inr .isub, .inr (.multianewarray 0 8)], .inr (.inr (0, 3, 1))),
  (34, [.inr (.aload_n 0), .inr (.invokeinterface 0 7), .inr (.aload_n 0), .inr (.invokeinterface 0 8), .inr (.iload_n 1), .inl (.int 10), .inr .imul, .inr (.aload_n 0), .inr (.invokeinterface 0 0), .inr (.iload_n 1), .inr .iaload, .inr .iadd, .inl (.int 2), .inr .imul, .inr (.aload_n 0), .inr (.invokeinterface 0 4), .inr (.iload_n 1)], .inr (.inr (1, 153, 4))),
  (63, [], .inl (.eq, false, 6, 5)),
  (66, [.inl (.int 1)], .inr (.inr (0, 7, 0))),
  (70, [.inl (.int 0)], .inr (.inr (0, 7, 1))),
  (71, [.inr .iadd, .inr .iastore, .inr (.aload_n 0), .inr .dup, .inr (.invokeinterface 0 8), .inl (.int 1), .inr .iadd, .inr (.multianewarray 0 8)], .inr (.inr (2, 0, 0)))]
def zp_G_forget : List zB := [(0, [.inr (.aload_n 0), .inl (.int 0), .inr (.multianewarray 0 8)], .inr (.inr (2, 0, 0)))]
def zp_G_takeBack : List zB := [(0, [.inr (.aload_n 0), .inr (.invokeinterface 0 8)], .inl (.ne, false, 2, 1)),
  (7, [.inl (.int (-4))], .inr (.inr (2, 1, 0))),
  (10, [.inr (.aload_n 0), .inr .dup, .inr (.invokeinterface 0 8), .inl (.int 1), .inr .isub, .inr (.multianewarray 0 8), .inr (.aload_n 0), .inr (.invokeinterface 0 7), .inr (.aload_n 0), .inr (.invokeinterface 0 8), .inr .iaload, .inr (.istore_n 1), .inr (.iload_n 1), .inl (.int 2), .inr .idiv, .inl (.int 10), .inr .idiv, .inr (.istore_n 2), .inr (.aload_n 0), .inr (.iload_n 2), .inr (.iload_n 1), .inl (.int 2), .inr .idiv, .inl (.int 10), .inr .irem], .inr (.inr (1, 126, 3))),
  (48, [.inr (.aload_n 0), .inr (.iload_n 1), .inl (.int 2), .inr .irem, .inl (.int 1)], .inl (.ne, true, 5, 4)),
  (56, [.inr (.aload_n 0), .inr (.invokeinterface 0 4), .inl (.long 1), .inr (.iload_n 2), .inr .lshl, .inr .lor], .inr (.inr (0, 6, 0))),
  (67, [.inr (.aload_n 0), .inr (.invokeinterface 0 4), .inl (.long 1), .inr (.iload_n 2), .inr .lshl, .inl (.long (-1)), .inr .lxor, .inr .land], .inr (.inr (0, 6, 1))),
  (79, [.inr (.multianewarray 0 4), .inr (.aload_n 0), .inr (.invokeinterface 0 8)], .inr (.inr (2, 1, 0)))]
def zp_G_drawn : List zB := [(0, [.inr (.aload_n 0), .inr (.aload_n 0), .inr (.invokeinterface 0 6), .inl (.int 1103515245), .inr .imul, .inl (.int 12345), .inr .iadd, .inl (.int 2147483647), .inr .iand, .inr (.multianewarray 0 6), .inr (.aload_n 0), .inr (.invokeinterface 0 6), .inl (.int 65536), .inr .idiv], .inr (.inr (2, 1, 0)))]
def zp_G_yearByLot : List zB := [(0, [.inr (.aload_n 0)], .inr (.inr (1, 135, 1))),
  (4, [.inl (.int 36), .inr .irem, .inr (.istore_n 1), .inr (.aload_n 0)], .inr (.inr (1, 135, 2))),
  (12, [.inl (.int 4), .inr .irem], .inl (.ne, false, 8, 3)),
  (17, [.inr (.aload_n 0), .inr (.iload_n 1)], .inr (.inr (1, 129, 4))),
  (22, [], .inl (.lt, false, 6, 5)),
  (25, [.inl (.int 100)], .inr (.inr (0, 7, 0))),
  (30, [.inl (.int 0)], .inr (.inr (0, 7, 1))),
  (31, [], .inr (.inr (2, 1, 0))),
  (32, [.inr (.aload_n 0), .inr (.iload_n 1)], .inr (.inr (1, 128, 9))),
  (37, [], .inl (.lt, false, 11, 10)),
  (40, [.inl (.int 1)], .inr (.inr (0, 12, 0))),
  (44, [.inl (.int 0)], .inr (.inr (0, 12, 1))),
  (45, [], .inr (.inr (2, 1, 0)))]
def zp_G_depths : List zB := [(0, [.inl (.int 0), .inr (.istore_n 1), .inr (.aload_n 0), .inr (.invokeinterface 0 0), .inr (.astore_n 2), .inr (.aload_n 2), .inr .arraylength, .inr (.istore_n 3), .inl (.int 0), .inr (.istore 4)], .inr (.inr (0, 1, 1))),
  (13, [.inr (.iload 4), .inr (.iload_n 3)], .inl (.ge, true, 3, 2)),
  (19, [.inr (.aload_n 2), .inr (.iload 4), .inr .iaload, .inr (.istore 5), .inr (.iload_n 1), .inr (.iload 5), .inr .iadd, .inr (.istore_n 1), .inr (.iinc 4 1)], .inr (.inr (0, 1, 0))),
  (36, [.inr (.iload_n 1)], .inr (.inr (2, 1, 0)))]
def zp_G_holeAt : List zB := [(0, [.inl (.long 1), .inr (.iload_n 1), .inr .lshl, .inr (.aload_n 0), .inr (.invokeinterface 0 2)], .inr (.inr (1, 156, 1))),
  (10, [], .inr (.inr (2, 2, 0)))]
def zp_G_kindOf : List zB := [(0, [.inr (.lload_n 1), .inr (.aload_n 0), .inr (.invokeinterface 0 4), .inl (.long (-1)), .inr .lxor, .inr .land, .inl (.long 0), .inr .lcmp], .inl (.ne, false, 2, 1)),
  (15, [.inl (.int 4)], .inr (.inr (2, 1, 0))),
  (17, [.inr (.lload_n 1), .inl (.long 63), .inr .land, .inl (.long 0), .inr .lcmp], .inl (.eq, false, 5, 3)),
  (27, [.inr (.lload_n 1), .inl (.long 67645734912), .inr .land, .inl (.long 0), .inr .lcmp], .inl (.eq, false, 5, 4)),
  (37, [.inl (.int 1)], .inr (.inr (0, 6, 0))),
  (41, [.inl (.int 0)], .inr (.inr (0, 6, 1))),
  (42, [.inr (.istore 5), .inr (.lload_n 1), .inl (.long 1090785345), .inr .land, .inl (.long 0), .inr .lcmp], .inl (.eq, false, 9, 7)),
  (54, [.inr (.lload_n 1), .inl (.long 34905131040), .inr .land, .inl (.long 0), .inr .lcmp], .inl (.eq, false, 9, 8)),
  (64, [.inl (.int 1)], .inr (.inr (0, 10, 0))),
  (68, [.inl (.int 0)], .inr (.inr (0, 10, 1))),
  (69, [.inr (.istore 6), .inr (.iload 5)], .inl (.ne, false, 12, 11)),
  (76, [.inr (.iload 6)], .inl (.eq, false, 13, 12)),
  (81, [.inl (.int 3)], .inr (.inr (2, 1, 0))),
  (83, [.inr (.lload_n 1), .inl (.long 68208171135), .inr .land, .inl (.long 0), .inr .lcmp], .inl (.eq, false, 15, 14)),
  (93, [.inl (.int 1)], .inr (.inr (2, 1, 0))),
  (95, [.inr (.lload_n 1), .inr (.lload_n 3), .inr .land, .inl (.long 0), .inr .lcmp], .inl (.eq, false, 17, 16)),
  (103, [.inl (.int 2)], .inr (.inr (0, 18, 0))),
  (107, [.inl (.int 0)], .inr (.inr (0, 18, 1))),
  (108, [], .inr (.inr (2, 1, 0)))]
def zp_G_taxOf : List zB := [(0, [.inr (.lload_n 1)], .inr (.inr (1, 185, 1))),
  (4, [.inr (.istore 5), .inr (.aload_n 0), .inr (.invokeinterface 0 5), .inr (.iload 5), .inr .imul, .inr (.aload_n 0), .inr (.invokeinterface 0 5), .inl (.int 0), .inr (.iload 5), .inl (.int 3), .inr .isub], .inr (.inr (4, 0, 2))),
  (25, [.inr .imul, .inr .iadd, .inr (.istore 6), .inr (.aload_n 0), .inr (.lload_n 1), .inr (.lload_n 3)], .inr (.inr (1, 139, 3))),
  (35, [], .inr (.inl ([(1, 4), (2, 5), (3, 6), (4, 8)], 10))),
  (64, [.inr (.iload 6), .inl (.int 2), .inr .idiv], .inr (.inr (2, 1, 0))),
  (69, [.inr (.iload 6), .inl (.int 10), .inr .iadd], .inr (.inr (2, 1, 0))),
  (75, [.inr (.iload 6), .inl (.int 2), .inr .idiv, .inr (.lload_n 1)], .inr (.inr (1, 160, 7))),
  (83, [.inr .iadd], .inr (.inr (2, 1, 0))),
  (85, [.inl (.int 0), .inr (.iload 6), .inl (.int 10), .inr .iadd, .inl (.int 3), .inr (.iload 5), .inr .imul, .inr .isub], .inr (.inr (4, 0, 9))),
  (99, [], .inr (.inr (2, 1, 0))),
  (100, [.inr (.iload 6)], .inr (.inr (2, 1, 0)))]
def zp_G_taxOfAll : List zB := [(0, [.inl (.int 0), .inr (.istore 5), .inr (.lload_n 1), .inr (.lstore 6), .inl (.int 0), .inr (.istore 8)], .inr (.inr (0, 1, 1))),
  (9, [.inr (.iload 8), .inl (.int 36)], .inl (.ge, true, 6, 2)),
  (16, [.inr (.lload 6), .inl (.long 0), .inr .lcmp], .inl (.eq, false, 6, 3)),
  (23, [.inr (.lload 6)], .inr (.inr (1, 157, 4))),
  (28, [.inr (.lstore 9), .inr (.iload 5), .inr (.aload_n 0), .inr (.lload 9), .inr (.lload_n 3)], .inr (.inr (1, 140, 5))),
  (39, [.inr .iadd, .inr (.istore 5), .inr (.lload 6), .inr (.lload 9), .inl (.long (-1)), .inr .lxor, .inr .land, .inr (.lstore 6), .inr (.iinc 8 1)], .inr (.inr (0, 1, 0))),
  (59, [.inr (.iload 5)], .inr (.inr (2, 1, 0)))]
def zp_G_landOf : List zB := [(0, [.inl (.long 0), .inr (.lstore_n 2), .inl (.int 0), .inr (.istore 4)], .inr (.inr (0, 1, 1))),
  (5, [.inr (.iload 4), .inl (.int 36)], .inl (.ge, true, 5, 2)),
  (12, [.inr (.aload_n 0), .inr (.invokeinterface 0 1), .inr (.iload 4), .inr .iaload, .inr (.iload_n 1)], .inl (.ne, true, 4, 3)),
  (23, [.inr (.lload_n 2), .inl (.long 1), .inr (.iload 4), .inr .lshl, .inr .lor, .inr (.lstore_n 2)], .inr (.inr (0, 4, 1))),
  (30, [.inr (.iinc 4 1)], .inr (.inr (0, 1, 0))),
  (36, [.inr (.lload_n 2)], .inr (.inr (2, 2, 0)))]
def zp_G_ownerOf : List zB := [(0, [.inr (.lload_n 1)], .inr (.inr (1, 159, 1))),
  (4, [.inr (.lstore_n 3), .inl (.int 4), .inr (.istore 5), .inl (.int 0), .inr (.istore 6), .inl (.int 0), .inr (.istore 7)], .inr (.inr (0, 2, 1))),
  (14, [.inr (.iload 7), .inl (.int 4)], .inl (.ge, true, 8, 3)),
  (20, [.inr (.lload_n 3), .inr (.aload_n 0), .inr (.iload 7)], .inr (.inr (1, 142, 4))),
  (27, [.inr .land], .inr (.inr (1, 185, 5))),
  (31, [.inr (.istore 8), .inr (.iload 8), .inr (.iload 6)], .inl (.le, true, 7, 6)),
  (40, [.inr (.iload 8), .inr (.istore 6), .inr (.iload 7), .inr (.istore 5)], .inr (.inr (0, 7, 1))),
  (48, [.inr (.iinc 7 1)], .inr (.inr (0, 2, 0))),
  (54, [.inr (.iload 5)], .inr (.inr (2, 1, 0)))]
def zp_G_partOf : List zB := [(0, [.inr (.lload_n 1)], .inr (.inr (1, 159, 1))),
  (4, [.inr (.lstore 4), .inr (.lload 4), .inr (.aload_n 0), .inl (.int 4)], .inr (.inr (1, 142, 2))),
  (13, [.inl (.long (-1)), .inr .lxor, .inr .land], .inr (.inr (1, 185, 3))),
  (21, [.inr (.istore 6), .inr (.iload 6)], .inl (.ne, false, 5, 4)),
  (28, [.inl (.int 0)], .inr (.inr (2, 1, 0))),
  (30, [.inr (.aload_n 0), .inr (.lload_n 1), .inr (.aload_n 0), .inr (.invokeinterface 0 3)], .inr (.inr (1, 140, 6))),
  (39, [.inr (.lload 4), .inr (.aload_n 0), .inr (.iload_n 3)], .inr (.inr (1, 142, 7))),
  (46, [.inr .land], .inr (.inr (1, 185, 8))),
  (50, [.inr .imul, .inr (.iload 6), .inr .idiv], .inr (.inr (2, 1, 0)))]
def zp_G_partOfAll : List zB := [(0, [.inl (.int 0), .inr (.istore_n 2), .inr (.aload_n 0), .inr (.invokeinterface 0 2), .inr (.lstore_n 3), .inl (.int 0), .inr (.istore 5)], .inr (.inr (0, 1, 1))),
  (10, [.inr (.iload 5), .inl (.int 36)], .inl (.ge, true, 6, 2)),
  (17, [.inr (.lload_n 3), .inl (.long 0), .inr .lcmp], .inl (.eq, false, 6, 3)),
  (23, [.inr (.lload_n 3)], .inr (.inr (1, 157, 4))),
  (27, [.inr (.lstore 6), .inr (.iload_n 2), .inr (.aload_n 0), .inr (.lload 6), .inr (.iload_n 1)], .inr (.inr (1, 144, 5))),
  (37, [.inr .iadd, .inr (.istore_n 2), .inr (.lload_n 3), .inr (.lload 6), .inl (.long (-1)), .inr .lxor, .inr .land, .inr (.lstore_n 3), .inr (.iinc 5 1)], .inr (.inr (0, 1, 0))),
  (54, [.inr (.iload_n 2)], .inr (.inr (2, 1, 0)))]
def zp_G_leastFilled : List zB := [(0, [.inr (.aload_n 0), .inr (.aload_n 0), .inr (.invokeinterface 0 2), .inr (.aload_n 0), .inr (.invokeinterface 0 3)], .inr (.inr (1, 141, 1))),
  (12, [.inr (.iload_n 1)], .inl (.gt, true, 3, 2)),
  (16, [.inl (.long 0)], .inr (.inr (2, 2, 0))),
  (18, [.inl (.int 0), .inr (.istore_n 2)], .inr (.inr (0, 4, 1))),
  (20, [.inr (.iload_n 2), .inl (.int 36)], .inl (.ge, true, 11, 5)),
  (26, [.inr (.aload_n 0), .inr (.invokeinterface 0 2), .inr (.iload_n 2)], .inr (.inr (1, 153, 6))),
  (34, [], .inl (.eq, false, 10, 7)),
  (37, [.inr (.aload_n 0), .inr (.aload_n 0), .inr (.invokeinterface 0 2), .inl (.long 1), .inr (.iload_n 2), .inr .lshl, .inl (.long (-1)), .inr .lxor, .inr .land, .inr (.aload_n 0), .inr (.invokeinterface 0 3)], .inr (.inr (1, 141, 8))),
  (57, [.inr (.iload_n 1)], .inl (.gt, true, 10, 9)),
  (61, [.inl (.long 1), .inr (.iload_n 2), .inr .lshl], .inr (.inr (2, 2, 0))),
  (65, [.inr (.iinc 2 1)], .inr (.inr (0, 4, 0))),
  (71, [.inl (.int 0), .inr (.istore_n 2)], .inr (.inr (0, 12, 1))),
  (73, [.inr (.iload_n 2), .inl (.int 36)], .inl (.ge, true, 24, 13)),
  (79, [.inr (.iload_n 2), .inl (.int 1), .inr .iadd, .inr (.istore_n 3)], .inr (.inr (0, 14, 1))),
  (83, [.inr (.aload_n 0), .inr (.invokeinterface 0 2), .inr (.iload_n 2)], .inr (.inr (1, 153, 15))),
  (91, [], .inl (.eq, false, 23, 16)),
  (94, [.inr (.iload_n 3), .inl (.int 36)], .inl (.ge, true, 23, 17)),
  (100, [.inl (.long 1), .inr (.iload_n 2), .inr .lshl, .inl (.long 1), .inr (.iload_n 3), .inr .lshl, .inr .lor, .inr (.lstore 4), .inr (.aload_n 0), .inr (.invokeinterface 0 2), .inr (.iload_n 3)], .inr (.inr (1, 153, 18))),
  (117, [], .inl (.eq, false, 22, 19)),
  (120, [.inr (.aload_n 0), .inr (.aload_n 0), .inr (.invokeinterface 0 2), .inr (.lload 4), .inl (.long (-1)), .inr .lxor, .inr .land, .inr (.aload_n 0), .inr (.invokeinterface 0 3)], .inr (.inr (1, 141, 20))),
  (139, [.inr (.iload_n 1)], .inl (.gt, true, 22, 21)),
  (143, [.inr (.lload 4)], .inr (.inr (2, 2, 0))),
  (146, [.inr (.iinc 3 1)], .inr (.inr (0, 14, 0))),
  (152, [.inr (.iinc 2 1)], .inr (.inr (0, 12, 0))),
  (158, [.inl (.long (-1))], .inr (.inr (2, 2, 0)))]
def zp_G_fits : List zB := [(0, [.inr (.aload_n 0), .inr (.invokeinterface 0 2), .inr (.lload_n 1), .inl (.long (-1)), .inr .lxor, .inr .land, .inr (.lload_n 3), .inr .lor, .inr (.lstore 7), .inr (.iload 5)], .inl (.lt, false, 4, 1)),
  (19, [.inr (.lload 7)], .inr (.inr (1, 158, 2))),
  (24, [.inr (.iload 5)], .inl (.eq, true, 4, 3)),
  (29, [.inl (.int 0)], .inr (.inr (2, 3, 0))),
  (31, [.inr (.iload 6)], .inl (.lt, false, 7, 5)),
  (36, [.inr (.aload_n 0), .inr (.lload 7), .inr (.aload_n 0), .inr (.invokeinterface 0 3), .inr (.lload_n 1), .inl (.long (-1)), .inr .lxor, .inr .land], .inr (.inr (1, 141, 6))),
  (52, [.inr (.iload 6)], .inl (.ne, true, 8, 7)),
  (57, [.inl (.int 1)], .inr (.inr (0, 9, 0))),
  (61, [.inl (.int 0)], .inr (.inr (0, 9, 1))),
  (62, [], .inr (.inr (2, 3, 0)))]
def zp_M_walk : List zB := [(0, [.inr (.aload_n 0), .inl (.int 0), .inr (.multianewarray 1 5), .inr (.lload_n 2), .inr (.lstore 4)], .inr (.inr (0, 1, 1))),
  (8, [.inr (.lload 4), .inl (.long 0), .inr .lcmp], .inl (.eq, false, 5, 2)),
  (15, [.inr (.aload_n 0), .inr (.invokeinterface 1 5), .inl (.int 8)], .inl (.ge, true, 5, 3)),
  (24, [.inr (.lload 4)], .inr (.inr (1, 157, 4))),
  (29, [.inr (.lstore 6), .inr (.aload_n 0), .inr (.invokeinterface 1 0), .inr (.aload_n 0), .inr (.invokeinterface 1 5), .inr (.lload 6), .inr .lastore, .inr (.aload_n 0), .inr .dup, .inr (.invokeinterface 1 5), .inl (.int 1), .inr .iadd, .inr (.multianewarray 1 5), .inr (.lload 4), .inr (.lload 6), .inl (.long (-1)), .inr .lxor, .inr .land, .inr (.lstore 4)], .inr (.inr (0, 1, 0))),
  (66, [.inl (.int 0), .inr (.istore 6), .inl (.int 0), .inr (.istore 7)], .inr (.inr (0, 6, 1))),
  (72, [.inr (.iload 7), .inr (.aload_n 0), .inr (.invokeinterface 1 5)], .inl (.ge, true, 9, 7)),
  (81, [.inr (.aload_n 0), .inr (.iload 7), .inr (.lload_n 2)], .inr (.inr (1, 149, 8))),
  (88, [.inr (.iload 6), .inr (.aload_n 0), .inr (.invokeinterface 1 1), .inr (.iload 7), .inr .iaload, .inr .iadd, .inr (.istore 6), .inr (.iinc 7 1)], .inr (.inr (0, 6, 0))),
  (106, [.inr (.aload_n 0), .inl (.int 1000), .inr (.multianewarray 1 6), .inr (.aload_n 0), .inr (.iload_n 1), .inl (.int 0), .inl (.int 0), .inr (.iload 6), .inl (.int 0)], .inr (.inr (1, 152, 10))),
  (123, [], .inr (.inr (2, 0, 0)))]
def zp_M_measure : List zB := [(0, [.inr (.aload_n 0), .inr (.invokeinterface 1 1), .inr (.iload_n 1), .inl (.int 1000), .inr .iastore, .inl (.int 0), .inr (.istore 4)], .inr (.inr (0, 1, 1))),
  (12, [.inr (.iload 4), .inl (.int 36)], .inl (.ge, true, 9, 2)),
  (19, [.inr (.aload_n 0), .inr (.invokeinterface 1 0), .inr (.iload_n 1), .inr .laload, .inr (.iload 4)], .inr (.inr (1, 150, 3))),
  (30, [.inr (.istore 5), .inr (.aload_n 0), .inr (.invokeinterface 1 2), .inr (.iload_n 1), .inl (.int 36), .inr .imul, .inr (.iload 4), .inr .iadd, .inr (.iload 5), .inr .iastore, .inr (.lload_n 2), .inr (.aload_n 0), .inr (.invokeinterface 1 0), .inr (.iload_n 1), .inr .laload, .inl (.long (-1)), .inr .lxor, .inr .land, .inr (.iload 4)], .inr (.inr (1, 153, 4))),
  (63, [], .inl (.eq, false, 8, 5)),
  (66, [.inr (.aload_n 0), .inr (.invokeinterface 1 1), .inr (.iload_n 1), .inr (.aload_n 0), .inr (.invokeinterface 1 1), .inr (.iload_n 1), .inr .iaload, .inr (.iload 4), .inr (.iload 5)], .inr (.inr (1, 151, 6))),
  (84, [], .inr (.inr (4, 1, 7))),
  (87, [.inr .iastore], .inr (.inr (0, 8, 1))),
  (88, [.inr (.iinc 4 1)], .inr (.inr (0, 1, 0))),
  (94, [], .inr (.inr (2, 0, 0)))]
def zp_M_nearestOf : List zB := [(0, [.inr (.iload_n 2), .inr (.istore_n 3), .inl (.int 1000), .inr (.istore 4), .inl (.int 0), .inr (.istore 5)], .inr (.inr (0, 1, 1))),
  (10, [.inr (.iload 5), .inl (.int 36)], .inl (.ge, true, 9, 2)),
  (17, [.inr (.lload_n 0), .inr (.iload 5)], .inr (.inr (1, 153, 3))),
  (23, [], .inl (.eq, false, 8, 4)),
  (26, [.inr (.iload_n 2), .inr (.iload 5)], .inr (.inr (1, 151, 5))),
  (32, [.inr (.iload 4)], .inl (.ge, true, 8, 6)),
  (37, [.inr (.iload_n 2), .inr (.iload 5)], .inr (.inr (1, 151, 7))),
  (43, [.inr (.istore 4), .inr (.iload 5), .inr (.istore_n 3)], .inr (.inr (0, 8, 1))),
  (48, [.inr (.iinc 5 1)], .inr (.inr (0, 1, 0))),
  (54, [.inr (.iload_n 3)], .inr (.inr (2, 1, 0)))]
def zp_M_steps : List zB := [(0, [.inr (.iload_n 0), .inl (.int 6), .inr .idiv, .inr (.iload_n 1), .inl (.int 6), .inr .idiv, .inr .isub], .inr (.inr (4, 2, 1))),
  (12, [.inr (.iload_n 0), .inl (.int 6), .inr .irem, .inr (.iload_n 1), .inl (.int 6), .inr .irem, .inr .isub], .inr (.inr (4, 2, 2))),
  (24, [.inr .iadd], .inr (.inr (2, 1, 0)))]
def zp_M_seek : List zB := [(0, [.inr (.iload 5)], .inl (.le, false, 3, 1)),
  (5, [.inr (.iload_n 3), .inr (.iload 4), .inr .iadd, .inr (.aload_n 0), .inr (.invokeinterface 1 6)], .inl (.lt, true, 3, 2)),
  (16, [], .inr (.inr (2, 0, 0))),
  (17, [.inr (.iload 5), .inr (.aload_n 0), .inr (.invokeinterface 1 5)], .inl (.lt, true, 9, 4)),
  (26, [.inr (.aload_n 0), .inr (.iload_n 3), .inr (.multianewarray 1 6), .inl (.int 0), .inr (.istore 6)], .inr (.inr (0, 5, 1))),
  (34, [.inr (.iload 6), .inr (.aload_n 0), .inr (.invokeinterface 1 5)], .inl (.ge, true, 8, 6)),
  (43, [.inr (.aload_n 0), .inr (.invokeinterface 1 4), .inr (.iload 6), .inr (.aload_n 0), .inr (.invokeinterface 1 0), .inr (.aload_n 0), .inr (.invokeinterface 1 3), .inr (.iload 6), .inr .iaload, .inr .laload], .inr (.inr (1, 154, 7))),
  (64, [.inr .iastore, .inr (.iinc 6 1)], .inr (.inr (0, 5, 0))),
  (71, [], .inr (.inr (2, 0, 0))),
  (72, [.inl (.int 0), .inr (.istore 6)], .inr (.inr (0, 10, 1))),
  (75, [.inr (.iload 6), .inr (.aload_n 0), .inr (.invokeinterface 1 5)], .inl (.ge, true, 16, 11)),
  (84, [.inr (.iload_n 2), .inr (.iload 6), .inr .ishr, .inl (.int 1), .inr .iand], .inl (.eq, false, 13, 12)),
  (93, [], .inr (.inr (0, 15, 0))),
  (96, [.inr (.aload_n 0), .inr (.invokeinterface 1 3), .inr (.iload 5), .inr (.iload 6), .inr .iastore, .inr (.aload_n 0), .inr (.invokeinterface 1 2), .inr (.iload 6), .inl (.int 36), .inr .imul, .inr (.iload_n 1), .inr .iadd, .inr .iaload, .inr (.istore 7), .inr (.aload_n 0), .inr (.iload 7), .inr (.iload_n 2), .inl (.int 1), .inr (.iload 6), .inr .ishl, .inr .ior, .inr (.iload_n 3), .inr (.iload_n 1), .inr (.iload 7)], .inr (.inr (1, 151, 14))),
  (135, [.inr .iadd, .inr (.iload 4), .inr (.aload_n 0), .inr (.invokeinterface 1 1), .inr (.iload 6), .inr .iaload, .inr .isub, .inr (.iload 5), .inl (.int 1), .inr .iadd], .inr (.inr (1, 152, 15))),
  (153, [.inr (.iinc 6 1)], .inr (.inr (0, 10, 0))),
  (159, [], .inr (.inr (2, 0, 0)))]
def zp_P_has : List zB := [(0, [.inr (.lload_n 0), .inr (.iload_n 2), .inr .lushr, .inl (.long 1), .inr .land, .inl (.long 0), .inr .lcmp], .inl (.eq, false, 2, 1)),
  (10, [.inl (.int 1)], .inr (.inr (0, 3, 0))),
  (14, [.inl (.int 0)], .inr (.inr (0, 3, 1))),
  (15, [], .inr (.inr (2, 3, 0)))]
def zp_P_least : List zB := [(0, [.inr (.lload_n 0), .inr (.lload_n 0), .inr .lneg, .inr .land, .inl (.long 1), .inr .lsub], .inr (.inr (1, 185, 1))),
  (9, [], .inr (.inr (2, 1, 0)))]
def zp_P_beside : List zB := [(0, [.inr (.lload_n 0), .inl (.int 6), .inr .lshl, .inr (.lload_n 0), .inl (.int 6), .inr .lushr, .inr .lor, .inr (.lstore_n 2), .inr (.lload_n 2), .inr (.lload_n 0), .inl (.long (-34905131041)), .inr .land, .inl (.int 1), .inr .lshl, .inr .lor, .inr (.lload_n 0), .inl (.long (-1090785346)), .inr .land, .inl (.int 1), .inr .lushr, .inr .lor, .inl (.long 68719476735), .inr .land], .inr (.inr (2, 2, 0)))]
def zp_P_spread : List zB := [(0, [.inr (.lload_n 0), .inr (.lload_n 2), .inr .land, .inr (.lstore 4), .inl (.int 0), .inr (.istore 6)], .inr (.inr (0, 1, 1))),
  (8, [.inr (.iload 6), .inl (.int 36)], .inl (.ge, true, 6, 2)),
  (15, [.inr (.lload 4), .inr (.lload 4)], .inr (.inr (1, 155, 3))),
  (22, [.inr .lor, .inr (.lload_n 2), .inr .land, .inr (.lstore 7), .inr (.lload 7), .inr (.lload 4), .inr .lcmp], .inl (.ne, false, 5, 4)),
  (35, [], .inr (.inr (0, 6, 0))),
  (38, [.inr (.lload 7), .inr (.lstore 4), .inr (.iinc 6 1)], .inr (.inr (0, 1, 0))),
  (48, [.inr (.lload 4)], .inr (.inr (2, 2, 0)))]
def zp_P_firstHole : List zB := [(0, [.inr (.lload_n 0), .inr (.lload_n 0), .inr .lneg, .inr .land, .inr (.lload_n 0)], .inr (.inr (1, 156, 1))),
  (8, [], .inr (.inr (2, 2, 0)))]
def zp_P_holesOf : List zB := [(0, [.inl (.int 0), .inr (.istore_n 2), .inr (.lload_n 0), .inr (.lstore_n 3)], .inr (.inr (0, 1, 1))),
  (4, [.inr (.lload_n 3), .inl (.long 0), .inr .lcmp], .inl (.eq, false, 5, 2)),
  (10, [.inr (.iload_n 2), .inl (.int 36)], .inl (.ge, true, 5, 3)),
  (16, [.inr (.lload_n 3), .inr (.lload_n 3)], .inr (.inr (1, 157, 4))),
  (21, [.inl (.long (-1)), .inr .lxor, .inr .land, .inr (.lstore_n 3), .inr (.iinc 2 1)], .inr (.inr (0, 1, 0))),
  (33, [.inr (.iload_n 2)], .inr (.inr (2, 1, 0)))]
def zp_P_rimOf : List zB := [(0, [.inr (.lload_n 0)], .inr (.inr (1, 155, 1))),
  (4, [.inr (.lload_n 0), .inl (.long (-1)), .inr .lxor, .inr .land], .inr (.inr (2, 2, 0)))]
def zp_P_fenceOf : List zB := [(0, [.inr (.lload_n 0), .inr (.lload_n 0), .inl (.int 6), .inr .lushr, .inr .land], .inr (.inr (1, 185, 1))),
  (9, [.inr (.istore_n 2), .inr (.lload_n 0), .inr (.lload_n 0), .inl (.long (-1090785346)), .inr .land, .inl (.int 1), .inr .lushr, .inr .land], .inr (.inr (1, 185, 2))),
  (22, [.inr (.istore_n 3), .inl (.int 4), .inr (.lload_n 0)], .inr (.inr (1, 185, 3))),
  (28, [.inr .imul, .inl (.int 2), .inr (.iload_n 2), .inr (.iload_n 3), .inr .iadd, .inr .imul, .inr .isub], .inr (.inr (2, 1, 0)))]
def zp_P_withinOf : List zB := [(0, [.inl (.long 68719476735), .inr (.lload_n 0), .inl (.long (-1)), .inr .lxor, .inr .land, .inr (.lstore_n 2), .inr (.lload_n 2), .inl (.long 68208171135), .inr (.lload_n 2)], .inr (.inr (1, 156, 1))),
  (18, [.inl (.long (-1)), .inr .lxor, .inr .land], .inr (.inr (2, 2, 0)))]
def zp_P_nestedIn : List zB := [(0, [.inl (.int 0), .inr (.istore 4), .inr (.lload_n 2), .inr (.lstore 5), .inl (.int 0), .inr (.istore 7)], .inr (.inr (0, 1, 1))),
  (9, [.inr (.iload 7), .inl (.int 36)], .inl (.ge, true, 8, 2)),
  (16, [.inr (.lload 5), .inl (.long 0), .inr .lcmp], .inl (.eq, false, 8, 3)),
  (23, [.inr (.lload 5)], .inr (.inr (1, 157, 4))),
  (28, [.inr (.lstore 8), .inr (.lload 8)], .inr (.inr (1, 161, 5))),
  (35, [.inr (.lload_n 0), .inr .land, .inl (.long 0), .inr .lcmp], .inl (.eq, false, 7, 6)),
  (42, [.inr (.iinc 4 1)], .inr (.inr (0, 7, 1))),
  (45, [.inr (.lload 5), .inr (.lload 8), .inl (.long (-1)), .inr .lxor, .inr .land, .inr (.lstore 5), .inr (.iinc 7 1)], .inr (.inr (0, 1, 0))),
  (62, [.inr (.iload 4)], .inr (.inr (2, 1, 0)))]
def zp_P_broadestIn : List zB := [(0, [.inl (.int 0), .inr (.istore_n 2), .inr (.lload_n 0), .inr (.lstore_n 3)], .inr (.inr (0, 1, 1))),
  (4, [.inr (.lload_n 3), .inl (.long 0), .inr .lcmp], .inl (.eq, false, 4, 2)),
  (10, [.inr (.iload_n 2), .inl (.int 6)], .inl (.ge, true, 4, 3)),
  (16, [.inr (.iinc 2 1), .inr (.lload_n 3), .inr (.lload_n 3), .inl (.long (-1090785346)), .inr .land, .inl (.int 1), .inr .lushr, .inr .land, .inr (.lstore 5), .inr (.lload 5), .inr (.lload 5), .inl (.int 6), .inr .lushr, .inr .land, .inr (.lstore_n 3)], .inr (.inr (0, 1, 0))),
  (42, [.inr (.iload_n 2)], .inr (.inr (2, 1, 0)))]
def zp_P_mostCells : List zB := [(0, [.inl (.long 0), .inr (.lstore_n 2), .inr (.lload_n 0), .inr (.lstore 4), .inl (.int 0), .inr (.istore 6)], .inr (.inr (0, 1, 1))),
  (8, [.inr (.iload 6), .inl (.int 36)], .inl (.ge, true, 9, 2)),
  (15, [.inr (.lload 4), .inl (.long 0), .inr .lcmp], .inl (.eq, false, 9, 3)),
  (22, [.inr (.lload 4)], .inr (.inr (1, 157, 4))),
  (27, [.inr (.lstore 7), .inr (.lload 7)], .inr (.inr (1, 185, 5))),
  (34, [.inr (.lload_n 2)], .inr (.inr (1, 185, 6))),
  (38, [], .inl (.le, true, 8, 7)),
  (41, [.inr (.lload 7), .inr (.lstore_n 2)], .inr (.inr (0, 8, 1))),
  (44, [.inr (.lload 4), .inr (.lload 7), .inl (.long (-1)), .inr .lxor, .inr .land, .inr (.lstore 4), .inr (.iinc 6 1)], .inr (.inr (0, 1, 0))),
  (61, [.inr (.lload_n 2)], .inr (.inr (2, 2, 0)))]
def zp_P_leastCut : List zB := [(0, [.inr (.lload_n 0)], .inr (.inr (1, 163, 1))),
  (4, [.inr (.istore 4), .inr (.lload_n 0)], .inr (.inr (1, 159, 2))),
  (10, [.inr (.lstore 5), .inl (.int 0), .inr (.istore 7)], .inr (.inr (0, 3, 1))),
  (15, [.inr (.iload 7), .inl (.int 36)], .inl (.ge, true, 11, 4)),
  (22, [.inr (.lload 5), .inr (.iload 7)], .inr (.inr (1, 153, 5))),
  (29, [], .inl (.eq, false, 10, 6)),
  (32, [.inr (.lload_n 0), .inr (.lload_n 2), .inl (.long 1), .inr (.iload 7), .inr .lshl, .inr .lor], .inr (.inr (1, 156, 7))),
  (42, [], .inr (.inr (1, 163, 8))),
  (45, [.inr (.iload 4)], .inl (.le, true, 10, 9)),
  (50, [.inr (.iload 7)], .inr (.inr (2, 1, 0))),
  (53, [.inr (.iinc 7 1)], .inr (.inr (0, 3, 0))),
  (59, [.inl (.int (-4))], .inr (.inr (2, 1, 0)))]
def zp_P_isInPieces : List zB := [(0, [.inr (.lload_n 0), .inl (.long 0), .inr .lcmp], .inl (.eq, false, 4, 1)),
  (6, [.inr (.lload_n 0)], .inr (.inr (1, 157, 2))),
  (10, [.inr (.lload_n 0), .inr .lcmp], .inl (.eq, false, 4, 3)),
  (15, [.inl (.int 1)], .inr (.inr (0, 5, 0))),
  (19, [.inl (.int 0)], .inr (.inr (0, 5, 1))),
  (20, [], .inr (.inr (2, 3, 0)))]
def zp_P_leastSplit : List zB := [(0, [.inl (.int 0), .inr (.istore_n 2)], .inr (.inr (0, 1, 1))),
  (2, [.inr (.iload_n 2), .inl (.int 36)], .inl (.ge, true, 8, 2)),
  (8, [.inr (.lload_n 0), .inr (.iload_n 2)], .inr (.inr (1, 153, 3))),
  (13, [], .inl (.eq, false, 7, 4)),
  (16, [.inr (.lload_n 0), .inl (.long 1), .inr (.iload_n 2), .inr .lshl, .inl (.long (-1)), .inr .lxor, .inr .land], .inr (.inr (1, 166, 5))),
  (28, [], .inl (.eq, false, 7, 6)),
  (31, [.inl (.long 1), .inr (.iload_n 2), .inr .lshl], .inr (.inr (2, 2, 0))),
  (35, [.inr (.iinc 2 1)], .inr (.inr (0, 1, 0))),
  (41, [.inl (.int 0), .inr (.istore_n 2)], .inr (.inr (0, 9, 1))),
  (43, [.inr (.iload_n 2), .inl (.int 36)], .inl (.ge, true, 21, 10)),
  (49, [.inr (.iload_n 2), .inl (.int 1), .inr .iadd, .inr (.istore_n 3)], .inr (.inr (0, 11, 1))),
  (53, [.inr (.lload_n 0), .inr (.iload_n 2)], .inr (.inr (1, 153, 12))),
  (58, [], .inl (.eq, false, 20, 13)),
  (61, [.inr (.iload_n 3), .inl (.int 36)], .inl (.ge, true, 20, 14)),
  (67, [.inl (.long 1), .inr (.iload_n 2), .inr .lshl, .inl (.long 1), .inr (.iload_n 3), .inr .lshl, .inr .lor, .inr (.lstore 4), .inr (.lload_n 0), .inr (.iload_n 3)], .inr (.inr (1, 153, 15))),
  (81, [], .inl (.eq, false, 19, 16)),
  (84, [.inr (.lload_n 0), .inr (.lload 4), .inl (.long (-1)), .inr .lxor, .inr .land], .inr (.inr (1, 166, 17))),
  (95, [], .inl (.eq, false, 19, 18)),
  (98, [.inr (.lload 4)], .inr (.inr (2, 2, 0))),
  (101, [.inr (.iinc 3 1)], .inr (.inr (0, 11, 0))),
  (107, [.inr (.iinc 2 1)], .inr (.inr (0, 9, 0))),
  (113, [.inl (.long (-1))], .inr (.inr (2, 2, 0)))]
def zp_P_gapBetween : List zB := [(0, [.inr (.lload_n 0), .inr (.lload 4)], .inr (.inr (1, 156, 1))),
  (6, [.inr (.lstore 8), .inl (.int 0), .inr (.istore 10)], .inr (.inr (0, 2, 1))),
  (11, [.inr (.iload 10), .inl (.int 36)], .inl (.gt, true, 8, 3)),
  (18, [.inr (.lload 8), .inr (.lload_n 2), .inr .land, .inl (.long 0), .inr .lcmp], .inl (.eq, false, 5, 4)),
  (27, [.inr (.iload 10)], .inr (.inr (2, 1, 0))),
  (30, [.inr (.lload 8), .inr (.lload 8)], .inr (.inr (1, 155, 6))),
  (37, [.inr (.lload 6), .inr .land, .inr .lor, .inr (.lstore 11), .inr (.lload 11), .inr (.lload 4), .inr (.lload 11), .inr .lor], .inr (.inr (1, 156, 7))),
  (53, [.inr (.lstore 8), .inr (.iinc 10 1)], .inr (.inr (0, 2, 0))),
  (61, [.inl (.int 37)], .inr (.inr (2, 1, 0)))]
def zp_P_leastDug : List zB := [(0, [.inl (.long 0), .inr (.lstore 6), .inl (.long 68719476735), .inr (.lload 4), .inl (.long (-1)), .inr .lxor, .inr .land, .inr (.lstore 8), .inr (.lload_n 0), .inr (.lload_n 2), .inr (.lload 4), .inr (.lload 8)], .inr (.inr (1, 168, 1))),
  (24, [.inr (.istore 10), .inl (.int 0), .inr (.istore 11)], .inr (.inr (0, 2, 1))),
  (29, [.inr (.iload 11), .inl (.int 36)], .inl (.ge, true, 8, 3)),
  (36, [.inr (.iload 10)], .inl (.le, false, 8, 4)),
  (41, [.inr (.lload 4), .inr (.lload 6), .inr .lor, .inl (.long 1), .inr (.iload 11), .inr .lshl, .inr .lor, .inr (.lstore 12), .inr (.lload_n 0), .inr (.lload_n 2), .inr (.lload 12), .inr (.lload 8)], .inr (.inr (1, 168, 5))),
  (62, [.inr (.iload 10)], .inl (.ge, true, 7, 6)),
  (67, [.inr (.lload 6), .inl (.long 1), .inr (.iload 11), .inr .lshl, .inr .lor, .inr (.lstore 6), .inr (.iinc 10 (-1))], .inr (.inr (0, 7, 1))),
  (79, [.inr (.iinc 11 1)], .inr (.inr (0, 2, 0))),
  (85, [.inr (.lload 6)], .inr (.inr (2, 2, 0)))]
def zp_R_begin : List zB := [(0, [.inr (.aload_n 0), .inl (.int 1), .inr (.multianewarray 2 1), .inr (.aload_n 0), .inr (.iload_n 1), .inr (.multianewarray 2 2), .inr (.aload_n 0), .inr (.iload_n 2), .inr (.multianewarray 2 3), .inl (.int 0), .inr (.istore_n 3)], .inr (.inr (0, 1, 1))),
  (17, [.inr (.iload_n 3), .inl (.int 36)], .inl (.ge, true, 3, 2)),
  (23, [.inr (.aload_n 0), .inr (.invokeinterface 2 0), .inr (.iload_n 3), .inl (.long 0), .inr .lastore, .inr (.iinc 3 1)], .inr (.inr (0, 1, 0))),
  (36, [], .inr (.inr (2, 0, 0)))]
def zp_R_spans : List zB := [(0, [.inr (.iload_n 1)], .inl (.lt, false, 5, 1)),
  (4, [.inr (.iload_n 2)], .inl (.lt, false, 5, 2)),
  (8, [.inr (.iload_n 2), .inr (.aload_n 0), .inr (.invokeinterface 2 3)], .inl (.gt, true, 5, 3)),
  (16, [.inr (.iload_n 1), .inr (.aload_n 0), .inr (.invokeinterface 2 3), .inr (.iload_n 2), .inr .isub], .inl (.gt, true, 5, 4)),
  (26, [.inl (.int 1)], .inr (.inr (0, 6, 0))),
  (30, [.inl (.int 0)], .inr (.inr (0, 6, 1))),
  (31, [], .inr (.inr (2, 3, 0)))]
def zp_R_put : List zB := [(0, [.inr (.aload_n 0), .inr (.iload_n 1), .inl (.int 1)], .inr (.inr (1, 171, 1))),
  (6, [], .inl (.ne, false, 3, 2)),
  (9, [], .inr (.inr (2, 0, 0))),
  (10, [.inr (.aload_n 0), .inr (.invokeinterface 2 2)], .inr (.inl ([(0, 4), (1, 5), (2, 6)], 7))),
  (40, [.inr (.aload_n 0), .inr (.invokeinterface 2 0), .inr (.iload_n 1), .inr (.lload_n 2), .inr .l2i, .inr .i2b, .inr .i2l, .inr .lastore], .inr (.inr (0, 8, 0))),
  (53, [.inr (.aload_n 0), .inr (.invokeinterface 2 0), .inr (.iload_n 1), .inr (.lload_n 2), .inr .l2i, .inr .i2s, .inr .i2l, .inr .lastore], .inr (.inr (0, 8, 0))),
  (66, [.inr (.aload_n 0), .inr (.invokeinterface 2 0), .inr (.iload_n 1), .inr (.lload_n 2), .inr .l2i, .inr .i2l, .inr .lastore], .inr (.inr (0, 8, 0))),
  (78, [.inr (.aload_n 0), .inr (.invokeinterface 2 0), .inr (.iload_n 1), .inr (.lload_n 2), .inr .lastore], .inr (.inr (0, 8, 1))),
  (85, [], .inr (.inr (2, 0, 0)))]
def zp_R_areDepths : List zB := [(0, [.inl (.int 0), .inr (.istore_n 3)], .inr (.inr (0, 1, 1))),
  (2, [.inr (.iload_n 3), .inr (.iload_n 2)], .inl (.ge, true, 6, 2)),
  (7, [.inr (.aload_n 0), .inr (.invokeinterface 2 0), .inr (.iload_n 1), .inr (.iload_n 3), .inr .iadd, .inr .laload, .inl (.long 0), .inr .lcmp], .inl (.lt, false, 4, 3)),
  (20, [.inr (.aload_n 0), .inr (.invokeinterface 2 0), .inr (.iload_n 1), .inr (.iload_n 3), .inr .iadd, .inr .laload, .inl (.long 9), .inr .lcmp], .inl (.le, false, 5, 4)),
  (35, [.inl (.int 0)], .inr (.inr (2, 3, 0))),
  (37, [.inr (.iinc 3 1)], .inr (.inr (0, 1, 0))),
  (43, [.inl (.int 1)], .inr (.inr (2, 3, 0)))]
def zp_T_add : List zB := [(0, [.inr (.aload_n 0), .inr (.invokeinterface 3 1), .inl (.int 160)], .inl (.lt, true, 2, 1)),
  (10, [.inl (.int (-3))], .inr (.inr (2, 1, 0))),
  (13, [.inr (.aload_n 0), .inr (.invokeinterface 3 0), .inr (.aload_n 0), .inr (.invokeinterface 3 1), .inr (.iload_n 1), .inr .castore, .inr (.aload_n 0), .inr .dup, .inr (.invokeinterface 3 1), .inl (.int 1), .inr .iadd, .inr (.multianewarray 3 1), .inr (.aload_n 0), .inr (.invokeinterface 3 1)], .inr (.inr (2, 1, 0)))]
def zp_T_wipe : List zB := [(0, [.inr (.aload_n 0), .inl (.int 0), .inr (.multianewarray 3 1)], .inr (.inr (2, 0, 0)))]
def zp_T_passBlanks : List zB := [(0, [.inr (.aload_n 0), .inr (.invokeinterface 3 2), .inr (.aload_n 0), .inr (.invokeinterface 3 1)], .inl (.ge, true, 3, 1)),
  (11, [.inr (.aload_n 0), .inr (.invokeinterface 3 0), .inr (.aload_n 0), .inr (.invokeinterface 3 2), .inr .caload, .inl (.int 32)], .inl (.ne, true, 3, 2)),
  (25, [.inr (.aload_n 0), .inr .dup, .inr (.invokeinterface 3 2), .inl (.int 1), .inr .iadd, .inr (.multianewarray 3 2)], .inr (.inr (0, 0, 0))),
  (38, [], .inr (.inr (2, 0, 0)))]
def zp_T_isNext : List zB := [(0, [.inr (.aload_n 0)], .inr (.inr (1, 176, 1))),
  (4, [.inr (.aload_n 0), .inr (.invokeinterface 3 2), .inr (.aload_n 0), .inr (.invokeinterface 3 1)], .inl (.ge, true, 3, 2)),
  (15, [.inr (.aload_n 0), .inr (.invokeinterface 3 0), .inr (.aload_n 0), .inr (.invokeinterface 3 2), .inr .caload, .inr (.iload_n 1)], .inl (.eq, true, 4, 3)),
  (28, [.inl (.int 0)], .inr (.inr (2, 3, 0))),
  (30, [.inr (.aload_n 0), .inr .dup, .inr (.invokeinterface 3 2), .inl (.int 1), .inr .iadd, .inr (.multianewarray 3 2), .inl (.int 1)], .inr (.inr (2, 3, 0)))]
def zp_T_nextFigure : List zB := [(0, [.inr (.aload_n 0)], .inr (.inr (1, 176, 1))),
  (4, [.inr (.aload_n 0), .inr (.invokeinterface 3 2), .inr (.aload_n 0), .inr (.invokeinterface 3 1)], .inl (.ge, true, 4, 2)),
  (15, [.inr (.aload_n 0), .inr (.invokeinterface 3 0), .inr (.aload_n 0), .inr (.invokeinterface 3 2), .inr .caload, .inl (.int 48)], .inl (.lt, true, 4, 3)),
  (29, [.inr (.aload_n 0), .inr (.invokeinterface 3 0), .inr (.aload_n 0), .inr (.invokeinterface 3 2), .inr .caload, .inr (.iload_n 1)], .inl (.le, true, 5, 4)),
  (42, [.inl (.int (-1))], .inr (.inr (2, 1, 0))),
  (44, [.inr (.aload_n 0), .inr (.invokeinterface 3 0), .inr (.aload_n 0), .inr (.invokeinterface 3 2), .inr .caload, .inl (.int 48), .inr .isub, .inr (.istore_n 2), .inr (.aload_n 0), .inr .dup, .inr (.invokeinterface 3 2), .inl (.int 1), .inr .iadd, .inr (.multianewarray 3 2), .inr (.iload_n 2)], .inr (.inr (2, 1, 0)))]
def zp_T_fault : List zB := [(0, [.inl (.int (-20)), .inr (.aload_n 0), .inr (.invokeinterface 3 2), .inr .isub], .inr (.inr (2, 1, 0)))]
def zp_T_faultBehind : List zB := [(0, [.inr (.aload_n 0)], .inr (.inr (1, 176, 1))),
  (4, [.inr (.aload_n 0), .inr (.invokeinterface 3 2), .inr (.aload_n 0), .inr (.invokeinterface 3 1)], .inl (.ge, true, 4, 2)),
  (15, [.inr (.aload_n 0)], .inr (.inr (1, 179, 3))),
  (19, [], .inr (.inr (0, 5, 0))),
  (22, [.inl (.int 0)], .inr (.inr (0, 5, 1))),
  (23, [], .inr (.inr (2, 1, 0)))]
def zp_T_readGround : List zB := [(0, [.inr (.aload_n 0), .inl (.int 0), .inr (.multianewarray 3 2), .inr (.aload_n 0), .inl (.long 0), .inr (.multianewarray 3 4), .inl (.int 0), .inr (.istore_n 1)], .inr (.inr (0, 1, 1))),
  (12, [.inr (.iload_n 1), .inl (.int 36)], .inl (.ge, true, 17, 2)),
  (18, [.inr (.iload_n 1)], .inl (.le, false, 8, 3)),
  (22, [.inr (.iload_n 1), .inl (.int 6), .inr .irem], .inl (.ne, false, 8, 4)),
  (29, [.inr (.aload_n 0), .inl (.int 47)], .inr (.inr (1, 177, 5))),
  (35, [], .inl (.ne, false, 8, 6)),
  (38, [.inr (.aload_n 0)], .inr (.inr (1, 179, 7))),
  (42, [], .inr (.inr (2, 1, 0))),
  (43, [.inr (.aload_n 0), .inl (.int 57)], .inr (.inr (1, 178, 9))),
  (49, [.inr (.istore_n 2), .inr (.iload_n 2)], .inl (.ge, false, 12, 10)),
  (54, [.inr (.aload_n 0)], .inr (.inr (1, 179, 11))),
  (58, [], .inr (.inr (2, 1, 0))),
  (59, [.inr (.aload_n 0), .inr (.invokeinterface 3 3), .inr (.iload_n 1), .inr (.iload_n 2), .inr .iastore, .inr (.iload_n 2)], .inl (.le, false, 16, 13)),
  (70, [.inr (.aload_n 0), .inl (.int 94)], .inr (.inr (1, 177, 14))),
  (76, [], .inl (.eq, false, 16, 15)),
  (79, [.inr (.aload_n 0), .inr .dup, .inr (.invokeinterface 3 4), .inl (.long 1), .inr (.iload_n 1), .inr .lshl, .inr .lor, .inr (.multianewarray 3 4)], .inr (.inr (0, 16, 1))),
  (91, [.inr (.iinc 1 1)], .inr (.inr (0, 1, 0))),
  (97, [.inr (.aload_n 0)], .inr (.inr (1, 180, 18))),
  (101, [], .inr (.inr (2, 1, 0)))]
def zp_T_readOwners : List zB := [(0, [.inr (.aload_n 0), .inl (.int 0), .inr (.multianewarray 3 2), .inl (.int 0), .inr (.istore_n 1)], .inr (.inr (0, 1, 1))),
  (7, [.inr (.iload_n 1), .inl (.int 36)], .inl (.ge, true, 14, 2)),
  (13, [.inr (.iload_n 1)], .inl (.le, false, 6, 3)),
  (17, [.inr (.iload_n 1), .inl (.int 6), .inr .irem], .inl (.ne, false, 6, 4)),
  (24, [.inr (.aload_n 0), .inl (.int 47)], .inr (.inr (1, 177, 5))),
  (30, [.inr .pop], .inr (.inr (0, 6, 1))),
  (31, [.inr (.aload_n 0), .inl (.int 45)], .inr (.inr (1, 177, 7))),
  (37, [], .inl (.eq, false, 9, 8)),
  (40, [.inl (.int 4)], .inr (.inr (0, 10, 0))),
  (44, [.inr (.aload_n 0), .inl (.int 51)], .inr (.inr (1, 178, 10))),
  (50, [.inr (.istore_n 2), .inr (.iload_n 2)], .inl (.ge, false, 13, 11)),
  (55, [.inr (.aload_n 0)], .inr (.inr (1, 179, 12))),
  (59, [], .inr (.inr (2, 1, 0))),
  (60, [.inr (.aload_n 0), .inr (.invokeinterface 3 3), .inr (.iload_n 1), .inr (.iload_n 2), .inr .iastore, .inr (.iinc 1 1)], .inr (.inr (0, 1, 0))),
  (73, [.inr (.aload_n 0)], .inr (.inr (1, 180, 15))),
  (77, [], .inr (.inr (2, 1, 0)))]
def zp_T_readDay : List zB := [(0, [.inr (.aload_n 0), .inl (.int 0), .inr (.multianewarray 3 2), .inr (.aload_n 0), .inl (.int 0), .inr (.multianewarray 3 5), .inl (.int 0), .inr (.istore_n 1)], .inr (.inr (0, 1, 1))),
  (12, [.inr (.iload_n 1), .inl (.int 41)], .inl (.ge, true, 10, 2)),
  (18, [.inr (.aload_n 0)], .inr (.inr (1, 184, 3))),
  (22, [.inr (.istore_n 2), .inr (.iload_n 2)], .inl (.ge, false, 6, 4)),
  (27, [.inr (.aload_n 0)], .inr (.inr (1, 179, 5))),
  (31, [], .inr (.inr (2, 1, 0))),
  (32, [.inr (.aload_n 0), .inr (.invokeinterface 3 3), .inr (.iload_n 1), .inr (.iload_n 2), .inr .iastore, .inr (.aload_n 0), .inr .dup, .inr (.invokeinterface 3 5), .inl (.int 1), .inr .iadd, .inr (.multianewarray 3 5), .inr (.aload_n 0), .inl (.int 59)], .inr (.inr (1, 177, 7))),
  (55, [], .inl (.ne, false, 9, 8)),
  (58, [], .inr (.inr (0, 10, 0))),
  (61, [.inr (.iinc 1 1)], .inr (.inr (0, 1, 0))),
  (67, [.inr (.aload_n 0)], .inr (.inr (1, 180, 11))),
  (71, [], .inr (.inr (2, 1, 0)))]
def zp_T_nextRepair : List zB := [(0, [.inr (.aload_n 0), .inl (.int 100)], .inr (.inr (1, 177, 1))),
  (6, [], .inl (.eq, false, 3, 2)),
  (9, [.inl (.int 0)], .inr (.inr (0, 10, 0))),
  (13, [.inr (.aload_n 0), .inl (.int 102)], .inr (.inr (1, 177, 4))),
  (19, [], .inl (.eq, false, 6, 5)),
  (22, [.inl (.int 1)], .inr (.inr (0, 10, 0))),
  (26, [.inr (.aload_n 0), .inl (.int 114)], .inr (.inr (1, 177, 7))),
  (32, [], .inl (.eq, false, 9, 8)),
  (35, [.inl (.int 2)], .inr (.inr (0, 10, 0))),
  (39, [.inl (.int (-1))], .inr (.inr (0, 10, 1))),
  (40, [.inr (.istore_n 1), .inr (.iload_n 1)], .inl (.ge, false, 12, 11)),
  (45, [.inl (.int (-1))], .inr (.inr (2, 1, 0))),
  (47, [.inr (.aload_n 0), .inl (.int 53)], .inr (.inr (1, 178, 13))),
  (53, [.inr (.istore_n 2), .inr (.iload_n 2)], .inl (.ge, false, 15, 14)),
  (58, [.inl (.int (-1))], .inr (.inr (2, 1, 0))),
  (60, [.inr (.aload_n 0), .inl (.int 53)], .inr (.inr (1, 178, 16))),
  (66, [.inr (.istore_n 3), .inr (.iload_n 3)], .inl (.ge, false, 18, 17)),
  (71, [.inl (.int (-1))], .inr (.inr (0, 19, 0))),
  (75, [.inr (.iload_n 1), .inl (.int 36), .inr .imul, .inr (.iload_n 2), .inl (.int 6), .inr .imul, .inr .iadd, .inr (.iload_n 3), .inr .iadd], .inr (.inr (0, 19, 1))),
  (86, [], .inr (.inr (2, 1, 0)))]
def zp_J_bitCount : List zB := [(0, [.inr (.lload_n 0), .inr (.lload_n 0), .inl (.int 1), .inr .lushr, .inl (.long 6148914691236517205), .inr .land, .inr .lsub, .inr (.lstore_n 0), .inr (.lload_n 0), .inl (.long 3689348814741910323), .inr .land, .inr (.lload_n 0), .inl (.int 2), .inr .lushr, .inl (.long 3689348814741910323), .inr .land, .inr .ladd, .inr (.lstore_n 0), .inr (.lload_n 0), .inr (.lload_n 0), .inl (.int 4), .inr .lushr, .inr .ladd, .inl (.long 1085102592571150095), .inr .land, .inr (.lstore_n 0), .inr (.lload_n 0), .inr (.lload_n 0), .inl (.int 8), .inr .lushr, .inr .ladd, .inr (.lstore_n 0), .inr (.lload_n 0), .inr (.lload_n 0), .inl (.int 16), .inr .lushr, .inr .ladd, .inr (.lstore_n 0), .inr (.lload_n 0), .inr (.lload_n 0), .inl (.int 32), .inr .lushr, .inr .ladd, .inr (.lstore_n 0), .inr (.lload_n 0), .inr .l2i, .inl (.int 127), .inr .iand], .inr (.inr (2, 1, 0)))]
def zp_L_law_0 : List zB := [(18, [.inr (.iload_n 3), .inr (.aload_n 0), .inr .monitorenter, .inl (.int 6), .inr .isub], .inl (.gt, true, 151, 1)),
  (27, [.inr (.aload_n 0), .inr (.iload_n 3), .inr .faload, .inl (.int 63), .inr .iand], .inr (.inl ([(0, 2), (1, 6), (2, 10), (3, 14), (4, 18), (5, 22), (6, 26), (7, 30), (8, 34), (9, 38), (10, 42), (11, 46), (12, 50), (13, 54), (14, 58), (15, 62), (16, 66), (17, 70), (18, 74), (19, 78), (20, 82), (21, 86), (22, 90), (23, 94), (24, 98), (25, 102), (26, 106), (27, 110), (28, 114), (29, 118), (30, 122), (31, 126), (32, 130), (33, 134), (34, 138), (35, 142), (36, 146)], 150))),
  (196, [.inr (.aload_n 1), .inr (.aload_n 0), .inr (.iload_n 3), .inl (.int 1), .inr .iadd, .inr .faload], .inr (.inr (1, 0, 3))),
  (205, [.inr (.aload_n 2), .inr (.aload_n 0), .inr (.iload_n 3), .inl (.int 1), .inr .iadd, .inr .faload], .inr (.inr (1, 63, 4))),
  (214, [], .inl (.eq, true, 150, 5)),
  (217, [.inl (.int 0)], .inr (.inr (2, 3, 0)))]
def zp_L_law_1 : List zB := [(219, [.inr (.aload_n 1), .inr (.aload_n 0), .inr (.iload_n 3), .inl (.int 1), .inr .iadd, .inr .faload], .inr (.inr (1, 1, 7))),
  (228, [.inr (.aload_n 2), .inr (.aload_n 0), .inr (.iload_n 3), .inl (.int 1), .inr .iadd, .inr .faload], .inr (.inr (1, 64, 8))),
  (237, [], .inl (.eq, true, 150, 9)),
  (240, [.inl (.int 0)], .inr (.inr (2, 3, 0))),
  (242, [.inr (.aload_n 1), .inr (.aload_n 0), .inr (.iload_n 3), .inl (.int 1), .inr .iadd, .inr .faload], .inr (.inr (1, 2, 11))),
  (251, [.inr (.aload_n 2), .inr (.aload_n 0), .inr (.iload_n 3), .inl (.int 1), .inr .iadd, .inr .faload], .inr (.inr (1, 65, 12)))]
def zp_L_law_2 : List zB := [(260, [], .inl (.eq, true, 150, 13)),
  (263, [.inl (.int 0)], .inr (.inr (2, 3, 0))),
  (265, [.inr (.aload_n 1)], .inr (.inr (1, 3, 15))),
  (269, [.inr (.aload_n 2)], .inr (.inr (1, 66, 16))),
  (273, [], .inl (.eq, true, 150, 17)),
  (276, [.inl (.int 0)], .inr (.inr (2, 3, 0)))]
def zp_L_law_3 : List zB := [(278, [.inr (.aload_n 1), .inr (.aload_n 0), .inr (.iload_n 3), .inl (.int 1), .inr .iadd, .inr .faload, .inr (.aload_n 0), .inr (.iload_n 3), .inl (.int 2), .inr .iadd, .inr .faload], .inr (.inr (1, 4, 19))),
  (292, [.inr (.aload_n 2), .inr (.aload_n 0), .inr (.iload_n 3), .inl (.int 1), .inr .iadd, .inr .faload, .inr (.aload_n 0), .inr (.iload_n 3), .inl (.int 2), .inr .iadd, .inr .faload], .inr (.inr (1, 67, 20))),
  (306, [], .inl (.eq, true, 150, 21)),
  (309, [.inl (.int 0)], .inr (.inr (2, 3, 0))),
  (311, [.inr (.aload_n 1), .inr (.aload_n 0), .inr (.iload_n 3), .inl (.int 1), .inr .iadd, .inr .faload], .inr (.inr (1, 5, 23))),
  (320, [.inr (.aload_n 2), .inr (.aload_n 0), .inr (.iload_n 3), .inl (.int 1), .inr .iadd, .inr .faload], .inr (.inr (1, 68, 24)))]
def zp_L_law_4 : List zB := [(329, [], .inl (.eq, true, 150, 25)),
  (332, [.inl (.int 0)], .inr (.inr (2, 3, 0))),
  (334, [.inr (.aload_n 1), .inr (.aload_n 0), .inr (.iload_n 3), .inl (.int 1), .inr .iadd, .inr .faload, .inr (.aload_n 0), .inr (.iload_n 3), .inl (.int 2), .inr .iadd, .inr .faload], .inr (.inr (1, 6, 27))),
  (348, [.inr (.aload_n 2), .inr (.aload_n 0), .inr (.iload_n 3), .inl (.int 1), .inr .iadd, .inr .faload, .inr (.aload_n 0), .inr (.iload_n 3), .inl (.int 2), .inr .iadd, .inr .faload], .inr (.inr (1, 69, 28))),
  (362, [], .inl (.eq, true, 150, 29)),
  (365, [.inl (.int 0)], .inr (.inr (2, 3, 0)))]
def zp_L_law_5 : List zB := [(367, [.inr (.aload_n 1), .inr (.aload_n 0), .inr (.iload_n 3), .inl (.int 1), .inr .iadd, .inr .faload], .inr (.inr (1, 7, 31))),
  (376, [.inr (.aload_n 2), .inr (.aload_n 0), .inr (.iload_n 3), .inl (.int 1), .inr .iadd, .inr .faload], .inr (.inr (1, 70, 32))),
  (385, [], .inl (.eq, true, 150, 33)),
  (388, [.inl (.int 0)], .inr (.inr (2, 3, 0))),
  (390, [.inr (.aload_n 1)], .inr (.inr (1, 8, 35))),
  (394, [.inr (.aload_n 2)], .inr (.inr (1, 75, 36)))]
def zp_L_law_6 : List zB := [(398, [], .inl (.eq, true, 150, 37)),
  (401, [.inl (.int 0)], .inr (.inr (2, 3, 0))),
  (403, [.inr (.aload_n 1)], .inr (.inr (1, 9, 39))),
  (407, [.inr (.aload_n 2)], .inr (.inr (1, 77, 40))),
  (411, [], .inl (.eq, true, 150, 41)),
  (414, [.inl (.int 0)], .inr (.inr (2, 3, 0)))]
def zp_L_law_7 : List zB := [(416, [.inr (.aload_n 1)], .inr (.inr (1, 10, 43))),
  (420, [.inr (.aload_n 2)], .inr (.inr (1, 80, 44))),
  (424, [], .inl (.eq, true, 150, 45)),
  (427, [.inl (.int 0)], .inr (.inr (2, 3, 0))),
  (429, [.inr (.aload_n 1), .inr (.aload_n 0), .inr (.iload_n 3), .inl (.int 1), .inr .iadd, .inr .faload], .inr (.inr (1, 11, 47))),
  (438, [.inr (.aload_n 2), .inr (.aload_n 0), .inr (.iload_n 3), .inl (.int 1), .inr .iadd, .inr .faload], .inr (.inr (1, 81, 48)))]
def zp_L_law_8 : List zB := [(447, [], .inl (.eq, true, 150, 49)),
  (450, [.inl (.int 0)], .inr (.inr (2, 3, 0))),
  (452, [.inr (.aload_n 1), .inr (.aload_n 0), .inr (.iload_n 3), .inl (.int 1), .inr .iadd, .inr .faload, .inr (.aload_n 0), .inr (.iload_n 3), .inl (.int 2), .inr .iadd, .inr .faload], .inr (.inr (1, 12, 51))),
  (466, [.inr (.aload_n 2), .inr (.aload_n 0), .inr (.iload_n 3), .inl (.int 1), .inr .iadd, .inr .faload, .inr (.aload_n 0), .inr (.iload_n 3), .inl (.int 2), .inr .iadd, .inr .faload], .inr (.inr (1, 86, 52))),
  (480, [], .inl (.eq, true, 150, 53)),
  (483, [.inl (.int 0)], .inr (.inr (2, 3, 0)))]
def zp_L_law_9 : List zB := [(485, [.inr (.aload_n 1), .inr (.aload_n 0), .inr (.iload_n 3), .inl (.int 1), .inr .iadd, .inr .faload, .inr (.aload_n 0), .inr (.iload_n 3), .inl (.int 2), .inr .iadd, .inr .faload], .inr (.inr (1, 13, 55))),
  (499, [.inr (.aload_n 2), .inr (.aload_n 0), .inr (.iload_n 3), .inl (.int 1), .inr .iadd, .inr .faload, .inr (.aload_n 0), .inr (.iload_n 3), .inl (.int 2), .inr .iadd, .inr .faload], .inr (.inr (1, 87, 56))),
  (513, [.inr .lcmp], .inl (.eq, false, 150, 57)),
  (517, [.inl (.int 0)], .inr (.inr (2, 3, 0))),
  (519, [.inr (.aload_n 1), .inr (.aload_n 0), .inr (.iload_n 3), .inl (.int 1), .inr .iadd, .inr .faload, .inr (.aload_n 0), .inr (.iload_n 3), .inl (.int 2), .inr .iadd, .inr .faload], .inr (.inr (1, 14, 59))),
  (533, [.inr (.aload_n 2), .inr (.aload_n 0), .inr (.iload_n 3), .inl (.int 1), .inr .iadd, .inr .faload, .inr (.aload_n 0), .inr (.iload_n 3), .inl (.int 2), .inr .iadd, .inr .faload], .inr (.inr (1, 89, 60)))]
def zp_L_law_10 : List zB := [(547, [], .inl (.eq, true, 150, 61)),
  (550, [.inl (.int 0)], .inr (.inr (2, 3, 0))),
  (552, [.inr (.aload_n 1), .inr (.aload_n 0), .inr (.iload_n 3), .inl (.int 1), .inr .iadd, .inr .faload], .inr (.inr (1, 15, 63))),
  (561, [.inr (.aload_n 2), .inr (.aload_n 0), .inr (.iload_n 3), .inl (.int 1), .inr .iadd, .inr .faload], .inr (.inr (1, 90, 64))),
  (570, [], .inl (.eq, true, 150, 65)),
  (573, [.inl (.int 0)], .inr (.inr (2, 3, 0)))]
def zp_L_law_11 : List zB := [(575, [.inr (.aload_n 1), .inr (.aload_n 0), .inr (.iload_n 3), .inl (.int 1), .inr .iadd, .inr .faload], .inr (.inr (1, 16, 67))),
  (584, [.inr (.aload_n 2), .inr (.aload_n 0), .inr (.iload_n 3), .inl (.int 1), .inr .iadd, .inr .faload], .inr (.inr (1, 91, 68))),
  (593, [], .inl (.eq, true, 150, 69)),
  (596, [.inl (.int 0)], .inr (.inr (2, 3, 0))),
  (598, [.inr (.aload_n 1), .inr (.aload_n 0), .inr (.iload_n 3), .inl (.int 1), .inr .iadd, .inr .faload, .inr (.aload_n 0), .inr (.iload_n 3), .inl (.int 2), .inr .iadd, .inr .faload], .inr (.inr (1, 17, 71))),
  (612, [.inr (.aload_n 2), .inr (.aload_n 0), .inr (.iload_n 3), .inl (.int 1), .inr .iadd, .inr .faload, .inr (.aload_n 0), .inr (.iload_n 3), .inl (.int 2), .inr .iadd, .inr .faload], .inr (.inr (1, 92, 72)))]
def zp_L_law_12 : List zB := [(626, [], .inl (.eq, true, 150, 73)),
  (629, [.inl (.int 0)], .inr (.inr (2, 3, 0))),
  (631, [.inr (.aload_n 1), .inr (.aload_n 0), .inr (.iload_n 3), .inl (.int 1), .inr .iadd, .inr .faload, .inr (.aload_n 0), .inr (.iload_n 3), .inl (.int 2), .inr .iadd, .inr .faload], .inr (.inr (1, 18, 75))),
  (645, [.inr (.aload_n 2), .inr (.aload_n 0), .inr (.iload_n 3), .inl (.int 1), .inr .iadd, .inr .faload, .inr (.aload_n 0), .inr (.iload_n 3), .inl (.int 2), .inr .iadd, .inr .faload], .inr (.inr (1, 95, 76))),
  (659, [], .inl (.eq, true, 150, 77)),
  (662, [.inl (.int 0)], .inr (.inr (2, 3, 0)))]
def zp_L_law_13 : List zB := [(664, [.inr (.aload_n 1), .inr (.aload_n 0), .inr (.iload_n 3), .inl (.int 1), .inr .iadd, .inr .faload, .inr (.aload_n 0), .inr (.iload_n 3), .inl (.int 2), .inr .iadd, .inr .faload, .inr (.aload_n 0), .inr (.iload_n 3), .inl (.int 3), .inr .iadd, .inr .faload], .inr (.inr (1, 19, 79))),
  (683, [.inr (.aload_n 2), .inr (.aload_n 0), .inr (.iload_n 3), .inl (.int 1), .inr .iadd, .inr .faload, .inr (.aload_n 0), .inr (.iload_n 3), .inl (.int 2), .inr .iadd, .inr .faload, .inr (.aload_n 0), .inr (.iload_n 3), .inl (.int 3), .inr .iadd, .inr .faload], .inr (.inr (1, 97, 80))),
  (702, [], .inl (.eq, true, 150, 81)),
  (705, [.inl (.int 0)], .inr (.inr (2, 3, 0))),
  (707, [.inr (.aload_n 1)], .inr (.inr (1, 20, 83))),
  (711, [.inr (.aload_n 2)], .inr (.inr (1, 98, 84)))]
def zp_L_law_14 : List zB := [(715, [], .inl (.eq, true, 150, 85)),
  (718, [.inl (.int 0)], .inr (.inr (2, 3, 0))),
  (720, [.inr (.aload_n 1), .inr (.aload_n 0), .inr (.iload_n 3), .inl (.int 1), .inr .iadd, .inr .faload], .inr (.inr (1, 21, 87))),
  (729, [.inr (.aload_n 2), .inr (.aload_n 0), .inr (.iload_n 3), .inl (.int 1), .inr .iadd, .inr .faload], .inr (.inr (1, 99, 88))),
  (738, [], .inl (.eq, true, 150, 89)),
  (741, [.inl (.int 0)], .inr (.inr (2, 3, 0)))]
def zp_L_law_15 : List zB := [(743, [.inr (.aload_n 1), .inr (.aload_n 0), .inr (.iload_n 3), .inl (.int 1), .inr .iadd, .inr .faload, .inr (.aload_n 0), .inr (.iload_n 3), .inl (.int 2), .inr .iadd, .inr .faload], .inr (.inr (1, 22, 91))),
  (757, [.inr (.aload_n 2), .inr (.aload_n 0), .inr (.iload_n 3), .inl (.int 1), .inr .iadd, .inr .faload, .inr (.aload_n 0), .inr (.iload_n 3), .inl (.int 2), .inr .iadd, .inr .faload], .inr (.inr (1, 105, 92))),
  (771, [], .inl (.eq, true, 150, 93)),
  (774, [.inl (.int 0)], .inr (.inr (2, 3, 0))),
  (776, [.inr (.aload_n 1), .inr (.aload_n 0), .inr (.iload_n 3), .inl (.int 1), .inr .iadd, .inr .faload], .inr (.inr (1, 23, 95))),
  (785, [.inr (.aload_n 2), .inr (.aload_n 0), .inr (.iload_n 3), .inl (.int 1), .inr .iadd, .inr .faload], .inr (.inr (1, 106, 96)))]
def zp_L_law_16 : List zB := [(794, [], .inl (.eq, true, 150, 97)),
  (797, [.inl (.int 0)], .inr (.inr (2, 3, 0))),
  (799, [.inr (.aload_n 1), .inr (.aload_n 0), .inr (.iload_n 3), .inl (.int 1), .inr .iadd, .inr .faload], .inr (.inr (1, 24, 99))),
  (808, [.inr (.aload_n 2), .inr (.aload_n 0), .inr (.iload_n 3), .inl (.int 1), .inr .iadd, .inr .faload], .inr (.inr (1, 107, 100))),
  (817, [], .inl (.eq, true, 150, 101)),
  (820, [.inl (.int 0)], .inr (.inr (2, 3, 0)))]
def zp_L_law_17 : List zB := [(822, [.inr (.aload_n 1), .inr (.aload_n 0), .inr (.iload_n 3), .inl (.int 1), .inr .iadd, .inr .faload, .inr .i2l, .inl (.int 32), .inr .lshl, .inr (.aload_n 0), .inr (.iload_n 3), .inl (.int 2), .inr .iadd, .inr .faload, .inr .i2l, .inl (.long 4294967295), .inr .land, .inr .lor, .inr (.aload_n 0), .inr (.iload_n 3), .inl (.int 3), .inr .iadd, .inr .faload, .inr (.aload_n 0), .inr (.iload_n 3), .inl (.int 4), .inr .iadd, .inr .faload, .inr (.aload_n 0), .inr (.iload_n 3), .inl (.int 5), .inr .iadd, .inr .faload], .inr (.inr (1, 25, 103))),
  (861, [.inr (.aload_n 2), .inr (.aload_n 0), .inr (.iload_n 3), .inl (.int 1), .inr .iadd, .inr .faload, .inr .i2l, .inl (.int 32), .inr .lshl, .inr (.aload_n 0), .inr (.iload_n 3), .inl (.int 2), .inr .iadd, .inr .faload, .inr .i2l, .inl (.long 4294967295), .inr .land, .inr .lor, .inr (.aload_n 0), .inr (.iload_n 3), .inl (.int 3), .inr .iadd, .inr .faload, .inr (.aload_n 0), .inr (.iload_n 3), .inl (.int 4), .inr .iadd, .inr .faload, .inr (.aload_n 0), .inr (.iload_n 3), .inl (.int 5), .inr .iadd, .inr .faload], .inr (.inr (1, 108, 104))),
  (900, [.inr .lcmp], .inl (.eq, false, 150, 105)),
  (904, [.inl (.int 0)], .inr (.inr (2, 3, 0))),
  (906, [.inr (.aload_n 1), .inr (.aload_n 0), .inr (.iload_n 3), .inl (.int 1), .inr .iadd, .inr .faload], .inr (.inr (1, 26, 107))),
  (915, [.inr (.aload_n 2), .inr (.aload_n 0), .inr (.iload_n 3), .inl (.int 1), .inr .iadd, .inr .faload], .inr (.inr (1, 110, 108)))]
def zp_L_law_18 : List zB := [(924, [], .inl (.eq, true, 150, 109)),
  (927, [.inl (.int 0)], .inr (.inr (2, 3, 0))),
  (929, [.inr (.aload_n 1), .inr (.aload_n 0), .inr (.iload_n 3), .inl (.int 1), .inr .iadd, .inr .faload], .inr (.inr (1, 27, 111))),
  (938, [.inr (.aload_n 2), .inr (.aload_n 0), .inr (.iload_n 3), .inl (.int 1), .inr .iadd, .inr .faload], .inr (.inr (1, 111, 112))),
  (947, [], .inl (.eq, true, 150, 113)),
  (950, [.inl (.int 0)], .inr (.inr (2, 3, 0)))]
def zp_L_law_19 : List zB := [(952, [.inr (.aload_n 1)], .inr (.inr (1, 28, 115))),
  (956, [.inr (.aload_n 2)], .inr (.inr (1, 113, 116))),
  (960, [], .inl (.eq, true, 150, 117)),
  (963, [.inl (.int 0)], .inr (.inr (2, 3, 0))),
  (965, [.inr (.aload_n 1)], .inr (.inr (1, 29, 119))),
  (969, [.inr (.aload_n 2)], .inr (.inr (1, 114, 120)))]
def zp_L_law_20 : List zB := [(973, [], .inl (.eq, true, 150, 121)),
  (976, [.inl (.int 0)], .inr (.inr (2, 3, 0))),
  (978, [.inr (.aload_n 1), .inr (.aload_n 0), .inr (.iload_n 3), .inl (.int 1), .inr .iadd, .inr .faload, .inr (.aload_n 0), .inr (.iload_n 3), .inl (.int 2), .inr .iadd, .inr .faload, .inr (.aload_n 0), .inr (.iload_n 3), .inl (.int 3), .inr .iadd, .inr .faload, .inr (.aload_n 0), .inr (.iload_n 3), .inl (.int 4), .inr .iadd, .inr .faload, .inr (.aload_n 0), .inr (.iload_n 3), .inl (.int 5), .inr .iadd, .inr .faload], .inr (.inr (1, 30, 123))),
  (1007, [.inr (.aload_n 2), .inr (.aload_n 0), .inr (.iload_n 3), .inl (.int 1), .inr .iadd, .inr .faload, .inr (.aload_n 0), .inr (.iload_n 3), .inl (.int 2), .inr .iadd, .inr .faload, .inr (.aload_n 0), .inr (.iload_n 3), .inl (.int 3), .inr .iadd, .inr .faload, .inr (.aload_n 0), .inr (.iload_n 3), .inl (.int 4), .inr .iadd, .inr .faload, .inr (.aload_n 0), .inr (.iload_n 3), .inl (.int 5), .inr .iadd, .inr .faload], .inr (.inr (1, 121, 124))),
  (1036, [], .inl (.eq, true, 150, 125)),
  (1039, [.inl (.int 0)], .inr (.inr (2, 3, 0)))]
def zp_L_law_21 : List zB := [(1041, [.inr (.aload_n 1), .inr (.aload_n 0), .inr (.iload_n 3), .inl (.int 1), .inr .iadd, .inr .faload, .inr (.aload_n 0), .inr (.iload_n 3), .inl (.int 2), .inr .iadd, .inr .faload, .inr (.aload_n 0), .inr (.iload_n 3), .inl (.int 3), .inr .iadd, .inr .faload], .inr (.inr (1, 31, 127))),
  (1060, [.inr (.aload_n 2), .inr (.aload_n 0), .inr (.iload_n 3), .inl (.int 1), .inr .iadd, .inr .faload, .inr (.aload_n 0), .inr (.iload_n 3), .inl (.int 2), .inr .iadd, .inr .faload, .inr (.aload_n 0), .inr (.iload_n 3), .inl (.int 3), .inr .iadd, .inr .faload], .inr (.inr (1, 122, 128))),
  (1079, [], .inl (.eq, true, 150, 129)),
  (1082, [.inl (.int 0)], .inr (.inr (2, 3, 0))),
  (1084, [.inr (.aload_n 1), .inr (.aload_n 0), .inr (.iload_n 3), .inl (.int 1), .inr .iadd, .inr .faload, .inr (.aload_n 0), .inr (.iload_n 3), .inl (.int 2), .inr .iadd, .inr .faload, .inr (.aload_n 0), .inr (.iload_n 3), .inl (.int 3), .inr .iadd, .inr .faload, .inr (.aload_n 0), .inr (.iload_n 3), .inl (.int 4), .inr .iadd, .inr .faload], .inr (.inr (1, 32, 131))),
  (1108, [.inr (.aload_n 2), .inr (.aload_n 0), .inr (.iload_n 3), .inl (.int 1), .inr .iadd, .inr .faload, .inr (.aload_n 0), .inr (.iload_n 3), .inl (.int 2), .inr .iadd, .inr .faload, .inr (.aload_n 0), .inr (.iload_n 3), .inl (.int 3), .inr .iadd, .inr .faload, .inr (.aload_n 0), .inr (.iload_n 3), .inl (.int 4), .inr .iadd, .inr .faload], .inr (.inr (1, 123, 132)))]
def zp_L_law_22 : List zB := [(1132, [], .inl (.eq, true, 150, 133)),
  (1135, [.inl (.int 0)], .inr (.inr (2, 3, 0))),
  (1137, [.inr (.aload_n 1), .inr (.aload_n 0), .inr (.iload_n 3), .inl (.int 1), .inr .iadd, .inr .faload, .inr (.aload_n 0), .inr (.iload_n 3), .inl (.int 2), .inr .iadd, .inr .faload, .inr (.aload_n 0), .inr (.iload_n 3), .inl (.int 3), .inr .iadd, .inr .faload], .inr (.inr (1, 33, 135))),
  (1156, [.inr (.aload_n 2), .inr (.aload_n 0), .inr (.iload_n 3), .inl (.int 1), .inr .iadd, .inr .faload, .inr (.aload_n 0), .inr (.iload_n 3), .inl (.int 2), .inr .iadd, .inr .faload, .inr (.aload_n 0), .inr (.iload_n 3), .inl (.int 3), .inr .iadd, .inr .faload], .inr (.inr (1, 117, 136))),
  (1175, [], .inl (.eq, true, 150, 137)),
  (1178, [.inl (.int 0)], .inr (.inr (2, 3, 0)))]
def zp_L_law_23 : List zB := [(1180, [.inr (.aload_n 1), .inr (.aload_n 0), .inr (.iload_n 3), .inl (.int 1), .inr .iadd, .inr .faload], .inr (.inr (1, 34, 139))),
  (1189, [.inr (.aload_n 2), .inr (.aload_n 0), .inr (.iload_n 3), .inl (.int 1), .inr .iadd, .inr .faload], .inr (.inr (1, 118, 140))),
  (1198, [], .inl (.eq, true, 150, 141)),
  (1201, [.inl (.int 0)], .inr (.inr (2, 3, 0))),
  (1203, [.inr (.aload_n 1), .inr (.aload_n 0), .inr (.iload_n 3), .inl (.int 1), .inr .iadd, .inr .faload, .inr (.aload_n 0), .inr (.iload_n 3), .inl (.int 2), .inr .iadd, .inr .faload, .inr (.aload_n 0), .inr (.iload_n 3), .inl (.int 3), .inr .iadd, .inr .faload, .inr (.aload_n 0), .inr (.iload_n 3), .inl (.int 4), .inr .iadd, .inr .faload, .inr .i2l, .inl (.int 32), .inr .lshl, .inr (.aload_n 0), .inr (.iload_n 3), .inl (.int 5), .inr .iadd, .inr .faload, .inr .i2l, .inl (.long 4294967295), .inr .land, .inr .lor], .inr (.inr (1, 35, 143))),
  (1242, [.inr (.aload_n 2), .inr (.aload_n 0), .inr (.iload_n 3), .inl (.int 1), .inr .iadd, .inr .faload, .inr (.aload_n 0), .inr (.iload_n 3), .inl (.int 2), .inr .iadd, .inr .faload, .inr (.aload_n 0), .inr (.iload_n 3), .inl (.int 3), .inr .iadd, .inr .faload, .inr (.aload_n 0), .inr (.iload_n 3), .inl (.int 4), .inr .iadd, .inr .faload, .inr .i2l, .inl (.int 32), .inr .lshl, .inr (.aload_n 0), .inr (.iload_n 3), .inl (.int 5), .inr .iadd, .inr .faload, .inr .i2l, .inl (.long 4294967295), .inr .land, .inr .lor], .inr (.inr (1, 120, 144)))]
def zp_L_law_24 : List zB := [(1281, [], .inl (.eq, true, 150, 145)),
  (1284, [.inl (.int 0)], .inr (.inr (2, 3, 0))),
  (1286, [.inr (.aload_n 1), .inr (.aload_n 0), .inr (.iload_n 3), .inl (.int 1), .inr .iadd, .inr .faload, .inr (.aload_n 0), .inr (.iload_n 3), .inl (.int 2), .inr .iadd, .inr .faload, .inr (.aload_n 0), .inr (.iload_n 3), .inl (.int 3), .inr .iadd, .inr .faload, .inr (.aload_n 0), .inr (.iload_n 3), .inl (.int 4), .inr .iadd, .inr .faload, .inr (.aload_n 0), .inr (.iload_n 3), .inl (.int 5), .inr .iadd, .inr .faload], .inr (.inr (1, 36, 147))),
  (1315, [.inr (.aload_n 2), .inr (.aload_n 0), .inr (.iload_n 3), .inl (.int 1), .inr .iadd, .inr .faload, .inr (.aload_n 0), .inr (.iload_n 3), .inl (.int 2), .inr .iadd, .inr .faload, .inr (.aload_n 0), .inr (.iload_n 3), .inl (.int 3), .inr .iadd, .inr .faload, .inr (.aload_n 0), .inr (.iload_n 3), .inl (.int 4), .inr .iadd, .inr .faload, .inr (.aload_n 0), .inr (.iload_n 3), .inl (.int 5), .inr .iadd, .inr .faload], .inr (.inr (1, 124, 148))),
  (1344, [], .inl (.eq, true, 150, 149)),
  (1347, [.inl (.int 0)], .inr (.inr (2, 3, 0)))]
def zp_L_law_25 : List zB := [(1349, [.inr (.iinc 3 6)], .inr (.inr (0, 0, 0))),
  (1355, [.inl (.int 1)], .inr (.inr (2, 3, 0)))]
def zp_L_law : List zB := zp_L_law_0 ++ (zp_L_law_1 ++ (zp_L_law_2 ++ (zp_L_law_3 ++ (zp_L_law_4 ++ (zp_L_law_5 ++ (zp_L_law_6 ++ (zp_L_law_7 ++ (zp_L_law_8 ++ (zp_L_law_9 ++ (zp_L_law_10 ++ (zp_L_law_11 ++ (zp_L_law_12 ++ (zp_L_law_13 ++ (zp_L_law_14 ++ (zp_L_law_15 ++ (zp_L_law_16 ++ (zp_L_law_17 ++ (zp_L_law_18 ++ (zp_L_law_19 ++ (zp_L_law_20 ++ (zp_L_law_21 ++ (zp_L_law_22 ++ (zp_L_law_23 ++ (zp_L_law_24 ++ (zp_L_law_25)))))))))))))))))))))))))
def zpc_L_law : List Nat := [18, 27, 196, 205, 214, 217, 219, 228, 237, 240, 242, 251, 260, 263, 265, 269, 273, 276, 278, 292, 306, 309, 311, 320, 329, 332, 334, 348, 362, 365, 367, 376, 385, 388, 390, 394, 398, 401, 403, 407, 411, 414, 416, 420, 424, 427, 429, 438, 447, 450, 452, 466, 480, 483, 485, 499, 513, 517, 519, 533, 547, 550, 552, 561, 570, 573, 575, 584, 593, 596, 598, 612, 626, 629, 631, 645, 659, 662, 664, 683, 702, 705, 707, 711, 715, 718, 720, 729, 738, 741, 743, 757, 771, 774, 776, 785, 794, 797, 799, 808, 817, 820, 822, 861, 900, 904, 906, 915, 924, 927, 929, 938, 947, 950, 952, 956, 960, 963, 965, 969, 973, 976, 978, 1007, 1036, 1039, 1041, 1060, 1079, 1082, 1084, 1108, 1132, 1135, 1137, 1156, 1175, 1178, 1180, 1189, 1198, 1201, 1203, 1242, 1281, 1284, 1286, 1315, 1344, 1347, 1349, 1355]
def zPG_0 : List (List zB) := [zp_C_dig, zp_C_fill, zp_C_roof, zp_C_undo, zp_C_own, zp_C_rate, zp_C_told, zp_C_type, zp_C_ground, zp_C_owners, zp_C_day, zp_C_count, zp_C_hole, zp_C_cells, zp_C_part, zp_C_pays, zp_C_worth, zp_C_filled, zp_C_split, zp_C_dug]
def zPG_1 : List (List zB) := [zp_C_loophole, zp_C_roofs, zp_C_round, zp_C_border, zp_C_cut, zp_C_books, zp_C_lots, zp_C_seed, zp_C_image, zp_C_restore, zp_C_lay, zp_C_film, zp_C_miscounted, zp_C_sheet, zp_C_drop, zp_C_item, zp_C_copy, zp_C_isCell, zp_C_isOwner, zp_C_isSheet]
def zPG_2 : List (List zB) := [zp_C_isLane, zp_C_refusal, zp_C_isRight, zp_C_pick, zp_N_in, zp_N_isCell, zp_N_has, zp_N_ones, zp_N_least, zp_N_look, zp_N_beside, zp_N_grown, zp_N_holeAt, zp_N_rimOf, zp_N_fenceOf, zp_N_edge, zp_N_withinOf, zp_N_kindOf, zp_N_taxOf, zp_N_findHoles]
def zPG_3 : List (List zB) := [zp_N_taxOfAll, zp_N_note, zp_N_put, zp_N_dig, zp_N_fill, zp_N_roof, zp_N_undo, zp_N_own, zp_N_rate, zp_N_told, zp_N_type, zp_N_nextLetter, zp_N_takes, zp_N_end, zp_N_readGround, zp_N_ground, zp_N_readOwners, zp_N_owners, zp_N_readAct, zp_N_readDay]
def zPG_4 : List (List zB) := [zp_N_day, zp_N_count, zp_N_owned, zp_N_ownerOf, zp_N_nestedOf, zp_N_largestOf, zp_N_hole, zp_N_cells, zp_N_partOf, zp_N_part, zp_N_pays, zp_N_worth, zp_N_filled, zp_N_fewestFilled, zp_N_does, zp_N_split, zp_N_fewestDug, zp_N_dug, zp_N_loophole, zp_N_roofs]
def zPG_5 : List (List zB) := [zp_N_nextOrder, zp_N_off, zp_N_apart, zp_N_nearest, zp_N_stepsOf, zp_N_round, zp_N_border, zp_N_cut, zp_N_books, zp_N_nextDraw, zp_N_lots, zp_N_seed, zp_N_carried, zp_N_image, zp_N_restore, zp_N_isSheet, zp_N_asLane, zp_N_sheet, zp_N_drop, zp_N_lacksRow]
def zPG_6 : List (List zB) := [zp_N_item, zp_N_lay, zp_N_film, zp_N_miscounted, zp_N_copy, zp_G_takeAll, zp_G_put, zp_G_become, zp_G_toDig, zp_G_toFill, zp_G_toRoof, zp_G_repaired, zp_G_remember, zp_G_forget, zp_G_takeBack, zp_G_drawn, zp_G_yearByLot, zp_G_depths, zp_G_holeAt, zp_G_kindOf]
def zPG_7 : List (List zB) := [zp_G_taxOf, zp_G_taxOfAll, zp_G_landOf, zp_G_ownerOf, zp_G_partOf, zp_G_partOfAll, zp_G_leastFilled, zp_G_fits, zp_M_walk, zp_M_measure, zp_M_nearestOf, zp_M_steps, zp_M_seek, zp_P_has, zp_P_least, zp_P_beside, zp_P_spread, zp_P_firstHole, zp_P_holesOf, zp_P_rimOf]
def zPG_8 : List (List zB) := [zp_P_fenceOf, zp_P_withinOf, zp_P_nestedIn, zp_P_broadestIn, zp_P_mostCells, zp_P_leastCut, zp_P_isInPieces, zp_P_leastSplit, zp_P_gapBetween, zp_P_leastDug, zp_R_begin, zp_R_spans, zp_R_put, zp_R_areDepths, zp_T_add, zp_T_wipe, zp_T_passBlanks, zp_T_isNext, zp_T_nextFigure, zp_T_fault]
def zPG_9 : List (List zB) := [zp_T_faultBehind, zp_T_readGround, zp_T_readOwners, zp_T_readDay, zp_T_nextRepair, zp_J_bitCount, zp_L_law]
def zPG : List (List zB) := zPG_0 ++ (zPG_1 ++ (zPG_2 ++ (zPG_3 ++ (zPG_4 ++ (zPG_5 ++ (zPG_6 ++ (zPG_7 ++ (zPG_8 ++ (zPG_9)))))))))
/-- a method by its number -/
abbrev m_C_dig : Nat := 0
abbrev m_C_fill : Nat := 1
abbrev m_C_roof : Nat := 2
abbrev m_C_undo : Nat := 3
abbrev m_C_own : Nat := 4
abbrev m_C_rate : Nat := 5
abbrev m_C_told : Nat := 6
abbrev m_C_type : Nat := 7
abbrev m_C_ground : Nat := 8
abbrev m_C_owners : Nat := 9
abbrev m_C_day : Nat := 10
abbrev m_C_count : Nat := 11
abbrev m_C_hole : Nat := 12
abbrev m_C_cells : Nat := 13
abbrev m_C_part : Nat := 14
abbrev m_C_pays : Nat := 15
abbrev m_C_worth : Nat := 16
abbrev m_C_filled : Nat := 17
abbrev m_C_split : Nat := 18
abbrev m_C_dug : Nat := 19
abbrev m_C_loophole : Nat := 20
abbrev m_C_roofs : Nat := 21
abbrev m_C_round : Nat := 22
abbrev m_C_border : Nat := 23
abbrev m_C_cut : Nat := 24
abbrev m_C_books : Nat := 25
abbrev m_C_lots : Nat := 26
abbrev m_C_seed : Nat := 27
abbrev m_C_image : Nat := 28
abbrev m_C_restore : Nat := 29
abbrev m_C_lay : Nat := 30
abbrev m_C_film : Nat := 31
abbrev m_C_miscounted : Nat := 32
abbrev m_C_sheet : Nat := 33
abbrev m_C_drop : Nat := 34
abbrev m_C_item : Nat := 35
abbrev m_C_copy : Nat := 36
abbrev m_C_isCell : Nat := 37
abbrev m_C_isOwner : Nat := 38
abbrev m_C_isSheet : Nat := 39
abbrev m_C_isLane : Nat := 40
abbrev m_C_refusal : Nat := 41
abbrev m_C_isRight : Nat := 42
abbrev m_C_pick : Nat := 43
abbrev m_N_in : Nat := 44
abbrev m_N_isCell : Nat := 45
abbrev m_N_has : Nat := 46
abbrev m_N_ones : Nat := 47
abbrev m_N_least : Nat := 48
abbrev m_N_look : Nat := 49
abbrev m_N_beside : Nat := 50
abbrev m_N_grown : Nat := 51
abbrev m_N_holeAt : Nat := 52
abbrev m_N_rimOf : Nat := 53
abbrev m_N_fenceOf : Nat := 54
abbrev m_N_edge : Nat := 55
abbrev m_N_withinOf : Nat := 56
abbrev m_N_kindOf : Nat := 57
abbrev m_N_taxOf : Nat := 58
abbrev m_N_findHoles : Nat := 59
abbrev m_N_taxOfAll : Nat := 60
abbrev m_N_note : Nat := 61
abbrev m_N_put : Nat := 62
abbrev m_N_dig : Nat := 63
abbrev m_N_fill : Nat := 64
abbrev m_N_roof : Nat := 65
abbrev m_N_undo : Nat := 66
abbrev m_N_own : Nat := 67
abbrev m_N_rate : Nat := 68
abbrev m_N_told : Nat := 69
abbrev m_N_type : Nat := 70
abbrev m_N_nextLetter : Nat := 71
abbrev m_N_takes : Nat := 72
abbrev m_N_end : Nat := 73
abbrev m_N_readGround : Nat := 74
abbrev m_N_ground : Nat := 75
abbrev m_N_readOwners : Nat := 76
abbrev m_N_owners : Nat := 77
abbrev m_N_readAct : Nat := 78
abbrev m_N_readDay : Nat := 79
abbrev m_N_day : Nat := 80
abbrev m_N_count : Nat := 81
abbrev m_N_owned : Nat := 82
abbrev m_N_ownerOf : Nat := 83
abbrev m_N_nestedOf : Nat := 84
abbrev m_N_largestOf : Nat := 85
abbrev m_N_hole : Nat := 86
abbrev m_N_cells : Nat := 87
abbrev m_N_partOf : Nat := 88
abbrev m_N_part : Nat := 89
abbrev m_N_pays : Nat := 90
abbrev m_N_worth : Nat := 91
abbrev m_N_filled : Nat := 92
abbrev m_N_fewestFilled : Nat := 93
abbrev m_N_does : Nat := 94
abbrev m_N_split : Nat := 95
abbrev m_N_fewestDug : Nat := 96
abbrev m_N_dug : Nat := 97
abbrev m_N_loophole : Nat := 98
abbrev m_N_roofs : Nat := 99
abbrev m_N_nextOrder : Nat := 100
abbrev m_N_off : Nat := 101
abbrev m_N_apart : Nat := 102
abbrev m_N_nearest : Nat := 103
abbrev m_N_stepsOf : Nat := 104
abbrev m_N_round : Nat := 105
abbrev m_N_border : Nat := 106
abbrev m_N_cut : Nat := 107
abbrev m_N_books : Nat := 108
abbrev m_N_nextDraw : Nat := 109
abbrev m_N_lots : Nat := 110
abbrev m_N_seed : Nat := 111
abbrev m_N_carried : Nat := 112
abbrev m_N_image : Nat := 113
abbrev m_N_restore : Nat := 114
abbrev m_N_isSheet : Nat := 115
abbrev m_N_asLane : Nat := 116
abbrev m_N_sheet : Nat := 117
abbrev m_N_drop : Nat := 118
abbrev m_N_lacksRow : Nat := 119
abbrev m_N_item : Nat := 120
abbrev m_N_lay : Nat := 121
abbrev m_N_film : Nat := 122
abbrev m_N_miscounted : Nat := 123
abbrev m_N_copy : Nat := 124
abbrev m_G_takeAll : Nat := 125
abbrev m_G_put : Nat := 126
abbrev m_G_become : Nat := 127
abbrev m_G_toDig : Nat := 128
abbrev m_G_toFill : Nat := 129
abbrev m_G_toRoof : Nat := 130
abbrev m_G_repaired : Nat := 131
abbrev m_G_remember : Nat := 132
abbrev m_G_forget : Nat := 133
abbrev m_G_takeBack : Nat := 134
abbrev m_G_drawn : Nat := 135
abbrev m_G_yearByLot : Nat := 136
abbrev m_G_depths : Nat := 137
abbrev m_G_holeAt : Nat := 138
abbrev m_G_kindOf : Nat := 139
abbrev m_G_taxOf : Nat := 140
abbrev m_G_taxOfAll : Nat := 141
abbrev m_G_landOf : Nat := 142
abbrev m_G_ownerOf : Nat := 143
abbrev m_G_partOf : Nat := 144
abbrev m_G_partOfAll : Nat := 145
abbrev m_G_leastFilled : Nat := 146
abbrev m_G_fits : Nat := 147
abbrev m_M_walk : Nat := 148
abbrev m_M_measure : Nat := 149
abbrev m_M_nearestOf : Nat := 150
abbrev m_M_steps : Nat := 151
abbrev m_M_seek : Nat := 152
abbrev m_P_has : Nat := 153
abbrev m_P_least : Nat := 154
abbrev m_P_beside : Nat := 155
abbrev m_P_spread : Nat := 156
abbrev m_P_firstHole : Nat := 157
abbrev m_P_holesOf : Nat := 158
abbrev m_P_rimOf : Nat := 159
abbrev m_P_fenceOf : Nat := 160
abbrev m_P_withinOf : Nat := 161
abbrev m_P_nestedIn : Nat := 162
abbrev m_P_broadestIn : Nat := 163
abbrev m_P_mostCells : Nat := 164
abbrev m_P_leastCut : Nat := 165
abbrev m_P_isInPieces : Nat := 166
abbrev m_P_leastSplit : Nat := 167
abbrev m_P_gapBetween : Nat := 168
abbrev m_P_leastDug : Nat := 169
abbrev m_R_begin : Nat := 170
abbrev m_R_spans : Nat := 171
abbrev m_R_put : Nat := 172
abbrev m_R_areDepths : Nat := 173
abbrev m_T_add : Nat := 174
abbrev m_T_wipe : Nat := 175
abbrev m_T_passBlanks : Nat := 176
abbrev m_T_isNext : Nat := 177
abbrev m_T_nextFigure : Nat := 178
abbrev m_T_fault : Nat := 179
abbrev m_T_faultBehind : Nat := 180
abbrev m_T_readGround : Nat := 181
abbrev m_T_readOwners : Nat := 182
abbrev m_T_readDay : Nat := 183
abbrev m_T_nextRepair : Nat := 184
abbrev m_J_bitCount : Nat := 185
abbrev m_L_law : Nat := 186
end
section
/-! ===== the abstract world in the heap ===== -/
def zv (ad : Nat → Nat) (v : Value) : Value := match v with
  | .ref k => .ref (ad k)
  | v => v
theorem zv_cat (ad : Nat → Nat) (v : Value) : (zv ad v).category = v.category := by cases v <;> rfl
theorem zv_catL (ad : Nat → Nat) (st : List Value) : ((st.map (zv ad)).map fun v => v.category).sum = zcat st := by
  unfold zcat
  rw [List.map_map]
  congr 1
  exact List.map_congr_left (fun v _ => zv_cat ad v)
def zfv (ad : Nat → Nat) (w : zW) (o ci k : Nat) : Value := match zfk ci k with
  | 1 => .long (w.2 o k)
  | 3 => .ref (ad (zrf o k))
  | _ => .int (w.1 o k)
def zNs : List Nat := [9, 7, 4, 6, 6, 27]
def zEa (ad : Nat → Nat) (w : zW) (o kd : Nat) : (Nat → Int32) ⊕ (Nat → Int64) ⊕ (Nat → UInt32) ⊕ (Nat → UInt64) ⊕ (Nat → Option Nat) := match kd with
  | 1 => .inr (.inl (w.2 o))
  | 3 => .inr (.inr (.inr (.inr (fun j => some (ad (zre o j))))))
  | _ => .inl (w.1 o)
def zE (ad : Nat → Nat) (cA : Nat → ClassId) (w : zW) (o : Nat) : va_E := match zshL[o]? with
  | some (.inl ci) => .inr (ci, (List.range (zNs.getD ci 0)).map (zfv ad w o ci))
  | some (.inr q) => .inl (cA q.1, q.2, zEa ad w o q.1)
  | none => .inr (9, [])
def zws (ad : Nat → Nat) (cA : Nat → ClassId) (w : zW) : va_W := (List.range 43).map (fun o => (ad o, zE ad cA w o))
def zty (cA : Nat → ClassId) : List (ClassId × FieldType) := [(cA 0, .int), (cA 1, .long), (cA 2, .char), (cA 3, .object RX3)]
theorem zsh_lt {o : Nat} {x : Nat ⊕ (Nat × Nat)} (h : zshL[o]? = some x) : o < 43 := (List.getElem?_eq_some_iff.mp h).1
theorem zws_at {ad : Nat → Nat} {cA : Nat → ClassId} {w : zW} {o : Nat} (h : o < 43) : (zws ad cA w)[o]? = some (ad o, zE ad cA w o) := by
  simp [zws, h]
theorem zE_is {ad : Nat → Nat} {cA : Nat → ClassId} {w : zW} {o ci : Nat} (h : zis o ci) : zE ad cA w o = .inr (ci, (List.range (zNs.getD ci 0)).map (zfv ad w o ci)) := by
  unfold zE; rw [h]
theorem zE_ar {ad : Nat → Nat} {cA : Nat → ClassId} {w : zW} {o kd n : Nat} (h : zar o kd n) : zE ad cA w o = .inl (cA kd, n, zEa ad w o kd) := by
  unfold zE; rw [h]
theorem zws_set {ad : Nat → Nat} {cA : Nat → ClassId} {w w' : zW} {o : Nat} {e : va_E} (h : o < 43) (he : zE ad cA w' o = e) (ho : ∀ a, a ≠ o → zE ad cA w' a = zE ad cA w a) : (zws ad cA w).set o (ad o, e) = zws ad cA w' := by
  apply List.ext_getElem?
  intro k
  rw [List.getElem?_set]
  by_cases hk : o = k
  · subst hk
    rw [if_pos rfl, if_pos (by simp [zws, h]), zws_at h, he]
  · rw [if_neg hk]
    by_cases hl : k < 43
    · rw [zws_at hl, zws_at hl, ho k (fun z => hk z.symm)]
    · rw [List.getElem?_eq_none (by simp [zws]; omega), List.getElem?_eq_none (by simp [zws]; omega)]
theorem zE_sI {ad : Nat → Nat} {cA : Nat → ClassId} {w : zW} {o k : Nat} {v : Int32} (a : Nat) (h : a ≠ o) : zE ad cA (sI w o k v) a = zE ad cA w a := by
  have e1 : ∀ j, (sI w o k v).1 a j = w.1 a j := fun j => by simp [sI, h]
  have e2 : (sI w o k v).1 a = w.1 a := funext e1
  have e3 : (sI w o k v).2 = w.2 := rfl
  unfold zE
  split
  · rename_i ci _
    congr 2
    apply List.map_congr_left
    intro j _
    unfold zfv
    rw [e3, e1]
  · rename_i q _
    unfold zEa
    rw [e2, e3]
  · rfl
theorem zE_sL {ad : Nat → Nat} {cA : Nat → ClassId} {w : zW} {o k : Nat} {v : Int64} (a : Nat) (h : a ≠ o) : zE ad cA (sL w o k v) a = zE ad cA w a := by
  have e1 : ∀ j, (sL w o k v).2 a j = w.2 a j := fun j => by simp [sL, h]
  have e2 : (sL w o k v).2 a = w.2 a := funext e1
  have e3 : (sL w o k v).1 = w.1 := rfl
  unfold zE
  split
  · rename_i ci _
    congr 2
    apply List.map_congr_left
    intro j _
    unfold zfv
    rw [e3, e1]
  · rename_i q _
    unfold zEa
    rw [e2, e3]
  · rfl
theorem zE_cI {ad : Nat → Nat} {cA : Nat → ClassId} {w : zW} {o1 o2 sp dp n : Nat} (a : Nat) (h : a ≠ o2) : zE ad cA (cI w o1 o2 sp dp n) a = zE ad cA w a := by
  have e1 : ∀ j, (cI w o1 o2 sp dp n).1 a j = w.1 a j := fun j => by simp [cI, h]
  have e2 : (cI w o1 o2 sp dp n).1 a = w.1 a := funext e1
  have e3 : (cI w o1 o2 sp dp n).2 = w.2 := rfl
  unfold zE
  split
  · rename_i ci _
    congr 2
    apply List.map_congr_left
    intro j _
    unfold zfv
    rw [e3, e1]
  · rename_i q _
    unfold zEa
    rw [e2, e3]
  · rfl
theorem zE_cL {ad : Nat → Nat} {cA : Nat → ClassId} {w : zW} {o1 o2 sp dp n : Nat} (a : Nat) (h : a ≠ o2) : zE ad cA (cL w o1 o2 sp dp n) a = zE ad cA w a := by
  have e1 : ∀ j, (cL w o1 o2 sp dp n).2 a j = w.2 a j := fun j => by simp [cL, h]
  have e2 : (cL w o1 o2 sp dp n).2 a = w.2 a := funext e1
  have e3 : (cL w o1 o2 sp dp n).1 = w.1 := rfl
  unfold zE
  split
  · rename_i ci _
    congr 2
    apply List.map_congr_left
    intro j _
    unfold zfv
    rw [e3, e1]
  · rename_i q _
    unfold zEa
    rw [e2, e3]
  · rfl
/-- a field written -/
theorem zflds {n k : Nat} {f g : Nat → Value} {v : Value} (hk : k < n) (h1 : g k = v) (h2 : ∀ j, j ≠ k → g j = f j) : (List.range n).map g = ((List.range n).map f).set k v := by
  apply List.ext_getElem?
  intro j
  rw [List.getElem?_set]
  by_cases h : k = j
  · subst h
    rw [if_pos rfl, if_pos (by simpa using hk)]
    simp [hk, h1]
  · rw [if_neg h]
    simp only [List.getElem?_map]
    cases hr : (List.range n)[j]? with
    | none => rfl
    | some x =>
      have hx : x = j := by
        have := List.getElem?_eq_some_iff.mp hr
        obtain ⟨hl, he⟩ := this
        simpa using he.symm
      subst hx
      simp [h2 x (fun z => h z.symm)]
theorem zE_pI {ad : Nat → Nat} {cA : Nat → ClassId} {w : zW} {o ci k : Nat} {v : Int32} (h : zis o ci) (hk : k < zNs.getD ci 0) (hf : zfk ci k = 0 ∨ zfk ci k = 2) : zE ad cA (sI w o k v) o = .inr (ci, ((List.range (zNs.getD ci 0)).map (zfv ad w o ci)).set k (.int v)) := by
  rw [zE_is h]
  congr 2
  refine zflds hk ?_ (fun j hj => ?_)
  · unfold zfv
    rcases hf with e | e <;> rw [e] <;> simp [sI]
  · unfold zfv
    have e1 : (sI w o k v).1 o j = w.1 o j := by simp [sI, hj]
    have e3 : (sI w o k v).2 = w.2 := rfl
    rw [e1, e3]
theorem zE_pL {ad : Nat → Nat} {cA : Nat → ClassId} {w : zW} {o ci k : Nat} {v : Int64} (h : zis o ci) (hk : k < zNs.getD ci 0) (hf : zfk ci k = 1) : zE ad cA (sL w o k v) o = .inr (ci, ((List.range (zNs.getD ci 0)).map (zfv ad w o ci)).set k (.long v)) := by
  rw [zE_is h]
  congr 2
  refine zflds hk ?_ (fun j hj => ?_)
  · unfold zfv
    rw [hf]; simp [sL]
  · unfold zfv
    have e1 : (sL w o k v).2 o j = w.2 o j := by simp [sL, hj]
    have e3 : (sL w o k v).1 = w.1 := rfl
    rw [e1, e3]
theorem zE_aI {ad : Nat → Nat} {cA : Nat → ClassId} {w : zW} {o kd n j : Nat} {v : Int32} (h : zar o kd n) (hk : kd = 0 ∨ kd = 2) : zE ad cA (sI w o j v) o = .inl (cA kd, n, .inl (upd (w.1 o) j v)) := by
  rw [zE_ar h]
  congr 3
  rcases hk with rfl | rfl <;> exact congrArg Sum.inl (funext fun x => by simp [sI, upd])
theorem zE_aL {ad : Nat → Nat} {cA : Nat → ClassId} {w : zW} {o n j : Nat} {v : Int64} (h : zar o 1 n) : zE ad cA (sL w o j v) o = .inl (cA 1, n, .inr (.inl (vp_updL (w.2 o) j v))) := by
  rw [zE_ar h]
  congr 3
  exact congrArg (fun z => Sum.inr (Sum.inl z)) (funext fun x => by simp [sL, vp_updL])
theorem zE_xI {ad : Nat → Nat} {cA : Nat → ClassId} {w : zW} {o1 o2 n sp dp k : Nat} (h : zar o2 0 n) : zE ad cA (cI w o1 o2 sp dp k) o2 = .inl (cA 0, n, .inl (va_cpy (w.1 o1) (w.1 o2) sp dp k)) := by
  rw [zE_ar h]
  congr 3
  exact congrArg Sum.inl (funext fun x => by simp [cI])
theorem zE_xL {ad : Nat → Nat} {cA : Nat → ClassId} {w : zW} {o1 o2 n sp dp k : Nat} (h : zar o2 1 n) : zE ad cA (cL w o1 o2 sp dp k) o2 = .inl (cA 1, n, .inr (.inl (va_cpy (w.2 o1) (w.2 o2) sp dp k))) := by
  rw [zE_ar h]
  congr 3
  exact congrArg (fun z => Sum.inr (Sum.inl z)) (funext fun x => by simp [cL])
/-! locals -/
def zLR (ad : Nat → Nat) (ls : zL) (sl : Array Slot) : Prop := sl.size = ls.length ∧ lv_wf sl ∧ ∀ (i : Nat) (v : Value), ls[i]? = some (some v) → sl[i]? = some (.val (zv ad v))
def zAL (ad : Nat → Nat) (ls : zL) : List (Nat × Value) := (List.range ls.length).filterMap (fun i => match ls[i]? with
  | some (some v) => some (i, zv ad v)
  | _ => none)
theorem zAL_mem {ad : Nat → Nat} {ls : zL} {i : Nat} {v : Value} (h : ls[i]? = some (some v)) : (i, zv ad v) ∈ zAL ad ls := by
  refine List.mem_filterMap.mpr ⟨i, List.mem_range.mpr (List.getElem?_eq_some_iff.mp h).1, ?_⟩
  rw [h]
theorem zAL_of {ad : Nat → Nat} {ls : zL} {q : Nat × Value} (h : q ∈ zAL ad ls) : ∃ v, ls[q.1]? = some (some v) ∧ q.2 = zv ad v := by
  obtain ⟨i, -, hi⟩ := List.mem_filterMap.mp h
  split at hi
  · rename_i v hv
    cases hi
    exact ⟨v, hv, rfl⟩
  · cases hi
theorem zLR.has {ad : Nat → Nat} {ls : zL} {sl : Array Slot} (h : zLR ad ls sl) : lv_has sl ls.length (zAL ad ls) := by
  refine ⟨h.1, h.2.1, fun q hq => ?_⟩
  obtain ⟨v, h1, h2⟩ := zAL_of hq
  rw [h2]
  exact h.2.2 _ _ h1
theorem zfree_ok {ls : zL} {i j : Nat} {v : Value} (hf : zfree ls i = true) (hj : j + 1 = i) (h : ls[j]? = some (some v)) : ¬ v.category = 2 := by
  subst hj
  unfold zfree at hf
  dsimp only at hf
  rw [h] at hf
  cases v <;> simp_all [Value.category]
theorem zLR.put1 {ad : Nat → Nat} {ls : zL} {sl' : Array Slot} {i : Nat} {v : Value} (hi : i < ls.length) (hf : zfree ls i = true)
    (h : lv_has sl' ls.length ((i, zv ad v) :: (zAL ad ls).filter (fun q => !(q.1 == i) && !(q.1 + 1 == i && q.2.category == 2)))) : zLR ad (ls.set i (some v)) sl' := by
  refine ⟨by rw [h.1]; simp, h.2.1, fun j u hj => ?_⟩
  rw [List.getElem?_set] at hj
  by_cases e : i = j
  · subst e
    rw [if_pos rfl, if_pos hi] at hj
    cases hj
    exact h.2.2 (i, zv ad v) List.mem_cons_self
  · rw [if_neg e] at hj
    refine h.2.2 (j, zv ad u) (List.mem_cons_of_mem _ (List.mem_filter.mpr ⟨zAL_mem hj, ?_⟩))
    have h1 : ¬ j = i := fun z => e z.symm
    simp only [Bool.and_eq_true, Bool.not_eq_true', beq_eq_false_iff_ne, ne_eq, Bool.and_eq_false_iff]
    refine ⟨h1, ?_⟩
    by_cases e2 : j + 1 = i
    · exact Or.inr (by rw [zv_cat]; exact zfree_ok hf e2 hj)
    · exact Or.inl e2
theorem zLR.put2 {ad : Nat → Nat} {ls : zL} {sl' : Array Slot} {i : Nat} {v : Value} (hi : i + 1 < ls.length) (hf : zfree ls i = true)
    (h : lv_has sl' ls.length ((i, zv ad v) :: (zAL ad ls).filter (fun q => !(q.1 == i) && (!(q.1 == i + 1) && !(q.1 + 1 == i && q.2.category == 2))))) : zLR ad ((ls.set i (some v)).set (i + 1) none) sl' := by
  refine ⟨by rw [h.1]; simp, h.2.1, fun j u hj => ?_⟩
  rw [List.getElem?_set] at hj
  by_cases e0 : i + 1 = j
  · subst e0
    rw [if_pos rfl, if_pos (by simpa using hi)] at hj
    cases hj
  rw [if_neg e0, List.getElem?_set] at hj
  by_cases e : i = j
  · subst e
    rw [if_pos rfl, if_pos (by omega)] at hj
    cases hj
    exact h.2.2 (i, zv ad v) List.mem_cons_self
  · rw [if_neg e] at hj
    refine h.2.2 (j, zv ad u) (List.mem_cons_of_mem _ (List.mem_filter.mpr ⟨zAL_mem hj, ?_⟩))
    have h1 : ¬ j = i := fun z => e z.symm
    have h2 : ¬ j = i + 1 := fun z => e0 z.symm
    simp only [Bool.and_eq_true, Bool.not_eq_true', beq_eq_false_iff_ne, ne_eq, Bool.and_eq_false_iff]
    refine ⟨h1, h2, ?_⟩
    by_cases e2 : j + 1 = i
    · exact Or.inr (by rw [zv_cat]; exact zfree_ok hf e2 hj)
    · exact Or.inl e2
theorem zle_at : ∀ {ls ls' : zL}, zle ls ls' → ls.length = ls'.length ∧ ∀ (i : Nat) (v : Value), ls[i]? = some (some v) → ls'[i]? = some (some v)
  | [], [], _ => ⟨rfl, fun i v h => by simp at h⟩
  | a :: r, b :: t, h => by
    obtain ⟨h1, h2⟩ := zle_at h.2
    refine ⟨by simp [h1], fun i v hi => ?_⟩
    cases i with
    | zero =>
      rw [List.getElem?_cons_zero] at hi ⊢
      rcases h.1 with e | e
      · rw [e] at hi; cases hi
      · rw [← e]; exact hi
    | succ i =>
      rw [List.getElem?_cons_succ] at hi ⊢
      exact h2 i v hi
theorem zLR.le {ad : Nat → Nat} {ls ls' : zL} {sl : Array Slot} (h : zLR ad ls' sl) (hl : zle ls ls') : zLR ad ls sl := by
  obtain ⟨h1, h2⟩ := zle_at hl
  exact ⟨by rw [h.1, h1], h.2.1, fun i v hi => h.2.2 i v (h2 i v hi)⟩
/-- entry -/
theorem zent_args {ad : Nat → Nat} : ∀ (vs : List Value) (n i : Nat) (v : Value), (zent1 vs)[i]? = some (some v) → (n + i, zv ad v) ∈ lv_args n (vs.map (zv ad))
  | [], n, i, v, h => by simp [zent1] at h
  | u :: r, n, i, v, h => by
    have key : ∀ x : zL, zent1 (u :: r) = x ++ zent1 r → (x = [some u] ∧ (zv ad u).category = 1 ∨ x = [some u, none] ∧ (zv ad u).category = 2) → (n + i, zv ad v) ∈ lv_args n ((u :: r).map (zv ad)) := by
      intro x hx hc
      rw [hx] at h
      rw [List.map_cons]
      rcases hc with ⟨rfl, hc⟩ | ⟨rfl, hc⟩
      · cases i with
        | zero =>
          simp at h
          subst h
          simp [lv_args]
        | succ i =>
          have h' : (zent1 r)[i]? = some (some v) := by simpa using h
          have := zent_args (ad := ad) r (n + 1) i v h'
          simp only [lv_args, hc, if_true, Nat.reduceEqDiff, if_false]
          refine List.mem_cons_of_mem _ ?_
          rw [show n + (i + 1) = n + 1 + i by omega]
          exact this
      · cases i with
        | zero =>
          simp at h
          subst h
          simp [lv_args]
        | succ i =>
          cases i with
          | zero => simp at h
          | succ i =>
            have h' : (zent1 r)[i]? = some (some v) := by simpa using h
            have := zent_args (ad := ad) r (n + 2) i v h'
            simp only [lv_args, hc, if_true, Nat.reduceEqDiff, if_false]
            refine List.mem_cons_of_mem _ ?_
            rw [show n + (i + 1 + 1) = n + 2 + i by omega]
            exact this
    cases u with
    | long x => exact key [some (.long x), none] rfl (Or.inr ⟨rfl, rfl⟩)
    | double x => exact key [some (.double x), none] rfl (Or.inr ⟨rfl, rfl⟩)
    | int x => exact key [some (.int x)] rfl (Or.inl ⟨rfl, rfl⟩)
    | float x => exact key [some (.float x)] rfl (Or.inl ⟨rfl, rfl⟩)
    | null => exact key [some .null] rfl (Or.inl ⟨rfl, rfl⟩)
    | ref x => exact key [some (.ref x)] rfl (Or.inl ⟨rfl, rfl⟩)
    | retAddr x => exact key [some (.retAddr x)] rfl (Or.inl ⟨rfl, rfl⟩)
theorem zent_len : ∀ (ad : Nat → Nat) (vs : List Value), (lg_sl (vs.map (zv ad))).length = (zent1 vs).length
  | ad, [] => rfl
  | ad, u :: r => by
    have ih := zent_len ad r
    unfold lg_sl at ih ⊢
    unfold zent1 at ih ⊢
    rw [List.map_cons, List.flatMap_cons, List.flatMap_cons, List.length_append, List.length_append, ih]
    congr 1
    cases u <;> simp [zv, Value.category]
theorem zent_LR {ad : Nat → Nat} {vs : List Value} {n : Nat} (h : (zent1 vs).length ≤ n) : zLR ad (zent vs n) ((lg_sl (vs.map (zv ad)) ++ List.replicate (n - (lg_sl (vs.map (zv ad))).length) Slot.unset).toArray) := by
  obtain ⟨h1, h2, h3⟩ := lv_entry (vs.map (zv ad)) (n := n) (by rw [zent_len]; exact h)
  refine ⟨?_, h2, fun i v hi => ?_⟩
  · rw [h1]; simp [zent]; omega
  · have hi' : (zent1 vs)[i]? = some (some v) := by
      unfold zent at hi
      by_cases hl : i < (zent1 vs).length
      · rwa [List.getElem?_append_left hl] at hi
      · rw [List.getElem?_append_right (by omega), List.getElem?_replicate] at hi
        split at hi <;> cases hi
    have := zent_args (ad := ad) vs 0 i v hi'
    rw [Nat.zero_add] at this
    exact h3 _ this
end
section
/-! ===== one instruction, on the machine ===== -/
theorem zclsA {ci : Nat} (h : ci < 6) : vwCl[ci]? = some (zcn ci, (zTd ci).1, (zTd ci).2) ∧ (∀ w ∈ u_ws (zcn ci) (zTd ci).1 (zTd ci).2, w ∈ zAW) ∧ (zTd ci).2 = zNs.getD ci 0 ∧
    ∃ ty0 : Nat → FieldType, (∀ k, k < (zTd ci).2 → parseFieldDescriptor ((zTd ci).1 k).2.2.1 = some (ty0 k)) ∧ (∀ a, a < (zTd ci).2 → ∀ b, b < (zTd ci).2 → a ≠ b → ((zTd ci).1 a).2.1 ≠ ((zTd ci).1 b).2.1) ∧
      (∀ k, k < (zTd ci).2 → zfk ci k = 0 → ty0 k = .int ∧ ((zTd ci).1 k).2.2.2 = false) ∧ (∀ k, k < (zTd ci).2 → zfk ci k = 1 → ty0 k = .long ∧ ((zTd ci).1 k).2.2.2 = false) ∧ (∀ k, k < (zTd ci).2 → zfk ci k = 2 → ty0 k = .boolean ∧ ((zTd ci).1 k).2.2.2 = false) := by
  match ci, h with
  | 0, _ => exact ⟨rfl, zcls_0, rfl, tyX0, tyX0_ok, nmX0, by decide +kernel, by decide +kernel, by decide +kernel⟩
  | 1, _ => exact ⟨rfl, zcls_1, rfl, tyX1, tyX1_ok, nmX1, by decide +kernel, by decide +kernel, by decide +kernel⟩
  | 2, _ => exact ⟨rfl, zcls_2, rfl, tyX3, tyX3_ok, nmX3, by decide +kernel, by decide +kernel, by decide +kernel⟩
  | 3, _ => exact ⟨rfl, zcls_3, rfl, tyX4, tyX4_ok, nmX4, by decide +kernel, by decide +kernel, by decide +kernel⟩
  | 4, _ => exact ⟨rfl, zcls_4, rfl, tyX5, tyX5_ok, nmX5, by decide +kernel, by decide +kernel, by decide +kernel⟩
  | 5, _ => exact ⟨rfl, zcls_5, rfl, tyX6, tyX6_ok, nmX6, by decide +kernel, by decide +kernel, by decide +kernel⟩
  | n + 6, h => exact absurd h (by omega)
theorem zkey {own idx : Nat} (h : idx < 1000) : (own * 1000 + idx) / 1000 = own ∧ (own * 1000 + idx) % 1000 = idx := by omega
theorem zfl_ok {own idx ci k len : Nat} (h : (Nat.beq len 3 && Nat.blt idx 1000 && zFL.any (fun q => Nat.beq q.1 (own * 1000 + idx) && Nat.beq q.2.1 ci && Nat.beq q.2.2.1 k)) = true) :
    len = 3 ∧ ci < 6 ∧ k < (zTd ci).2 ∧ (Cond.fieldLink (zcn own) idx ((zTd ci).1 k).1 ((zTd ci).1 k).2.1 ((zTd ci).1 k).2.2.1 ∈ zAW ∨ Cond.fieldLinkNest (zcn own) idx ((zTd ci).1 k).1 ((zTd ci).1 k).2.1 ((zTd ci).1 k).2.2.1 RX5 ∈ zNW) := by
  simp only [Bool.and_eq_true, List.any_eq_true] at h
  obtain ⟨⟨h1, h2⟩, q, hq, ⟨h3, h4⟩, h5⟩ := h
  have e1 := Nat.eq_of_beq_eq_true h1
  have e2 : idx < 1000 := Nat.blt_eq.mp h2
  have e3 := Nat.eq_of_beq_eq_true h3
  have e4 := Nat.eq_of_beq_eq_true h4
  have e5 := Nat.eq_of_beq_eq_true h5
  have hb := List.all_eq_true.mp zFL_lt q hq
  simp only [Bool.and_eq_true] at hb
  have b1 := Nat.blt_eq.mp hb.1
  have b2 := Nat.blt_eq.mp hb.2
  have hw := zmap zFL_eq q hq
  rw [e4] at b1 b2
  rw [e5] at b1
  refine ⟨e1, b2, b1, ?_⟩
  obtain ⟨k1, k2⟩ := zkey (own := own) e2
  unfold zFLw at hw
  rw [e3, e4, e5, k1, k2] at hw
  split at hw
  · exact Or.inl (zAW_in hw rfl)
  · exact Or.inr (zNW_in hw rfl)
theorem zki_ok {own idx : Nat} {v : Int32} (h2 : Nat.blt idx 1000 = true) (h : zKI.any (fun q => Nat.beq q.1 (own * 1000 + idx) && decide (q.2.1 = v)) = true) : Cond.constant (zcn own) idx v ∈ zAW := by
  simp only [Bool.and_eq_true, List.any_eq_true, decide_eq_true_eq] at h
  obtain ⟨q, hq, h3, h4⟩ := h
  have e2 : idx < 1000 := Nat.blt_eq.mp h2
  have e3 := Nat.eq_of_beq_eq_true h3
  have hw := zmap zKI_eq q hq
  obtain ⟨k1, k2⟩ := zkey (own := own) e2
  rw [e3, h4, k1, k2] at hw
  exact zAW_in hw rfl
theorem zkl_ok {own idx : Nat} {v : Int64} (h2 : Nat.blt idx 1000 = true) (h : zKL.any (fun q => Nat.beq q.1 (own * 1000 + idx) && decide (q.2.1 = v)) = true) : Cond.constantLong (zcn own) idx v ∈ zAW := by
  simp only [Bool.and_eq_true, List.any_eq_true, decide_eq_true_eq] at h
  obtain ⟨q, hq, h3, h4⟩ := h
  have e2 : idx < 1000 := Nat.blt_eq.mp h2
  have e3 := Nat.eq_of_beq_eq_true h3
  have hw := zmap zKL_eq q hq
  obtain ⟨k1, k2⟩ := zkey (own := own) e2
  rw [e3, h4, k1, k2] at hw
  exact zAW_in hw rfl
def zCx (p : Program) (s : State) (m : MethodId) (args : Array Value) (c : Code) (R : Room) (cells slots : Nat) (D : va_G) (cA : Nat → ClassId) (y d : Nat) : Prop :=
  p.tables.exec = Jvm.exec ∧ c.code = (zMd y).2.1 ∧ c.maxLocals = (zMd y).2.2.1 ∧ s.vm.findClass (zcn (zMd y).2.2.2.2.1) = some m.cls ∧ (∀ w ∈ zAW, w.before args s = true) ∧ (∀ w ∈ zNW, va_Nw w s) ∧ va_K D vwCl (zty cA) s ∧ (d ≤ R.frames ∧ 64 * d ≤ R.locals) ∧ cells ≤ R.cells ∧ slots ≤ R.slots
def zHp (D : va_G) (cA : Nat → ClassId) (ad : Nat → Nat) (A : Nat → Prop) (w : zW) (H : Heap) : Prop := va_P D vwCl (zws ad cA w) H ∧ va_D A (zws ad cA w)
def zXc (y : Nat) (ad : Nat → Nat) (A : Nat → Prop) (s : State) (w : zW) : Prop := (zMd y).2.2.2.2.1 = 9 → ∃ (L : Nat) (xs : Nat → Int32), va_X (ad 43) L xs s s.heap ∧ ad 43 < s.heap.size ∧ ¬ A (ad 43) ∧ L < 2 ^ 31 ∧ w.1 44 0 = Int32.ofNat L ∧ ∀ j, j < L → w.1 43 j = xs j
def zfix (w w' : zW) : Prop := (∀ j, w'.1 43 j = w.1 43 j) ∧ ∀ j, w'.1 44 j = w.1 44 j
theorem zfix.rf {w : zW} : zfix w w := ⟨fun _ => rfl, fun _ => rfl⟩
theorem zfix.tr {a b c : zW} (h1 : zfix a b) (h2 : zfix b c) : zfix a c := ⟨fun j => (h2.1 j).trans (h1.1 j), fun j => (h2.2 j).trans (h1.2 j)⟩
theorem zfix.sI {w : zW} {o k : Nat} {v : Int32} (h : o < 43) : zfix w (sI w o k v) := by
  constructor <;> intro j <;> simp [_root_.id, Jvm.Pilot.@@N@@.sI] <;> intro q <;> omega
theorem zfix.sL {w : zW} {o k : Nat} {v : Int64} : zfix w (sL w o k v) := ⟨fun _ => rfl, fun _ => rfl⟩
theorem zfix.cI {w : zW} {o1 o sp dp n : Nat} (h : o < 43) : zfix w (cI w o1 o sp dp n) := by
  constructor <;> intro j <;> simp [Jvm.Pilot.@@N@@.cI] <;> intro q <;> omega
theorem zfix.cL {w : zW} {o1 o sp dp n : Nat} : zfix w (cL w o1 o sp dp n) := ⟨fun _ => rfl, fun _ => rfl⟩
theorem zXc.fix {y : Nat} {ad : Nat → Nat} {A : Nat → Prop} {s : State} {w w' : zW} (h : zXc y ad A s w) (hf : zfix w w') : zXc y ad A s w' := by
  intro hy
  obtain ⟨L, xs, h1, h2, h3, h4, h5, h6⟩ := h hy
  exact ⟨L, xs, h1, h2, h3, h4, by rw [hf.2]; exact h5, fun j hj => by rw [hf.1]; exact h6 j hj⟩
theorem zdec {i x : Instr} {len n : Nat} (h : (decide (i = x) && Nat.beq len n) = true) : i = x ∧ len = n := by
  simp only [Bool.and_eq_true, decide_eq_true_eq] at h
  exact ⟨h.1, Nat.eq_of_beq_eq_true h.2⟩
/-! what a step needs, taken apart -/
theorem zii_inv {f : Int32 → Int32 → Int32} {st : List Value} {k : List Value → Prop} (h : zii f st k) : ∃ x y r, st = .int y :: .int x :: r ∧ k (.int (f x y) :: r) := by
  unfold zii at h; split at h
  · exact ⟨_, _, _, rfl, h⟩
  · exact h.elim
theorem zid_inv {f : Int32 → Int32 → Int32} {st : List Value} {k : List Value → Prop} (h : zid f st k) : ∃ x y r, st = .int y :: .int x :: r ∧ ¬ y = 0 ∧ k (.int (f x y) :: r) := by
  unfold zid at h; split at h
  · exact ⟨_, _, _, rfl, h.1, h.2⟩
  · exact h.elim
theorem zll_inv {f : Int64 → Int64 → Value} {st : List Value} {k : List Value → Prop} (h : zll f st k) : ∃ x y r, st = .long y :: .long x :: r ∧ k (f x y :: r) := by
  unfold zll at h; split at h
  · exact ⟨_, _, _, rfl, h⟩
  · exact h.elim
theorem zls_inv {f : Int64 → Int32 → Int64} {st : List Value} {k : List Value → Prop} (h : zls f st k) : ∃ x y r, st = .int y :: .long x :: r ∧ k (.long (f x y) :: r) := by
  unfold zls at h; split at h
  · exact ⟨_, _, _, rfl, h⟩
  · exact h.elim
theorem zui_inv {f : Int32 → Value} {st : List Value} {k : List Value → Prop} (h : zui f st k) : ∃ x r, st = .int x :: r ∧ k (f x :: r) := by
  unfold zui at h; split at h
  · exact ⟨_, _, rfl, h⟩
  · exact h.elim
theorem zul_inv {f : Int64 → Value} {st : List Value} {k : List Value → Prop} (h : zul f st k) : ∃ x r, st = .long x :: r ∧ k (f x :: r) := by
  unfold zul at h; split at h
  · exact ⟨_, _, rfl, h⟩
  · exact h.elim
theorem zldi_inv {ls : zL} {i : Nat} {k : Value → Prop} (h : zldi ls i k) : ∃ x, ls[i]? = some (some (.int x)) ∧ k (.int x) := by
  unfold zldi at h; split at h
  · exact ⟨_, by assumption, h⟩
  · exact h.elim
theorem zldl_inv {ls : zL} {i : Nat} {k : Value → Prop} (h : zldl ls i k) : ∃ x, ls[i]? = some (some (.long x)) ∧ k (.long x) := by
  unfold zldl at h; split at h
  · exact ⟨_, by assumption, h⟩
  · exact h.elim
theorem zlda_inv {ls : zL} {i : Nat} {k : Value → Prop} (h : zlda ls i k) : ∃ x, ls[i]? = some (some (.ref x)) ∧ k (.ref x) := by
  unfold zlda at h; split at h
  · exact ⟨_, by assumption, h⟩
  · exact h.elim
theorem zs1_inv {ls : zL} {i : Nat} {v : Value} {k : zL → Prop} (h : zs1 ls i v k) : i < ls.length ∧ zfree ls i = true ∧ k (ls.set i (some v)) := by
  unfold zs1 at h; split at h
  · rename_i hb
    simp only [Bool.and_eq_true] at hb
    exact ⟨Nat.blt_eq.mp hb.1, hb.2, h⟩
  · exact h.elim
theorem zs2_inv {ls : zL} {i : Nat} {v : Value} {k : zL → Prop} (h : zs2 ls i v k) : i + 1 < ls.length ∧ zfree ls i = true ∧ k ((ls.set i (some v)).set (i + 1) none) := by
  unfold zs2 at h; split at h
  · rename_i hb
    simp only [Bool.and_eq_true] at hb
    exact ⟨Nat.blt_eq.mp hb.1, hb.2, h⟩
  · exact h.elim
theorem zsti_inv {ls : zL} {i : Nat} {st : List Value} {k : zL → List Value → Prop} (h : zsti ls i st k) : ∃ x r, st = .int x :: r ∧ i < ls.length ∧ zfree ls i = true ∧ k (ls.set i (some (.int x))) r := by
  unfold zsti at h; split at h
  · exact ⟨_, _, rfl, zs1_inv h⟩
  · exact h.elim
theorem zstl_inv {ls : zL} {i : Nat} {st : List Value} {k : zL → List Value → Prop} (h : zstl ls i st k) : ∃ x r, st = .long x :: r ∧ i + 1 < ls.length ∧ zfree ls i = true ∧ k ((ls.set i (some (.long x))).set (i + 1) none) r := by
  unfold zstl at h; split at h
  · exact ⟨_, _, rfl, zs2_inv h⟩
  · exact h.elim
theorem zsta_inv {ls : zL} {i : Nat} {st : List Value} {k : zL → List Value → Prop} (h : zsta ls i st k) : ∃ x r, st = .ref x :: r ∧ i < ls.length ∧ zfree ls i = true ∧ k (ls.set i (some (.ref x))) r := by
  unfold zsta at h; split at h
  · exact ⟨_, _, rfl, zs1_inv h⟩
  · exact h.elim
theorem zinc_inv {ls : zL} {i : Nat} {n : Int} {k : zL → Prop} (h : zinc ls i n k) : ∃ x, ls[i]? = some (some (.int x)) ∧ i < ls.length ∧ zfree ls i = true ∧ k (ls.set i (some (.int (x + Int32.ofInt n)))) := by
  unfold zinc at h; split at h
  · exact ⟨_, by assumption, zs1_inv h⟩
  · exact h.elim
theorem zald_inv {kd : Nat} {st : List Value} {w : zW} {k : List Value → Prop} (h : zald kd st w k) : ∃ j o r, st = .int j :: .ref o :: r ∧ zar o kd (zln o) ∧ vp_in j (zln o) ∧ k (.int (gI w o j.toNatClampNeg) :: r) := by
  unfold zald at h; split at h
  · exact ⟨_, _, _, rfl, h⟩
  · exact h.elim
theorem zaldl_inv {st : List Value} {w : zW} {k : List Value → Prop} (h : zaldl st w k) : ∃ j o r, st = .int j :: .ref o :: r ∧ zar o 1 (zln o) ∧ vp_in j (zln o) ∧ k (.long (gL w o j.toNatClampNeg) :: r) := by
  unfold zaldl at h; split at h
  · exact ⟨_, _, _, rfl, h⟩
  · exact h.elim
theorem zalda_inv {st : List Value} {k : List Value → Prop} (h : zalda st k) : ∃ j o r, st = .int j :: .ref o :: r ∧ zar o 3 (zln o) ∧ vp_in j (zln o) ∧ k (.ref (zre o j.toNatClampNeg) :: r) := by
  unfold zalda at h; split at h
  · exact ⟨_, _, _, rfl, h⟩
  · exact h.elim
theorem zast_inv {st : List Value} {w : zW} {k : List Value → zW → Prop} (h : zast st w k) : ∃ x j o r, st = .int x :: .int j :: .ref o :: r ∧ zar o 0 (zln o) ∧ vp_in j (zln o) ∧ k r (sI w o j.toNatClampNeg x) := by
  unfold zast at h; split at h
  · exact ⟨_, _, _, _, rfl, h⟩
  · exact h.elim
theorem zastc_inv {st : List Value} {w : zW} {k : List Value → zW → Prop} (h : zastc st w k) : ∃ x j o r, st = .int x :: .int j :: .ref o :: r ∧ zar o 2 (zln o) ∧ vp_in j (zln o) ∧ k r (sI w o j.toNatClampNeg (vp_nar .char x)) := by
  unfold zastc at h; split at h
  · exact ⟨_, _, _, _, rfl, h⟩
  · exact h.elim
theorem zastl_inv {st : List Value} {w : zW} {k : List Value → zW → Prop} (h : zastl st w k) : ∃ x j o r, st = .long x :: .int j :: .ref o :: r ∧ zar o 1 (zln o) ∧ vp_in j (zln o) ∧ k r (sL w o j.toNatClampNeg x) := by
  unfold zastl at h; split at h
  · exact ⟨_, _, _, _, rfl, h⟩
  · exact h.elim
theorem zalen_inv {st : List Value} {k : List Value → Prop} (h : zalen st k) : ∃ o r, st = .ref o :: r ∧ zar o 0 (zln o) ∧ k (.int (Int32.ofNat (zln o)) :: r) := by
  unfold zalen at h; split at h
  · exact ⟨_, _, rfl, h⟩
  · exact h.elim
theorem zscr_inv {st : List Value} {w : zW} {k : List Value → Prop} (h : zscr st w k) : ∃ j r, st = .int j :: .ref 43 :: r ∧ vp_in j (gI w 44 0).toNatClampNeg ∧ k (.int (gI w 43 j.toNatClampNeg) :: r) := by
  unfold zscr at h; split at h
  · obtain ⟨rfl, h2, h3⟩ := h
    exact ⟨_, _, rfl, h2, h3⟩
  · exact h.elim
theorem zscl_inv {st : List Value} {w : zW} {k : List Value → Prop} (h : zscl st w k) : ∃ r, st = .ref 43 :: r ∧ k (.int (gI w 44 0) :: r) := by
  unfold zscl at h; split at h
  · obtain ⟨rfl, h2⟩ := h
    exact ⟨_, rfl, h2⟩
  · exact h.elim
theorem zget_inv {ci q : Nat} {st : List Value} {w : zW} {k : List Value → Prop} (ad : Nat → Nat) (h : zget ci q st w k) : ∃ o r v, st = .ref o :: r ∧ zis o ci ∧ zfv ad w o ci q = zv ad v ∧ k (v :: r) := by
  unfold zget at h; split at h
  · obtain ⟨h1, h2⟩ := h
    split at h2
    · rename_i e; exact ⟨_, _, _, rfl, h1, by unfold zfv; rw [e]; rfl, h2⟩
    · rename_i e; exact ⟨_, _, _, rfl, h1, by unfold zfv; rw [e]; rfl, h2⟩
    · rename_i e; exact ⟨_, _, _, rfl, h1, by unfold zfv; rw [e]; rfl, h2⟩
    · rename_i e; exact ⟨_, _, _, rfl, h1, by unfold zfv; rw [e]; rfl, h2⟩
    · exact h2.elim
  · exact h.elim
theorem zput_inv {ci q : Nat} {st : List Value} {w : zW} {k : List Value → zW → Prop} (h : zput ci q st w k) :
    (∃ x o r, st = .int x :: .ref o :: r ∧ zfk ci q = 0 ∧ zis o ci ∧ k r (sI w o q x)) ∨ (∃ x o r, st = .long x :: .ref o :: r ∧ zfk ci q = 1 ∧ zis o ci ∧ k r (sL w o q x)) ∨ (∃ x o r, st = .int x :: .ref o :: r ∧ zfk ci q = 2 ∧ (x = 0 ∨ x = 1) ∧ zis o ci ∧ k r (sI w o q x)) := by
  unfold zput at h; split at h
  · split at h
    · exact Or.inl ⟨_, _, _, rfl, by assumption, h.1, h.2⟩
    · exact h.elim
  · split at h
    · exact Or.inr (Or.inl ⟨_, _, _, rfl, by assumption, h.1, h.2⟩)
    · exact h.elim
  · split at h
    · exact Or.inr (Or.inr ⟨_, _, _, rfl, by assumption, h.2.1, h.1, h.2.2⟩)
    · exact h.elim
  · exact h.elim
theorem zbool_nar {x : Int32} (h : x = 0 ∨ x = 1) : narrow .boolean (.int x) = .int x ∧ fits .boolean (.int x) = true := by
  rcases h with rfl | rfl <;> exact ⟨by decide +kernel, by decide +kernel⟩
section ZST
variable {p : Program} {l : Launch} {e : Env} {R : Room} {s : State} {m : MethodId} {args : Array Value} {below : List Frame} {meth : Method} {c : Code} {Fin : State → Prop} {cells slots : Nat} {D : va_G} {cA : Nat → ClassId} {ad : Nat → Nat} {A : Nat → Prop} {y d : Nat}
/-- what a step leads to -/
def zKK (p : Program) (l : Launch) (e : Env) (R : Room) (s : State) (m : MethodId) (args : Array Value) (below : List Frame) (meth : Method) (c : Code) (Fin : State → Prop) (cells slots : Nat) (D : va_G) (cA : Nat → ClassId) (ad : Nat → Nat) (A : Nat → Prop) (w : zW) (nL pc : Nat) (k : zL → List Value → zW → Prop) : Prop :=
  ∀ (ls : zL) (st : List Value) (w' : zW) (H : Heap) (locs : List Loc) (sl : Array Slot), k ls st w' → zfix w w' → zHp D cA ad A w' H → va_S A s.heap H locs → zLR ad ls sl → ls.length = nL → W p l e R s m args below meth c H locs cells slots Fin (F0 m pc sl (st.map (zv ad)))
theorem zone_get (C : zCx p s m args c R cells slots D cA y d) {ci q pc len idx : Nat} (hdg : decode (zMd y).2.1 pc = .ok (.getfield idx, len))
    (hc : (Nat.beq len 3 && Nat.blt idx 1000 && zFL.any (fun x => Nat.beq x.1 ((zMd y).2.2.2.2.1 * 1000 + idx) && Nat.beq x.2.1 ci && Nat.beq x.2.2.1 q)) = true)
    {o : Nat} {r : List Value} {v : Value} {w : zW} {H : Heap} {locs : List Loc} {sl : Array Slot} (hi : zis o ci) (hv : zfv ad w o ci q = zv ad v) (hH : zHp D cA ad A w H)
    (kk : W p l e R s m args below meth c H locs cells slots Fin (F0 m (pc + len) sl ((v :: r).map (zv ad)))) : W p l e R s m args below meth c H locs cells slots Fin (F0 m pc sl ((Value.ref o :: r).map (zv ad))) := by
  obtain ⟨hx, hb, hml, hown, hts, hnw, hK, -⟩ := C
  obtain ⟨rfl, hci, hq, hl⟩ := zfl_ok hc
  obtain ⟨c1, c2, c3, -⟩ := zclsA hci
  have hat : (zws ad cA w)[o]? = some (ad o, .inr (ci, (List.range (zNs.getD ci 0)).map (zfv ad w o ci))) := by rw [zws_at (zsh_lt hi), zE_is hi]
  have hfv : ((List.range (zNs.getD ci 0)).map (zfv ad w o ci))[q]? = some (zv ad v) := by
    rw [c3] at hq
    rw [← hv]
    simp only [List.getElem?_map, List.getElem?_range hq, Option.map_some]
  rcases hl with hl | hl
  · exact va_get hx hb hts c2 hown hK hH.1 o hat c1 q hq (hts _ hl) (fun _ h => h) hfv hdg kk
  · exact va_getN hx hb hts c2 hown hK hH.1 o hat c1 q hq (va_Nw.use rfl (hnw _ hl)) (fun _ h => h) hfv hdg kk
theorem zone_put (C : zCx p s m args c R cells slots D cA y d) {ci q pc len idx : Nat} (hdg : decode (zMd y).2.1 pc = .ok (.putfield idx, len))
    (hc : (Nat.beq len 3 && Nat.blt idx 1000 && zFL.any (fun x => Nat.beq x.1 ((zMd y).2.2.2.2.1 * 1000 + idx) && Nat.beq x.2.1 ci && Nat.beq x.2.2.1 q)) = true)
    {st : List Value} {ls : zL} {w : zW} {H : Heap} {locs : List Loc} {sl : Array Slot} {k : zL → List Value → zW → Prop} (hk : zput ci q st w (fun r w' => k ls r w')) (hH : zHp D cA ad A w H) (hS : va_S A s.heap H locs) (hl0 : zLR ad ls sl)
    (kk : zKK p l e R s m args below meth c Fin cells slots D cA ad A w ls.length (pc + len) k) : W p l e R s m args below meth c H locs cells slots Fin (F0 m pc sl (st.map (zv ad))) := by
  obtain ⟨hx, hb, hml, hown, hts, hnw, hK, -⟩ := C
  obtain ⟨rfl, hci, hq, hl⟩ := zfl_ok hc
  obtain ⟨c1, c2, c3, ty0, t1, t2, f0, f1, f2⟩ := zclsA hci
  have key : ∀ (o : Nat) (r : List Value) (v : Value) (w' : zW) (ty : FieldType), st.map (zv ad) = v :: .ref (ad o) :: r.map (zv ad) → zis o ci → ty0 q = ty → ((zTd ci).1 q).2.2.2 = false → narrow ty v = v → fits ty v = true →
      (zws ad cA w).set o (ad o, .inr (ci, ((List.range (zNs.getD ci 0)).map (zfv ad w o ci)).set q v)) = zws ad cA w' → k ls r w' → zfix w w' → W p l e R s m args below meth c H locs cells slots Fin (F0 m pc sl (st.map (zv ad))) := by
    intro o r v w' ty hst hi hty hfin hn hf hset hk' hfx
    rw [hst]
    have hat : (zws ad cA w)[o]? = some (ad o, .inr (ci, (List.range (zNs.getD ci 0)).map (zfv ad w o ci))) := by rw [zws_at (zsh_lt hi), zE_is hi]
    have hlen : q < ((List.range (zNs.getD ci 0)).map (zfv ad w o ci)).length := by rw [← c3]; simpa using hq
    have hd : parseFieldDescriptor ((zTd ci).1 q).2.2.1 = some ty := by rw [t1 q hq, hty]
    rcases hl with hl | hl
    · refine va_put hx hb hts c2 ty0 t1 t2 hown hK hH.1 hH.2 hS o hat c1 q hq (hts _ hl) (fun _ h => h) hfin hd hn hf hlen hdg (fun H1 locs1 a1 a2 a3 => ?_)
      rw [hset] at a1 a2
      exact kk ls r w' H1 locs1 sl hk' hfx ⟨a1, a2⟩ a3 hl0 rfl
    · refine va_putN hx hb hts c2 ty0 t1 t2 hown hK hH.1 hH.2 hS o hat c1 q hq (va_Nw.use rfl (hnw _ hl)) (fun _ h => h) hfin hd hn hf hlen hdg (fun H1 locs1 a1 a2 a3 => ?_)
      rw [hset] at a1 a2
      exact kk ls r w' H1 locs1 sl hk' hfx ⟨a1, a2⟩ a3 hl0 rfl
  rcases zput_inv hk with ⟨x, o, r, rfl, hz, hi, h⟩ | ⟨x, o, r, rfl, hz, hi, h⟩ | ⟨x, o, r, rfl, hz, hx01, hi, h⟩
  · exact key o r (.int x) (sI w o q x) .int rfl hi (f0 q hq hz).1 (f0 q hq hz).2 rfl rfl (zws_set (zsh_lt hi) (zE_pI hi (by rw [← c3]; exact hq) (Or.inl hz)) (fun a ha => zE_sI a ha)) h (zfix.sI (zsh_lt hi))
  · exact key o r (.long x) (sL w o q x) .long rfl hi (f1 q hq hz).1 (f1 q hq hz).2 rfl rfl (zws_set (zsh_lt hi) (zE_pL hi (by rw [← c3]; exact hq) hz) (fun a ha => zE_sL a ha)) h zfix.sL
  · exact key o r (.int x) (sI w o q x) .boolean rfl hi (f2 q hq hz).1 (f2 q hq hz).2 (zbool_nar hx01).1 (zbool_nar hx01).2 (zws_set (zsh_lt hi) (zE_pI hi (by rw [← c3]; exact hq) (Or.inr hz)) (fun a ha => zE_sI a ha)) h (zfix.sI (zsh_lt hi))
end ZST
end
section
section ZON
variable {p : Program} {l : Launch} {e : Env} {R : Room} {s : State} {m : MethodId} {args : Array Value} {below : List Frame} {meth : Method} {c : Code} {Fin : State → Prop} {cells slots : Nat} {D : va_G} {cA : Nat → ClassId} {ad : Nat → Nat} {A : Nat → Prop} {y d : Nat}
theorem zone_push (C : zCx p s m args c R cells slots D cA y d) {v : Value} {i : Instr} {len pc : Nat} (hdg : decode (zMd y).2.1 pc = .ok (i, len)) (hc : zchk (zMd y).2.2.2.2.1 (.inl v) i len = true)
    {st : List Value} {H : Heap} {locs : List Loc} {sl : Array Slot} (kk : W p l e R s m args below meth c H locs cells slots Fin (F0 m (pc + len) sl ((v :: st).map (zv ad)))) : W p l e R s m args below meth c H locs cells slots Fin (F0 m pc sl (st.map (zv ad))) := by
  obtain ⟨hx, hb, hml, hown, hts, hnw, hK, -⟩ := C
  cases v with
  | int v =>
    cases i with
    | iconst n =>
      have hc : (decide (Int32.ofInt n = v) && Nat.beq len 1) = true := hc
      simp only [Bool.and_eq_true, decide_eq_true_eq] at hc
      obtain rfl := Nat.eq_of_beq_eq_true hc.2
      exact lv_iconst hx hb hdg hc.1 kk
    | bipush n =>
      have hc : (decide ((Int8.ofInt n).toInt32 = v) && Nat.beq len 2) = true := hc
      simp only [Bool.and_eq_true, decide_eq_true_eq] at hc
      obtain rfl := Nat.eq_of_beq_eq_true hc.2
      exact lv_bipush hx hb hdg hc.1 kk
    | sipush n =>
      have hc : (decide ((Int16.ofInt n).toInt32 = v) && Nat.beq len 3) = true := hc
      simp only [Bool.and_eq_true, decide_eq_true_eq] at hc
      obtain rfl := Nat.eq_of_beq_eq_true hc.2
      exact lv_sipush hx hb hdg hc.1 kk
    | ldc idx =>
      have hc : (Nat.beq len 2 && Nat.blt idx 1000 && zKI.any (fun q => Nat.beq q.1 ((zMd y).2.2.2.2.1 * 1000 + idx) && decide (q.2.1 = v))) = true := hc
      rw [Bool.and_eq_true, Bool.and_eq_true] at hc
      obtain rfl := Nat.eq_of_beq_eq_true hc.1.1
      exact lv_ldc hx hb hown (hts _ (zki_ok hc.1.2 hc.2)) hdg kk
    | ldc_w idx =>
      have hc : (Nat.beq len 3 && Nat.blt idx 1000 && zKI.any (fun q => Nat.beq q.1 ((zMd y).2.2.2.2.1 * 1000 + idx) && decide (q.2.1 = v))) = true := hc
      rw [Bool.and_eq_true, Bool.and_eq_true] at hc
      obtain rfl := Nat.eq_of_beq_eq_true hc.1.1
      exact lv_ldcw hx hb hown (hts _ (zki_ok hc.1.2 hc.2)) hdg kk
    | _ => exact absurd hc (by simp [zchk])
  | long v =>
    cases i with
    | lconst n =>
      have hc : (decide (Int64.ofNat n.val = v) && Nat.beq len 1) = true := hc
      simp only [Bool.and_eq_true, decide_eq_true_eq] at hc
      obtain rfl := Nat.eq_of_beq_eq_true hc.2
      exact lv_lconst hx hb hdg hc.1 kk
    | ldc2_w idx =>
      have hc : (Nat.beq len 3 && Nat.blt idx 1000 && zKL.any (fun q => Nat.beq q.1 ((zMd y).2.2.2.2.1 * 1000 + idx) && decide (q.2.1 = v))) = true := hc
      rw [Bool.and_eq_true, Bool.and_eq_true] at hc
      obtain rfl := Nat.eq_of_beq_eq_true hc.1.1
      exact lv_ldc2 hx hb hown (hts _ (zkl_ok hc.1.2 hc.2)) hdg kk
    | _ => exact absurd hc (by simp [zchk])
  | _ => exact absurd hc (by simp [zchk])
set_option maxHeartbeats 4000000 in
theorem zone_ok (C : zCx p s m args c R cells slots D cA y d) {a : zA} {i : Instr} {len pc : Nat} (hdg : decode (zMd y).2.1 pc = .ok (i, len)) (hc : zchk (zMd y).2.2.2.2.1 a i len = true)
    {ls : zL} {st : List Value} {w : zW} {k : zL → List Value → zW → Prop} {H : Heap} {locs : List Loc} {sl : Array Slot} (hk : zone a ls st w k) (hH : zHp D cA ad A w H) (hS : va_S A s.heap H locs) (hX : zXc y ad A s w) (hl : zLR ad ls sl)
    (kk : zKK p l e R s m args below meth c Fin cells slots D cA ad A w ls.length (pc + len) k) : W p l e R s m args below meth c H locs cells slots Fin (F0 m pc sl (st.map (zv ad))) := by
  cases a with
  | inl v => exact zone_push C hdg hc (kk ls (v :: st) w H locs sl hk zfix.rf hH hS hl rfl)
  | inr x =>
    have go : ∀ st', k ls st' w → W p l e R s m args below meth c H locs cells slots Fin (F0 m (pc + len) sl (st'.map (zv ad))) := fun st' h => kk ls st' w H locs sl h zfix.rf hH hS hl rfl
    have go1 : ∀ (j : Nat) (v : Value) (st' : List Value) (sl' : Array Slot), j < ls.length → zfree ls j = true → k (ls.set j (some v)) st' w → lv_has sl' ls.length ((j, zv ad v) :: (zAL ad ls).filter (fun q => !(q.1 == j) && !(q.1 + 1 == j && q.2.category == 2))) → W p l e R s m args below meth c H locs cells slots Fin (F0 m (pc + len) sl' (st'.map (zv ad))) := fun j v st' sl' h1 h2 h3 h4 => kk _ st' w H locs sl' h3 zfix.rf hH hS (zLR.put1 h1 h2 h4) (by simp)
    have go2 : ∀ (j : Nat) (v : Value) (st' : List Value) (sl' : Array Slot), j + 1 < ls.length → zfree ls j = true → k ((ls.set j (some v)).set (j + 1) none) st' w → lv_has sl' ls.length ((j, zv ad v) :: (zAL ad ls).filter (fun q => !(q.1 == j) && (!(q.1 == j + 1) && !(q.1 + 1 == j && q.2.category == 2)))) → W p l e R s m args below meth c H locs cells slots Fin (F0 m (pc + len) sl' (st'.map (zv ad))) := fun j v st' sl' h1 h2 h3 h4 => kk _ st' w H locs sl' h3 zfix.rf hH hS (zLR.put2 h1 h2 h4) (by simp)
    have hhas := hl.has
    obtain ⟨hx, hb, hml, hown, hts, hnw, hK, -⟩ := id C
    cases x <;> dsimp only [zone] at hk <;> try (exact False.elim hk)
    case iload n =>
      obtain ⟨rfl, rfl⟩ := zdec hc
      obtain ⟨v, h1, h2⟩ := zldi_inv hk
      have g := go _ h2; exact lv_iload hx hb hdg (hl.2.2 _ _ h1) g
    case iload_n n =>
      obtain ⟨rfl, rfl⟩ := zdec hc
      obtain ⟨v, h1, h2⟩ := zldi_inv hk
      have g := go _ h2; exact lv_iload_n hx hb hdg rfl (hl.2.2 _ _ h1) g
    case lload n =>
      obtain ⟨rfl, rfl⟩ := zdec hc
      obtain ⟨v, h1, h2⟩ := zldl_inv hk
      have g := go _ h2; exact lv_lload hx hb hdg (hl.2.2 _ _ h1) g
    case lload_n n =>
      obtain ⟨rfl, rfl⟩ := zdec hc
      obtain ⟨v, h1, h2⟩ := zldl_inv hk
      have g := go _ h2; exact lv_lload_n hx hb hdg rfl (hl.2.2 _ _ h1) g
    case aload n =>
      obtain ⟨rfl, rfl⟩ := zdec hc
      obtain ⟨v, h1, h2⟩ := zlda_inv hk
      have g := go _ h2; exact lv_aload hx hb hdg (hl.2.2 _ _ h1) g
    case aload_n n =>
      obtain ⟨rfl, rfl⟩ := zdec hc
      obtain ⟨v, h1, h2⟩ := zlda_inv hk
      have g := go _ h2; exact lv_aload_n hx hb hdg rfl (hl.2.2 _ _ h1) g
    case istore n =>
      obtain ⟨rfl, rfl⟩ := zdec hc
      obtain ⟨v, r, rfl, h1, h2, h3⟩ := zsti_inv hk
      exact lv_istore hx hb hdg hhas h1 rfl (fun sl' h => go1 _ (.int v) r sl' h1 h2 h3 h)
    case istore_n n =>
      obtain ⟨rfl, rfl⟩ := zdec hc
      obtain ⟨v, r, rfl, h1, h2, h3⟩ := zsti_inv hk
      exact lv_istore_n hx hb hdg rfl hhas h1 rfl (fun sl' h => go1 _ (.int v) r sl' h1 h2 h3 h)
    case lstore n =>
      obtain ⟨rfl, rfl⟩ := zdec hc
      obtain ⟨v, r, rfl, h1, h2, h3⟩ := zstl_inv hk
      exact lv_lstore hx hb hdg hhas h1 rfl (fun sl' h => go2 _ (.long v) r sl' h1 h2 h3 h)
    case lstore_n n =>
      obtain ⟨rfl, rfl⟩ := zdec hc
      obtain ⟨v, r, rfl, h1, h2, h3⟩ := zstl_inv hk
      exact lv_lstore_n hx hb hdg rfl hhas h1 rfl (fun sl' h => go2 _ (.long v) r sl' h1 h2 h3 h)
    case astore n =>
      obtain ⟨rfl, rfl⟩ := zdec hc
      obtain ⟨v, r, rfl, h1, h2, h3⟩ := zsta_inv hk
      exact lv_astore hx hb hdg hhas h1 rfl (fun sl' h => go1 _ (.ref v) r sl' h1 h2 h3 h)
    case astore_n n =>
      obtain ⟨rfl, rfl⟩ := zdec hc
      obtain ⟨v, r, rfl, h1, h2, h3⟩ := zsta_inv hk
      exact lv_astore_n hx hb hdg rfl hhas h1 rfl (fun sl' h => go1 _ (.ref v) r sl' h1 h2 h3 h)
    case iinc n cst =>
      obtain ⟨rfl, rfl⟩ := zdec hc
      obtain ⟨v, h0, h1, h2, h3⟩ := zinc_inv hk
      obtain ⟨q, hq⟩ := List.getElem?_of_mem (zAL_mem (ad := ad) h0)
      exact lv_iinc hx hb hdg hhas (k := q) hq rfl h1 rfl (fun sl' h => go1 _ (.int (v + Int32.ofInt cst)) st sl' h1 h2 h3 h)
    case iadd => obtain ⟨rfl, rfl⟩ := zdec hc; obtain ⟨_, _, _, rfl, h⟩ := zii_inv hk; have g := go _ h; exact lv_iadd hx hb hdg g
    case isub => obtain ⟨rfl, rfl⟩ := zdec hc; obtain ⟨_, _, _, rfl, h⟩ := zii_inv hk; have g := go _ h; exact lv_isub hx hb hdg g
    case imul => obtain ⟨rfl, rfl⟩ := zdec hc; obtain ⟨_, _, _, rfl, h⟩ := zii_inv hk; have g := go _ h; exact lv_imul hx hb hdg g
    case iand => obtain ⟨rfl, rfl⟩ := zdec hc; obtain ⟨_, _, _, rfl, h⟩ := zii_inv hk; have g := go _ h; exact lv_iand hx hb hdg g
    case ior => obtain ⟨rfl, rfl⟩ := zdec hc; obtain ⟨_, _, _, rfl, h⟩ := zii_inv hk; have g := go _ h; exact lv_ior hx hb hdg g
    case ishl => obtain ⟨rfl, rfl⟩ := zdec hc; obtain ⟨_, _, _, rfl, h⟩ := zii_inv hk; have g := go _ h; exact lv_ishl hx hb hdg g
    case ishr => obtain ⟨rfl, rfl⟩ := zdec hc; obtain ⟨_, _, _, rfl, h⟩ := zii_inv hk; have g := go _ h; exact lv_ishr hx hb hdg g
    case idiv => obtain ⟨rfl, rfl⟩ := zdec hc; obtain ⟨_, _, _, rfl, h0, h⟩ := zid_inv hk; have g := go _ h; exact lv_idiv hx hb hdg h0 g
    case irem => obtain ⟨rfl, rfl⟩ := zdec hc; obtain ⟨_, _, _, rfl, h0, h⟩ := zid_inv hk; have g := go _ h; exact lv_irem hx hb hdg h0 g
    case ineg => obtain ⟨rfl, rfl⟩ := zdec hc; obtain ⟨_, _, rfl, h⟩ := zui_inv hk; have g := go _ h; exact lv_ineg hx hb hdg g
    case ladd => obtain ⟨rfl, rfl⟩ := zdec hc; obtain ⟨_, _, _, rfl, h⟩ := zll_inv hk; have g := go _ h; exact lv_ladd hx hb hdg g
    case lsub => obtain ⟨rfl, rfl⟩ := zdec hc; obtain ⟨_, _, _, rfl, h⟩ := zll_inv hk; have g := go _ h; exact lv_lsub hx hb hdg g
    case lmul => obtain ⟨rfl, rfl⟩ := zdec hc; obtain ⟨_, _, _, rfl, h⟩ := zll_inv hk; have g := go _ h; exact lv_lmul hx hb hdg g
    case land => obtain ⟨rfl, rfl⟩ := zdec hc; obtain ⟨_, _, _, rfl, h⟩ := zll_inv hk; have g := go _ h; exact lv_land hx hb hdg g
    case lor => obtain ⟨rfl, rfl⟩ := zdec hc; obtain ⟨_, _, _, rfl, h⟩ := zll_inv hk; have g := go _ h; exact lv_lor hx hb hdg g
    case lxor => obtain ⟨rfl, rfl⟩ := zdec hc; obtain ⟨_, _, _, rfl, h⟩ := zll_inv hk; have g := go _ h; exact lv_lxor hx hb hdg g
    case lcmp => obtain ⟨rfl, rfl⟩ := zdec hc; obtain ⟨_, _, _, rfl, h⟩ := zll_inv hk; have g := go _ h; exact W.lcmp hx hb hdg g
    case lneg => obtain ⟨rfl, rfl⟩ := zdec hc; obtain ⟨_, _, rfl, h⟩ := zul_inv hk; have g := go _ h; exact lv_lneg hx hb hdg g
    case lshl => obtain ⟨rfl, rfl⟩ := zdec hc; obtain ⟨_, _, _, rfl, h⟩ := zls_inv hk; have g := go _ h; exact lv_lshl hx hb hdg rfl g
    case lshr => obtain ⟨rfl, rfl⟩ := zdec hc; obtain ⟨_, _, _, rfl, h⟩ := zls_inv hk; have g := go _ h; exact lv_lshr hx hb hdg rfl g
    case lushr => obtain ⟨rfl, rfl⟩ := zdec hc; obtain ⟨_, _, _, rfl, h⟩ := zls_inv hk; have g := go _ h; exact lv_lushr hx hb hdg rfl g
    case i2l => obtain ⟨rfl, rfl⟩ := zdec hc; obtain ⟨_, _, rfl, h⟩ := zui_inv hk; have g := go _ h; exact lv_i2l hx hb hdg rfl g
    case l2i => obtain ⟨rfl, rfl⟩ := zdec hc; obtain ⟨_, _, rfl, h⟩ := zul_inv hk; have g := go _ h; exact lv_l2i hx hb hdg rfl g
    case i2b => obtain ⟨rfl, rfl⟩ := zdec hc; obtain ⟨_, _, rfl, h⟩ := zui_inv hk; have g := go _ h; exact lv_i2b hx hb hdg rfl g
    case i2s => obtain ⟨rfl, rfl⟩ := zdec hc; obtain ⟨_, _, rfl, h⟩ := zui_inv hk; have g := go _ h; exact lv_i2s hx hb hdg rfl g
    case i2c => obtain ⟨rfl, rfl⟩ := zdec hc; obtain ⟨_, _, rfl, h⟩ := zui_inv hk; have g := go _ h; exact lv_i2c hx hb hdg rfl g
    case dup =>
      obtain ⟨rfl, rfl⟩ := zdec hc
      have hk : zdup st (fun r => k ls r w) := hk
      unfold zdup at hk
      split at hk
      · have g := go _ hk; exact lv_dup hx hb hdg rfl g
      · have g := go _ hk; exact lv_dup hx hb hdg rfl g
      · exact hk.elim
    case dup2 =>
      obtain ⟨rfl, rfl⟩ := zdec hc
      have hk : zdup2 st (fun r => k ls r w) := hk
      unfold zdup2 at hk
      split at hk
      · have g := go _ hk; exact lv_dup2_2 hx hb hdg rfl g
      · have g := go _ hk; exact lv_dup2_11 hx hb hdg rfl rfl g
      · exact hk.elim
    case pop =>
      obtain ⟨rfl, rfl⟩ := zdec hc
      have hk : zpop st (fun r => k ls r w) := hk
      unfold zpop at hk
      split at hk
      · have g := go _ hk; exact lv_pop hx hb hdg rfl g
      · exact hk.elim
    case invokeinterface ci q =>
      cases i <;> try (exact absurd (show false = true from hc) Bool.false_ne_true)
      case getfield idx =>
        obtain ⟨o, r, v, rfl, h1, h2, h3⟩ := zget_inv ad hk
        have g := go _ h3; exact zone_get C hdg hc h1 h2 hH g
    case multianewarray ci q =>
      cases i <;> try (exact absurd (show false = true from hc) Bool.false_ne_true)
      case putfield idx => exact zone_put C hdg hc hk hH hS hl kk
    case iaload =>
      obtain ⟨rfl, rfl⟩ := zdec hc
      obtain ⟨j, o, r, rfl, h1, h2, h3⟩ := zald_inv hk
      have g := go _ h3; exact va_iald hx hb hK hH.1 o 0 (f := w.1 o) (by rw [zws_at (zsh_lt h1), zE_ar h1]; rfl) rfl h2 hdg g
    case caload =>
      obtain ⟨rfl, rfl⟩ := zdec hc
      obtain ⟨j, o, r, rfl, h1, h2, h3⟩ := zald_inv hk
      have g := go _ h3; exact va_cald hx hb hK hH.1 o 2 (f := w.1 o) (by rw [zws_at (zsh_lt h1), zE_ar h1]; rfl) rfl h2 hdg g
    case laload =>
      obtain ⟨rfl, rfl⟩ := zdec hc
      obtain ⟨j, o, r, rfl, h1, h2, h3⟩ := zaldl_inv hk
      have g := go _ h3; exact va_lald hx hb hK hH.1 o 1 (f := w.2 o) (by rw [zws_at (zsh_lt h1), zE_ar h1]; rfl) rfl h2 hdg g
    case aaload =>
      obtain ⟨rfl, rfl⟩ := zdec hc
      obtain ⟨j, o, r, rfl, h1, h2, h3⟩ := zalda_inv hk
      have g := go _ h3; exact va_aldq hx hb hK hH.1 o 3 (f := fun j => some (ad (zre o j))) (by rw [zws_at (zsh_lt h1), zE_ar h1]; rfl) rfl h2 hdg g
    case iastore =>
      obtain ⟨rfl, rfl⟩ := zdec hc
      obtain ⟨v, j, o, r, rfl, h1, h2, h3⟩ := zast_inv hk
      refine va_iast hx hb hK hH.1 hH.2 hS o 0 (f := w.1 o) (by rw [zws_at (zsh_lt h1), zE_ar h1]; rfl) rfl h2 hdg (fun H1 locs1 a1 a2 a3 => ?_)
      have e := zws_set (ad := ad) (cA := cA) (w := w) (w' := sI w o j.toNatClampNeg v) (zsh_lt h1) (zE_aI h1 (Or.inl rfl)) (fun a ha => zE_sI a ha)
      rw [e] at a1 a2
      exact kk ls r _ H1 locs1 sl h3 (zfix.sI (zsh_lt h1)) ⟨a1, a2⟩ a3 hl rfl
    case castore =>
      obtain ⟨rfl, rfl⟩ := zdec hc
      obtain ⟨v, j, o, r, rfl, h1, h2, h3⟩ := zastc_inv hk
      refine va_cast hx hb hK hH.1 hH.2 hS o 2 (f := w.1 o) (by rw [zws_at (zsh_lt h1), zE_ar h1]; rfl) rfl h2 hdg (fun H1 locs1 a1 a2 a3 => ?_)
      have e := zws_set (ad := ad) (cA := cA) (w := w) (w' := sI w o j.toNatClampNeg (vp_nar .char v)) (zsh_lt h1) (zE_aI h1 (Or.inr rfl)) (fun a ha => zE_sI a ha)
      rw [e] at a1 a2
      exact kk ls r _ H1 locs1 sl h3 (zfix.sI (zsh_lt h1)) ⟨a1, a2⟩ a3 hl rfl
    case lastore =>
      obtain ⟨rfl, rfl⟩ := zdec hc
      obtain ⟨v, j, o, r, rfl, h1, h2, h3⟩ := zastl_inv hk
      refine va_last hx hb hK hH.1 hH.2 hS o 1 (f := w.2 o) (by rw [zws_at (zsh_lt h1), zE_ar h1]; rfl) rfl h2 hdg (fun H1 locs1 a1 a2 a3 => ?_)
      have e := zws_set (ad := ad) (cA := cA) (w := w) (w' := sL w o j.toNatClampNeg v) (zsh_lt h1) (zE_aL h1) (fun a ha => zE_sL a ha)
      rw [e] at a1 a2
      exact kk ls r _ H1 locs1 sl h3 zfix.sL ⟨a1, a2⟩ a3 hl rfl
    case arraylength =>
      obtain ⟨rfl, rfl⟩ := zdec hc
      obtain ⟨o, r, rfl, h1, h3⟩ := zalen_inv hk
      have g := go _ h3; exact va_alen hx hb hK hH.1 o 0 (x := (zln o, .inl (w.1 o))) (cA := cA 0) (by rw [zws_at (zsh_lt h1), zE_ar h1]; rfl) (ty := .int) rfl rfl hdg g
    case faload =>
      have hc : (Nat.beq (zMd y).2.2.2.2.1 9 && decide (i = .iaload) && Nat.beq len 1) = true := hc
      rw [Bool.and_eq_true, Bool.and_eq_true, decide_eq_true_eq] at hc
      obtain rfl := Nat.eq_of_beq_eq_true hc.2
      obtain rfl := hc.1.2
      obtain ⟨j, r, rfl, h2, h3⟩ := zscr_inv hk
      obtain ⟨L, xs, x1, x2, x3, x4, x5, x6⟩ := hX (Nat.eq_of_beq_eq_true hc.1.1)
      have hL : (gI w 44 0).toNatClampNeg = L := by
        show (w.1 44 0).toNatClampNeg = L
        rw [x5]
        exact nI_clamp x4
      rw [hL] at h2
      have hjl : j.toNatClampNeg < L := Nat.not_le.mp fun q => h2 (Or.inr q)
      refine va_sld hx hb x1 x2 x3 hS h2 hdg ?_
      have := go _ h3
      unfold gI at this
      rw [x6 _ hjl] at this
      exact this
    case monitorenter =>
      have hc : (Nat.beq (zMd y).2.2.2.2.1 9 && decide (i = .arraylength) && Nat.beq len 1) = true := hc
      rw [Bool.and_eq_true, Bool.and_eq_true, decide_eq_true_eq] at hc
      obtain rfl := Nat.eq_of_beq_eq_true hc.2
      obtain rfl := hc.1.2
      obtain ⟨r, rfl, h3⟩ := zscl_inv hk
      obtain ⟨L, xs, x1, x2, x3, x4, x5, x6⟩ := hX (Nat.eq_of_beq_eq_true hc.1.1)
      refine va_slen hx hb x1 x2 x3 hS hdg ?_
      have := go _ h3
      unfold gI at this
      rw [x5] at this
      exact this
end ZON
end
section
/-! ===== blocks, calls, the machine ===== -/
theorem zzip {α β : Type} : ∀ {a : List α} {b : List β}, a.length = b.length → ∀ q ∈ a, ∃ p, (q, p) ∈ a.zip b
  | [], _, _, q, h => absurd h List.not_mem_nil
  | x :: a, [], h, _, _ => by simp at h
  | x :: a, y :: b, h, q, hq => by
    rcases List.mem_cons.mp hq with rfl | hq
    · exact ⟨y, by simp⟩
    · obtain ⟨p, hp⟩ := zzip (by simpa using h) q hq
      exact ⟨p, by simp [hp]⟩
def zmF (q : zI) : Prop := Cond.code q.1 q.2.1 q.2.2.1 q.2.2.2.1 ∈ zAW ∧ Cond.initialized q.1.cls ∈ zAW ∧ q.1.cls = zcn q.2.2.2.2.1 ∧ plainName q.1.cls = true ∧ (q.2.2.2.2.2.1 = true → Cond.static q.1 ∈ zAW) ∧ (q.2.2.2.2.2.1 = false → Cond.instanceMethod q.1 ∈ zAW ∧ Cond.selects q.1.cls q.1 q.1 ∈ zAW) ∧ (parseMethodDescriptor q.1.desc).map (fun d => d.parameters.length + (match q.2.2.2.2.2.1 with | true => 0 | false => 1)) = some q.2.2.2.2.2.2
theorem zmF_of {a : List zI} {b : List zM4} (hl : a.length = b.length) (h1 : (a.zip b).map (fun q => some (zMw q.1).1) = (a.zip b).map (fun q => zat q.2.1)) (h2 : (a.zip b).map (fun q => some (zMw q.1).2.1) = (a.zip b).map (fun q => zat q.2.2.1))
    (h3 : (a.zip b).map (fun q => some (zMw q.1).2.2.1) = (a.zip b).map (fun q => zat q.2.2.2.1)) (h4 : (a.zip b).map (fun q => match q.1.2.2.2.2.2.1 with | true => none | false => some (zMw q.1).2.2.2) = (a.zip b).map (fun q => match q.1.2.2.2.2.2.1 with | true => none | false => zat q.2.2.2.2)) (hk : a.all zMc = true) : ∀ q ∈ a, zmF q := by
  intro q hq
  obtain ⟨p, hp⟩ := zzip hl q hq
  have e1 := zmap h1 _ hp
  have e2 := zmap h2 _ hp
  have e3 := zmap h3 _ hp
  have e4 := zmap h4 _ hp
  have e5 := List.all_eq_true.mp hk q hq
  unfold zMc at e5
  simp only [Bool.and_eq_true, decide_eq_true_eq] at e5
  dsimp only [zMw] at e1 e2 e3 e4
  refine ⟨zAW_in e1 rfl, zAW_in e2 rfl, e5.1.1, e5.1.2, fun hs => ?_, fun hs => ?_, e5.2⟩
  · rw [hs] at e3
    exact zAW_in e3 rfl
  · rw [hs] at e3 e4
    exact ⟨zAW_in e3 rfl, zAW_in e4 rfl⟩
theorem zmF_at {z : Nat} (h : z < 186) : zmF (zMd z) := by
  have hm : zMd z ∈ zMI_0 ++ (zMI_1 ++ (zMI_2 ++ (zMI_3 ++ (zMI_4 ++ (zMI_5 ++ zMI_6))))) := by
    have hl : (zMI_0 ++ (zMI_1 ++ (zMI_2 ++ (zMI_3 ++ (zMI_4 ++ (zMI_5 ++ zMI_6)))))).length = 186 := by decide +kernel
    have hz : z < (zMI_0 ++ (zMI_1 ++ (zMI_2 ++ (zMI_3 ++ (zMI_4 ++ (zMI_5 ++ zMI_6)))))).length := by omega
    unfold zMd zMI
    rw [List.getD_eq_getElem?_getD, List.getElem?_append_left hz, List.getElem?_eq_getElem hz]
    exact List.getElem_mem hz
  simp only [List.mem_append] at hm
  rcases hm with h | h | h | h | h | h | h
  · exact zmF_of zMI_l0 zMI_a0 zMI_b0 zMI_c0 zMI_d0 zMI_k0 _ h
  · exact zmF_of zMI_l1 zMI_a1 zMI_b1 zMI_c1 zMI_d1 zMI_k1 _ h
  · exact zmF_of zMI_l2 zMI_a2 zMI_b2 zMI_c2 zMI_d2 zMI_k2 _ h
  · exact zmF_of zMI_l3 zMI_a3 zMI_b3 zMI_c3 zMI_d3 zMI_k3 _ h
  · exact zmF_of zMI_l4 zMI_a4 zMI_b4 zMI_c4 zMI_d4 zMI_k4 _ h
  · exact zmF_of zMI_l5 zMI_a5 zMI_b5 zMI_c5 zMI_d5 zMI_k5 _ h
  · exact zmF_of zMI_l6 zMI_a6 zMI_b6 zMI_c6 zMI_d6 zMI_k6 _ h
theorem zml_ok {own idx z : Nat} (h2 : Nat.blt idx 1000 = true) (h : zML.any (fun q => Nat.beq q.1 (own * 1000 + idx) && Nat.beq q.2.1 z) = true) : z < 186 ∧ (Cond.methodLink (zcn own) idx (zMd z).1 ∈ zAW ∨ Cond.methodLinkNest (zcn own) idx (zMd z).1 RX5 ∈ zNW) := by
  simp only [Bool.and_eq_true, List.any_eq_true] at h
  obtain ⟨q, hq, h3, h4⟩ := h
  have e2 : idx < 1000 := Nat.blt_eq.mp h2
  have e3 := Nat.eq_of_beq_eq_true h3
  have e4 := Nat.eq_of_beq_eq_true h4
  have hw := zmap zML_eq q hq
  have hb := Nat.blt_eq.mp (List.all_eq_true.mp zML_lt q hq)
  obtain ⟨k1, k2⟩ := zkey (own := own) e2
  rw [e4] at hb
  refine ⟨hb, ?_⟩
  unfold zMLw at hw
  rw [e3, e4, k1, k2] at hw
  split at hw
  · exact Or.inl (zAW_in hw rfl)
  · exact Or.inr (zNW_in hw rfl)
theorem zcl_ok {own idx : Nat} (h2 : Nat.blt idx 1000 = true) (h : zCL.any (fun q => Nat.beq q.1 (own * 1000 + idx)) = true) : Cond.methodLink (zcn own) idx arraycopyName ∈ zAW := by
  simp only [List.any_eq_true] at h
  obtain ⟨q, hq, h3⟩ := h
  have e2 : idx < 1000 := Nat.blt_eq.mp h2
  have e3 := Nat.eq_of_beq_eq_true h3
  have hw := zmap zCL_eq q hq
  obtain ⟨k1, k2⟩ := zkey (own := own) e2
  rw [e3, k1, k2] at hw
  exact zAW_in hw rfl
theorem zxl_ok {own idx k : Nat} (h2 : Nat.blt idx 1000 = true) (h : zXL.any (fun q => Nat.beq q.1 (own * 1000 + idx) && Nat.beq q.2.1 k) = true) : Cond.methodLink (zcn own) idx (zXn k) ∈ zAW := by
  simp only [Bool.and_eq_true, List.any_eq_true] at h
  obtain ⟨q, hq, h3, h4⟩ := h
  have e2 : idx < 1000 := Nat.blt_eq.mp h2
  have e3 := Nat.eq_of_beq_eq_true h3
  have e4 := Nat.eq_of_beq_eq_true h4
  have hw := zmap zXL_eq q hq
  obtain ⟨k1, k2⟩ := zkey (own := own) e2
  rw [e3, e4, k1, k2] at hw
  exact zAW_in hw rfl
def zPc (y : Nat) : List Nat := (zPG.getD y []).map (fun B => B.1)
def zRet (y pc : Nat) (r : Option Value) : Prop := match r with
  | none => decode (zMd y).2.1 pc = .ok (.return_, 1) ∧ (zMd y).2.2.2.1 = none
  | some (.int v) => decode (zMd y).2.1 pc = .ok (.ireturn, 1) ∧ ((zMd y).2.2.2.1 = some .int ∨ ((zMd y).2.2.2.1 = some .boolean ∧ (v = 0 ∨ v = 1)))
  | some (.long _) => decode (zMd y).2.1 pc = .ok (.lreturn, 1) ∧ (zMd y).2.2.2.1 = some .long
  | _ => False
/-- the judgement on the machine: whoever runs this block, with this world, comes to its end with Q -/
def zSd (l : Launch) (D : va_G) (cA : Nat → ClassId) (ad : Nat → Nat) : zP := fun d y b ls st w Q =>
  ∀ (p : Program) (e : Env) (R : Room) (s : State) (m : MethodId) (args : Array Value) (below : List Frame) (meth : Method) (c : Code) (A : Nat → Prop) (H : Heap) (locs : List Loc) (cells slots : Nat) (sl : Array Slot) (Fin : State → Prop) (pc : Nat),
    (zPc y)[b]? = some pc → zCx p s m args c R cells slots D cA y d → zHp D cA ad A w H → va_S A s.heap H locs → (∀ q, s.heap.size ≤ q → A q) → zXc y ad A s w → zLR ad ls sl → ls.length = (zMd y).2.2.1 →
    (∀ (r : Option Value) (w' : zW) (H' : Heap) (locs' : List Loc) (pc' : Nat) (sl' : Array Slot), Q r w' → zfix w w' → zHp D cA ad A w' H' → va_S A s.heap H' locs' → zRet y pc' r → W p l e R s m args below meth c H' locs' cells slots Fin (F0 m pc' sl' ((zpush r []).map (zv ad)))) →
    W p l e R s m args below meth c H locs cells slots Fin (F0 m pc sl (st.map (zv ad)))
def zrm2 (d : Nat) : Room := { frames := d, cells := 0, slots := 0, locals := 64 * d }
def zQc (D : va_G) (cA : Nat → ClassId) (ad : Nat → Nat) (w : zW) (A : Nat → Prop) (Q : zQ) : Array Value → State → Outcome → State → Prop := fun _ st oc t =>
  (∃ (r : Option Value) (w' : zW), oc = .returned (r.map (zv ad)) ∧ Q r w' ∧ zfix w w' ∧ va_P D vwCl (zws ad cA w') t.heap ∧ va_K D vwCl (zty cA) t ∧ va_D A (zws ad cA w')) ∧ va_F A st t
def zPre (D : va_G) (cA : Nat → ClassId) (ad : Nat → Nat) (w : zW) (sz : Nat) (U : State) : Prop := U.heap.size = sz ∧ va_P D vwCl (zws ad cA w) U.heap ∧ va_K D vwCl (zty cA) U ∧ va_D (fun _ => True) (zws ad cA w) ∧ ∀ x ∈ zNW, va_Nw x U
theorem zPc_0 {z : Nat} (h : z < 186) : (zPc z)[0]? = some 0 := by
  have : ∀ z, z < 186 → (zPc z)[0]? = some 0 := by decide +kernel
  exact this z h
/-- a method's contract out of its first block -/
theorem zMet {l : Launch} {D : va_G} {cA : Nat → ClassId} {ad : Nat → Nat} {d z sz : Nat} {vs : List Value} {w : zW} {Q : zQ} (hz : z < 186) (hv : (zent1 vs).length ≤ (zMd z).2.2.1) (h : zSd l D cA ad d z 0 (zent vs (zMd z).2.2.1) [] w Q) :
    Met l (zMd z).1 (Cond.code (zMd z).1 (zMd z).2.1 (zMd z).2.2.1 (zMd z).2.2.2.1 :: zAW) (zrm2 d) (va_Pc (vs.map (zv ad)) (zPre D cA ad w sz)) (zQc D cA ad w (va_A (zws ad cA w) sz) Q) 0 0 (va_A (zws ad cA w) sz) := by
  obtain ⟨f1, f2, f3, f4, f5, f6, f7⟩ := zmF_at hz
  have hno9 : ¬ (zMd z).2.2.2.2.1 = 9 := by
    have : ∀ z, z < 186 → ¬ (zMd z).2.2.2.2.1 = 9 := by decide +kernel
    exact this z hz
  refine Met.ofW (cc := (zMd z).2.1) (maxL := (zMd z).2.2.1) (ret := (zMd z).2.2.2.1) f4 rfl ?_
  intro p e s m args below meth c s₁ B hml hv2
  obtain ⟨rfl, hsz, hP, hK, hD0, hN⟩ := hv2
  have hr := B.returns
  have hts := atoms_spec B.pre
  have hown : s.vm.findClass (zMd z).1.cls = some m.cls := findClass_of_methodNamed B.named
  have hlocks := B.notSynchronized
  rw [f3] at hown
  subst hsz
  have hD := hD0.self (sz := s.heap.size)
  rw [lg_entry_eq]
  have hlen : (zent vs (zMd z).2.2.1).length = (zMd z).2.2.1 := by simp [zent]; omega
  refine h p e (zrm2 d) s m (vs.map (zv ad)).toArray below meth c (va_A (zws ad cA w) s.heap.size) s.heap [] 0 0 _ _ 0 (zPc_0 hz) ⟨B.exec, B.bytes, hml, hown, fun x hx => hts x (List.mem_cons_of_mem _ hx), hN, hK, ⟨Nat.le_refl _, Nat.le_refl _⟩, Nat.le_refl _, Nat.le_refl _⟩ ⟨hP, hD⟩ va_S.rf (fun q hq => Or.inr hq) (fun q => absurd q hno9) (zent_LR hv) hlen ?_
  intro r w' H' locs' pc' sl' hQ hfx hH hS hret
  have fin : ∀ t : State, t.heap = H' → s.WarmedH t.vm → zQc D cA ad w (va_A (zws ad cA w) s.heap.size) Q (vs.map (zv ad)).toArray s (.returned (r.map (zv ad))) t := fun t ht hW => ⟨⟨r, w', rfl, hQ, hfx, by rw [ht]; exact hH.1, va_K.moved hW.alike hK, hH.2⟩, hS.F ht⟩
  unfold zRet at hret
  split at hret
  · rw [hret.2] at hr
    exact W.vret B.exec B.bytes hr fin hS.2.2 hret.1
  · rcases hret.2 with e | ⟨e, h01⟩
    · rw [e] at hr
      exact W.iret B.exec B.bytes hr fin hS.2.2 hret.1
    · rw [e] at hr
      exact W.zret B.exec B.bytes hr (zbool_nar h01).1 fin hS.2.2 hret.1
  · rw [hret.2] at hr
    exact W.lret B.exec B.bytes hr fin hS.2.2 hret.1
  · exact hret.elim
end
section
section ZMN
variable {p : Program} {l : Launch} {e : Env} {R : Room} {s : State} {m : MethodId} {args : Array Value} {below : List Frame} {meth : Method} {c : Code} {Fin : State → Prop} {cells slots : Nat} {D : va_G} {cA : Nat → ClassId} {ad : Nat → Nat} {A : Nat → Prop} {y d : Nat}
theorem zPre_blind {w : zW} {sz : Nat} {vs : List Value} : FrameBlind (va_Pc vs (zPre D cA ad w sz)) := by
  intro a U g mk hq
  obtain ⟨q0, q1, qP, qK, qD, qN⟩ := hq
  exact ⟨q0, q1, qP, va_K.moved (u := U) (U := U.calling g mk a) (Vm.Alike.refl U.vm) qK, qD, fun x hx => va_Nw.same (u := U) (U := U.calling g mk a) (by
    have := (List.mem_filter.mp hx).2
    cases x <;> first | rfl | exact absurd (show false = true from this) Bool.false_ne_true) rfl (qN x hx)⟩
theorem zPre_warm {w : zW} {H : Heap} (hN : ∀ x ∈ zNW, va_Nw x s) (hK : va_K D vwCl (zty cA) s) (hH : zHp D cA ad A w H) (U : State) (hU : U.heap = H) (hW : s.WarmedH U.vm) : zPre D cA ad w H.size U := by
  refine ⟨by rw [hU], by rw [hU]; exact hH.1, va_K.moved hW.alike hK, hH.2.weaken (fun _ _ _ _ => trivial), fun x hx => ?_⟩
  have h := (List.mem_filter.mp hx).2
  have h0 := hN x hx
  cases x <;> first | exact absurd (show false = true from h) Bool.false_ne_true | exact va_Nw.warmF hW h0 | exact va_Nw.warmM hW h0
theorem zfreeA {w : zW} {H : Heap} {locs : List Loc} (hH : zHp D cA ad A w H) (hS : va_S A s.heap H locs) (hA : ∀ q, s.heap.size ≤ q → A q) : ∀ q, va_A (zws ad cA w) H.size q → A q := by
  intro q h
  rcases h with ⟨k, e, h⟩ | h
  · exact hH.2.2 k (q, e) h
  · exact hA q (Nat.le_trans hS.1 h)
/-- behind a call -/
theorem zcallR {w : zW} {H : Heap} {locs : List Loc} {pc : Nat} {sl : Array Slot} {st0 rest : List Value} {a : Array Value} {Q' : zQ}
    (hr : va_Run p l e R s m args below meth c H locs cells slots 0 0 (F0 m pc sl st0) (rest.map (zv ad)) (zQc D cA ad w (va_A (zws ad cA w) H.size) Q' a) (va_A (zws ad cA w) H.size)) (hS : va_S A s.heap H locs) (hF : ∀ q, va_A (zws ad cA w) H.size q → A q)
    (kk : ∀ (r : Option Value) (w' : zW) (H1 : Heap) (locs1 : List Loc), Q' r w' → zfix w w' → zHp D cA ad A w' H1 → va_S A s.heap H1 locs1 → W p l e R s m args below meth c H1 locs1 cells slots Fin (F0 m (pc + 3) sl ((zpush r rest).map (zv ad)))) : W p l e R s m args below meth c H locs cells slots Fin (F0 m pc sl st0) := by
  intro T hT X
  obtain ⟨v, st₀, t, T', L, h0, X', hL, e1, e2, ⟨⟨r, w', hv, hq, hfx, hP, -, hD⟩, hz, hk⟩, st⟩ := hr T hT X
  have hv' : v = r.map (zv ad) := by cases hv; rfl
  subst hv'
  rw [h0] at hz hk
  obtain ⟨t2, a1, b1⟩ := kk r w' T'.heap (locs ++ L) hq hfx ⟨by rw [e1]; exact hP, hD.weaken (fun k q _ h => hF _ h)⟩
    ⟨Nat.le_trans hS.1 (by rw [e1]; exact hz), fun q h1 h2 => by rw [e1, hk q (Nat.lt_of_lt_of_le h1 hS.1) (fun z => h2 (hF q z))]; exact hS.2.1 q h1 h2, fun q hq => by
      rcases List.mem_append.mp hq with h | h
      · exact hS.2.2 q h
      · exact hF _ (hL q h)⟩ T' rfl X'
  refine ⟨t2, st t2 ?_, b1⟩
  have e3 : (r.map (zv ad)).toList ++ rest.map (zv ad) = (zpush r rest).map (zv ad) := by cases r <;> rfl
  rw [e3]
  exact a1
theorem zneM {C : String} (h : plainName C = true) (hC : ∃ o, o < 9 ∧ C = zcn o) : C ≠ "java/lang/invoke/MethodHandle" ∧ C ≠ "java/lang/invoke/VarHandle" := by
  obtain ⟨o, ho, rfl⟩ := hC
  have : ∀ o, o < 9 → zcn o ≠ "java/lang/invoke/MethodHandle" ∧ zcn o ≠ "java/lang/invoke/VarHandle" := by decide +kernel
  exact this o ho
theorem zowns {z : Nat} (h : z < 186) : (zMd z).2.2.2.2.1 < 9 ∧ ((zMd z).2.2.2.2.2.1 = false → (zMd z).2.2.2.2.1 < 6) ∧ (zMd z).2.2.1 ≤ 40 := by
  have : ∀ z, z < 186 → (zMd z).2.2.2.2.1 < 9 ∧ ((zMd z).2.2.2.2.2.1 = false → (zMd z).2.2.2.2.1 < 6) ∧ (zMd z).2.2.1 ≤ 40 := by decide +kernel
  exact this z h
set_option maxHeartbeats 4000000 in
theorem zcall_ok {z idx pc pc2 : Nat} {d : Nat} {ls : zL} {st : List Value} {w : zW} {Q : zQ} {H : Heap} {locs : List Loc} {sl : Array Slot} {b : Nat} {i : Instr} (C : zCx p s m args c R cells slots D cA y (d + 1)) (hdg : decode (zMd y).2.1 pc = .ok (i, 3))
    (hi : (i = .invokestatic idx ∧ (zMd z).2.2.2.2.2.1 = true) ∨ (i = .invokevirtual idx ∧ (zMd z).2.2.2.2.2.1 = false)) (hz : z < 186) (hlk : Cond.methodLink (zcn (zMd y).2.2.2.2.1) idx (zMd z).1 ∈ zAW ∨ Cond.methodLinkNest (zcn (zMd y).2.2.2.2.1) idx (zMd z).1 RX5 ∈ zNW) (hpc2 : pc + 3 = pc2) (hb2 : (zPc y)[b]? = some pc2)
    (hH : zHp D cA ad A w H) (hS : va_S A s.heap H locs) (hA : ∀ q, s.heap.size ≤ q → A q) (hX : zXc y ad A s w) (hl : zLR ad ls sl) (hll : ls.length = (zMd y).2.2.1)
    (h1 : (zMd z).2.2.2.2.2.2 ≤ st.length) (h2 : (zent1 (st.take (zMd z).2.2.2.2.2.2).reverse).length ≤ (zMd z).2.2.1) (h3 : zcat (st.drop (zMd z).2.2.2.2.2.2) ≤ 8) (h4 : zrcv (zMd z) (st.take (zMd z).2.2.2.2.2.2).reverse)
    {Q' : zQ} (h5 : zSd l D cA ad d z 0 (zent (st.take (zMd z).2.2.2.2.2.2).reverse (zMd z).2.2.1) [] w Q') (h6 : ∀ r w', Q' r w' → zSd l D cA ad (d + 1) y b ls (zpush r (st.drop (zMd z).2.2.2.2.2.2)) w' Q)
    (hret : ∀ (r : Option Value) (w' : zW) (H' : Heap) (locs' : List Loc) (pc' : Nat) (sl' : Array Slot), Q r w' → zfix w w' → zHp D cA ad A w' H' → va_S A s.heap H' locs' → zRet y pc' r → W p l e R s m args below meth c H' locs' cells slots Fin (F0 m pc' sl' ((zpush r []).map (zv ad)))) :
    W p l e R s m args below meth c H locs cells slots Fin (F0 m pc sl (st.map (zv ad))) := by
  obtain ⟨hx, hb, hml, hown, hts, hnw, hK, hR, hcs⟩ := id C
  obtain ⟨f1, f2, f3, f4, f5, f6, f7⟩ := zmF_at hz
  obtain ⟨o1, o2, o3⟩ := zowns hz
  have hM := zMet (sz := H.size) hz h2 h5
  have hne := zneM f4 ⟨_, o1, f3⟩
  have hF := zfreeA (s := s) hH hS hA
  generalize hn : (zMd z).2.2.2.2.2.2 = n at *
  have hsplit : st.map (zv ad) = ((st.take n).reverse.map (zv ad)).reverse ++ (st.drop n).map (zv ad) := by
    rw [← List.map_reverse, List.reverse_reverse, ← List.map_append, List.take_append_drop]
  have hroom : (zrm2 d).frames + 1 ≤ R.frames ∧ 8 + ((zMd z).2.2.1 + 11) + (zrm2 d).locals ≤ R.locals := by
    constructor
    · exact hR.1
    · have := hR.2
      show 8 + ((zMd z).2.2.1 + 11) + 64 * d ≤ R.locals
      omega
  have hG : GoodIn zAW (Cond.code (zMd z).1 (zMd z).2.1 (zMd z).2.2.1 (zMd z).2.2.2.1 :: zAW) := by
    intro x hx
    rcases List.mem_cons.mp hx with rfl | hx
    · exact ⟨f1, good_of_word (zAW_good _ f1)⟩
    · exact ⟨hx, good_of_word (zAW_good _ hx)⟩
  have hcat : 2 * (F0 m pc sl (st.map (zv ad))).monitorRoom + (((st.drop n).map (zv ad)).map fun v => v.category).sum ≤ 8 := lv_room (by rw [zv_catL]; exact h3)
  have hlen : (st.take n).length = n := by simp; omega
  have hsz : (F0 m pc sl (st.map (zv ad))).locals.size = (zMd y).2.2.1 := by show sl.size = _; rw [hl.1, hll]
  have back : ∀ (r : Option Value) (w' : zW) (H1 : Heap) (locs1 : List Loc), Q' r w' → zfix w w' → zHp D cA ad A w' H1 → va_S A s.heap H1 locs1 → W p l e R s m args below meth c H1 locs1 cells slots Fin (F0 m (pc + 3) sl ((zpush r (st.drop n)).map (zv ad))) := by
    intro r w' H1 locs1 hq hfx hH1 hS1
    rw [hpc2]
    exact h6 r w' hq p e R s m args below meth c A H1 locs1 cells slots sl Fin pc2 hb2 C hH1 hS1 hA (hX.fix hfx) hl hll (fun r2 w2 H2 locs2 pc' sl' a1 a2 a3 a4 a5 => hret r2 w2 H2 locs2 pc' sl' a1 (hfx.tr a2) a3 a4 a5)
  have hcells : cells + 0 ≤ R.cells ∧ slots + 0 ≤ R.slots := hcs
  have hini := hts _ f2
  rcases hi with ⟨rfl, hst⟩ | ⟨rfl, hst⟩
  · rw [hst] at f7
    have hd : (parseMethodDescriptor (zMd z).1.desc).map (fun d => d.parameters.length) = some n := f7
    have hAs : ((st.take n).reverse.map (zv ad)).length = n := by simp; omega
    rcases hlk with hlk | hlk
    · refine zcallR (va_runS (As := (st.take n).reverse.map (zv ad)) (rest := (st.drop n).map (zv ad)) ⟨hx, hb, hml, hown, hts⟩ hM ⟨callB_of n hts hG rfl rfl rfl hini (hts _ hlk) ⟨hne.1, hne.2, hd⟩ hroom, hts _ (f5 hst)⟩ ⟨zPre_blind, fun U hU hW => ⟨rfl, zPre_warm hnw hK hH U hU hW⟩⟩ rfl hAs hsz hsplit hcat hdg hcells) hS hF back
    · refine zcallR (va_runSN (As := (st.take n).reverse.map (zv ad)) (rest := (st.drop n).map (zv ad)) ⟨hx, hb, hml, hown, hts⟩ hM ⟨va_cnB n hts hG rfl rfl rfl (hnw _ hlk) hini ⟨hne.1, hne.2, hd⟩ hroom, hts _ (f5 hst), trivial⟩ ⟨zPre_blind, fun U hU hW => ⟨rfl, zPre_warm hnw hK hH U hU hW⟩⟩ rfl hAs hsz hsplit hcat hdg hcells) hS hF back
  · rw [hst] at f7
    unfold zrcv at h4
    rw [hst] at h4
    dsimp only at h4
    split at h4
    · rename_i o As hAsE
      have hn1 : n = As.length + 1 := by
        have : (st.take n).reverse.length = As.length + 1 := by rw [hAsE]; rfl
        simp at this
        omega
      have hd : (parseMethodDescriptor (zMd z).1.desc).map (fun d => d.parameters.length) = some As.length := by
        cases hp : parseMethodDescriptor (zMd z).1.desc with
        | none => rw [hp] at f7; cases f7
        | some dd =>
          rw [hp] at f7
          have e1 : dd.parameters.length + 1 = n := Option.some.inj f7
          show some dd.parameters.length = some As.length
          congr 1
          omega
      have hrec : ∃ cell : Cell, H[ad o]? = some cell ∧ cell.vm.isStatics = false ∧ s.vm.findClass (zMd z).1.cls = some cell.cls := by
        have hat : (zws ad cA w)[o]? = some (ad o, .inr ((zMd z).2.2.2.2.1, (List.range (zNs.getD (zMd z).2.2.2.2.1 0)).map (zfv ad w o (zMd z).2.2.2.2.1))) := by rw [zws_at (zsh_lt h4), zE_is h4]
        obtain ⟨cell, g1, g2, g3⟩ := va_recv hK hH.1 (zclsA (o2 hst)).1 hat
        exact ⟨cell, g1, g2, by rw [f3]; exact g3⟩
      have hAs : (As.map (zv ad)).length = As.length := by simp
      have hsplit2 : st.map (zv ad) = (As.map (zv ad)).reverse ++ .ref (ad o) :: (st.drop n).map (zv ad) := by
        rw [hsplit, hAsE]
        simp [zv]
      rw [hAsE] at hM
      rcases hlk with hlk | hlk
      · refine zcallR (va_runV (As := As.map (zv ad)) (rest := (st.drop n).map (zv ad)) (b := ad o) ⟨hx, hb, hml, hown, hts⟩ hM ⟨callB_of As.length hts hG rfl rfl rfl hini (hts _ hlk) ⟨hne.1, hne.2, hd⟩ hroom, hts _ (f6 hst).1, hts _ (f6 hst).2⟩ ⟨zPre_blind, hrec, fun U hU hW => ⟨rfl, zPre_warm hnw hK hH U hU hW⟩⟩ rfl hAs hsz hsplit2 hcat hdg hcells) hS hF back
      · refine zcallR (va_runVN (As := As.map (zv ad)) (rest := (st.drop n).map (zv ad)) (b := ad o) ⟨hx, hb, hml, hown, hts⟩ hM ⟨va_cnB As.length hts hG rfl rfl rfl (hnw _ hlk) hini ⟨hne.1, hne.2, hd⟩ hroom, hts _ (f6 hst).1, hts _ (f6 hst).2⟩ ⟨zPre_blind, hrec, fun U hU hW => ⟨rfl, zPre_warm hnw hK hH U hU hW⟩⟩ rfl hAs hsz hsplit2 hcat hdg hcells) hS hF back
    · exact h4.elim
end ZMN
section ZTM
variable {p : Program} {l : Launch} {e : Env} {R : Room} {s : State} {m : MethodId} {args : Array Value} {below : List Frame} {meth : Method} {c : Code} {Fin : State → Prop} {cells slots : Nat} {D : va_G} {cA : Nat → ClassId} {ad : Nat → Nat} {A : Nat → Prop} {y d : Nat}
theorem zretk0 {st : List Value} {w : zW} {Q : zQ} (h : zretk 0 st w Q) : st = [] ∧ Q none w := by
  cases st with
  | nil => exact ⟨rfl, h⟩
  | cons a t => exact False.elim h
theorem zretk1 {st : List Value} {w : zW} {Q : zQ} (h : zretk 1 st w Q) : ∃ v, st = [.int v] ∧ Q (some (.int v)) w := by
  cases st with
  | nil => exact False.elim h
  | cons a t =>
    cases t with
    | nil => cases a <;> first | exact False.elim h | exact ⟨_, rfl, h⟩
    | cons b t => cases a <;> exact False.elim h
theorem zretk2 {st : List Value} {w : zW} {Q : zQ} (h : zretk 2 st w Q) : ∃ v, st = [.long v] ∧ Q (some (.long v)) w := by
  cases st with
  | nil => exact False.elim h
  | cons a t =>
    cases t with
    | nil => cases a <;> first | exact False.elim h | exact ⟨_, rfl, h⟩
    | cons b t => cases a <;> exact False.elim h
theorem zretk3 {st : List Value} {w : zW} {Q : zQ} (h : zretk 3 st w Q) : ∃ v, st = [.int v] ∧ (v = 0 ∨ v = 1) ∧ Q (some (.int v)) w := by
  cases st with
  | nil => exact False.elim h
  | cons a t =>
    cases t with
    | nil => cases a <;> first | exact False.elim h | exact ⟨_, rfl, h⟩
    | cons b t => cases a <;> exact False.elim h
theorem zpcIs_ok {pcs : List Nat} {b : Nat} {t : Int} (h : zpcIs pcs b t = true) : ∃ q : Nat, pcs[b]? = some q ∧ t = (q : Int) := by
  unfold zpcIs at h
  split at h
  · rename_i q hq
    exact ⟨q, hq, of_decide_eq_true h⟩
  · cases h
theorem zsw_inv {x : Int32} {k : Nat → Prop} {df : Nat} : ∀ {cs : List (Int32 × Nat)}, zsw x k df cs → (∃ (j : Nat) (q : Int32 × Nat), cs[j]? = some q ∧ x = q.1 ∧ (∀ (i : Nat) (q' : Int32 × Nat), i < j → cs[i]? = some q' → ¬ x = q'.1) ∧ k q.2) ∨ ((∀ (j : Nat) (q : Int32 × Nat), cs[j]? = some q → ¬ x = q.1) ∧ k df)
  | [], h => Or.inr ⟨fun j q hq => by simp at hq, h⟩
  | q :: r, h => by
    by_cases e : x = q.1
    · exact Or.inl ⟨0, q, rfl, e, fun i q' hi => absurd hi (by omega), h.1 e⟩
    · rcases zsw_inv (h.2 e) with ⟨j, q', h1, h2, h4, h3⟩ | ⟨h1, h2⟩
      · refine Or.inl ⟨j + 1, q', h1, h2, fun i q2 hi hq2 => ?_, h3⟩
        cases i with
        | zero =>
          rw [List.getElem?_cons_zero] at hq2
          cases hq2
          exact e
        | succ i => exact h4 i q2 (by omega) hq2
      · refine Or.inr ⟨fun j q' hq => ?_, h2⟩
        cases j with
        | zero =>
          rw [List.getElem?_cons_zero] at hq
          cases hq
          exact e
        | succ j => exact h1 j q' hq
theorem zlsk_ok {pcs : List Nat} {pc : Nat} {x : Int32} {dflt : Int} : ∀ {cs : List (Int32 × Nat)} {ps : List (Int × Int)}, zlsk pcs pc cs ps = true →
    (∀ (j : Nat) (q : Int32 × Nat), cs[j]? = some q → x = q.1 → (∀ (i : Nat) (q' : Int32 × Nat), i < j → cs[i]? = some q' → ¬ x = q'.1) → ∃ off, Op.lookupswitch.offset ps dflt x.toInt = off ∧ zpcIs pcs q.2 ((pc : Int) + off) = true) ∧
    ((∀ (j : Nat) (q : Int32 × Nat), cs[j]? = some q → ¬ x = q.1) → Op.lookupswitch.offset ps dflt x.toInt = dflt)
  | [], [], _ => ⟨fun j q hq => by simp at hq, fun _ => rfl⟩
  | [], _ :: _, h => by simp [zlsk] at h
  | _ :: _, [], h => by simp [zlsk] at h
  | q :: r, (a, o) :: t, h => by
    have h : (decide (q.1.toInt = a) && zpcIs pcs q.2 ((pc : Int) + o) && zlsk pcs pc r t) = true := h
    simp only [Bool.and_eq_true, decide_eq_true_eq] at h
    obtain ⟨⟨h1, h2⟩, h3⟩ := h
    obtain ⟨i1, i2⟩ := zlsk_ok (x := x) (dflt := dflt) h3
    have ne : ¬ x = q.1 → Op.lookupswitch.offset ((a, o) :: t) dflt x.toInt = Op.lookupswitch.offset t dflt x.toInt := fun e => lv_osw e h1
    refine ⟨fun j q' hq e hj => ?_, fun hn => ?_⟩
    · cases j with
      | zero =>
        rw [List.getElem?_cons_zero] at hq
        cases hq
        refine ⟨o, ?_, h2⟩
        have : x.toInt = a := by rw [e]; exact h1
        simp [Op.lookupswitch.offset, this]
      | succ j =>
        rw [ne (hj 0 q (by omega) rfl)]
        exact i1 j q' hq e (fun i q2 hi hq2 => hj (i + 1) q2 (by omega) hq2)
    · rw [ne (hn 0 q rfl)]
      exact i2 (fun j q' hq => hn (j + 1) q' hq)
set_option maxHeartbeats 4000000 in
theorem zterm_ok {pc len : Nat} {t : zT} {i : Instr} {ls : zL} {st : List Value} {w : zW} {Q : zQ} {H : Heap} {locs : List Loc} {sl : Array Slot} (C : zCx p s m args c R cells slots D cA y d) (hdg : decode (zMd y).2.1 pc = .ok (i, len))
    (hc : zchkT (zMd y).2.2.2.2.1 (zMd y).2.2.2.1 (zPc y) pc t i len = true)
    (hH : zHp D cA ad A w H) (hS : va_S A s.heap H locs) (hA : ∀ q, s.heap.size ≤ q → A q) (hX : zXc y ad A s w) (hl : zLR ad ls sl) (hll : ls.length = (zMd y).2.2.1)
    (hk : zterm zMI t d y ls st w Q (zSd l D cA ad))
    (hret : ∀ (r : Option Value) (w' : zW) (H' : Heap) (locs' : List Loc) (pc' : Nat) (sl' : Array Slot), Q r w' → zfix w w' → zHp D cA ad A w' H' → va_S A s.heap H' locs' → zRet y pc' r → W p l e R s m args below meth c H' locs' cells slots Fin (F0 m pc' sl' ((zpush r []).map (zv ad)))) :
    W p l e R s m args below meth c H locs cells slots Fin (F0 m pc sl (st.map (zv ad))) := by
  have go : ∀ (b : Nat) (st' : List Value) (q : Nat), (zPc y)[b]? = some q → zSd l D cA ad d y b ls st' w Q → W p l e R s m args below meth c H locs cells slots Fin (F0 m q sl (st'.map (zv ad))) := fun b st' q hq h => h p e R s m args below meth c A H locs cells slots sl Fin q hq C hH hS hA hX hl hll hret
  obtain ⟨hx, hb, hml, hown, hts, hnw, hK, hR, hcs⟩ := id C
  obtain ⟨cd, two, bt, bf⟩ | ⟨cs, df⟩ | ⟨tag, a, b⟩ := t
  · cases i <;> try (exact absurd (show false = true from hc) Bool.false_ne_true)
    case ifCond c' off =>
      have hc : (!two && decide (cd = c') && Nat.beq len 3 && zpcIs (zPc y) bt ((pc : Int) + off) && zpcIs (zPc y) bf ((pc + 3 : Nat) : Int)) = true := hc
      simp only [Bool.and_eq_true, decide_eq_true_eq, Bool.not_eq_true'] at hc
      obtain ⟨⟨⟨⟨h0, rfl⟩, h1⟩, h2⟩, h3⟩ := hc
      subst h0
      obtain rfl := Nat.eq_of_beq_eq_true h1
      obtain ⟨q1, a1, a2⟩ := zpcIs_ok h2
      obtain ⟨q2, b1, b2⟩ := zpcIs_ok h3
      have b2 : pc + 3 = q2 := by exact_mod_cast b2
      subst b2
      dsimp only [zterm] at hk
      split at hk
      · rename_i x r
        cases cd
        · exact lv_if_eq hx hb hdg a2 (fun h => go bt r q1 a1 (hk.1 h)) (fun h => go bf r _ b1 (hk.2 h))
        · exact lv_if_ne hx hb hdg a2 (fun h => go bt r q1 a1 (hk.1 h)) (fun h => go bf r _ b1 (hk.2 h))
        · exact lv_if_lt hx hb hdg a2 (fun h => go bt r q1 a1 (hk.1 h)) (fun h => go bf r _ b1 (hk.2 h))
        · exact lv_if_ge hx hb hdg a2 (fun h => go bt r q1 a1 (hk.1 h)) (fun h => go bf r _ b1 (hk.2 h))
        · exact lv_if_gt hx hb hdg a2 (fun h => go bt r q1 a1 (hk.1 h)) (fun h => go bf r _ b1 (hk.2 h))
        · exact lv_if_le hx hb hdg a2 (fun h => go bt r q1 a1 (hk.1 h)) (fun h => go bf r _ b1 (hk.2 h))
      · exact hk.elim
    case if_icmp c' off =>
      have hc : (two && decide (cd = c') && Nat.beq len 3 && zpcIs (zPc y) bt ((pc : Int) + off) && zpcIs (zPc y) bf ((pc + 3 : Nat) : Int)) = true := hc
      simp only [Bool.and_eq_true, decide_eq_true_eq] at hc
      obtain ⟨⟨⟨⟨h0, rfl⟩, h1⟩, h2⟩, h3⟩ := hc
      subst h0
      obtain rfl := Nat.eq_of_beq_eq_true h1
      obtain ⟨q1, a1, a2⟩ := zpcIs_ok h2
      obtain ⟨q2, b1, b2⟩ := zpcIs_ok h3
      have b2 : pc + 3 = q2 := by exact_mod_cast b2
      subst b2
      dsimp only [zterm] at hk
      split at hk
      · rename_i v u r
        cases cd
        · exact lv_icmp_eq hx hb hdg a2 (fun h => go bt r q1 a1 (hk.1 h)) (fun h => go bf r _ b1 (hk.2 h))
        · exact lv_icmp_ne hx hb hdg a2 (fun h => go bt r q1 a1 (hk.1 h)) (fun h => go bf r _ b1 (hk.2 h))
        · exact lv_icmp_lt hx hb hdg a2 (fun h => go bt r q1 a1 (hk.1 h)) (fun h => go bf r _ b1 (hk.2 h))
        · exact lv_icmp_ge hx hb hdg a2 (fun h => go bt r q1 a1 (hk.1 h)) (fun h => go bf r _ b1 (hk.2 h))
        · exact lv_icmp_gt hx hb hdg a2 (fun h => go bt r q1 a1 (hk.1 h)) (fun h => go bf r _ b1 (hk.2 h))
        · exact lv_icmp_le hx hb hdg a2 (fun h => go bt r q1 a1 (hk.1 h)) (fun h => go bf r _ b1 (hk.2 h))
      · exact hk.elim
  · dsimp only [zterm] at hk
    split at hk
    · rename_i x r
      cases i <;> try (exact absurd (show false = true from hc) Bool.false_ne_true)
      case tableswitch dflt lo hi offs =>
        have hc : (Nat.beq offs.size cs.length && decide (hi = lo + (cs.length : Int) - 1) && zpcIs (zPc y) df ((pc : Int) + dflt) && zswk (zPc y) pc lo cs offs) = true := hc
        simp only [Bool.and_eq_true, decide_eq_true_eq] at hc
        obtain ⟨⟨⟨h1, h2⟩, h3⟩, h4⟩ := hc
        have h1 := Nat.eq_of_beq_eq_true h1
        have key : ∀ (j : Nat) (q : Int32 × Nat), cs[j]? = some q → ∃ off, offs[j]? = some off ∧ q.1.toInt = lo + (j : Int) ∧ zpcIs (zPc y) q.2 ((pc : Int) + off) = true := by
          intro j q hq
          have hj := (List.getElem?_eq_some_iff.mp hq).1
          have := List.all_eq_true.mp h4 j (List.mem_range.mpr hj)
          rw [hq] at this
          dsimp only at this
          split at this
          · rename_i off ho
            simp only [Bool.and_eq_true, decide_eq_true_eq] at this
            exact ⟨off, ho, this.1, this.2⟩
          · cases this
        rcases zsw_inv hk with ⟨j, q, a1, a2, -, a3⟩ | ⟨a1, a2⟩
        · obtain ⟨off, b1, b2, b3⟩ := key j q a1
          obtain ⟨q1, c1, c2⟩ := zpcIs_ok b3
          have hj := (List.getElem?_eq_some_iff.mp a1).1
          have e1 : x.toInt = lo + (j : Int) := by rw [a2]; exact b2
          exact lv_tableIn hx hb hdg (by omega) (by omega) (by rw [show (x.toInt - lo).toNat = j by omega]; exact b1) c2 (go _ r q1 c1 a3)
        · obtain ⟨q1, c1, c2⟩ := zpcIs_ok h3
          refine lv_tableOut hx hb hdg ?_ c2 (go _ r q1 c1 a2)
          rcases Int.lt_or_le x.toInt lo with g | g
          · exact Or.inl g
          · right
            apply Int.not_le.mp
            intro g2
            have hj : (x.toInt - lo).toNat < cs.length := by omega
            obtain ⟨off, b1, b2, b3⟩ := key _ _ (List.getElem?_eq_getElem hj)
            exact a1 _ _ (List.getElem?_eq_getElem hj) (Int32.toInt_inj.mp (by rw [b2]; omega))
      case lookupswitch dflt ps =>
        have hc : ((ps.toList.zip (ps.toList.drop 1)).all (fun (a, next) => a.1 < next.1) && zpcIs (zPc y) df ((pc : Int) + dflt) && zlsk (zPc y) pc cs ps.toList) = true := hc
        rw [Bool.and_eq_true, Bool.and_eq_true] at hc
        obtain ⟨⟨h1, h2⟩, h3⟩ := hc
        obtain ⟨i1, i2⟩ := zlsk_ok (x := x) (dflt := dflt) h3
        rcases zsw_inv hk with ⟨j, q, g1, g2, g3, g4⟩ | ⟨a1, a2⟩
        · obtain ⟨off, b1, b2⟩ := i1 j q g1 g2 g3
          obtain ⟨q1, c1, c2⟩ := zpcIs_ok b2
          exact lv_lookup hx hb hdg h1 b1 c2 (go _ r q1 c1 g4)
        · obtain ⟨q1, c1, c2⟩ := zpcIs_ok h2
          exact lv_lookup hx hb hdg h1 (i2 a1) c2 (go _ r q1 c1 a2)
    · exact hk.elim
  · revert hc hk
    match tag with
    | 0 =>
      intro hc hk
      cases i <;> try (exact absurd (show false = true from hc) Bool.false_ne_true)
      case goto off =>
        have hc : (Nat.beq len 3 && zpcIs (zPc y) a ((pc : Int) + off)) = true := hc
        rw [Bool.and_eq_true] at hc
        obtain rfl := Nat.eq_of_beq_eq_true hc.1
        obtain ⟨q1, a1, a2⟩ := zpcIs_ok hc.2
        exact lv_goto hx hb hdg a2 (go a st q1 a1 hk)
    | 1 =>
      intro hc hk
      have hk : zcall zMI a b d y ls st w Q (zSd l D cA ad) := hk
      unfold zcall at hk
      split at hk
      · exact hk.elim
      · rename_i inf hinf
        have hmd : zMd a = inf := by unfold zMd; rw [List.getD_eq_getElem?_getD, hinf]; rfl
        subst hmd
        split at hk
        · exact hk.elim
        · obtain ⟨h1, h2, h3, h4, Q', h5, h6⟩ := hk
          cases i <;> try (exact absurd (show false = true from hc) Bool.false_ne_true)
          case invokestatic idx =>
            have hc : (Nat.beq len 3 && Nat.blt idx 1000 && zpcIs (zPc y) b ((pc + 3 : Nat) : Int) && (zMd a).2.2.2.2.2.1 && zML.any (fun q => Nat.beq q.1 ((zMd y).2.2.2.2.1 * 1000 + idx) && Nat.beq q.2.1 a)) = true := hc
            rw [Bool.and_eq_true, Bool.and_eq_true, Bool.and_eq_true, Bool.and_eq_true] at hc
            obtain ⟨⟨⟨⟨c1, c2⟩, c3⟩, c4⟩, c5⟩ := hc
            obtain rfl := Nat.eq_of_beq_eq_true c1
            obtain ⟨q2, b1, b2⟩ := zpcIs_ok c3
            obtain ⟨z1, z2⟩ := zml_ok c2 c5
            exact zcall_ok C hdg (Or.inl ⟨rfl, c4⟩) z1 z2 (by exact_mod_cast b2) b1 hH hS hA hX hl hll h1 h2 h3 h4 h5 h6 hret
          case invokevirtual idx =>
            have hc : (Nat.beq len 3 && Nat.blt idx 1000 && zpcIs (zPc y) b ((pc + 3 : Nat) : Int) && !(zMd a).2.2.2.2.2.1 && zML.any (fun q => Nat.beq q.1 ((zMd y).2.2.2.2.1 * 1000 + idx) && Nat.beq q.2.1 a)) = true := hc
            rw [Bool.and_eq_true, Bool.and_eq_true, Bool.and_eq_true, Bool.and_eq_true, Bool.not_eq_true'] at hc
            obtain ⟨⟨⟨⟨c1, c2⟩, c3⟩, c4⟩, c5⟩ := hc
            obtain rfl := Nat.eq_of_beq_eq_true c1
            obtain ⟨q2, b1, b2⟩ := zpcIs_ok c3
            obtain ⟨z1, z2⟩ := zml_ok c2 c5
            exact zcall_ok C hdg (Or.inr ⟨rfl, c4⟩) z1 z2 (by exact_mod_cast b2) b1 hH hS hA hX hl hll h1 h2 h3 h4 h5 h6 hret
    | 2 =>
      intro hc hk
      have hk : zretk a st w Q := hk
      cases i <;> try (exact absurd (show false = true from hc) Bool.false_ne_true)
      case return_ =>
        have hc : (Nat.beq len 1 && Nat.beq a 0 && decide ((zMd y).2.2.2.1 = none)) = true := hc
        rw [Bool.and_eq_true, Bool.and_eq_true, decide_eq_true_eq] at hc
        obtain rfl := Nat.eq_of_beq_eq_true hc.1.1
        obtain rfl := Nat.eq_of_beq_eq_true hc.1.2
        obtain ⟨rfl, h⟩ := zretk0 hk
        exact hret none w H locs pc sl h zfix.rf hH hS ⟨hdg, hc.2⟩
      case ireturn =>
        have hc : (Nat.beq len 1 && ((Nat.beq a 1 && decide ((zMd y).2.2.2.1 = some .int)) || (Nat.beq a 3 && decide ((zMd y).2.2.2.1 = some .boolean)))) = true := hc
        rw [Bool.and_eq_true, Bool.or_eq_true, Bool.and_eq_true, Bool.and_eq_true, decide_eq_true_eq, decide_eq_true_eq] at hc
        obtain rfl := Nat.eq_of_beq_eq_true hc.1
        rcases hc.2 with ⟨c1, c2⟩ | ⟨c1, c2⟩
        · obtain rfl := Nat.eq_of_beq_eq_true c1
          obtain ⟨v, rfl, h⟩ := zretk1 hk
          exact hret (some (.int v)) w H locs pc sl h zfix.rf hH hS ⟨hdg, Or.inl c2⟩
        · obtain rfl := Nat.eq_of_beq_eq_true c1
          obtain ⟨v, rfl, h01, h⟩ := zretk3 hk
          exact hret (some (.int v)) w H locs pc sl h zfix.rf hH hS ⟨hdg, Or.inr ⟨c2, h01⟩⟩
      case lreturn =>
        have hc : (Nat.beq len 1 && Nat.beq a 2 && decide ((zMd y).2.2.2.1 = some .long)) = true := hc
        rw [Bool.and_eq_true, Bool.and_eq_true, decide_eq_true_eq] at hc
        obtain rfl := Nat.eq_of_beq_eq_true hc.1.1
        obtain rfl := Nat.eq_of_beq_eq_true hc.1.2
        obtain ⟨v, rfl, h⟩ := zretk2 hk
        exact hret (some (.long v)) w H locs pc sl h zfix.rf hH hS ⟨hdg, hc.2⟩
    | 3 =>
      intro hc hk
      have hk : zcopy a b d y ls st w Q (zSd l D cA ad) := hk
      cases i <;> try (exact absurd (show false = true from hc) Bool.false_ne_true)
      case invokestatic idx =>
        have hc : (Nat.beq len 3 && Nat.blt idx 1000 && zpcIs (zPc y) b ((pc + 3 : Nat) : Int) && Nat.ble a 1 && zCL.any (fun q => Nat.beq q.1 ((zMd y).2.2.2.2.1 * 1000 + idx))) = true := hc
        rw [Bool.and_eq_true, Bool.and_eq_true, Bool.and_eq_true, Bool.and_eq_true] at hc
        obtain ⟨⟨⟨⟨c1, c2⟩, c3⟩, c4⟩, c5⟩ := hc
        obtain rfl := Nat.eq_of_beq_eq_true c1
        obtain ⟨q2, b1, b2⟩ := zpcIs_ok c3
        have b2 : pc + 3 = q2 := by exact_mod_cast b2
        subst b2
        have hlk := zcl_ok c2 c5
        unfold zcopy at hk
        split at hk
        · rename_i n dp o2 sp o1 r _
          obtain ⟨k1, k2, k3, k4, ⟨k5, k6, k7, k8, k9⟩, k10⟩ := hk
          have hfr : 1 ≤ R.frames := by omega
          have hlo : ((r.map (zv ad)).map fun v => v.category).sum + (nativeFrameWords "java/lang/System" "arraycopy" 5 + 11) ≤ R.locals := by
            rw [zv_catL]
            have : nativeFrameWords "java/lang/System" "arraycopy" 5 + 11 ≤ 40 := by decide +kernel
            omega
          have hml2 : c.maxLocals = sl.size := by rw [hml, hl.1, hll]
          split at k10
          · refine va_copyi hx hb hml2 hown (hts _ hlk) (hts _ zac_nat) (hts _ zac_stat) (hts _ zac_ini) hK hH.1 hH.2 hS o1 o2 0 0 (f := w.1 o1) (g := w.1 o2) (n0 := zln o1) (n1 := zln o2) (ty := .int) (by rw [zws_at (zsh_lt k3), zE_ar k3]; rfl) (by rw [zws_at (zsh_lt k4), zE_ar k4]; rfl) rfl rfl rfl k5 k6 k7 k8 k9 (fun _ _ => rfl) hfr hlo hdg (fun H1 locs1 a1 a2 a3 => ?_)
            have ew := zws_set (ad := ad) (cA := cA) (w := w) (w' := cI w o1 o2 sp.toNatClampNeg dp.toNatClampNeg n.toNatClampNeg) (zsh_lt k4) (zE_xI k4) (fun a ha => zE_cI a ha)
            rw [ew] at a1 a2
            exact k10 p e R s m args below meth c A H1 locs1 cells slots sl Fin _ b1 C ⟨a1, a2⟩ a3 hA (hX.fix (zfix.cI (zsh_lt k4))) hl hll (fun r2 w2 H2 locs2 pc' sl' g1 g2 g3 g4 g5 => hret r2 w2 H2 locs2 pc' sl' g1 ((zfix.cI (zsh_lt k4)).tr g2) g3 g4 g5)
          · refine va_copyl hx hb hml2 hown (hts _ hlk) (hts _ zac_nat) (hts _ zac_stat) (hts _ zac_ini) hK hH.1 hH.2 hS o1 o2 1 1 (f := w.2 o1) (g := w.2 o2) (n0 := zln o1) (n1 := zln o2) (ty := .long) (by rw [zws_at (zsh_lt k3), zE_ar k3]; rfl) (by rw [zws_at (zsh_lt k4), zE_ar k4]; rfl) rfl rfl rfl k5 k6 k7 k8 k9 (fun _ _ => rfl) hfr hlo hdg (fun H1 locs1 a1 a2 a3 => ?_)
            have ew := zws_set (ad := ad) (cA := cA) (w := w) (w' := cL w o1 o2 sp.toNatClampNeg dp.toNatClampNeg n.toNatClampNeg) (zsh_lt k4) (zE_xL k4) (fun a ha => zE_cL a ha)
            rw [ew] at a1 a2
            exact k10 p e R s m args below meth c A H1 locs1 cells slots sl Fin _ b1 C ⟨a1, a2⟩ a3 hA (hX.fix zfix.cL) hl hll (fun r2 w2 H2 locs2 pc' sl' g1 g2 g3 g4 g5 => hret r2 w2 H2 locs2 pc' sl' g1 (zfix.cL.tr g2) g3 g4 g5)
          · exact k10.elim
        · exact hk.elim
    | 4 =>
      intro hc hk
      have hk : zmath a b d y ls st w Q (zSd l D cA ad) := hk
      cases i <;> try (exact absurd (show false = true from hc) Bool.false_ne_true)
      case invokestatic idx =>
        have hc : (Nat.beq len 3 && Nat.blt idx 1000 && zpcIs (zPc y) b ((pc + 3 : Nat) : Int) && Nat.ble a 2 && zXL.any (fun q => Nat.beq q.1 ((zMd y).2.2.2.2.1 * 1000 + idx) && Nat.beq q.2.1 a)) = true := hc
        rw [Bool.and_eq_true, Bool.and_eq_true, Bool.and_eq_true, Bool.and_eq_true] at hc
        obtain ⟨⟨⟨⟨c1, c2⟩, c3⟩, c4⟩, c5⟩ := hc
        obtain rfl := Nat.eq_of_beq_eq_true c1
        obtain ⟨q2, b1, b2⟩ := zpcIs_ok c3
        have b2 : pc + 3 = q2 := by exact_mod_cast b2
        subst b2
        have hlk := zxl_ok c2 c5
        have hml2 : c.maxLocals = sl.size := by rw [hml, hl.1, hll]
        have hfr : 0 < d → 1 ≤ R.frames := fun _ => by omega
        have hlo : ∀ r : List Value, 0 < d → zcat r ≤ 8 → ((r.map (zv ad)).map fun v => v.category).sum + 13 ≤ R.locals := fun r h0 h1 => by
          rw [zv_catL]
          omega
        unfold zmath at hk
        split at hk
        · split at hk
          · exact va_mmax hx hb hml2 hown (hts _ hlk) (hts _ zmx_max.1) (hts _ zmx_ini) (hts _ zmx_max.2) (hfr hk.1) (hlo _ hk.1 hk.2.1) hcs.1 hcs.2 hdg (go _ _ _ b1 hk.2.2)
          · exact hk.elim
        · split at hk
          · exact va_mmin hx hb hml2 hown (hts _ hlk) (hts _ zmx_min.1) (hts _ zmx_ini) (hts _ zmx_min.2) (hfr hk.1) (hlo _ hk.1 hk.2.1) hcs.1 hcs.2 hdg (go _ _ _ b1 hk.2.2)
          · exact hk.elim
        · split at hk
          · exact va_mabs hx hb hml2 hown (hts _ hlk) (hts _ zmx_abs.1) (hts _ zmx_ini) (hts _ zmx_abs.2) (hfr hk.1) (hlo _ hk.1 hk.2.1) hcs.1 hcs.2 hdg (go _ _ _ b1 hk.2.2)
          · exact hk.elim
        · exact hk.elim
    | n + 5 => exact fun hc _ => absurd (show false = true from hc) Bool.false_ne_true
end ZTM
/-- a block, from its first instruction -/
theorem zrun_ok {p : Program} {l : Launch} {e : Env} {R : Room} {s : State} {m : MethodId} {args : Array Value} {below : List Frame} {meth : Method} {c : Code} {Fin : State → Prop} {cells slots : Nat} {D : va_G} {cA : Nat → ClassId} {ad : Nat → Nat} {A : Nat → Prop} {y d : Nat} {t : zT} {Q : zQ} {w0 : zW} (C : zCx p s m args c R cells slots D cA y d) (hA : ∀ q, s.heap.size ≤ q → A q)
    (hret : ∀ (r : Option Value) (w' : zW) (H' : Heap) (locs' : List Loc) (pc' : Nat) (sl' : Array Slot), Q r w' → zfix w0 w' → zHp D cA ad A w' H' → va_S A s.heap H' locs' → zRet y pc' r → W p l e R s m args below meth c H' locs' cells slots Fin (F0 m pc' sl' ((zpush r []).map (zv ad)))) :
    ∀ (as : List zA) (pc : Nat) (ls : zL) (st : List Value) (w : zW) (H : Heap) (locs : List Loc) (sl : Array Slot), zchkL (zMd y).2.2.2.2.1 (zMd y).2.2.2.1 (zMd y).2.1 (zPc y) t pc as = true → zrun as ls st w (fun ls st w => zterm zMI t d y ls st w Q (zSd l D cA ad)) → zfix w0 w →
      zHp D cA ad A w H → va_S A s.heap H locs → zXc y ad A s w → zLR ad ls sl → ls.length = (zMd y).2.2.1 → W p l e R s m args below meth c H locs cells slots Fin (F0 m pc sl (st.map (zv ad)))
  | [], pc, ls, st, w, H, locs, sl, hc, hk, hfx, hH, hS, hX, hl, hll => by
    have hk : zterm zMI t d y ls st w Q (zSd l D cA ad) := hk
    have hret' : ∀ (r : Option Value) (w' : zW) (H' : Heap) (locs' : List Loc) (pc' : Nat) (sl' : Array Slot), Q r w' → zfix w w' → zHp D cA ad A w' H' → va_S A s.heap H' locs' → zRet y pc' r → W p l e R s m args below meth c H' locs' cells slots Fin (F0 m pc' sl' ((zpush r []).map (zv ad))) := fun r w' H' locs' pc' sl' g1 g2 g3 g4 g5 => hret r w' H' locs' pc' sl' g1 (hfx.tr g2) g3 g4 g5
    unfold zchkL at hc
    split at hc
    · rename_i b hb
      obtain ⟨q, a1, a2⟩ := zpcIs_ok hc
      have a2 : pc = q := by exact_mod_cast a2
      subst a2
      have hb2 : zterm zMI t d y ls st w Q (zSd l D cA ad) → zSd l D cA ad d y b ls st w Q := by
        intro h
        unfold zfall at hb
        split at hb
        · split at hb
          · split at hb
            · cases hb
            · cases hb
              exact h
          · cases hb
        · cases hb
      exact hb2 hk p e R s m args below meth c A H locs cells slots sl Fin pc a1 C hH hS hA hX hl hll hret'
    · split at hc
      · rename_i i len hdg
        exact zterm_ok C hdg hc hH hS hA hX hl hll hk hret'
      · cases hc
  | a :: as, pc, ls, st, w, H, locs, sl, hc, hk, hfx, hH, hS, hX, hl, hll => by
    unfold zchkL at hc
    split at hc
    · rename_i i len hdg
      rw [Bool.and_eq_true] at hc
      refine zone_ok C hdg hc.1 hk hH hS hX hl (fun ls' st' w' H' locs' sl' g1 g2 g3 g4 g5 g6 => ?_)
      exact zrun_ok C hA hret as (pc + len) ls' st' w' H' locs' sl' hc.2 g1 (hfx.tr g2) g3 g4 (hX.fix g2) g5 (by rw [g6]; exact hll)
    · cases hc
/-- whatever the blocks need holds on the machine, if each block is the code's -/
theorem zsound (hall : ∀ y, y < 187 → zchkM y (zPG.getD y []) = true) (hPG : zPG.length = 187) (l : Launch) (D : va_G) (cA : Nat → ClassId) (ad : Nat → Nat) : zclosed zMI zPG (zSd l D cA ad) := by
  refine ⟨fun d y b ls st w Q hbody => ?_, fun d y b ls ls' st w Q hle h => ?_⟩
  · intro p e R s m args below meth c A H locs cells slots sl Fin pc hpc C hH hS hA hX hl hll hret
    unfold zbody at hbody
    split at hbody
    · exact hbody.elim
    · rename_i B hB
      have hy : y < 187 := by
        rcases Nat.lt_or_ge y 187 with h | h
        · exact h
        · have e0 : zPG.getD y [] = [] := by
            rw [List.getD_eq_getElem?_getD, List.getElem?_eq_none (by omega)]
            rfl
          rw [e0] at hB
          simp at hB
      have hchk := hall y hy
      unfold zchkM at hchk
      have hc := List.all_eq_true.mp hchk B (List.mem_of_getElem? hB)
      have hpc2 : B.1 = pc := by
        unfold zPc at hpc
        rw [List.getElem?_map, hB] at hpc
        exact Option.some.inj hpc
      subst hpc2
      exact zrun_ok C hA hret B.2.1 B.1 ls st w H locs sl hc hbody zfix.rf hH hS hX hl hll
  · intro p e R s m args below meth c A H locs cells slots sl Fin pc hpc C hH hS hA hX hl hll hret
    exact h p e R s m args below meth c A H locs cells slots sl Fin pc hpc C hH hS hA hX (hl.le hle) (by rw [(zle_at hle).1]; exact hll) hret
end
