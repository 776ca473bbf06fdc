section
-- ===== PART A: goes FIRST, ahead of the names: the tables' words, and 'selects' of the private methods out of them =====
/-- a private method of a class that the tables say can be made, by its rows of tables_1 -/
def lw_okq (q : MethodName × Nat) : Prop := (q.1.cls ≠ "java/lang/invoke/MethodHandle" ∧ q.1.cls ≠ "java/lang/invoke/VarHandle") ∧ Cond.instantiable q.1.cls q.2 ∈ tables_1 ∧ Cond.privateMethod q.1 ∈ tables_1 ∧ Cond.instanceMethod q.1 ∈ tables_1
theorem lw_p0 : lw_okq (⟨"HoleCounty$Ground", "toDig", "(I)I"⟩, 9) := ⟨⟨by decide +kernel, by decide +kernel⟩, List.mem_of_getElem? (i := 20) (by decide +kernel), List.mem_of_getElem? (i := 173) (by decide +kernel), List.mem_of_getElem? (i := 174) (by decide +kernel)⟩
theorem lw_p1 : lw_okq (⟨"HoleCounty$Ground", "remember", "(I)V"⟩, 9) := ⟨⟨by decide +kernel, by decide +kernel⟩, List.mem_of_getElem? (i := 20) (by decide +kernel), List.mem_of_getElem? (i := 177) (by decide +kernel), List.mem_of_getElem? (i := 178) (by decide +kernel)⟩
theorem lw_p2 : lw_okq (⟨"HoleCounty$Ground", "put", "(II)V"⟩, 9) := ⟨⟨by decide +kernel, by decide +kernel⟩, List.mem_of_getElem? (i := 20) (by decide +kernel), List.mem_of_getElem? (i := 187) (by decide +kernel), List.mem_of_getElem? (i := 188) (by decide +kernel)⟩
theorem lw_p3 : lw_okq (⟨"HoleCounty$Ground", "toFill", "(I)I"⟩, 9) := ⟨⟨by decide +kernel, by decide +kernel⟩, List.mem_of_getElem? (i := 20) (by decide +kernel), List.mem_of_getElem? (i := 196) (by decide +kernel), List.mem_of_getElem? (i := 197) (by decide +kernel)⟩
theorem lw_p4 : lw_okq (⟨"HoleCounty$Ground", "toRoof", "(I)I"⟩, 9) := ⟨⟨by decide +kernel, by decide +kernel⟩, List.mem_of_getElem? (i := 20) (by decide +kernel), List.mem_of_getElem? (i := 204) (by decide +kernel), List.mem_of_getElem? (i := 205) (by decide +kernel)⟩
theorem lw_p5 : lw_okq (⟨"HoleCounty$Ground", "takeBack", "()I"⟩, 9) := ⟨⟨by decide +kernel, by decide +kernel⟩, List.mem_of_getElem? (i := 20) (by decide +kernel), List.mem_of_getElem? (i := 212) (by decide +kernel), List.mem_of_getElem? (i := 213) (by decide +kernel)⟩
theorem lw_p6 : lw_okq (⟨"HoleCounty$Ground", "holeAt", "(I)J"⟩, 9) := ⟨⟨by decide +kernel, by decide +kernel⟩, List.mem_of_getElem? (i := 20) (by decide +kernel), List.mem_of_getElem? (i := 229) (by decide +kernel), List.mem_of_getElem? (i := 230) (by decide +kernel)⟩
theorem lw_p7 : lw_okq (⟨"HoleCounty$Tape", "add", "(C)I"⟩, 6) := ⟨⟨by decide +kernel, by decide +kernel⟩, List.mem_of_getElem? (i := 63) (by decide +kernel), List.mem_of_getElem? (i := 255) (by decide +kernel), List.mem_of_getElem? (i := 256) (by decide +kernel)⟩
theorem lw_p8 : lw_okq (⟨"HoleCounty$Tape", "readGround", "()I"⟩, 6) := ⟨⟨by decide +kernel, by decide +kernel⟩, List.mem_of_getElem? (i := 63) (by decide +kernel), List.mem_of_getElem? (i := 263) (by decide +kernel), List.mem_of_getElem? (i := 264) (by decide +kernel)⟩
theorem lw_p9 : lw_okq (⟨"HoleCounty$Tape", "isNext", "(C)Z"⟩, 6) := ⟨⟨by decide +kernel, by decide +kernel⟩, List.mem_of_getElem? (i := 63) (by decide +kernel), List.mem_of_getElem? (i := 267) (by decide +kernel), List.mem_of_getElem? (i := 268) (by decide +kernel)⟩
theorem lw_p10 : lw_okq (⟨"HoleCounty$Tape", "passBlanks", "()V"⟩, 6) := ⟨⟨by decide +kernel, by decide +kernel⟩, List.mem_of_getElem? (i := 63) (by decide +kernel), List.mem_of_getElem? (i := 271) (by decide +kernel), List.mem_of_getElem? (i := 272) (by decide +kernel)⟩
theorem lw_p11 : lw_okq (⟨"HoleCounty$Tape", "fault", "()I"⟩, 6) := ⟨⟨by decide +kernel, by decide +kernel⟩, List.mem_of_getElem? (i := 63) (by decide +kernel), List.mem_of_getElem? (i := 275) (by decide +kernel), List.mem_of_getElem? (i := 276) (by decide +kernel)⟩
theorem lw_p12 : lw_okq (⟨"HoleCounty$Tape", "nextFigure", "(C)I"⟩, 6) := ⟨⟨by decide +kernel, by decide +kernel⟩, List.mem_of_getElem? (i := 63) (by decide +kernel), List.mem_of_getElem? (i := 279) (by decide +kernel), List.mem_of_getElem? (i := 280) (by decide +kernel)⟩
theorem lw_p13 : lw_okq (⟨"HoleCounty$Tape", "faultBehind", "()I"⟩, 6) := ⟨⟨by decide +kernel, by decide +kernel⟩, List.mem_of_getElem? (i := 63) (by decide +kernel), List.mem_of_getElem? (i := 283) (by decide +kernel), List.mem_of_getElem? (i := 284) (by decide +kernel)⟩
theorem lw_p14 : lw_okq (⟨"HoleCounty$Tape", "wipe", "()V"⟩, 6) := ⟨⟨by decide +kernel, by decide +kernel⟩, List.mem_of_getElem? (i := 63) (by decide +kernel), List.mem_of_getElem? (i := 287) (by decide +kernel), List.mem_of_getElem? (i := 288) (by decide +kernel)⟩
theorem lw_p15 : lw_okq (⟨"HoleCounty$Ground", "become", "([IJ)V"⟩, 9) := ⟨⟨by decide +kernel, by decide +kernel⟩, List.mem_of_getElem? (i := 20) (by decide +kernel), List.mem_of_getElem? (i := 291) (by decide +kernel), List.mem_of_getElem? (i := 292) (by decide +kernel)⟩
def lw_privs_1 : List (MethodName × Nat) := [(⟨"HoleCounty$Ground", "toDig", "(I)I"⟩, 9), (⟨"HoleCounty$Ground", "remember", "(I)V"⟩, 9), (⟨"HoleCounty$Ground", "put", "(II)V"⟩, 9), (⟨"HoleCounty$Ground", "toFill", "(I)I"⟩, 9), (⟨"HoleCounty$Ground", "toRoof", "(I)I"⟩, 9), (⟨"HoleCounty$Ground", "takeBack", "()I"⟩, 9), (⟨"HoleCounty$Ground", "holeAt", "(I)J"⟩, 9), (⟨"HoleCounty$Tape", "add", "(C)I"⟩, 6), (⟨"HoleCounty$Tape", "readGround", "()I"⟩, 6), (⟨"HoleCounty$Tape", "isNext", "(C)Z"⟩, 6), (⟨"HoleCounty$Tape", "passBlanks", "()V"⟩, 6), (⟨"HoleCounty$Tape", "fault", "()I"⟩, 6), (⟨"HoleCounty$Tape", "nextFigure", "(C)I"⟩, 6), (⟨"HoleCounty$Tape", "faultBehind", "()I"⟩, 6), (⟨"HoleCounty$Tape", "wipe", "()V"⟩, 6), (⟨"HoleCounty$Ground", "become", "([IJ)V"⟩, 9)]
theorem lw_r1 : ∀ q ∈ lw_privs_1, lw_okq q := List.forall_mem_cons.mpr ⟨lw_p0, List.forall_mem_cons.mpr ⟨lw_p1, List.forall_mem_cons.mpr ⟨lw_p2, List.forall_mem_cons.mpr ⟨lw_p3, List.forall_mem_cons.mpr ⟨lw_p4, List.forall_mem_cons.mpr ⟨lw_p5, List.forall_mem_cons.mpr ⟨lw_p6, List.forall_mem_cons.mpr ⟨lw_p7, List.forall_mem_cons.mpr ⟨lw_p8, List.forall_mem_cons.mpr ⟨lw_p9, List.forall_mem_cons.mpr ⟨lw_p10, List.forall_mem_cons.mpr ⟨lw_p11, List.forall_mem_cons.mpr ⟨lw_p12, List.forall_mem_cons.mpr ⟨lw_p13, List.forall_mem_cons.mpr ⟨lw_p14, List.forall_mem_cons.mpr ⟨lw_p15, fun _ h => absurd h List.not_mem_nil⟩⟩⟩⟩⟩⟩⟩⟩⟩⟩⟩⟩⟩⟩⟩⟩
theorem lw_p16 : lw_okq (⟨"HoleCounty$Ground", "forget", "()V"⟩, 9) := ⟨⟨by decide +kernel, by decide +kernel⟩, List.mem_of_getElem? (i := 20) (by decide +kernel), List.mem_of_getElem? (i := 295) (by decide +kernel), List.mem_of_getElem? (i := 296) (by decide +kernel)⟩
theorem lw_p17 : lw_okq (⟨"HoleCounty$Tape", "readOwners", "()I"⟩, 6) := ⟨⟨by decide +kernel, by decide +kernel⟩, List.mem_of_getElem? (i := 63) (by decide +kernel), List.mem_of_getElem? (i := 311) (by decide +kernel), List.mem_of_getElem? (i := 312) (by decide +kernel)⟩
theorem lw_p18 : lw_okq (⟨"HoleCounty$Ground", "landOf", "(I)J"⟩, 9) := ⟨⟨by decide +kernel, by decide +kernel⟩, List.mem_of_getElem? (i := 20) (by decide +kernel), List.mem_of_getElem? (i := 316) (by decide +kernel), List.mem_of_getElem? (i := 317) (by decide +kernel)⟩
theorem lw_p19 : lw_okq (⟨"HoleCounty$Tape", "readDay", "()I"⟩, 6) := ⟨⟨by decide +kernel, by decide +kernel⟩, List.mem_of_getElem? (i := 63) (by decide +kernel), List.mem_of_getElem? (i := 325) (by decide +kernel), List.mem_of_getElem? (i := 326) (by decide +kernel)⟩
theorem lw_p20 : lw_okq (⟨"HoleCounty$Tape", "nextRepair", "()I"⟩, 6) := ⟨⟨by decide +kernel, by decide +kernel⟩, List.mem_of_getElem? (i := 63) (by decide +kernel), List.mem_of_getElem? (i := 329) (by decide +kernel), List.mem_of_getElem? (i := 330) (by decide +kernel)⟩
theorem lw_p21 : lw_okq (⟨"HoleCounty$Ground", "repaired", "(I)Z"⟩, 9) := ⟨⟨by decide +kernel, by decide +kernel⟩, List.mem_of_getElem? (i := 20) (by decide +kernel), List.mem_of_getElem? (i := 333) (by decide +kernel), List.mem_of_getElem? (i := 334) (by decide +kernel)⟩
theorem lw_p22 : lw_okq (⟨"HoleCounty$Ground", "taxOfAll", "(JJ)I"⟩, 9) := ⟨⟨by decide +kernel, by decide +kernel⟩, List.mem_of_getElem? (i := 20) (by decide +kernel), List.mem_of_getElem? (i := 344) (by decide +kernel), List.mem_of_getElem? (i := 345) (by decide +kernel)⟩
theorem lw_p23 : lw_okq (⟨"HoleCounty$Ground", "taxOf", "(JJ)I"⟩, 9) := ⟨⟨by decide +kernel, by decide +kernel⟩, List.mem_of_getElem? (i := 20) (by decide +kernel), List.mem_of_getElem? (i := 349) (by decide +kernel), List.mem_of_getElem? (i := 350) (by decide +kernel)⟩
theorem lw_p24 : lw_okq (⟨"HoleCounty$Ground", "kindOf", "(JJ)I"⟩, 9) := ⟨⟨by decide +kernel, by decide +kernel⟩, List.mem_of_getElem? (i := 20) (by decide +kernel), List.mem_of_getElem? (i := 357) (by decide +kernel), List.mem_of_getElem? (i := 358) (by decide +kernel)⟩
theorem lw_p25 : lw_okq (⟨"HoleCounty$Ground", "depths", "()I"⟩, 9) := ⟨⟨by decide +kernel, by decide +kernel⟩, List.mem_of_getElem? (i := 20) (by decide +kernel), List.mem_of_getElem? (i := 369) (by decide +kernel), List.mem_of_getElem? (i := 370) (by decide +kernel)⟩
theorem lw_p26 : lw_okq (⟨"HoleCounty$Ground", "ownerOf", "(J)I"⟩, 9) := ⟨⟨by decide +kernel, by decide +kernel⟩, List.mem_of_getElem? (i := 20) (by decide +kernel), List.mem_of_getElem? (i := 383) (by decide +kernel), List.mem_of_getElem? (i := 384) (by decide +kernel)⟩
theorem lw_p27 : lw_okq (⟨"HoleCounty$Ground", "partOf", "(JI)I"⟩, 9) := ⟨⟨by decide +kernel, by decide +kernel⟩, List.mem_of_getElem? (i := 20) (by decide +kernel), List.mem_of_getElem? (i := 413) (by decide +kernel), List.mem_of_getElem? (i := 414) (by decide +kernel)⟩
theorem lw_p28 : lw_okq (⟨"HoleCounty$Ground", "partOfAll", "(I)I"⟩, 9) := ⟨⟨by decide +kernel, by decide +kernel⟩, List.mem_of_getElem? (i := 20) (by decide +kernel), List.mem_of_getElem? (i := 421) (by decide +kernel), List.mem_of_getElem? (i := 422) (by decide +kernel)⟩
theorem lw_p29 : lw_okq (⟨"HoleCounty$Ground", "leastFilled", "(I)J"⟩, 9) := ⟨⟨by decide +kernel, by decide +kernel⟩, List.mem_of_getElem? (i := 20) (by decide +kernel), List.mem_of_getElem? (i := 435) (by decide +kernel), List.mem_of_getElem? (i := 436) (by decide +kernel)⟩
theorem lw_p30 : lw_okq (⟨"HoleCounty$Mole", "walk", "(IJ)V"⟩, 7) := ⟨⟨by decide +kernel, by decide +kernel⟩, List.mem_of_getElem? (i := 94) (by decide +kernel), List.mem_of_getElem? (i := 476) (by decide +kernel), List.mem_of_getElem? (i := 477) (by decide +kernel)⟩
theorem lw_p31 : lw_okq (⟨"HoleCounty$Mole", "measure", "(IJ)V"⟩, 7) := ⟨⟨by decide +kernel, by decide +kernel⟩, List.mem_of_getElem? (i := 94) (by decide +kernel), List.mem_of_getElem? (i := 482) (by decide +kernel), List.mem_of_getElem? (i := 483) (by decide +kernel)⟩
def lw_privs_2 : List (MethodName × Nat) := [(⟨"HoleCounty$Ground", "forget", "()V"⟩, 9), (⟨"HoleCounty$Tape", "readOwners", "()I"⟩, 6), (⟨"HoleCounty$Ground", "landOf", "(I)J"⟩, 9), (⟨"HoleCounty$Tape", "readDay", "()I"⟩, 6), (⟨"HoleCounty$Tape", "nextRepair", "()I"⟩, 6), (⟨"HoleCounty$Ground", "repaired", "(I)Z"⟩, 9), (⟨"HoleCounty$Ground", "taxOfAll", "(JJ)I"⟩, 9), (⟨"HoleCounty$Ground", "taxOf", "(JJ)I"⟩, 9), (⟨"HoleCounty$Ground", "kindOf", "(JJ)I"⟩, 9), (⟨"HoleCounty$Ground", "depths", "()I"⟩, 9), (⟨"HoleCounty$Ground", "ownerOf", "(J)I"⟩, 9), (⟨"HoleCounty$Ground", "partOf", "(JI)I"⟩, 9), (⟨"HoleCounty$Ground", "partOfAll", "(I)I"⟩, 9), (⟨"HoleCounty$Ground", "leastFilled", "(I)J"⟩, 9), (⟨"HoleCounty$Mole", "walk", "(IJ)V"⟩, 7), (⟨"HoleCounty$Mole", "measure", "(IJ)V"⟩, 7)]
theorem lw_r2 : ∀ q ∈ lw_privs_2, lw_okq q := List.forall_mem_cons.mpr ⟨lw_p16, List.forall_mem_cons.mpr ⟨lw_p17, List.forall_mem_cons.mpr ⟨lw_p18, List.forall_mem_cons.mpr ⟨lw_p19, List.forall_mem_cons.mpr ⟨lw_p20, List.forall_mem_cons.mpr ⟨lw_p21, List.forall_mem_cons.mpr ⟨lw_p22, List.forall_mem_cons.mpr ⟨lw_p23, List.forall_mem_cons.mpr ⟨lw_p24, List.forall_mem_cons.mpr ⟨lw_p25, List.forall_mem_cons.mpr ⟨lw_p26, List.forall_mem_cons.mpr ⟨lw_p27, List.forall_mem_cons.mpr ⟨lw_p28, List.forall_mem_cons.mpr ⟨lw_p29, List.forall_mem_cons.mpr ⟨lw_p30, List.forall_mem_cons.mpr ⟨lw_p31, fun _ h => absurd h List.not_mem_nil⟩⟩⟩⟩⟩⟩⟩⟩⟩⟩⟩⟩⟩⟩⟩⟩
theorem lw_p32 : lw_okq (⟨"HoleCounty$Mole", "seek", "(IIIII)V"⟩, 7) := ⟨⟨by decide +kernel, by decide +kernel⟩, List.mem_of_getElem? (i := 94) (by decide +kernel), List.mem_of_getElem? (i := 499) (by decide +kernel), List.mem_of_getElem? (i := 500) (by decide +kernel)⟩
theorem lw_p33 : lw_okq (⟨"HoleCounty$Ground", "fits", "(JJII)Z"⟩, 9) := ⟨⟨by decide +kernel, by decide +kernel⟩, List.mem_of_getElem? (i := 20) (by decide +kernel), List.mem_of_getElem? (i := 525) (by decide +kernel), List.mem_of_getElem? (i := 526) (by decide +kernel)⟩
theorem lw_p34 : lw_okq (⟨"HoleCounty$Ground", "yearByLot", "()I"⟩, 9) := ⟨⟨by decide +kernel, by decide +kernel⟩, List.mem_of_getElem? (i := 20) (by decide +kernel), List.mem_of_getElem? (i := 535) (by decide +kernel), List.mem_of_getElem? (i := 536) (by decide +kernel)⟩
theorem lw_p35 : lw_okq (⟨"HoleCounty$Ground", "drawn", "()I"⟩, 9) := ⟨⟨by decide +kernel, by decide +kernel⟩, List.mem_of_getElem? (i := 20) (by decide +kernel), List.mem_of_getElem? (i := 539) (by decide +kernel), List.mem_of_getElem? (i := 540) (by decide +kernel)⟩
theorem lw_p36 : lw_okq (⟨"HoleCounty$Ground", "takeAll", "(LHoleCounty$Ground;)V"⟩, 9) := ⟨⟨by decide +kernel, by decide +kernel⟩, List.mem_of_getElem? (i := 20) (by decide +kernel), List.mem_of_getElem? (i := 555) (by decide +kernel), List.mem_of_getElem? (i := 556) (by decide +kernel)⟩
theorem lw_p37 : lw_okq (⟨"HoleCounty", "refusal", "(IIII)I"⟩, 6) := ⟨⟨by decide +kernel, by decide +kernel⟩, List.mem_of_getElem? (i := 12) (by decide +kernel), List.mem_of_getElem? (i := 567) (by decide +kernel), List.mem_of_getElem? (i := 568) (by decide +kernel)⟩
theorem lw_p38 : lw_okq (⟨"HoleCounty$Row", "spans", "(II)Z"⟩, 4) := ⟨⟨by decide +kernel, by decide +kernel⟩, List.mem_of_getElem? (i := 124) (by decide +kernel), List.mem_of_getElem? (i := 577) (by decide +kernel), List.mem_of_getElem? (i := 578) (by decide +kernel)⟩
theorem lw_p39 : lw_okq (⟨"HoleCounty$Row", "areDepths", "(II)Z"⟩, 4) := ⟨⟨by decide +kernel, by decide +kernel⟩, List.mem_of_getElem? (i := 124) (by decide +kernel), List.mem_of_getElem? (i := 581) (by decide +kernel), List.mem_of_getElem? (i := 582) (by decide +kernel)⟩
theorem lw_p40 : lw_okq (⟨"HoleCounty$Row", "put", "(IJ)V"⟩, 4) := ⟨⟨by decide +kernel, by decide +kernel⟩, List.mem_of_getElem? (i := 124) (by decide +kernel), List.mem_of_getElem? (i := 592) (by decide +kernel), List.mem_of_getElem? (i := 593) (by decide +kernel)⟩
theorem lw_p41 : lw_okq (⟨"HoleCounty", "isRight", "(JJ)Z"⟩, 6) := ⟨⟨by decide +kernel, by decide +kernel⟩, List.mem_of_getElem? (i := 12) (by decide +kernel), List.mem_of_getElem? (i := 601) (by decide +kernel), List.mem_of_getElem? (i := 602) (by decide +kernel)⟩
theorem lw_p42 : lw_okq (⟨"HoleCounty$Row", "begin", "(II)V"⟩, 4) := ⟨⟨by decide +kernel, by decide +kernel⟩, List.mem_of_getElem? (i := 124) (by decide +kernel), List.mem_of_getElem? (i := 610) (by decide +kernel), List.mem_of_getElem? (i := 611) (by decide +kernel)⟩
theorem lw_p43 : lw_okq (⟨"HoleCountyModel", "note", "(I)V"⟩, 27) := ⟨⟨by decide +kernel, by decide +kernel⟩, List.mem_of_getElem? (i := 626) (by decide +kernel), List.mem_of_getElem? (i := 725) (by decide +kernel), List.mem_of_getElem? (i := 726) (by decide +kernel)⟩
theorem lw_p44 : lw_okq (⟨"HoleCountyModel", "put", "(IIZ)V"⟩, 27) := ⟨⟨by decide +kernel, by decide +kernel⟩, List.mem_of_getElem? (i := 626) (by decide +kernel), List.mem_of_getElem? (i := 736) (by decide +kernel), List.mem_of_getElem? (i := 737) (by decide +kernel)⟩
theorem lw_p45 : lw_okq (⟨"HoleCountyModel", "look", "()V"⟩, 27) := ⟨⟨by decide +kernel, by decide +kernel⟩, List.mem_of_getElem? (i := 626) (by decide +kernel), List.mem_of_getElem? (i := 763) (by decide +kernel), List.mem_of_getElem? (i := 764) (by decide +kernel)⟩
theorem lw_p46 : lw_okq (⟨"HoleCountyModel", "holeAt", "(I)J"⟩, 27) := ⟨⟨by decide +kernel, by decide +kernel⟩, List.mem_of_getElem? (i := 626) (by decide +kernel), List.mem_of_getElem? (i := 767) (by decide +kernel), List.mem_of_getElem? (i := 768) (by decide +kernel)⟩
theorem lw_p47 : lw_okq (⟨"HoleCountyModel", "readGround", "()Z"⟩, 27) := ⟨⟨by decide +kernel, by decide +kernel⟩, List.mem_of_getElem? (i := 626) (by decide +kernel), List.mem_of_getElem? (i := 793) (by decide +kernel), List.mem_of_getElem? (i := 794) (by decide +kernel)⟩
def lw_privs_3 : List (MethodName × Nat) := [(⟨"HoleCounty$Mole", "seek", "(IIIII)V"⟩, 7), (⟨"HoleCounty$Ground", "fits", "(JJII)Z"⟩, 9), (⟨"HoleCounty$Ground", "yearByLot", "()I"⟩, 9), (⟨"HoleCounty$Ground", "drawn", "()I"⟩, 9), (⟨"HoleCounty$Ground", "takeAll", "(LHoleCounty$Ground;)V"⟩, 9), (⟨"HoleCounty", "refusal", "(IIII)I"⟩, 6), (⟨"HoleCounty$Row", "spans", "(II)Z"⟩, 4), (⟨"HoleCounty$Row", "areDepths", "(II)Z"⟩, 4), (⟨"HoleCounty$Row", "put", "(IJ)V"⟩, 4), (⟨"HoleCounty", "isRight", "(JJ)Z"⟩, 6), (⟨"HoleCounty$Row", "begin", "(II)V"⟩, 4), (⟨"HoleCountyModel", "note", "(I)V"⟩, 27), (⟨"HoleCountyModel", "put", "(IIZ)V"⟩, 27), (⟨"HoleCountyModel", "look", "()V"⟩, 27), (⟨"HoleCountyModel", "holeAt", "(I)J"⟩, 27), (⟨"HoleCountyModel", "readGround", "()Z"⟩, 27)]
theorem lw_r3 : ∀ q ∈ lw_privs_3, lw_okq q := List.forall_mem_cons.mpr ⟨lw_p32, List.forall_mem_cons.mpr ⟨lw_p33, List.forall_mem_cons.mpr ⟨lw_p34, List.forall_mem_cons.mpr ⟨lw_p35, List.forall_mem_cons.mpr ⟨lw_p36, List.forall_mem_cons.mpr ⟨lw_p37, List.forall_mem_cons.mpr ⟨lw_p38, List.forall_mem_cons.mpr ⟨lw_p39, List.forall_mem_cons.mpr ⟨lw_p40, List.forall_mem_cons.mpr ⟨lw_p41, List.forall_mem_cons.mpr ⟨lw_p42, List.forall_mem_cons.mpr ⟨lw_p43, List.forall_mem_cons.mpr ⟨lw_p44, List.forall_mem_cons.mpr ⟨lw_p45, List.forall_mem_cons.mpr ⟨lw_p46, List.forall_mem_cons.mpr ⟨lw_p47, fun _ h => absurd h List.not_mem_nil⟩⟩⟩⟩⟩⟩⟩⟩⟩⟩⟩⟩⟩⟩⟩⟩
theorem lw_p48 : lw_okq (⟨"HoleCountyModel", "takes", "(I)Z"⟩, 27) := ⟨⟨by decide +kernel, by decide +kernel⟩, List.mem_of_getElem? (i := 626) (by decide +kernel), List.mem_of_getElem? (i := 797) (by decide +kernel), List.mem_of_getElem? (i := 798) (by decide +kernel)⟩
theorem lw_p49 : lw_okq (⟨"HoleCountyModel", "nextLetter", "()I"⟩, 27) := ⟨⟨by decide +kernel, by decide +kernel⟩, List.mem_of_getElem? (i := 626) (by decide +kernel), List.mem_of_getElem? (i := 801) (by decide +kernel), List.mem_of_getElem? (i := 802) (by decide +kernel)⟩
theorem lw_p50 : lw_okq (⟨"HoleCountyModel", "end", "(Z)I"⟩, 27) := ⟨⟨by decide +kernel, by decide +kernel⟩, List.mem_of_getElem? (i := 626) (by decide +kernel), List.mem_of_getElem? (i := 806) (by decide +kernel), List.mem_of_getElem? (i := 807) (by decide +kernel)⟩
theorem lw_p51 : lw_okq (⟨"HoleCountyModel", "findHoles", "()V"⟩, 27) := ⟨⟨by decide +kernel, by decide +kernel⟩, List.mem_of_getElem? (i := 626) (by decide +kernel), List.mem_of_getElem? (i := 810) (by decide +kernel), List.mem_of_getElem? (i := 811) (by decide +kernel)⟩
theorem lw_p52 : lw_okq (⟨"HoleCountyModel", "readOwners", "()Z"⟩, 27) := ⟨⟨by decide +kernel, by decide +kernel⟩, List.mem_of_getElem? (i := 626) (by decide +kernel), List.mem_of_getElem? (i := 818) (by decide +kernel), List.mem_of_getElem? (i := 819) (by decide +kernel)⟩
theorem lw_p53 : lw_okq (⟨"HoleCountyModel", "readDay", "()Z"⟩, 27) := ⟨⟨by decide +kernel, by decide +kernel⟩, List.mem_of_getElem? (i := 626) (by decide +kernel), List.mem_of_getElem? (i := 828) (by decide +kernel), List.mem_of_getElem? (i := 829) (by decide +kernel)⟩
theorem lw_p54 : lw_okq (⟨"HoleCountyModel", "readAct", "()Z"⟩, 27) := ⟨⟨by decide +kernel, by decide +kernel⟩, List.mem_of_getElem? (i := 626) (by decide +kernel), List.mem_of_getElem? (i := 832) (by decide +kernel), List.mem_of_getElem? (i := 833) (by decide +kernel)⟩
theorem lw_p55 : lw_okq (⟨"HoleCountyModel", "taxOfAll", "()I"⟩, 27) := ⟨⟨by decide +kernel, by decide +kernel⟩, List.mem_of_getElem? (i := 626) (by decide +kernel), List.mem_of_getElem? (i := 847) (by decide +kernel), List.mem_of_getElem? (i := 848) (by decide +kernel)⟩
theorem lw_p56 : lw_okq (⟨"HoleCountyModel", "taxOf", "(J)I"⟩, 27) := ⟨⟨by decide +kernel, by decide +kernel⟩, List.mem_of_getElem? (i := 626) (by decide +kernel), List.mem_of_getElem? (i := 851) (by decide +kernel), List.mem_of_getElem? (i := 852) (by decide +kernel)⟩
theorem lw_p57 : lw_okq (⟨"HoleCountyModel", "kindOf", "(J)I"⟩, 27) := ⟨⟨by decide +kernel, by decide +kernel⟩, List.mem_of_getElem? (i := 626) (by decide +kernel), List.mem_of_getElem? (i := 855) (by decide +kernel), List.mem_of_getElem? (i := 856) (by decide +kernel)⟩
theorem lw_p58 : lw_okq (⟨"HoleCountyModel", "rimOf", "(J)J"⟩, 27) := ⟨⟨by decide +kernel, by decide +kernel⟩, List.mem_of_getElem? (i := 626) (by decide +kernel), List.mem_of_getElem? (i := 875) (by decide +kernel), List.mem_of_getElem? (i := 876) (by decide +kernel)⟩
theorem lw_p59 : lw_okq (⟨"HoleCountyModel", "ownerOf", "(J)I"⟩, 27) := ⟨⟨by decide +kernel, by decide +kernel⟩, List.mem_of_getElem? (i := 626) (by decide +kernel), List.mem_of_getElem? (i := 879) (by decide +kernel), List.mem_of_getElem? (i := 880) (by decide +kernel)⟩
theorem lw_p60 : lw_okq (⟨"HoleCountyModel", "owned", "(I)J"⟩, 27) := ⟨⟨by decide +kernel, by decide +kernel⟩, List.mem_of_getElem? (i := 626) (by decide +kernel), List.mem_of_getElem? (i := 883) (by decide +kernel), List.mem_of_getElem? (i := 884) (by decide +kernel)⟩
theorem lw_p61 : lw_okq (⟨"HoleCountyModel", "nestedOf", "(J)I"⟩, 27) := ⟨⟨by decide +kernel, by decide +kernel⟩, List.mem_of_getElem? (i := 626) (by decide +kernel), List.mem_of_getElem? (i := 887) (by decide +kernel), List.mem_of_getElem? (i := 888) (by decide +kernel)⟩
theorem lw_p62 : lw_okq (⟨"HoleCountyModel", "partOf", "(JI)I"⟩, 27) := ⟨⟨by decide +kernel, by decide +kernel⟩, List.mem_of_getElem? (i := 626) (by decide +kernel), List.mem_of_getElem? (i := 908) (by decide +kernel), List.mem_of_getElem? (i := 909) (by decide +kernel)⟩
theorem lw_p63 : lw_okq (⟨"HoleCountyModel", "fewestFilled", "(IJ)I"⟩, 27) := ⟨⟨by decide +kernel, by decide +kernel⟩, List.mem_of_getElem? (i := 626) (by decide +kernel), List.mem_of_getElem? (i := 926) (by decide +kernel), List.mem_of_getElem? (i := 927) (by decide +kernel)⟩
def lw_privs_4 : List (MethodName × Nat) := [(⟨"HoleCountyModel", "takes", "(I)Z"⟩, 27), (⟨"HoleCountyModel", "nextLetter", "()I"⟩, 27), (⟨"HoleCountyModel", "end", "(Z)I"⟩, 27), (⟨"HoleCountyModel", "findHoles", "()V"⟩, 27), (⟨"HoleCountyModel", "readOwners", "()Z"⟩, 27), (⟨"HoleCountyModel", "readDay", "()Z"⟩, 27), (⟨"HoleCountyModel", "readAct", "()Z"⟩, 27), (⟨"HoleCountyModel", "taxOfAll", "()I"⟩, 27), (⟨"HoleCountyModel", "taxOf", "(J)I"⟩, 27), (⟨"HoleCountyModel", "kindOf", "(J)I"⟩, 27), (⟨"HoleCountyModel", "rimOf", "(J)J"⟩, 27), (⟨"HoleCountyModel", "ownerOf", "(J)I"⟩, 27), (⟨"HoleCountyModel", "owned", "(I)J"⟩, 27), (⟨"HoleCountyModel", "nestedOf", "(J)I"⟩, 27), (⟨"HoleCountyModel", "partOf", "(JI)I"⟩, 27), (⟨"HoleCountyModel", "fewestFilled", "(IJ)I"⟩, 27)]
theorem lw_r4 : ∀ q ∈ lw_privs_4, lw_okq q := List.forall_mem_cons.mpr ⟨lw_p48, List.forall_mem_cons.mpr ⟨lw_p49, List.forall_mem_cons.mpr ⟨lw_p50, List.forall_mem_cons.mpr ⟨lw_p51, List.forall_mem_cons.mpr ⟨lw_p52, List.forall_mem_cons.mpr ⟨lw_p53, List.forall_mem_cons.mpr ⟨lw_p54, List.forall_mem_cons.mpr ⟨lw_p55, List.forall_mem_cons.mpr ⟨lw_p56, List.forall_mem_cons.mpr ⟨lw_p57, List.forall_mem_cons.mpr ⟨lw_p58, List.forall_mem_cons.mpr ⟨lw_p59, List.forall_mem_cons.mpr ⟨lw_p60, List.forall_mem_cons.mpr ⟨lw_p61, List.forall_mem_cons.mpr ⟨lw_p62, List.forall_mem_cons.mpr ⟨lw_p63, fun _ h => absurd h List.not_mem_nil⟩⟩⟩⟩⟩⟩⟩⟩⟩⟩⟩⟩⟩⟩⟩⟩
theorem lw_p64 : lw_okq (⟨"HoleCountyModel", "does", "(JIJ)Z"⟩, 27) := ⟨⟨by decide +kernel, by decide +kernel⟩, List.mem_of_getElem? (i := 626) (by decide +kernel), List.mem_of_getElem? (i := 930) (by decide +kernel), List.mem_of_getElem? (i := 931) (by decide +kernel)⟩
theorem lw_p65 : lw_okq (⟨"HoleCountyModel", "fewestDug", "(JJJ)I"⟩, 27) := ⟨⟨by decide +kernel, by decide +kernel⟩, List.mem_of_getElem? (i := 626) (by decide +kernel), List.mem_of_getElem? (i := 942) (by decide +kernel), List.mem_of_getElem? (i := 943) (by decide +kernel)⟩
theorem lw_p66 : lw_okq (⟨"HoleCountyModel", "stepsOf", "(II)I"⟩, 27) := ⟨⟨by decide +kernel, by decide +kernel⟩, List.mem_of_getElem? (i := 626) (by decide +kernel), List.mem_of_getElem? (i := 967) (by decide +kernel), List.mem_of_getElem? (i := 968) (by decide +kernel)⟩
theorem lw_p67 : lw_okq (⟨"HoleCountyModel", "nextOrder", "(I)Z"⟩, 27) := ⟨⟨by decide +kernel, by decide +kernel⟩, List.mem_of_getElem? (i := 626) (by decide +kernel), List.mem_of_getElem? (i := 971) (by decide +kernel), List.mem_of_getElem? (i := 972) (by decide +kernel)⟩
theorem lw_p68 : lw_okq (⟨"HoleCountyModel", "nextDraw", "(I)I"⟩, 27) := ⟨⟨by decide +kernel, by decide +kernel⟩, List.mem_of_getElem? (i := 626) (by decide +kernel), List.mem_of_getElem? (i := 993) (by decide +kernel), List.mem_of_getElem? (i := 994) (by decide +kernel)⟩
theorem lw_p69 : lw_okq (⟨"HoleCountyModel", "carried", "(IIZ)I"⟩, 27) := ⟨⟨by decide +kernel, by decide +kernel⟩, List.mem_of_getElem? (i := 626) (by decide +kernel), List.mem_of_getElem? (i := 1009) (by decide +kernel), List.mem_of_getElem? (i := 1010) (by decide +kernel)⟩
theorem lw_p70 : lw_okq (⟨"HoleCountyModel", "lacksRow", "(IIII)I"⟩, 27) := ⟨⟨by decide +kernel, by decide +kernel⟩, List.mem_of_getElem? (i := 626) (by decide +kernel), List.mem_of_getElem? (i := 1032) (by decide +kernel), List.mem_of_getElem? (i := 1033) (by decide +kernel)⟩
def lw_privs_5 : List (MethodName × Nat) := [(⟨"HoleCountyModel", "does", "(JIJ)Z"⟩, 27), (⟨"HoleCountyModel", "fewestDug", "(JJJ)I"⟩, 27), (⟨"HoleCountyModel", "stepsOf", "(II)I"⟩, 27), (⟨"HoleCountyModel", "nextOrder", "(I)Z"⟩, 27), (⟨"HoleCountyModel", "nextDraw", "(I)I"⟩, 27), (⟨"HoleCountyModel", "carried", "(IIZ)I"⟩, 27), (⟨"HoleCountyModel", "lacksRow", "(IIII)I"⟩, 27)]
theorem lw_r5 : ∀ q ∈ lw_privs_5, lw_okq q := List.forall_mem_cons.mpr ⟨lw_p64, List.forall_mem_cons.mpr ⟨lw_p65, List.forall_mem_cons.mpr ⟨lw_p66, List.forall_mem_cons.mpr ⟨lw_p67, List.forall_mem_cons.mpr ⟨lw_p68, List.forall_mem_cons.mpr ⟨lw_p69, List.forall_mem_cons.mpr ⟨lw_p70, fun _ h => absurd h List.not_mem_nil⟩⟩⟩⟩⟩⟩⟩
def lw_privs : List (MethodName × Nat) := lw_privs_1 ++ (lw_privs_2 ++ (lw_privs_3 ++ (lw_privs_4 ++ (lw_privs_5))))
def lw_tbl : List Cond := k2_sels lw_privs ++ tables_1
theorem lw_privs_ok : ∀ q ∈ lw_privs, lw_okq q := by
  show ∀ q ∈ lw_privs_1 ++ (lw_privs_2 ++ (lw_privs_3 ++ (lw_privs_4 ++ (lw_privs_5)))), lw_okq q
  exact List.forall_mem_append.mpr ⟨lw_r1, List.forall_mem_append.mpr ⟨lw_r2, List.forall_mem_append.mpr ⟨lw_r3, List.forall_mem_append.mpr ⟨lw_r4, lw_r5⟩⟩⟩⟩
end
section
def RX0 : String := "HoleCounty$Ground"
def TX0 : u_T := fun k => match k with
  | 0 => ("HoleCounty$Ground", "depth", "[I", true)
  | 1 => ("HoleCounty$Ground", "owner", "[I", true)
  | 2 => ("HoleCounty$Ground", "open", "J", false)
  | 3 => ("HoleCounty$Ground", "nines", "J", false)
  | 4 => ("HoleCounty$Ground", "roofed", "J", false)
  | 5 => ("HoleCounty$Ground", "rate", "I", false)
  | 6 => ("HoleCounty$Ground", "draw", "I", false)
  | 7 => ("HoleCounty$Ground", "ahead", "[I", true)
  | _ => ("HoleCounty$Ground", "known", "I", false)
def tyX0 : Nat → FieldType := fun k => match k with
  | 0 => .array .int
  | 1 => .array .int
  | 2 => .long
  | 3 => .long
  | 4 => .long
  | 5 => .int
  | 6 => .int
  | 7 => .array .int
  | _ => .int
abbrev wsX00 : List Cond := u_ws RX0 TX0 9
theorem nmX0 : ∀ a, a < 9 → ∀ b, b < 9 → a ≠ b → (TX0 a).2.1 ≠ (TX0 b).2.1 := by decide +kernel
theorem tyX0_ok : ∀ k, k < 9 → parseFieldDescriptor (TX0 k).2.2.1 = some (tyX0 k) := by decide +kernel
abbrev cX0_init : ByteArray := prog_2_method_1_code
def yX0_init : MethodName := ⟨RX0, "<init>", "()V"⟩
abbrev cX0_takeAll : ByteArray := prog_2_method_2_code
def yX0_takeAll : MethodName := ⟨RX0, "takeAll", "(LHoleCounty$Ground;)V"⟩
abbrev cX0_put : ByteArray := prog_2_method_3_code
def yX0_put : MethodName := ⟨RX0, "put", "(II)V"⟩
abbrev cX0_become : ByteArray := prog_2_method_4_code
def yX0_become : MethodName := ⟨RX0, "become", "([IJ)V"⟩
abbrev cX0_toDig : ByteArray := prog_2_method_5_code
def yX0_toDig : MethodName := ⟨RX0, "toDig", "(I)I"⟩
abbrev cX0_toFill : ByteArray := prog_2_method_6_code
def yX0_toFill : MethodName := ⟨RX0, "toFill", "(I)I"⟩
abbrev cX0_toRoof : ByteArray := prog_2_method_7_code
def yX0_toRoof : MethodName := ⟨RX0, "toRoof", "(I)I"⟩
abbrev cX0_repaired : ByteArray := prog_2_method_8_code
def yX0_repaired : MethodName := ⟨RX0, "repaired", "(I)Z"⟩
abbrev cX0_remember : ByteArray := prog_2_method_9_code
def yX0_remember : MethodName := ⟨RX0, "remember", "(I)V"⟩
abbrev cX0_forget : ByteArray := prog_2_method_10_code
def yX0_forget : MethodName := ⟨RX0, "forget", "()V"⟩
abbrev cX0_takeBack : ByteArray := prog_2_method_11_code
def yX0_takeBack : MethodName := ⟨RX0, "takeBack", "()I"⟩
abbrev cX0_drawn : ByteArray := prog_2_method_12_code
def yX0_drawn : MethodName := ⟨RX0, "drawn", "()I"⟩
abbrev cX0_yearByLot : ByteArray := prog_2_method_13_code
def yX0_yearByLot : MethodName := ⟨RX0, "yearByLot", "()I"⟩
abbrev cX0_depths : ByteArray := prog_2_method_14_code
def yX0_depths : MethodName := ⟨RX0, "depths", "()I"⟩
abbrev cX0_holeAt : ByteArray := prog_2_method_15_code
def yX0_holeAt : MethodName := ⟨RX0, "holeAt", "(I)J"⟩
abbrev cX0_kindOf : ByteArray := prog_2_method_16_code
def yX0_kindOf : MethodName := ⟨RX0, "kindOf", "(JJ)I"⟩
abbrev cX0_taxOf : ByteArray := prog_2_method_17_code
def yX0_taxOf : MethodName := ⟨RX0, "taxOf", "(JJ)I"⟩
abbrev cX0_taxOfAll : ByteArray := prog_2_method_18_code
def yX0_taxOfAll : MethodName := ⟨RX0, "taxOfAll", "(JJ)I"⟩
abbrev cX0_landOf : ByteArray := prog_2_method_19_code
def yX0_landOf : MethodName := ⟨RX0, "landOf", "(I)J"⟩
abbrev cX0_ownerOf : ByteArray := prog_2_method_20_code
def yX0_ownerOf : MethodName := ⟨RX0, "ownerOf", "(J)I"⟩
abbrev cX0_partOf : ByteArray := prog_2_method_21_code
def yX0_partOf : MethodName := ⟨RX0, "partOf", "(JI)I"⟩
abbrev cX0_partOfAll : ByteArray := prog_2_method_22_code
def yX0_partOfAll : MethodName := ⟨RX0, "partOfAll", "(I)I"⟩
abbrev cX0_leastFilled : ByteArray := prog_2_method_23_code
def yX0_leastFilled : MethodName := ⟨RX0, "leastFilled", "(I)J"⟩
abbrev cX0_fits : ByteArray := prog_2_method_24_code
def yX0_fits : MethodName := ⟨RX0, "fits", "(JJII)Z"⟩
def RX1 : String := "HoleCounty$Mole"
def TX1 : u_T := fun k => match k with
  | 0 => ("HoleCounty$Mole", "holes", "[J", true)
  | 1 => ("HoleCounty$Mole", "apart", "[I", true)
  | 2 => ("HoleCounty$Mole", "nearest", "[I", true)
  | 3 => ("HoleCounty$Mole", "row", "[I", true)
  | 4 => ("HoleCounty$Mole", "best", "[I", true)
  | 5 => ("HoleCounty$Mole", "size", "I", false)
  | _ => ("HoleCounty$Mole", "fewest", "I", false)
def tyX1 : Nat → FieldType := fun k => match k with
  | 0 => .array .long
  | 1 => .array .int
  | 2 => .array .int
  | 3 => .array .int
  | 4 => .array .int
  | 5 => .int
  | _ => .int
abbrev wsX10 : List Cond := u_ws RX1 TX1 7
theorem nmX1 : ∀ a, a < 7 → ∀ b, b < 7 → a ≠ b → (TX1 a).2.1 ≠ (TX1 b).2.1 := by decide +kernel
theorem tyX1_ok : ∀ k, k < 7 → parseFieldDescriptor (TX1 k).2.2.1 = some (tyX1 k) := by decide +kernel
abbrev cX1_init : ByteArray := prog_3_method_1_code
def yX1_init : MethodName := ⟨RX1, "<init>", "()V"⟩
abbrev cX1_walk : ByteArray := prog_3_method_2_code
def yX1_walk : MethodName := ⟨RX1, "walk", "(IJ)V"⟩
abbrev cX1_measure : ByteArray := prog_3_method_3_code
def yX1_measure : MethodName := ⟨RX1, "measure", "(IJ)V"⟩
abbrev cX1_nearestOf : ByteArray := prog_3_method_4_code
def yX1_nearestOf : MethodName := ⟨RX1, "nearestOf", "(JI)I"⟩
abbrev cX1_steps : ByteArray := prog_3_method_5_code
def yX1_steps : MethodName := ⟨RX1, "steps", "(II)I"⟩
abbrev cX1_seek : ByteArray := prog_3_method_6_code
def yX1_seek : MethodName := ⟨RX1, "seek", "(IIIII)V"⟩
def RX2 : String := "HoleCounty$Plane"
def TX2 : u_T := fun k => match k with
  | _ => ("", "", "", false)
def tyX2 : Nat → FieldType := fun k => match k with
  | _ => .int
abbrev wsX20 : List Cond := u_ws RX2 TX2 0
theorem nmX2 : ∀ a, a < 0 → ∀ b, b < 0 → a ≠ b → (TX2 a).2.1 ≠ (TX2 b).2.1 := by decide +kernel
theorem tyX2_ok : ∀ k, k < 0 → parseFieldDescriptor (TX2 k).2.2.1 = some (tyX2 k) := by decide +kernel
abbrev cX2_has : ByteArray := prog_4_method_2_code
def yX2_has : MethodName := ⟨RX2, "has", "(JI)Z"⟩
abbrev cX2_least : ByteArray := prog_4_method_3_code
def yX2_least : MethodName := ⟨RX2, "least", "(J)I"⟩
abbrev cX2_beside : ByteArray := prog_4_method_4_code
def yX2_beside : MethodName := ⟨RX2, "beside", "(J)J"⟩
abbrev cX2_spread : ByteArray := prog_4_method_5_code
def yX2_spread : MethodName := ⟨RX2, "spread", "(JJ)J"⟩
abbrev cX2_firstHole : ByteArray := prog_4_method_6_code
def yX2_firstHole : MethodName := ⟨RX2, "firstHole", "(J)J"⟩
abbrev cX2_holesOf : ByteArray := prog_4_method_7_code
def yX2_holesOf : MethodName := ⟨RX2, "holesOf", "(J)I"⟩
abbrev cX2_rimOf : ByteArray := prog_4_method_8_code
def yX2_rimOf : MethodName := ⟨RX2, "rimOf", "(J)J"⟩
abbrev cX2_fenceOf : ByteArray := prog_4_method_9_code
def yX2_fenceOf : MethodName := ⟨RX2, "fenceOf", "(J)I"⟩
abbrev cX2_withinOf : ByteArray := prog_4_method_10_code
def yX2_withinOf : MethodName := ⟨RX2, "withinOf", "(J)J"⟩
abbrev cX2_nestedIn : ByteArray := prog_4_method_11_code
def yX2_nestedIn : MethodName := ⟨RX2, "nestedIn", "(JJ)I"⟩
abbrev cX2_broadestIn : ByteArray := prog_4_method_12_code
def yX2_broadestIn : MethodName := ⟨RX2, "broadestIn", "(J)I"⟩
abbrev cX2_mostCells : ByteArray := prog_4_method_13_code
def yX2_mostCells : MethodName := ⟨RX2, "mostCells", "(J)J"⟩
abbrev cX2_leastCut : ByteArray := prog_4_method_14_code
def yX2_leastCut : MethodName := ⟨RX2, "leastCut", "(JJ)I"⟩
abbrev cX2_isInPieces : ByteArray := prog_4_method_15_code
def yX2_isInPieces : MethodName := ⟨RX2, "isInPieces", "(J)Z"⟩
abbrev cX2_leastSplit : ByteArray := prog_4_method_16_code
def yX2_leastSplit : MethodName := ⟨RX2, "leastSplit", "(J)J"⟩
abbrev cX2_gapBetween : ByteArray := prog_4_method_17_code
def yX2_gapBetween : MethodName := ⟨RX2, "gapBetween", "(JJJJ)I"⟩
abbrev cX2_leastDug : ByteArray := prog_4_method_18_code
def yX2_leastDug : MethodName := ⟨RX2, "leastDug", "(JJJ)J"⟩
def RX3 : String := "HoleCounty$Row"
def TX3 : u_T := fun k => match k with
  | 0 => ("HoleCounty$Row", "items", "[J", true)
  | 1 => ("HoleCounty$Row", "isThere", "Z", false)
  | 2 => ("HoleCounty$Row", "lane", "I", false)
  | _ => ("HoleCounty$Row", "length", "I", false)
def tyX3 : Nat → FieldType := fun k => match k with
  | 0 => .array .long
  | 1 => .boolean
  | 2 => .int
  | _ => .int
abbrev wsX30 : List Cond := u_ws RX3 TX3 4
theorem nmX3 : ∀ a, a < 4 → ∀ b, b < 4 → a ≠ b → (TX3 a).2.1 ≠ (TX3 b).2.1 := by decide +kernel
theorem tyX3_ok : ∀ k, k < 4 → parseFieldDescriptor (TX3 k).2.2.1 = some (tyX3 k) := by decide +kernel
abbrev cX3_init : ByteArray := prog_5_method_1_code
def yX3_init : MethodName := ⟨RX3, "<init>", "()V"⟩
abbrev cX3_begin : ByteArray := prog_5_method_2_code
def yX3_begin : MethodName := ⟨RX3, "begin", "(II)V"⟩
abbrev cX3_spans : ByteArray := prog_5_method_3_code
def yX3_spans : MethodName := ⟨RX3, "spans", "(II)Z"⟩
abbrev cX3_put : ByteArray := prog_5_method_4_code
def yX3_put : MethodName := ⟨RX3, "put", "(IJ)V"⟩
abbrev cX3_areDepths : ByteArray := prog_5_method_5_code
def yX3_areDepths : MethodName := ⟨RX3, "areDepths", "(II)Z"⟩
def RX4 : String := "HoleCounty$Tape"
def TX4 : u_T := fun k => match k with
  | 0 => ("HoleCounty$Tape", "letters", "[C", true)
  | 1 => ("HoleCounty$Tape", "length", "I", false)
  | 2 => ("HoleCounty$Tape", "place", "I", false)
  | 3 => ("HoleCounty$Tape", "read", "[I", true)
  | 4 => ("HoleCounty$Tape", "roofed", "J", false)
  | _ => ("HoleCounty$Tape", "repairs", "I", false)
def tyX4 : Nat → FieldType := fun k => match k with
  | 0 => .array .char
  | 1 => .int
  | 2 => .int
  | 3 => .array .int
  | 4 => .long
  | _ => .int
abbrev wsX40 : List Cond := u_ws RX4 TX4 6
theorem nmX4 : ∀ a, a < 6 → ∀ b, b < 6 → a ≠ b → (TX4 a).2.1 ≠ (TX4 b).2.1 := by decide +kernel
theorem tyX4_ok : ∀ k, k < 6 → parseFieldDescriptor (TX4 k).2.2.1 = some (tyX4 k) := by decide +kernel
abbrev cX4_init : ByteArray := prog_6_method_1_code
def yX4_init : MethodName := ⟨RX4, "<init>", "()V"⟩
abbrev cX4_add : ByteArray := prog_6_method_2_code
def yX4_add : MethodName := ⟨RX4, "add", "(C)I"⟩
abbrev cX4_wipe : ByteArray := prog_6_method_3_code
def yX4_wipe : MethodName := ⟨RX4, "wipe", "()V"⟩
abbrev cX4_passBlanks : ByteArray := prog_6_method_4_code
def yX4_passBlanks : MethodName := ⟨RX4, "passBlanks", "()V"⟩
abbrev cX4_isNext : ByteArray := prog_6_method_5_code
def yX4_isNext : MethodName := ⟨RX4, "isNext", "(C)Z"⟩
abbrev cX4_nextFigure : ByteArray := prog_6_method_6_code
def yX4_nextFigure : MethodName := ⟨RX4, "nextFigure", "(C)I"⟩
abbrev cX4_fault : ByteArray := prog_6_method_7_code
def yX4_fault : MethodName := ⟨RX4, "fault", "()I"⟩
abbrev cX4_faultBehind : ByteArray := prog_6_method_8_code
def yX4_faultBehind : MethodName := ⟨RX4, "faultBehind", "()I"⟩
abbrev cX4_readGround : ByteArray := prog_6_method_9_code
def yX4_readGround : MethodName := ⟨RX4, "readGround", "()I"⟩
abbrev cX4_readOwners : ByteArray := prog_6_method_10_code
def yX4_readOwners : MethodName := ⟨RX4, "readOwners", "()I"⟩
abbrev cX4_readDay : ByteArray := prog_6_method_11_code
def yX4_readDay : MethodName := ⟨RX4, "readDay", "()I"⟩
abbrev cX4_nextRepair : ByteArray := prog_6_method_12_code
def yX4_nextRepair : MethodName := ⟨RX4, "nextRepair", "()I"⟩
def RX5 : String := "HoleCounty"
def TX5 : u_T := fun k => match k with
  | 0 => ("HoleCounty", "now", "LHoleCounty$Ground;", true)
  | 1 => ("HoleCounty", "kept", "LHoleCounty$Ground;", true)
  | 2 => ("HoleCounty", "hasImage", "Z", false)
  | 3 => ("HoleCounty", "tape", "LHoleCounty$Tape;", true)
  | 4 => ("HoleCounty", "rows", "[LHoleCounty$Row;", true)
  | _ => ("HoleCounty", "mole", "LHoleCounty$Mole;", true)
def tyX5 : Nat → FieldType := fun k => match k with
  | 0 => .object "HoleCounty$Ground"
  | 1 => .object "HoleCounty$Ground"
  | 2 => .boolean
  | 3 => .object "HoleCounty$Tape"
  | 4 => .array (.object "HoleCounty$Row")
  | _ => .object "HoleCounty$Mole"
abbrev wsX50 : List Cond := u_ws RX5 TX5 6
theorem nmX5 : ∀ a, a < 6 → ∀ b, b < 6 → a ≠ b → (TX5 a).2.1 ≠ (TX5 b).2.1 := by decide +kernel
theorem tyX5_ok : ∀ k, k < 6 → parseFieldDescriptor (TX5 k).2.2.1 = some (tyX5 k) := by decide +kernel
abbrev cX5_init : ByteArray := prog_1_method_1_code
def yX5_init : MethodName := ⟨RX5, "<init>", "()V"⟩
abbrev cX5_dig : ByteArray := prog_1_method_2_code
def yX5_dig : MethodName := ⟨RX5, "dig", "(I)I"⟩
abbrev cX5_fill : ByteArray := prog_1_method_3_code
def yX5_fill : MethodName := ⟨RX5, "fill", "(I)I"⟩
abbrev cX5_roof : ByteArray := prog_1_method_4_code
def yX5_roof : MethodName := ⟨RX5, "roof", "(I)I"⟩
abbrev cX5_undo : ByteArray := prog_1_method_5_code
def yX5_undo : MethodName := ⟨RX5, "undo", "()I"⟩
abbrev cX5_own : ByteArray := prog_1_method_6_code
def yX5_own : MethodName := ⟨RX5, "own", "(II)I"⟩
abbrev cX5_rate : ByteArray := prog_1_method_7_code
def yX5_rate : MethodName := ⟨RX5, "rate", "(I)I"⟩
abbrev cX5_told : ByteArray := prog_1_method_8_code
def yX5_told : MethodName := ⟨RX5, "told", "(II)I"⟩
abbrev cX5_type : ByteArray := prog_1_method_9_code
def yX5_type : MethodName := ⟨RX5, "type", "(I)I"⟩
abbrev cX5_ground : ByteArray := prog_1_method_10_code
def yX5_ground : MethodName := ⟨RX5, "ground", "()I"⟩
abbrev cX5_owners : ByteArray := prog_1_method_11_code
def yX5_owners : MethodName := ⟨RX5, "owners", "()I"⟩
abbrev cX5_day : ByteArray := prog_1_method_12_code
def yX5_day : MethodName := ⟨RX5, "day", "()I"⟩
abbrev cX5_count : ByteArray := prog_1_method_13_code
def yX5_count : MethodName := ⟨RX5, "count", "(I)I"⟩
abbrev cX5_hole : ByteArray := prog_1_method_14_code
def yX5_hole : MethodName := ⟨RX5, "hole", "(II)I"⟩
abbrev cX5_cells : ByteArray := prog_1_method_15_code
def yX5_cells : MethodName := ⟨RX5, "cells", "(II)J"⟩
abbrev cX5_part : ByteArray := prog_1_method_16_code
def yX5_part : MethodName := ⟨RX5, "part", "(II)I"⟩
abbrev cX5_pays : ByteArray := prog_1_method_17_code
def yX5_pays : MethodName := ⟨RX5, "pays", "(I)I"⟩
abbrev cX5_worth : ByteArray := prog_1_method_18_code
def yX5_worth : MethodName := ⟨RX5, "worth", "(I)I"⟩
abbrev cX5_filled : ByteArray := prog_1_method_19_code
def yX5_filled : MethodName := ⟨RX5, "filled", "(II)I"⟩
abbrev cX5_split : ByteArray := prog_1_method_20_code
def yX5_split : MethodName := ⟨RX5, "split", "(II)I"⟩
abbrev cX5_dug : ByteArray := prog_1_method_21_code
def yX5_dug : MethodName := ⟨RX5, "dug", "(III)I"⟩
abbrev cX5_loophole : ByteArray := prog_1_method_22_code
def yX5_loophole : MethodName := ⟨RX5, "loophole", "()I"⟩
abbrev cX5_roofs : ByteArray := prog_1_method_23_code
def yX5_roofs : MethodName := ⟨RX5, "roofs", "(I)I"⟩
abbrev cX5_round : ByteArray := prog_1_method_24_code
def yX5_round : MethodName := ⟨RX5, "round", "(II)I"⟩
abbrev cX5_border : ByteArray := prog_1_method_25_code
def yX5_border : MethodName := ⟨RX5, "border", "(I)I"⟩
abbrev cX5_cut : ByteArray := prog_1_method_26_code
def yX5_cut : MethodName := ⟨RX5, "cut", "(I)I"⟩
abbrev cX5_books : ByteArray := prog_1_method_27_code
def yX5_books : MethodName := ⟨RX5, "books", "(JIII)J"⟩
abbrev cX5_lots : ByteArray := prog_1_method_28_code
def yX5_lots : MethodName := ⟨RX5, "lots", "(I)I"⟩
abbrev cX5_seed : ByteArray := prog_1_method_29_code
def yX5_seed : MethodName := ⟨RX5, "seed", "(I)I"⟩
abbrev cX5_image : ByteArray := prog_1_method_30_code
def yX5_image : MethodName := ⟨RX5, "image", "()I"⟩
abbrev cX5_restore : ByteArray := prog_1_method_31_code
def yX5_restore : MethodName := ⟨RX5, "restore", "()I"⟩
abbrev cX5_lay : ByteArray := prog_1_method_32_code
def yX5_lay : MethodName := ⟨RX5, "lay", "(IIIII)I"⟩
abbrev cX5_film : ByteArray := prog_1_method_33_code
def yX5_film : MethodName := ⟨RX5, "film", "(III)I"⟩
abbrev cX5_miscounted : ByteArray := prog_1_method_34_code
def yX5_miscounted : MethodName := ⟨RX5, "miscounted", "(IIII)I"⟩
abbrev cX5_sheet : ByteArray := prog_1_method_35_code
def yX5_sheet : MethodName := ⟨RX5, "sheet", "(III)I"⟩
abbrev cX5_drop : ByteArray := prog_1_method_36_code
def yX5_drop : MethodName := ⟨RX5, "drop", "(I)I"⟩
abbrev cX5_item : ByteArray := prog_1_method_37_code
def yX5_item : MethodName := ⟨RX5, "item", "(IIIJ)I"⟩
abbrev cX5_copy : ByteArray := prog_1_method_38_code
def yX5_copy : MethodName := ⟨RX5, "copy", "(IIIII)I"⟩
abbrev cX5_isCell : ByteArray := prog_1_method_39_code
def yX5_isCell : MethodName := ⟨RX5, "isCell", "(I)Z"⟩
abbrev cX5_isOwner : ByteArray := prog_1_method_40_code
def yX5_isOwner : MethodName := ⟨RX5, "isOwner", "(I)Z"⟩
abbrev cX5_isSheet : ByteArray := prog_1_method_41_code
def yX5_isSheet : MethodName := ⟨RX5, "isSheet", "(I)Z"⟩
abbrev cX5_isLane : ByteArray := prog_1_method_42_code
def yX5_isLane : MethodName := ⟨RX5, "isLane", "(I)Z"⟩
abbrev cX5_refusal : ByteArray := prog_1_method_43_code
def yX5_refusal : MethodName := ⟨RX5, "refusal", "(IIII)I"⟩
abbrev cX5_isRight : ByteArray := prog_1_method_44_code
def yX5_isRight : MethodName := ⟨RX5, "isRight", "(JJ)Z"⟩
abbrev cX5_pick : ByteArray := prog_1_method_45_code
def yX5_pick : MethodName := ⟨RX5, "pick", "(JI)I"⟩
def RX6 : String := "HoleCountyModel"
def TX6 : u_T := fun k => match k with
  | 0 => ("HoleCountyModel", "depths", "[I", true)
  | 1 => ("HoleCountyModel", "owners", "[I", true)
  | 2 => ("HoleCountyModel", "roofs", "J", false)
  | 3 => ("HoleCountyModel", "rate", "I", false)
  | 4 => ("HoleCountyModel", "undos", "[I", true)
  | 5 => ("HoleCountyModel", "undoMany", "I", false)
  | 6 => ("HoleCountyModel", "drawn", "I", false)
  | 7 => ("HoleCountyModel", "dug", "J", false)
  | 8 => ("HoleCountyModel", "deep", "J", false)
  | 9 => ("HoleCountyModel", "holes", "[J", true)
  | 10 => ("HoleCountyModel", "holeMany", "I", false)
  | 11 => ("HoleCountyModel", "tape", "[I", true)
  | 12 => ("HoleCountyModel", "taped", "I", false)
  | 13 => ("HoleCountyModel", "place", "I", false)
  | 14 => ("HoleCountyModel", "reads", "I", false)
  | 15 => ("HoleCountyModel", "read", "[I", true)
  | 16 => ("HoleCountyModel", "row", "[I", true)
  | 17 => ("HoleCountyModel", "order", "[I", true)
  | 18 => ("HoleCountyModel", "bestOrder", "[I", true)
  | 19 => ("HoleCountyModel", "nears", "[I", true)
  | 20 => ("HoleCountyModel", "isKept", "Z", false)
  | 21 => ("HoleCountyModel", "keptRoofs", "J", false)
  | 22 => ("HoleCountyModel", "kept", "[I", true)
  | 23 => ("HoleCountyModel", "lanes", "[I", true)
  | 24 => ("HoleCountyModel", "rowSizes", "[I", true)
  | 25 => ("HoleCountyModel", "items", "[J", true)
  | _ => ("HoleCountyModel", "moved", "[J", true)
def tyX6 : Nat → FieldType := fun k => match k with
  | 0 => .array .int
  | 1 => .array .int
  | 2 => .long
  | 3 => .int
  | 4 => .array .int
  | 5 => .int
  | 6 => .int
  | 7 => .long
  | 8 => .long
  | 9 => .array .long
  | 10 => .int
  | 11 => .array .int
  | 12 => .int
  | 13 => .int
  | 14 => .int
  | 15 => .array .int
  | 16 => .array .int
  | 17 => .array .int
  | 18 => .array .int
  | 19 => .array .int
  | 20 => .boolean
  | 21 => .long
  | 22 => .array .int
  | 23 => .array .int
  | 24 => .array .int
  | 25 => .array .long
  | _ => .array .long
abbrev wsX60 : List Cond := u_ws RX6 TX6 27
theorem nmX6 : ∀ a, a < 27 → ∀ b, b < 27 → a ≠ b → (TX6 a).2.1 ≠ (TX6 b).2.1 := by decide +kernel
theorem tyX6_ok : ∀ k, k < 27 → parseFieldDescriptor (TX6 k).2.2.1 = some (tyX6 k) := by decide +kernel
abbrev cX6_init : ByteArray := prog_8_method_1_code
def yX6_init : MethodName := ⟨RX6, "<init>", "()V"⟩
abbrev cX6_in : ByteArray := prog_8_method_2_code
def yX6_in : MethodName := ⟨RX6, "in", "(JJJ)Z"⟩
abbrev cX6_isCell : ByteArray := prog_8_method_3_code
def yX6_isCell : MethodName := ⟨RX6, "isCell", "(I)Z"⟩
abbrev cX6_has : ByteArray := prog_8_method_4_code
def yX6_has : MethodName := ⟨RX6, "has", "(JI)Z"⟩
abbrev cX6_ones : ByteArray := prog_8_method_5_code
def yX6_ones : MethodName := ⟨RX6, "ones", "(J)I"⟩
abbrev cX6_least : ByteArray := prog_8_method_6_code
def yX6_least : MethodName := ⟨RX6, "least", "(J)I"⟩
abbrev cX6_look : ByteArray := prog_8_method_7_code
def yX6_look : MethodName := ⟨RX6, "look", "()V"⟩
abbrev cX6_beside : ByteArray := prog_8_method_8_code
def yX6_beside : MethodName := ⟨RX6, "beside", "(J)J"⟩
abbrev cX6_grown : ByteArray := prog_8_method_9_code
def yX6_grown : MethodName := ⟨RX6, "grown", "(JJ)J"⟩
abbrev cX6_holeAt : ByteArray := prog_8_method_10_code
def yX6_holeAt : MethodName := ⟨RX6, "holeAt", "(I)J"⟩
abbrev cX6_rimOf : ByteArray := prog_8_method_11_code
def yX6_rimOf : MethodName := ⟨RX6, "rimOf", "(J)J"⟩
abbrev cX6_fenceOf : ByteArray := prog_8_method_12_code
def yX6_fenceOf : MethodName := ⟨RX6, "fenceOf", "(J)I"⟩
abbrev cX6_edge : ByteArray := prog_8_method_13_code
def yX6_edge : MethodName := ⟨RX6, "edge", "()J"⟩
abbrev cX6_withinOf : ByteArray := prog_8_method_14_code
def yX6_withinOf : MethodName := ⟨RX6, "withinOf", "(J)J"⟩
abbrev cX6_kindOf : ByteArray := prog_8_method_15_code
def yX6_kindOf : MethodName := ⟨RX6, "kindOf", "(J)I"⟩
abbrev cX6_taxOf : ByteArray := prog_8_method_16_code
def yX6_taxOf : MethodName := ⟨RX6, "taxOf", "(J)I"⟩
abbrev cX6_findHoles : ByteArray := prog_8_method_17_code
def yX6_findHoles : MethodName := ⟨RX6, "findHoles", "()V"⟩
abbrev cX6_taxOfAll : ByteArray := prog_8_method_18_code
def yX6_taxOfAll : MethodName := ⟨RX6, "taxOfAll", "()I"⟩
abbrev cX6_note : ByteArray := prog_8_method_19_code
def yX6_note : MethodName := ⟨RX6, "note", "(I)V"⟩
abbrev cX6_put : ByteArray := prog_8_method_20_code
def yX6_put : MethodName := ⟨RX6, "put", "(IIZ)V"⟩
abbrev cX6_dig : ByteArray := prog_8_method_21_code
def yX6_dig : MethodName := ⟨RX6, "dig", "(I)I"⟩
abbrev cX6_fill : ByteArray := prog_8_method_22_code
def yX6_fill : MethodName := ⟨RX6, "fill", "(I)I"⟩
abbrev cX6_roof : ByteArray := prog_8_method_23_code
def yX6_roof : MethodName := ⟨RX6, "roof", "(I)I"⟩
abbrev cX6_undo : ByteArray := prog_8_method_24_code
def yX6_undo : MethodName := ⟨RX6, "undo", "()I"⟩
abbrev cX6_own : ByteArray := prog_8_method_25_code
def yX6_own : MethodName := ⟨RX6, "own", "(II)I"⟩
abbrev cX6_rate : ByteArray := prog_8_method_26_code
def yX6_rate : MethodName := ⟨RX6, "rate", "(I)I"⟩
abbrev cX6_told : ByteArray := prog_8_method_27_code
def yX6_told : MethodName := ⟨RX6, "told", "(II)I"⟩
abbrev cX6_type : ByteArray := prog_8_method_28_code
def yX6_type : MethodName := ⟨RX6, "type", "(I)I"⟩
abbrev cX6_nextLetter : ByteArray := prog_8_method_29_code
def yX6_nextLetter : MethodName := ⟨RX6, "nextLetter", "()I"⟩
abbrev cX6_takes : ByteArray := prog_8_method_30_code
def yX6_takes : MethodName := ⟨RX6, "takes", "(I)Z"⟩
abbrev cX6_end : ByteArray := prog_8_method_31_code
def yX6_end : MethodName := ⟨RX6, "end", "(Z)I"⟩
abbrev cX6_readGround : ByteArray := prog_8_method_32_code
def yX6_readGround : MethodName := ⟨RX6, "readGround", "()Z"⟩
abbrev cX6_ground : ByteArray := prog_8_method_33_code
def yX6_ground : MethodName := ⟨RX6, "ground", "()I"⟩
abbrev cX6_readOwners : ByteArray := prog_8_method_34_code
def yX6_readOwners : MethodName := ⟨RX6, "readOwners", "()Z"⟩
abbrev cX6_owners : ByteArray := prog_8_method_35_code
def yX6_owners : MethodName := ⟨RX6, "owners", "()I"⟩
abbrev cX6_readAct : ByteArray := prog_8_method_36_code
def yX6_readAct : MethodName := ⟨RX6, "readAct", "()Z"⟩
abbrev cX6_readDay : ByteArray := prog_8_method_37_code
def yX6_readDay : MethodName := ⟨RX6, "readDay", "()Z"⟩
abbrev cX6_day : ByteArray := prog_8_method_38_code
def yX6_day : MethodName := ⟨RX6, "day", "()I"⟩
abbrev cX6_count : ByteArray := prog_8_method_39_code
def yX6_count : MethodName := ⟨RX6, "count", "(I)I"⟩
abbrev cX6_owned : ByteArray := prog_8_method_40_code
def yX6_owned : MethodName := ⟨RX6, "owned", "(I)J"⟩
abbrev cX6_ownerOf : ByteArray := prog_8_method_41_code
def yX6_ownerOf : MethodName := ⟨RX6, "ownerOf", "(J)I"⟩
abbrev cX6_nestedOf : ByteArray := prog_8_method_42_code
def yX6_nestedOf : MethodName := ⟨RX6, "nestedOf", "(J)I"⟩
abbrev cX6_largestOf : ByteArray := prog_8_method_43_code
def yX6_largestOf : MethodName := ⟨RX6, "largestOf", "(J)I"⟩
abbrev cX6_hole : ByteArray := prog_8_method_44_code
def yX6_hole : MethodName := ⟨RX6, "hole", "(II)I"⟩
abbrev cX6_cells : ByteArray := prog_8_method_45_code
def yX6_cells : MethodName := ⟨RX6, "cells", "(II)J"⟩
abbrev cX6_partOf : ByteArray := prog_8_method_46_code
def yX6_partOf : MethodName := ⟨RX6, "partOf", "(JI)I"⟩
abbrev cX6_part : ByteArray := prog_8_method_47_code
def yX6_part : MethodName := ⟨RX6, "part", "(II)I"⟩
abbrev cX6_pays : ByteArray := prog_8_method_48_code
def yX6_pays : MethodName := ⟨RX6, "pays", "(I)I"⟩
abbrev cX6_worth : ByteArray := prog_8_method_49_code
def yX6_worth : MethodName := ⟨RX6, "worth", "(I)I"⟩
abbrev cX6_filled : ByteArray := prog_8_method_50_code
def yX6_filled : MethodName := ⟨RX6, "filled", "(II)I"⟩
abbrev cX6_fewestFilled : ByteArray := prog_8_method_51_code
def yX6_fewestFilled : MethodName := ⟨RX6, "fewestFilled", "(IJ)I"⟩
abbrev cX6_does : ByteArray := prog_8_method_52_code
def yX6_does : MethodName := ⟨RX6, "does", "(JIJ)Z"⟩
abbrev cX6_split : ByteArray := prog_8_method_53_code
def yX6_split : MethodName := ⟨RX6, "split", "(II)I"⟩
abbrev cX6_fewestDug : ByteArray := prog_8_method_54_code
def yX6_fewestDug : MethodName := ⟨RX6, "fewestDug", "(JJJ)I"⟩
abbrev cX6_dug : ByteArray := prog_8_method_55_code
def yX6_dug : MethodName := ⟨RX6, "dug", "(III)I"⟩
abbrev cX6_loophole : ByteArray := prog_8_method_56_code
def yX6_loophole : MethodName := ⟨RX6, "loophole", "()I"⟩
abbrev cX6_roofs : ByteArray := prog_8_method_57_code
def yX6_roofs : MethodName := ⟨RX6, "roofs", "(I)I"⟩
abbrev cX6_nextOrder : ByteArray := prog_8_method_58_code
def yX6_nextOrder : MethodName := ⟨RX6, "nextOrder", "(I)Z"⟩
abbrev cX6_off : ByteArray := prog_8_method_59_code
def yX6_off : MethodName := ⟨RX6, "off", "(II)I"⟩
abbrev cX6_apart : ByteArray := prog_8_method_60_code
def yX6_apart : MethodName := ⟨RX6, "apart", "(II)I"⟩
abbrev cX6_nearest : ByteArray := prog_8_method_61_code
def yX6_nearest : MethodName := ⟨RX6, "nearest", "(JI)I"⟩
abbrev cX6_stepsOf : ByteArray := prog_8_method_62_code
def yX6_stepsOf : MethodName := ⟨RX6, "stepsOf", "(II)I"⟩
abbrev cX6_round : ByteArray := prog_8_method_63_code
def yX6_round : MethodName := ⟨RX6, "round", "(II)I"⟩
abbrev cX6_border : ByteArray := prog_8_method_64_code
def yX6_border : MethodName := ⟨RX6, "border", "(I)I"⟩
abbrev cX6_cut : ByteArray := prog_8_method_65_code
def yX6_cut : MethodName := ⟨RX6, "cut", "(I)I"⟩
abbrev cX6_books : ByteArray := prog_8_method_66_code
def yX6_books : MethodName := ⟨RX6, "books", "(JIII)J"⟩
abbrev cX6_nextDraw : ByteArray := prog_8_method_67_code
def yX6_nextDraw : MethodName := ⟨RX6, "nextDraw", "(I)I"⟩
abbrev cX6_lots : ByteArray := prog_8_method_68_code
def yX6_lots : MethodName := ⟨RX6, "lots", "(I)I"⟩
abbrev cX6_seed : ByteArray := prog_8_method_69_code
def yX6_seed : MethodName := ⟨RX6, "seed", "(I)I"⟩
abbrev cX6_carried : ByteArray := prog_8_method_70_code
def yX6_carried : MethodName := ⟨RX6, "carried", "(IIZ)I"⟩
abbrev cX6_image : ByteArray := prog_8_method_71_code
def yX6_image : MethodName := ⟨RX6, "image", "()I"⟩
abbrev cX6_restore : ByteArray := prog_8_method_72_code
def yX6_restore : MethodName := ⟨RX6, "restore", "()I"⟩
abbrev cX6_isSheet : ByteArray := prog_8_method_73_code
def yX6_isSheet : MethodName := ⟨RX6, "isSheet", "(II)Z"⟩
abbrev cX6_asLane : ByteArray := prog_8_method_74_code
def yX6_asLane : MethodName := ⟨RX6, "asLane", "(IJ)J"⟩
abbrev cX6_sheet : ByteArray := prog_8_method_75_code
def yX6_sheet : MethodName := ⟨RX6, "sheet", "(III)I"⟩
abbrev cX6_drop : ByteArray := prog_8_method_76_code
def yX6_drop : MethodName := ⟨RX6, "drop", "(I)I"⟩
abbrev cX6_lacksRow : ByteArray := prog_8_method_77_code
def yX6_lacksRow : MethodName := ⟨RX6, "lacksRow", "(IIII)I"⟩
abbrev cX6_item : ByteArray := prog_8_method_78_code
def yX6_item : MethodName := ⟨RX6, "item", "(IIIJ)I"⟩
abbrev cX6_lay : ByteArray := prog_8_method_79_code
def yX6_lay : MethodName := ⟨RX6, "lay", "(IIIII)I"⟩
abbrev cX6_film : ByteArray := prog_8_method_80_code
def yX6_film : MethodName := ⟨RX6, "film", "(III)I"⟩
abbrev cX6_miscounted : ByteArray := prog_8_method_81_code
def yX6_miscounted : MethodName := ⟨RX6, "miscounted", "(IIII)I"⟩
abbrev cX6_copy : ByteArray := prog_8_method_82_code
def yX6_copy : MethodName := ⟨RX6, "copy", "(IIIII)I"⟩
def RJ13 : String := "java/lang/Long"
def TJ13 : u_T := fun k => match k with
  | _ => ("", "", "", false)
def tyJ13 : Nat → FieldType := fun k => match k with
  | _ => .int
abbrev wsJ130 : List Cond := u_ws RJ13 TJ13 0
theorem nmJ13 : ∀ a, a < 0 → ∀ b, b < 0 → a ≠ b → (TJ13 a).2.1 ≠ (TJ13 b).2.1 := by decide +kernel
theorem tyJ13_ok : ∀ k, k < 0 → parseFieldDescriptor (TJ13 k).2.2.1 = some (tyJ13 k) := by decide +kernel
abbrev cJ13_bitCount_95d88 : ByteArray := prog_9_method_50_code
def yJ13_bitCount_95d88 : MethodName := ⟨RJ13, "bitCount", "(J)I"⟩
def RJ9 : String := "java/lang/Math"
def TJ9 : u_T := fun k => match k with
  | _ => ("", "", "", false)
def tyJ9 : Nat → FieldType := fun k => match k with
  | _ => .int
abbrev wsJ90 : List Cond := u_ws RJ9 TJ9 0
theorem nmJ9 : ∀ a, a < 0 → ∀ b, b < 0 → a ≠ b → (TJ9 a).2.1 ≠ (TJ9 b).2.1 := by decide +kernel
theorem tyJ9_ok : ∀ k, k < 0 → parseFieldDescriptor (TJ9 k).2.2.1 = some (tyJ9 k) := by decide +kernel
abbrev cJ9_abs_0f7a4 : ByteArray := prog_10_method_59_code
def yJ9_abs_0f7a4 : MethodName := ⟨RJ9, "abs", "(I)I"⟩
abbrev cJ9_max_7cf53 : ByteArray := prog_10_method_65_code
def yJ9_max_7cf53 : MethodName := ⟨RJ9, "max", "(II)I"⟩
abbrev cJ9_min_7cf53 : ByteArray := prog_10_method_69_code
def yJ9_min_7cf53 : MethodName := ⟨RJ9, "min", "(II)I"⟩
def RJ10 : String := "java/lang/System"
def TJ10 : u_T := fun k => match k with
  | _ => ("", "", "", false)
def tyJ10 : Nat → FieldType := fun k => match k with
  | _ => .int
abbrev wsJ100 : List Cond := u_ws RJ10 TJ10 0
theorem nmJ10 : ∀ a, a < 0 → ∀ b, b < 0 → a ≠ b → (TJ10 a).2.1 ≠ (TJ10 b).2.1 := by decide +kernel
theorem tyJ10_ok : ∀ k, k < 0 → parseFieldDescriptor (TJ10 k).2.2.1 = some (tyJ10 k) := by decide +kernel
def RL : String := "HoleCountyLaw"
abbrev cL_law : ByteArray := code
def yL_law : MethodName := ⟨RL, "law", "([I)Z"⟩
abbrev vwCl : List vw_C := [(RX0, TX0, 9), (RX1, TX1, 7), (RX3, TX3, 4), (RX4, TX4, 6), (RX5, TX5, 6), (RX6, TX6, 27)]
end
section
/-! ===== the abstract machine: worlds of fixed shape, blocks, weakest preconditions ===== -/
abbrev zW : Type := (Nat → Nat → Int32) × (Nat → Nat → Int64)
abbrev zL : Type := List (Option Value)
abbrev zA : Type := Value ⊕ Instr
abbrev zT : Type := (Jvm.ClassFile.Cond × Bool × Nat × Nat) ⊕ (List (Int32 × Nat) × Nat) ⊕ (Nat × Nat × Nat)
abbrev zB : Type := Nat × List zA × zT
abbrev zQ : Type := Option Value → zW → Prop
abbrev zI : Type := MethodName × ByteArray × Nat × Option FieldType × Nat × Bool × Nat
def gI (w : zW) (o k : Nat) : Int32 := w.1 o k
def gL (w : zW) (o k : Nat) : Int64 := w.2 o k
def sI (w : zW) (o k : Nat) (v : Int32) : zW := (fun a b => if a = o ∧ b = k then v else w.1 a b, w.2)
def sL (w : zW) (o k : Nat) (v : Int64) : zW := (w.1, fun a b => if a = o ∧ b = k then v else w.2 a b)
/-- arrays copied: ints, longs -/
def cI (w : zW) (o1 o2 sp dp n : Nat) : zW := (fun a b => if a = o2 then va_cpy (w.1 o1) (w.1 o2) sp dp n b else w.1 a b, w.2)
def cL (w : zW) (o1 o2 sp dp n : Nat) : zW := (w.1, fun a b => if a = o2 then va_cpy (w.2 o1) (w.2 o2) sp dp n b else w.2 a b)
/-- the objects: 0 county, 1 now, 2 kept, 3 tape, 4 rows, 5-8 rows' objects, 9 mole, 10 the reference, then their arrays (kind 0 int, 1 long, 2 char, 3 references), by length; 43 the script, 44 its length -/
def zshL : List (Nat ⊕ (Nat × Nat)) := [.inl 4, .inl 0, .inl 0, .inl 3, .inr (3, 4), .inl 2, .inl 2, .inl 2, .inl 2, .inl 1, .inl 5,
  .inr (0, 36), .inr (0, 36), .inr (0, 10), .inr (0, 36), .inr (0, 36), .inr (0, 10), .inr (2, 160), .inr (0, 41),
  .inr (1, 36), .inr (1, 36), .inr (1, 36), .inr (1, 36), .inr (1, 8), .inr (0, 8), .inr (0, 288), .inr (0, 8), .inr (0, 8),
  .inr (0, 36), .inr (0, 36), .inr (0, 30), .inr (1, 36), .inr (0, 160), .inr (0, 80), .inr (0, 10), .inr (0, 8), .inr (0, 8), .inr (0, 288), .inr (0, 106), .inr (0, 4), .inr (0, 4), .inr (1, 144), .inr (1, 36)]
def zis (o ci : Nat) : Prop := zshL[o]? = some (.inl ci)
def zar (o kd n : Nat) : Prop := zshL[o]? = some (.inr (kd, n))
def zln (o : Nat) : Nat := match zshL[o]? with
  | some (.inr q) => q.2
  | _ => 0
/-- kinds of fields: 0 int, 1 long, 2 boolean, 3 reference -/
def zfkL : List (List Nat) := [[3, 3, 1, 1, 1, 0, 0, 3, 0], [3, 3, 3, 3, 3, 0, 0], [3, 2, 0, 0], [3, 0, 0, 3, 1, 0], [3, 3, 2, 3, 3, 3], [3, 3, 1, 0, 3, 0, 0, 1, 1, 3, 0, 3, 0, 0, 0, 3, 3, 3, 3, 3, 2, 1, 3, 3, 3, 3, 3]]
def zfk (ci k : Nat) : Nat := (zfkL.getD ci []).getD k 9
def zrfL : List (List Nat) := [[1, 2, 0, 3, 4, 9], [11, 12, 0, 0, 0, 0, 0, 13], [14, 15, 0, 0, 0, 0, 0, 16], [17, 0, 0, 18], [], [19], [20], [21], [22], [23, 24, 25, 26, 27], [28, 29, 0, 0, 30, 0, 0, 0, 0, 31, 0, 32, 0, 0, 0, 33, 34, 35, 36, 37, 0, 0, 38, 39, 40, 41, 42]]
def zrf (o k : Nat) : Nat := (zrfL.getD o []).getD k 0
def zre (o j : Nat) : Nat := o + 1 + j
def zsl (x : Int64) (y : Int32) : Int64 := x <<< (y.toInt64 &&& 63)
def zsr (x : Int64) (y : Int32) : Int64 := x >>> (y.toInt64 &&& 63)
def zus (x : Int64) (y : Int32) : Int64 := (x.toUInt64 >>> (y.toInt64.toUInt64 &&& Int64.toUInt64 63)).toInt64
def zrm (x y : Int32) : Int32 := x - x / y * y
def zch (x : Int32) : Int32 := (x.toUInt32 % 65536).toInt32
def zii (f : Int32 → Int32 → Int32) (st : List Value) (k : List Value → Prop) : Prop := match st with
  | .int y :: .int x :: r => k (.int (f x y) :: r)
  | _ => False
def zid (f : Int32 → Int32 → Int32) (st : List Value) (k : List Value → Prop) : Prop := match st with
  | .int y :: .int x :: r => ¬ y = 0 ∧ k (.int (f x y) :: r)
  | _ => False
def zll (f : Int64 → Int64 → Value) (st : List Value) (k : List Value → Prop) : Prop := match st with
  | .long y :: .long x :: r => k (f x y :: r)
  | _ => False
def zls (f : Int64 → Int32 → Int64) (st : List Value) (k : List Value → Prop) : Prop := match st with
  | .int y :: .long x :: r => k (.long (f x y) :: r)
  | _ => False
def zui (f : Int32 → Value) (st : List Value) (k : List Value → Prop) : Prop := match st with
  | .int x :: r => k (f x :: r)
  | _ => False
def zul (f : Int64 → Value) (st : List Value) (k : List Value → Prop) : Prop := match st with
  | .long x :: r => k (f x :: r)
  | _ => False
def zldi (ls : zL) (i : Nat) (k : Value → Prop) : Prop := match ls[i]? with
  | some (some (.int x)) => k (.int x)
  | _ => False
def zldl (ls : zL) (i : Nat) (k : Value → Prop) : Prop := match ls[i]? with
  | some (some (.long x)) => k (.long x)
  | _ => False
def zlda (ls : zL) (i : Nat) (k : Value → Prop) : Prop := match ls[i]? with
  | some (some (.ref x)) => k (.ref x)
  | _ => False
/-- no long stands just ahead of place i -/
def zfree (ls : zL) (i : Nat) : Bool := match i with
  | 0 => true
  | j + 1 => match ls[j]? with
    | some (some (.long _)) => false
    | some (some (.double _)) => false
    | _ => true
def zs1 (ls : zL) (i : Nat) (v : Value) (k : zL → Prop) : Prop := match Nat.blt i ls.length && zfree ls i with
  | true => k (ls.set i (some v))
  | false => False
def zs2 (ls : zL) (i : Nat) (v : Value) (k : zL → Prop) : Prop := match Nat.blt (i + 1) ls.length && zfree ls i with
  | true => k ((ls.set i (some v)).set (i + 1) none)
  | false => False
def zsti (ls : zL) (i : Nat) (st : List Value) (k : zL → List Value → Prop) : Prop := match st with
  | .int x :: r => zs1 ls i (.int x) (fun l => k l r)
  | _ => False
def zstl (ls : zL) (i : Nat) (st : List Value) (k : zL → List Value → Prop) : Prop := match st with
  | .long x :: r => zs2 ls i (.long x) (fun l => k l r)
  | _ => False
def zsta (ls : zL) (i : Nat) (st : List Value) (k : zL → List Value → Prop) : Prop := match st with
  | .ref x :: r => zs1 ls i (.ref x) (fun l => k l r)
  | _ => False
def zinc (ls : zL) (i : Nat) (n : Int) (k : zL → Prop) : Prop := match ls[i]? with
  | some (some (.int x)) => zs1 ls i (.int (x + Int32.ofInt n)) k
  | _ => False
def zget (ci q : Nat) (st : List Value) (w : zW) (k : List Value → Prop) : Prop := match st with
  | .ref o :: r => zis o ci ∧ (match zfk ci q with
    | 0 => k (.int (gI w o q) :: r)
    | 1 => k (.long (gL w o q) :: r)
    | 2 => k (.int (gI w o q) :: r)
    | 3 => k (.ref (zrf o q) :: r)
    | _ => False)
  | _ => False
def zput (ci q : Nat) (st : List Value) (w : zW) (k : List Value → zW → Prop) : Prop := match zfk ci q with
  | 0 => match st with
    | .int x :: .ref o :: r => zis o ci ∧ k r (sI w o q x)
    | _ => False
  | 1 => match st with
    | .long x :: .ref o :: r => zis o ci ∧ k r (sL w o q x)
    | _ => False
  | 2 => match st with
    | .int x :: .ref o :: r => zis o ci ∧ (x = 0 ∨ x = 1) ∧ k r (sI w o q x)
    | _ => False
  | _ => False
def zald (kd : Nat) (st : List Value) (w : zW) (k : List Value → Prop) : Prop := match st with
  | .int j :: .ref o :: r => zar o kd (zln o) ∧ vp_in j (zln o) ∧ k (.int (gI w o j.toNatClampNeg) :: r)
  | _ => False
def zaldl (st : List Value) (w : zW) (k : List Value → Prop) : Prop := match st with
  | .int j :: .ref o :: r => zar o 1 (zln o) ∧ vp_in j (zln o) ∧ k (.long (gL w o j.toNatClampNeg) :: r)
  | _ => False
def zalda (st : List Value) (k : List Value → Prop) : Prop := match st with
  | .int j :: .ref o :: r => zar o 3 (zln o) ∧ vp_in j (zln o) ∧ k (.ref (zre o j.toNatClampNeg) :: r)
  | _ => False
def zast (st : List Value) (w : zW) (k : List Value → zW → Prop) : Prop := match st with
  | .int x :: .int j :: .ref o :: r => zar o 0 (zln o) ∧ vp_in j (zln o) ∧ k r (sI w o j.toNatClampNeg x)
  | _ => False
def zastc (st : List Value) (w : zW) (k : List Value → zW → Prop) : Prop := match st with
  | .int x :: .int j :: .ref o :: r => zar o 2 (zln o) ∧ vp_in j (zln o) ∧ k r (sI w o j.toNatClampNeg (vp_nar .char x))
  | _ => False
def zastl (st : List Value) (w : zW) (k : List Value → zW → Prop) : Prop := match st with
  | .long x :: .int j :: .ref o :: r => zar o 1 (zln o) ∧ vp_in j (zln o) ∧ k r (sL w o j.toNatClampNeg x)
  | _ => False
def zalen (st : List Value) (k : List Value → Prop) : Prop := match st with
  | .ref o :: r => zar o 0 (zln o) ∧ k (.int (Int32.ofNat (zln o)) :: r)
  | _ => False
def zscr (st : List Value) (w : zW) (k : List Value → Prop) : Prop := match st with
  | .int j :: .ref o :: r => o = 43 ∧ vp_in j (gI w 44 0).toNatClampNeg ∧ k (.int (gI w 43 j.toNatClampNeg) :: r)
  | _ => False
def zscl (st : List Value) (w : zW) (k : List Value → Prop) : Prop := match st with
  | .ref o :: r => o = 43 ∧ k (.int (gI w 44 0) :: r)
  | _ => False
def zdup (st : List Value) (k : List Value → Prop) : Prop := match st with
  | .int x :: r => k (.int x :: .int x :: r)
  | .ref x :: r => k (.ref x :: .ref x :: r)
  | _ => False
def zdup2 (st : List Value) (k : List Value → Prop) : Prop := match st with
  | .long x :: r => k (.long x :: .long x :: r)
  | .int x :: .ref y :: r => k (.int x :: .ref y :: .int x :: .ref y :: r)
  | _ => False
def zpop (st : List Value) (k : List Value → Prop) : Prop := match st with
  | .int _ :: r => k r
  | _ => False
/-- one instruction: what must hold ahead of it so that k holds behind it -/
def zone (a : zA) (ls : zL) (st : List Value) (w : zW) (k : zL → List Value → zW → Prop) : Prop := match a with
  | .inl v => k ls (v :: st) w
  | .inr i => match i with
    | .iload n => zldi ls n (fun v => k ls (v :: st) w)
    | .iload_n n => zldi ls n.val (fun v => k ls (v :: st) w)
    | .lload n => zldl ls n (fun v => k ls (v :: st) w)
    | .lload_n n => zldl ls n.val (fun v => k ls (v :: st) w)
    | .aload n => zlda ls n (fun v => k ls (v :: st) w)
    | .aload_n n => zlda ls n.val (fun v => k ls (v :: st) w)
    | .istore n => zsti ls n st (fun l r => k l r w)
    | .istore_n n => zsti ls n.val st (fun l r => k l r w)
    | .lstore n => zstl ls n st (fun l r => k l r w)
    | .lstore_n n => zstl ls n.val st (fun l r => k l r w)
    | .astore n => zsta ls n st (fun l r => k l r w)
    | .astore_n n => zsta ls n.val st (fun l r => k l r w)
    | .iinc n c => zinc ls n c (fun l => k l st w)
    | .iadd => zii (fun x y => x + y) st (fun r => k ls r w)
    | .isub => zii (fun x y => x - y) st (fun r => k ls r w)
    | .imul => zii (fun x y => x * y) st (fun r => k ls r w)
    | .iand => zii (fun x y => x &&& y) st (fun r => k ls r w)
    | .ior => zii (fun x y => x ||| y) st (fun r => k ls r w)
    | .ishl => zii (fun x y => x <<< (y &&& 31)) st (fun r => k ls r w)
    | .ishr => zii (fun x y => x >>> (y &&& 31)) st (fun r => k ls r w)
    | .idiv => zid (fun x y => x / y) st (fun r => k ls r w)
    | .irem => zid zrm st (fun r => k ls r w)
    | .ineg => zui (fun x => .int (-x)) st (fun r => k ls r w)
    | .ladd => zll (fun x y => .long (x + y)) st (fun r => k ls r w)
    | .lsub => zll (fun x y => .long (x - y)) st (fun r => k ls r w)
    | .lmul => zll (fun x y => .long (x * y)) st (fun r => k ls r w)
    | .land => zll (fun x y => .long (x &&& y)) st (fun r => k ls r w)
    | .lor => zll (fun x y => .long (x ||| y)) st (fun r => k ls r w)
    | .lxor => zll (fun x y => .long (x ^^^ y)) st (fun r => k ls r w)
    | .lcmp => zll (fun x y => .int (lg_cmp x y)) st (fun r => k ls r w)
    | .lneg => zul (fun x => .long (-x)) st (fun r => k ls r w)
    | .lshl => zls zsl st (fun r => k ls r w)
    | .lshr => zls zsr st (fun r => k ls r w)
    | .lushr => zls zus st (fun r => k ls r w)
    | .i2l => zui (fun x => .long x.toInt64) st (fun r => k ls r w)
    | .l2i => zul (fun x => .int x.toInt32) st (fun r => k ls r w)
    | .i2b => zui (fun x => .int x.toInt8.toInt32) st (fun r => k ls r w)
    | .i2s => zui (fun x => .int x.toInt16.toInt32) st (fun r => k ls r w)
    | .i2c => zui (fun x => .int (zch x)) st (fun r => k ls r w)
    | .dup => zdup st (fun r => k ls r w)
    | .dup2 => zdup2 st (fun r => k ls r w)
    | .pop => zpop st (fun r => k ls r w)
    | .invokeinterface ci q => zget ci q st w (fun r => k ls r w)
    | .multianewarray ci q => zput ci q st w (fun r w' => k ls r w')
    | .iaload => zald 0 st w (fun r => k ls r w)
    | .caload => zald 2 st w (fun r => k ls r w)
    | .laload => zaldl st w (fun r => k ls r w)
    | .aaload => zalda st (fun r => k ls r w)
    | .iastore => zast st w (fun r w' => k ls r w')
    | .castore => zastc st w (fun r w' => k ls r w')
    | .lastore => zastl st w (fun r w' => k ls r w')
    | .arraylength => zalen st (fun r => k ls r w)
    | .faload => zscr st w (fun r => k ls r w)
    | .monitorenter => zscl st w (fun r => k ls r w)
    | _ => False
def zrun : List zA → zL → List Value → zW → (zL → List Value → zW → Prop) → Prop
  | [], ls, st, w, k => k ls st w
  | a :: as, ls, st, w, k => zone a ls st w (fun ls st w => zrun as ls st w k)
def zbt (c : Jvm.ClassFile.Cond) (x y : Int32) : Prop := match c with
  | .eq => x = y
  | .ne => ¬ x = y
  | .lt => x < y
  | .ge => y ≤ x
  | .gt => y < x
  | .le => x ≤ y
def zbf (c : Jvm.ClassFile.Cond) (x y : Int32) : Prop := match c with
  | .eq => ¬ x = y
  | .ne => x = y
  | .lt => ¬ x < y
  | .ge => ¬ y ≤ x
  | .gt => ¬ y < x
  | .le => ¬ x ≤ y
def zsw (x : Int32) (k : Nat → Prop) (df : Nat) : List (Int32 × Nat) → Prop
  | [] => k df
  | q :: r => (x = q.1 → k q.2) ∧ (¬ x = q.1 → zsw x k df r)
def zcat (st : List Value) : Nat := (st.map fun v => v.category).sum
/-- a call's locals -/
def zent1 (vs : List Value) : zL := vs.flatMap fun v => match v with
  | .long x => [some (.long x), none]
  | .double x => [some (.double x), none]
  | v => [some v]
def zent (vs : List Value) (n : Nat) : zL := zent1 vs ++ List.replicate (n - (zent1 vs).length) none
def zpush (r : Option Value) (st : List Value) : List Value := match r with
  | some v => v :: st
  | none => st
abbrev zP : Type := Nat → Nat → Nat → zL → List Value → zW → zQ → Prop
def zcall (MI : List zI) (z b d y : Nat) (ls : zL) (st : List Value) (w : zW) (Q : zQ) (P : zP) : Prop := match MI[z]? with
  | none => False
  | some i => match d with
    | 0 => False
    | d + 1 => i.2.2.2.2.2.2 ≤ st.length ∧ (zent1 (st.take i.2.2.2.2.2.2).reverse).length ≤ i.2.2.1 ∧ zcat (st.drop i.2.2.2.2.2.2) ≤ 8 ∧ ∃ Q' : zQ, P d z 0 (zent (st.take i.2.2.2.2.2.2).reverse i.2.2.1) [] w Q' ∧ ∀ r w', Q' r w' → P (d + 1) y b ls (zpush r (st.drop i.2.2.2.2.2.2)) w' Q
def zretk (kd : Nat) (st : List Value) (w : zW) (Q : zQ) : Prop := match kd with
  | 0 => match st with
    | [] => Q none w
    | _ => False
  | 1 => match st with
    | [.int v] => Q (some (.int v)) w
    | _ => False
  | 2 => match st with
    | [.long v] => Q (some (.long v)) w
    | _ => False
  | 3 => match st with
    | [.int v] => (v = 0 ∨ v = 1) ∧ Q (some (.int v)) w
    | _ => False
  | _ => False
def zcopy (kd b d y : Nat) (ls : zL) (st : List Value) (w : zW) (Q : zQ) (P : zP) : Prop := match st with
  | .int n :: .int dp :: .ref o2 :: .int sp :: .ref o1 :: r => 0 < d ∧ zcat r ≤ 8 ∧ zar o1 kd (zln o1) ∧ zar o2 kd (zln o2) ∧ (¬ sp < 0 ∧ ¬ dp < 0 ∧ ¬ n < 0 ∧ sp.toNatClampNeg + n.toNatClampNeg ≤ zln o1 ∧ dp.toNatClampNeg + n.toNatClampNeg ≤ zln o2) ∧
    (match kd with
    | 0 => P d y b ls r (cI w o1 o2 sp.toNatClampNeg dp.toNatClampNeg n.toNatClampNeg) Q
    | 1 => P d y b ls r (cL w o1 o2 sp.toNatClampNeg dp.toNatClampNeg n.toNatClampNeg) Q
    | _ => False)
  | _ => False
def zterm (MI : List zI) (t : zT) (d y : Nat) (ls : zL) (st : List Value) (w : zW) (Q : zQ) (P : zP) : Prop := match t with
  | .inl (c, false, bt, bf) => match st with
    | .int x :: r => (zbt c x 0 → P d y bt ls r w Q) ∧ (zbf c x 0 → P d y bf ls r w Q)
    | _ => False
  | .inl (c, true, bt, bf) => match st with
    | .int v :: .int u :: r => (zbt c u v → P d y bt ls r w Q) ∧ (zbf c u v → P d y bf ls r w Q)
    | _ => False
  | .inr (.inl (cs, df)) => match st with
    | .int x :: r => zsw x (fun b => P d y b ls r w Q) df cs
    | _ => False
  | .inr (.inr (tag, a, b)) => match tag with
    | 0 => P d y a ls st w Q
    | 1 => zcall MI a b d y ls st w Q P
    | 2 => zretk a st w Q
    | 3 => zcopy a b d y ls st w Q P
    | _ => False
def zbody (MI : List zI) (PG : List (List zB)) (d y b : Nat) (ls : zL) (st : List Value) (w : zW) (Q : zQ) (P : zP) : Prop := match (PG.getD y [])[b]? with
  | none => False
  | some B => zrun B.2.1 ls st w (fun ls st w => zterm MI B.2.2 d y ls st w Q P)
/-- less is known of the locals -/
def zle : zL → zL → Prop
  | [], [] => True
  | a :: r, b :: t => (a = none ∨ a = b) ∧ zle r t
  | _, _ => False
def zclosed (MI : List zI) (PG : List (List zB)) (P : zP) : Prop :=
  (∀ d y b ls st w Q, zbody MI PG d y b ls st w Q P → P d y b ls st w Q) ∧
  (∀ d y b ls ls' st w Q, zle ls ls' → P d y b ls st w Q → P d y b ls' st w Q)
def zWP (MI : List zI) (PG : List (List zB)) (d y b : Nat) (ls : zL) (st : List Value) (w : zW) (Q : zQ) : Prop := ∀ P : zP, zclosed MI PG P → P d y b ls st w Q
/-! monotone -/
theorem zii_mono {f : Int32 → Int32 → Int32} {st : List Value} {k k' : List Value → Prop} (h : ∀ r, k r → k' r) : zii f st k → zii f st k' := by
  unfold zii; split
  · exact h _
  · exact id
theorem zid_mono {f : Int32 → Int32 → Int32} {st : List Value} {k k' : List Value → Prop} (h : ∀ r, k r → k' r) : zid f st k → zid f st k' := by
  unfold zid; split
  · exact fun q => ⟨q.1, h _ q.2⟩
  · exact id
theorem zll_mono {f : Int64 → Int64 → Value} {st : List Value} {k k' : List Value → Prop} (h : ∀ r, k r → k' r) : zll f st k → zll f st k' := by
  unfold zll; split
  · exact h _
  · exact id
theorem zls_mono {f : Int64 → Int32 → Int64} {st : List Value} {k k' : List Value → Prop} (h : ∀ r, k r → k' r) : zls f st k → zls f st k' := by
  unfold zls; split
  · exact h _
  · exact id
theorem zui_mono {f : Int32 → Value} {st : List Value} {k k' : List Value → Prop} (h : ∀ r, k r → k' r) : zui f st k → zui f st k' := by
  unfold zui; split
  · exact h _
  · exact id
theorem zul_mono {f : Int64 → Value} {st : List Value} {k k' : List Value → Prop} (h : ∀ r, k r → k' r) : zul f st k → zul f st k' := by
  unfold zul; split
  · exact h _
  · exact id
theorem zldi_mono {ls : zL} {i : Nat} {k k' : Value → Prop} (h : ∀ r, k r → k' r) : zldi ls i k → zldi ls i k' := by
  unfold zldi; split
  · exact h _
  · exact id
theorem zldl_mono {ls : zL} {i : Nat} {k k' : Value → Prop} (h : ∀ r, k r → k' r) : zldl ls i k → zldl ls i k' := by
  unfold zldl; split
  · exact h _
  · exact id
theorem zlda_mono {ls : zL} {i : Nat} {k k' : Value → Prop} (h : ∀ r, k r → k' r) : zlda ls i k → zlda ls i k' := by
  unfold zlda; split
  · exact h _
  · exact id
theorem zs1_mono {ls : zL} {i : Nat} {v : Value} {k k' : zL → Prop} (h : ∀ r, k r → k' r) : zs1 ls i v k → zs1 ls i v k' := by
  unfold zs1; split
  · exact h _
  · exact id
theorem zs2_mono {ls : zL} {i : Nat} {v : Value} {k k' : zL → Prop} (h : ∀ r, k r → k' r) : zs2 ls i v k → zs2 ls i v k' := by
  unfold zs2; split
  · exact h _
  · exact id
theorem zsti_mono {ls : zL} {i : Nat} {st : List Value} {k k' : zL → List Value → Prop} (h : ∀ l r, k l r → k' l r) : zsti ls i st k → zsti ls i st k' := by
  unfold zsti; split
  · exact zs1_mono (fun l => h l _)
  · exact id
theorem zstl_mono {ls : zL} {i : Nat} {st : List Value} {k k' : zL → List Value → Prop} (h : ∀ l r, k l r → k' l r) : zstl ls i st k → zstl ls i st k' := by
  unfold zstl; split
  · exact zs2_mono (fun l => h l _)
  · exact id
theorem zsta_mono {ls : zL} {i : Nat} {st : List Value} {k k' : zL → List Value → Prop} (h : ∀ l r, k l r → k' l r) : zsta ls i st k → zsta ls i st k' := by
  unfold zsta; split
  · exact zs1_mono (fun l => h l _)
  · exact id
theorem zinc_mono {ls : zL} {i : Nat} {n : Int} {k k' : zL → Prop} (h : ∀ l, k l → k' l) : zinc ls i n k → zinc ls i n k' := by
  unfold zinc; split
  · exact zs1_mono h
  · exact id
theorem zget_mono {ci q : Nat} {st : List Value} {w : zW} {k k' : List Value → Prop} (h : ∀ r, k r → k' r) : zget ci q st w k → zget ci q st w k' := by
  unfold zget; split
  · rintro ⟨h1, h2⟩
    refine ⟨h1, ?_⟩
    revert h2
    split <;> first | exact h _ | exact id
  · exact id
theorem zput_mono {ci q : Nat} {st : List Value} {w : zW} {k k' : List Value → zW → Prop} (h : ∀ r w, k r w → k' r w) : zput ci q st w k → zput ci q st w k' := by
  unfold zput; split
  · split
    · exact fun q => ⟨q.1, h _ _ q.2⟩
    · exact id
  · split
    · exact fun q => ⟨q.1, h _ _ q.2⟩
    · exact id
  · split
    · exact fun q => ⟨q.1, q.2.1, h _ _ q.2.2⟩
    · exact id
  · exact id
theorem zald_mono {kd : Nat} {st : List Value} {w : zW} {k k' : List Value → Prop} (h : ∀ r, k r → k' r) : zald kd st w k → zald kd st w k' := by
  unfold zald; split
  · exact fun q => ⟨q.1, q.2.1, h _ q.2.2⟩
  · exact id
theorem zaldl_mono {st : List Value} {w : zW} {k k' : List Value → Prop} (h : ∀ r, k r → k' r) : zaldl st w k → zaldl st w k' := by
  unfold zaldl; split
  · exact fun q => ⟨q.1, q.2.1, h _ q.2.2⟩
  · exact id
theorem zalda_mono {st : List Value} {k k' : List Value → Prop} (h : ∀ r, k r → k' r) : zalda st k → zalda st k' := by
  unfold zalda; split
  · exact fun q => ⟨q.1, q.2.1, h _ q.2.2⟩
  · exact id
theorem zast_mono {st : List Value} {w : zW} {k k' : List Value → zW → Prop} (h : ∀ r w, k r w → k' r w) : zast st w k → zast st w k' := by
  unfold zast; split
  · exact fun q => ⟨q.1, q.2.1, h _ _ q.2.2⟩
  · exact id
theorem zastc_mono {st : List Value} {w : zW} {k k' : List Value → zW → Prop} (h : ∀ r w, k r w → k' r w) : zastc st w k → zastc st w k' := by
  unfold zastc; split
  · exact fun q => ⟨q.1, q.2.1, h _ _ q.2.2⟩
  · exact id
theorem zastl_mono {st : List Value} {w : zW} {k k' : List Value → zW → Prop} (h : ∀ r w, k r w → k' r w) : zastl st w k → zastl st w k' := by
  unfold zastl; split
  · exact fun q => ⟨q.1, q.2.1, h _ _ q.2.2⟩
  · exact id
theorem zalen_mono {st : List Value} {k k' : List Value → Prop} (h : ∀ r, k r → k' r) : zalen st k → zalen st k' := by
  unfold zalen; split
  · exact fun q => ⟨q.1, h _ q.2⟩
  · exact id
theorem zscr_mono {st : List Value} {w : zW} {k k' : List Value → Prop} (h : ∀ r, k r → k' r) : zscr st w k → zscr st w k' := by
  unfold zscr; split
  · exact fun q => ⟨q.1, q.2.1, h _ q.2.2⟩
  · exact id
theorem zscl_mono {st : List Value} {w : zW} {k k' : List Value → Prop} (h : ∀ r, k r → k' r) : zscl st w k → zscl st w k' := by
  unfold zscl; split
  · exact fun q => ⟨q.1, h _ q.2⟩
  · exact id
theorem zdup_mono {st : List Value} {k k' : List Value → Prop} (h : ∀ r, k r → k' r) : zdup st k → zdup st k' := by
  unfold zdup; split <;> first | exact h _ | exact id
theorem zdup2_mono {st : List Value} {k k' : List Value → Prop} (h : ∀ r, k r → k' r) : zdup2 st k → zdup2 st k' := by
  unfold zdup2; split <;> first | exact h _ | exact id
theorem zpop_mono {st : List Value} {k k' : List Value → Prop} (h : ∀ r, k r → k' r) : zpop st k → zpop st k' := by
  unfold zpop; split <;> first | exact h _ | exact id
theorem zone_mono (a : zA) {ls : zL} {st : List Value} {w : zW} {k k' : zL → List Value → zW → Prop} (h : ∀ l r w, k l r w → k' l r w) : zone a ls st w k → zone a ls st w k' := by
  cases a with
  | inl v => exact h _ _ _
  | inr i =>
    cases i <;> dsimp only [zone] <;> first
      | exact id
      | (refine zldi_mono ?_; intros; apply h; assumption)
      | (refine zldl_mono ?_; intros; apply h; assumption)
      | (refine zlda_mono ?_; intros; apply h; assumption)
      | (refine zsti_mono ?_; intros; apply h; assumption)
      | (refine zstl_mono ?_; intros; apply h; assumption)
      | (refine zsta_mono ?_; intros; apply h; assumption)
      | (refine zinc_mono ?_; intros; apply h; assumption)
      | (refine zii_mono ?_; intros; apply h; assumption)
      | (refine zid_mono ?_; intros; apply h; assumption)
      | (refine zll_mono ?_; intros; apply h; assumption)
      | (refine zls_mono ?_; intros; apply h; assumption)
      | (refine zui_mono ?_; intros; apply h; assumption)
      | (refine zul_mono ?_; intros; apply h; assumption)
      | (refine zdup_mono ?_; intros; apply h; assumption)
      | (refine zdup2_mono ?_; intros; apply h; assumption)
      | (refine zpop_mono ?_; intros; apply h; assumption)
      | (refine zget_mono ?_; intros; apply h; assumption)
      | (refine zput_mono ?_; intros; apply h; assumption)
      | (refine zald_mono ?_; intros; apply h; assumption)
      | (refine zaldl_mono ?_; intros; apply h; assumption)
      | (refine zalda_mono ?_; intros; apply h; assumption)
      | (refine zast_mono ?_; intros; apply h; assumption)
      | (refine zastc_mono ?_; intros; apply h; assumption)
      | (refine zastl_mono ?_; intros; apply h; assumption)
      | (refine zalen_mono ?_; intros; apply h; assumption)
      | (refine zscr_mono ?_; intros; apply h; assumption)
      | (refine zscl_mono ?_; intros; apply h; assumption)
theorem zrun_mono : ∀ (as : List zA) {ls : zL} {st : List Value} {w : zW} {k k' : zL → List Value → zW → Prop} (_ : ∀ l r w, k l r w → k' l r w), zrun as ls st w k → zrun as ls st w k'
  | [], _, _, _, _, _, h, q => h _ _ _ q
  | a :: as, _, _, _, _, _, h, q => zone_mono a (fun _ _ _ q => zrun_mono as h q) q
theorem zsw_mono {x : Int32} {k k' : Nat → Prop} {df : Nat} (h : ∀ b, k b → k' b) : ∀ cs : List (Int32 × Nat), zsw x k df cs → zsw x k' df cs
  | [], q => h _ q
  | _ :: r, q => ⟨fun e => h _ (q.1 e), fun e => zsw_mono h r (q.2 e)⟩
theorem zterm_mono {MI : List zI} {t : zT} {d y : Nat} {ls : zL} {st : List Value} {w : zW} {Q : zQ} {P P' : zP} (h : ∀ d y b ls st w Q, P d y b ls st w Q → P' d y b ls st w Q) : zterm MI t d y ls st w Q P → zterm MI t d y ls st w Q P' := by
  obtain ⟨c, t2, bt, bf⟩ | ⟨cs, df⟩ | ⟨tag, a, b⟩ := t
  · cases t2
    · dsimp only [zterm]
      split
      · exact fun q => ⟨fun e => h _ _ _ _ _ _ _ (q.1 e), fun e => h _ _ _ _ _ _ _ (q.2 e)⟩
      · exact id
    · dsimp only [zterm]
      split
      · exact fun q => ⟨fun e => h _ _ _ _ _ _ _ (q.1 e), fun e => h _ _ _ _ _ _ _ (q.2 e)⟩
      · exact id
  · dsimp only [zterm]
    split
    · exact zsw_mono (fun b => h _ _ _ _ _ _ _) _
    · exact id
  · dsimp only [zterm]
    split
    · exact h _ _ _ _ _ _ _
    · unfold zcall
      split
      · exact id
      · split
        · exact id
        · rintro ⟨h1, h2, h3, Q', h4, h5⟩
          exact ⟨h1, h2, h3, Q', h _ _ _ _ _ _ _ h4, fun r w' q => h _ _ _ _ _ _ _ (h5 r w' q)⟩
    · exact id
    · unfold zcopy
      split
      · rintro ⟨h1, h2, h3, h4, h5, h6⟩
        refine ⟨h1, h2, h3, h4, h5, ?_⟩
        revert h6
        split <;> first | exact h _ _ _ _ _ _ _ | exact id
      · exact id
    · exact id
theorem zbody_mono {MI : List zI} {PG : List (List zB)} {d y b : Nat} {ls : zL} {st : List Value} {w : zW} {Q : zQ} {P P' : zP} (h : ∀ d y b ls st w Q, P d y b ls st w Q → P' d y b ls st w Q) : zbody MI PG d y b ls st w Q P → zbody MI PG d y b ls st w Q P' := by
  unfold zbody
  split
  · exact id
  · exact zrun_mono _ (fun _ _ _ => zterm_mono h)
/-- a block is walked -/
theorem zWP.step {MI : List zI} {PG : List (List zB)} {d y b : Nat} {ls : zL} {st : List Value} {w : zW} {Q : zQ} (h : zbody MI PG d y b ls st w Q (zWP MI PG)) : zWP MI PG d y b ls st w Q :=
  fun P hP => hP.1 _ _ _ _ _ _ _ (zbody_mono (fun _ _ _ _ _ _ _ q => q P hP) h)
/-- locals forgotten -/
theorem zWP.weak {MI : List zI} {PG : List (List zB)} {d y b : Nat} {ls ls' : zL} {st : List Value} {w : zW} {Q : zQ} (hl : zle ls ls') (h : zWP MI PG d y b ls st w Q) : zWP MI PG d y b ls' st w Q :=
  fun P hP => hP.2 _ _ _ _ _ _ _ _ hl (h P hP)
end
