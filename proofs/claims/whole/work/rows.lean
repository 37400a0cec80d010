section
-- ===== PART A: goes FIRST, ahead of the names: the tables' words, and 'selects' of the private methods out of them =====
/-- a private method of a class that the tables say can be made, by its rows of tables_1 -/
def lw_okq (q : MethodName × Nat) : Prop := (q.1.cls ≠ "java/lang/invoke/MethodHandle" ∧ q.1.cls ≠ "java/lang/invoke/VarHandle") ∧ Cond.instantiable q.1.cls q.2 ∈ tables_1 ∧ Cond.privateMethod q.1 ∈ tables_1 ∧ Cond.instanceMethod q.1 ∈ tables_1
theorem lw_p0 : lw_okq (⟨"SaltSaints$Sheet", "faultAs", "(I)I"⟩, 4) := ⟨⟨by decide +kernel, by decide +kernel⟩, List.mem_of_getElem? (i := 22) (by decide +kernel), List.mem_of_getElem? (i := 177) (by decide +kernel), List.mem_of_getElem? (i := 178) (by decide +kernel)⟩
theorem lw_p1 : lw_okq (⟨"SaltSaints$Sheet", "hasRun", "(II)Z"⟩, 4) := ⟨⟨by decide +kernel, by decide +kernel⟩, List.mem_of_getElem? (i := 22) (by decide +kernel), List.mem_of_getElem? (i := 181) (by decide +kernel), List.mem_of_getElem? (i := 182) (by decide +kernel)⟩
theorem lw_p2 : lw_okq (⟨"SaltSaints", "faulty", "(I)I"⟩, 5) := ⟨⟨by decide +kernel, by decide +kernel⟩, List.mem_of_getElem? (i := 13) (by decide +kernel), List.mem_of_getElem? (i := 185) (by decide +kernel), List.mem_of_getElem? (i := 186) (by decide +kernel)⟩
theorem lw_p3 : lw_okq (⟨"SaltSaints$Yard", "settle", "(LSaltSaints$Sheet;II)V"⟩, 9) := ⟨⟨by decide +kernel, by decide +kernel⟩, List.mem_of_getElem? (i := 48) (by decide +kernel), List.mem_of_getElem? (i := 201) (by decide +kernel), List.mem_of_getElem? (i := 202) (by decide +kernel)⟩
theorem lw_p4 : lw_okq (⟨"SaltSaints$Statue", "carve", "(LSaltSaints$Sheet;I)V"⟩, 5) := ⟨⟨by decide +kernel, by decide +kernel⟩, List.mem_of_getElem? (i := 55) (by decide +kernel), List.mem_of_getElem? (i := 205) (by decide +kernel), List.mem_of_getElem? (i := 206) (by decide +kernel)⟩
theorem lw_p5 : lw_okq (⟨"SaltSaints$Readings", "keep", "(I)V"⟩, 5) := ⟨⟨by decide +kernel, by decide +kernel⟩, List.mem_of_getElem? (i := 125) (by decide +kernel), List.mem_of_getElem? (i := 213) (by decide +kernel), List.mem_of_getElem? (i := 214) (by decide +kernel)⟩
theorem lw_p6 : lw_okq (⟨"SaltSaints", "isStatue", "(I)Z"⟩, 5) := ⟨⟨by decide +kernel, by decide +kernel⟩, List.mem_of_getElem? (i := 13) (by decide +kernel), List.mem_of_getElem? (i := 221) (by decide +kernel), List.mem_of_getElem? (i := 222) (by decide +kernel)⟩
theorem lw_p7 : lw_okq (⟨"SaltSaints$Yard", "forgetFrom", "(I)V"⟩, 9) := ⟨⟨by decide +kernel, by decide +kernel⟩, List.mem_of_getElem? (i := 48) (by decide +kernel), List.mem_of_getElem? (i := 229) (by decide +kernel), List.mem_of_getElem? (i := 230) (by decide +kernel)⟩
theorem lw_p8 : lw_okq (⟨"SaltSaints$Yard", "letRain", "(II)V"⟩, 9) := ⟨⟨by decide +kernel, by decide +kernel⟩, List.mem_of_getElem? (i := 48) (by decide +kernel), List.mem_of_getElem? (i := 248) (by decide +kernel), List.mem_of_getElem? (i := 249) (by decide +kernel)⟩
theorem lw_p9 : lw_okq (⟨"SaltSaints$Yard", "leftOfPart", "(III)I"⟩, 9) := ⟨⟨by decide +kernel, by decide +kernel⟩, List.mem_of_getElem? (i := 48) (by decide +kernel), List.mem_of_getElem? (i := 264) (by decide +kernel), List.mem_of_getElem? (i := 265) (by decide +kernel)⟩
theorem lw_p10 : lw_okq (⟨"SaltSaints$Yard", "workOut", "(I)V"⟩, 9) := ⟨⟨by decide +kernel, by decide +kernel⟩, List.mem_of_getElem? (i := 48) (by decide +kernel), List.mem_of_getElem? (i := 268) (by decide +kernel), List.mem_of_getElem? (i := 269) (by decide +kernel)⟩
theorem lw_p11 : lw_okq (⟨"SaltSaints$Yard", "pour", "(I)V"⟩, 9) := ⟨⟨by decide +kernel, by decide +kernel⟩, List.mem_of_getElem? (i := 48) (by decide +kernel), List.mem_of_getElem? (i := 272) (by decide +kernel), List.mem_of_getElem? (i := 273) (by decide +kernel)⟩
theorem lw_p12 : lw_okq (⟨"SaltSaints$Statue", "washedOff", "(IIIII)I"⟩, 5) := ⟨⟨by decide +kernel, by decide +kernel⟩, List.mem_of_getElem? (i := 55) (by decide +kernel), List.mem_of_getElem? (i := 279) (by decide +kernel), List.mem_of_getElem? (i := 280) (by decide +kernel)⟩
theorem lw_p13 : lw_okq (⟨"SaltSaints$Yard", "graze", "(I)V"⟩, 9) := ⟨⟨by decide +kernel, by decide +kernel⟩, List.mem_of_getElem? (i := 48) (by decide +kernel), List.mem_of_getElem? (i := 283) (by decide +kernel), List.mem_of_getElem? (i := 284) (by decide +kernel)⟩
theorem lw_p14 : lw_okq (⟨"SaltSaints$Yard", "likedBest", "(I)I"⟩, 9) := ⟨⟨by decide +kernel, by decide +kernel⟩, List.mem_of_getElem? (i := 48) (by decide +kernel), List.mem_of_getElem? (i := 287) (by decide +kernel), List.mem_of_getElem? (i := 288) (by decide +kernel)⟩
theorem lw_p15 : lw_okq (⟨"SaltSaints$Statue", "lickable", "(I)Z"⟩, 5) := ⟨⟨by decide +kernel, by decide +kernel⟩, List.mem_of_getElem? (i := 55) (by decide +kernel), List.mem_of_getElem? (i := 291) (by decide +kernel), List.mem_of_getElem? (i := 292) (by decide +kernel)⟩
def lw_privs_1 : List (MethodName × Nat) := [(⟨"SaltSaints$Sheet", "faultAs", "(I)I"⟩, 4), (⟨"SaltSaints$Sheet", "hasRun", "(II)Z"⟩, 4), (⟨"SaltSaints", "faulty", "(I)I"⟩, 5), (⟨"SaltSaints$Yard", "settle", "(LSaltSaints$Sheet;II)V"⟩, 9), (⟨"SaltSaints$Statue", "carve", "(LSaltSaints$Sheet;I)V"⟩, 5), (⟨"SaltSaints$Readings", "keep", "(I)V"⟩, 5), (⟨"SaltSaints", "isStatue", "(I)Z"⟩, 5), (⟨"SaltSaints$Yard", "forgetFrom", "(I)V"⟩, 9), (⟨"SaltSaints$Yard", "letRain", "(II)V"⟩, 9), (⟨"SaltSaints$Yard", "leftOfPart", "(III)I"⟩, 9), (⟨"SaltSaints$Yard", "workOut", "(I)V"⟩, 9), (⟨"SaltSaints$Yard", "pour", "(I)V"⟩, 9), (⟨"SaltSaints$Statue", "washedOff", "(IIIII)I"⟩, 5), (⟨"SaltSaints$Yard", "graze", "(I)V"⟩, 9), (⟨"SaltSaints$Yard", "likedBest", "(I)I"⟩, 9), (⟨"SaltSaints$Statue", "lickable", "(I)Z"⟩, 5)]
theorem lw_r1 : ∀ q ∈ lw_privs_1, lw_okq q := List.forall_mem_cons.mpr ⟨lw_p0, List.forall_mem_cons.mpr ⟨lw_p1, List.forall_mem_cons.mpr ⟨lw_p2, List.forall_mem_cons.mpr ⟨lw_p3, List.forall_mem_cons.mpr ⟨lw_p4, List.forall_mem_cons.mpr ⟨lw_p5, List.forall_mem_cons.mpr ⟨lw_p6, List.forall_mem_cons.mpr ⟨lw_p7, List.forall_mem_cons.mpr ⟨lw_p8, List.forall_mem_cons.mpr ⟨lw_p9, List.forall_mem_cons.mpr ⟨lw_p10, List.forall_mem_cons.mpr ⟨lw_p11, List.forall_mem_cons.mpr ⟨lw_p12, List.forall_mem_cons.mpr ⟨lw_p13, List.forall_mem_cons.mpr ⟨lw_p14, List.forall_mem_cons.mpr ⟨lw_p15, fun _ h => absurd h List.not_mem_nil⟩⟩⟩⟩⟩⟩⟩⟩⟩⟩⟩⟩⟩⟩⟩⟩
theorem lw_p16 : lw_okq (⟨"SaltSaints$Yard", "inPuddle", "(II)I"⟩, 9) := ⟨⟨by decide +kernel, by decide +kernel⟩, List.mem_of_getElem? (i := 48) (by decide +kernel), List.mem_of_getElem? (i := 302) (by decide +kernel), List.mem_of_getElem? (i := 303) (by decide +kernel)⟩
theorem lw_p17 : lw_okq (⟨"SaltSaints$Statue", "allAtFirst", "()I"⟩, 5) := ⟨⟨by decide +kernel, by decide +kernel⟩, List.mem_of_getElem? (i := 55) (by decide +kernel), List.mem_of_getElem? (i := 306) (by decide +kernel), List.mem_of_getElem? (i := 307) (by decide +kernel)⟩
theorem lw_p18 : lw_okq (⟨"SaltSaints$Yard", "leftOf", "(II)I"⟩, 9) := ⟨⟨by decide +kernel, by decide +kernel⟩, List.mem_of_getElem? (i := 48) (by decide +kernel), List.mem_of_getElem? (i := 310) (by decide +kernel), List.mem_of_getElem? (i := 311) (by decide +kernel)⟩
theorem lw_p19 : lw_okq (⟨"SaltSaints$Yard", "sumOf", "(II)I"⟩, 9) := ⟨⟨by decide +kernel, by decide +kernel⟩, List.mem_of_getElem? (i := 48) (by decide +kernel), List.mem_of_getElem? (i := 314) (by decide +kernel), List.mem_of_getElem? (i := 315) (by decide +kernel)⟩
theorem lw_p20 : lw_okq (⟨"SaltSaints$Yard", "lickedOff", "(II)I"⟩, 9) := ⟨⟨by decide +kernel, by decide +kernel⟩, List.mem_of_getElem? (i := 48) (by decide +kernel), List.mem_of_getElem? (i := 318) (by decide +kernel), List.mem_of_getElem? (i := 319) (by decide +kernel)⟩
theorem lw_p21 : lw_okq (⟨"SaltSaints$Yard", "dawnWithoutPart", "(II)I"⟩, 9) := ⟨⟨by decide +kernel, by decide +kernel⟩, List.mem_of_getElem? (i := 48) (by decide +kernel), List.mem_of_getElem? (i := 327) (by decide +kernel), List.mem_of_getElem? (i := 328) (by decide +kernel)⟩
theorem lw_p22 : lw_okq (⟨"SaltSaints$Yard", "dawnWithoutAny", "(I)I"⟩, 9) := ⟨⟨by decide +kernel, by decide +kernel⟩, List.mem_of_getElem? (i := 48) (by decide +kernel), List.mem_of_getElem? (i := 331) (by decide +kernel), List.mem_of_getElem? (i := 332) (by decide +kernel)⟩
theorem lw_p23 : lw_okq (⟨"SaltSaints$Yard", "likedFirst", "(I)I"⟩, 9) := ⟨⟨by decide +kernel, by decide +kernel⟩, List.mem_of_getElem? (i := 48) (by decide +kernel), List.mem_of_getElem? (i := 339) (by decide +kernel), List.mem_of_getElem? (i := 340) (by decide +kernel)⟩
theorem lw_p24 : lw_okq (⟨"SaltSaints$Yard", "longestLasting", "()I"⟩, 9) := ⟨⟨by decide +kernel, by decide +kernel⟩, List.mem_of_getElem? (i := 48) (by decide +kernel), List.mem_of_getElem? (i := 348) (by decide +kernel), List.mem_of_getElem? (i := 349) (by decide +kernel)⟩
theorem lw_p25 : lw_okq (⟨"SaltSaints$Yard", "leftOfAll", "(I)I"⟩, 9) := ⟨⟨by decide +kernel, by decide +kernel⟩, List.mem_of_getElem? (i := 48) (by decide +kernel), List.mem_of_getElem? (i := 353) (by decide +kernel), List.mem_of_getElem? (i := 354) (by decide +kernel)⟩
theorem lw_p26 : lw_okq (⟨"SaltSaints$Yard", "nearest", "(LSaltSaints$Sheet;II)I"⟩, 9) := ⟨⟨by decide +kernel, by decide +kernel⟩, List.mem_of_getElem? (i := 48) (by decide +kernel), List.mem_of_getElem? (i := 404) (by decide +kernel), List.mem_of_getElem? (i := 405) (by decide +kernel)⟩
theorem lw_p27 : lw_okq (⟨"SaltSaints$Yard", "apart", "(ILSaltSaints$Sheet;II)I"⟩, 9) := ⟨⟨by decide +kernel, by decide +kernel⟩, List.mem_of_getElem? (i := 48) (by decide +kernel), List.mem_of_getElem? (i := 408) (by decide +kernel), List.mem_of_getElem? (i := 409) (by decide +kernel)⟩
theorem lw_p28 : lw_okq (⟨"SaltSaints$Readings", "note", "(IIII)I"⟩, 5) := ⟨⟨by decide +kernel, by decide +kernel⟩, List.mem_of_getElem? (i := 125) (by decide +kernel), List.mem_of_getElem? (i := 424) (by decide +kernel), List.mem_of_getElem? (i := 425) (by decide +kernel)⟩
theorem lw_p29 : lw_okq (⟨"SaltSaints$Readings", "allHold", "(LSaltSaints$Yard;)Z"⟩, 5) := ⟨⟨by decide +kernel, by decide +kernel⟩, List.mem_of_getElem? (i := 125) (by decide +kernel), List.mem_of_getElem? (i := 436) (by decide +kernel), List.mem_of_getElem? (i := 437) (by decide +kernel)⟩
theorem lw_p30 : lw_okq (⟨"SaltSaints$Sheet", "renew", "(II)V"⟩, 4) := ⟨⟨by decide +kernel, by decide +kernel⟩, List.mem_of_getElem? (i := 22) (by decide +kernel), List.mem_of_getElem? (i := 449) (by decide +kernel), List.mem_of_getElem? (i := 450) (by decide +kernel)⟩
theorem lw_p31 : lw_okq (⟨"SaltSaints$Sheet", "cut", "(I)I"⟩, 4) := ⟨⟨by decide +kernel, by decide +kernel⟩, List.mem_of_getElem? (i := 22) (by decide +kernel), List.mem_of_getElem? (i := 461) (by decide +kernel), List.mem_of_getElem? (i := 462) (by decide +kernel)⟩
def lw_privs_2 : List (MethodName × Nat) := [(⟨"SaltSaints$Yard", "inPuddle", "(II)I"⟩, 9), (⟨"SaltSaints$Statue", "allAtFirst", "()I"⟩, 5), (⟨"SaltSaints$Yard", "leftOf", "(II)I"⟩, 9), (⟨"SaltSaints$Yard", "sumOf", "(II)I"⟩, 9), (⟨"SaltSaints$Yard", "lickedOff", "(II)I"⟩, 9), (⟨"SaltSaints$Yard", "dawnWithoutPart", "(II)I"⟩, 9), (⟨"SaltSaints$Yard", "dawnWithoutAny", "(I)I"⟩, 9), (⟨"SaltSaints$Yard", "likedFirst", "(I)I"⟩, 9), (⟨"SaltSaints$Yard", "longestLasting", "()I"⟩, 9), (⟨"SaltSaints$Yard", "leftOfAll", "(I)I"⟩, 9), (⟨"SaltSaints$Yard", "nearest", "(LSaltSaints$Sheet;II)I"⟩, 9), (⟨"SaltSaints$Yard", "apart", "(ILSaltSaints$Sheet;II)I"⟩, 9), (⟨"SaltSaints$Readings", "note", "(IIII)I"⟩, 5), (⟨"SaltSaints$Readings", "allHold", "(LSaltSaints$Yard;)Z"⟩, 5), (⟨"SaltSaints$Sheet", "renew", "(II)V"⟩, 4), (⟨"SaltSaints$Sheet", "cut", "(I)I"⟩, 4)]
theorem lw_r2 : ∀ q ∈ lw_privs_2, lw_okq q := List.forall_mem_cons.mpr ⟨lw_p16, List.forall_mem_cons.mpr ⟨lw_p17, List.forall_mem_cons.mpr ⟨lw_p18, List.forall_mem_cons.mpr ⟨lw_p19, List.forall_mem_cons.mpr ⟨lw_p20, List.forall_mem_cons.mpr ⟨lw_p21, List.forall_mem_cons.mpr ⟨lw_p22, List.forall_mem_cons.mpr ⟨lw_p23, List.forall_mem_cons.mpr ⟨lw_p24, List.forall_mem_cons.mpr ⟨lw_p25, List.forall_mem_cons.mpr ⟨lw_p26, List.forall_mem_cons.mpr ⟨lw_p27, List.forall_mem_cons.mpr ⟨lw_p28, List.forall_mem_cons.mpr ⟨lw_p29, List.forall_mem_cons.mpr ⟨lw_p30, List.forall_mem_cons.mpr ⟨lw_p31, fun _ h => absurd h List.not_mem_nil⟩⟩⟩⟩⟩⟩⟩⟩⟩⟩⟩⟩⟩⟩⟩⟩
theorem lw_p32 : lw_okq (⟨"SaltSaints", "martyrTells", "(LSaltSaints$Statue;)I"⟩, 5) := ⟨⟨by decide +kernel, by decide +kernel⟩, List.mem_of_getElem? (i := 13) (by decide +kernel), List.mem_of_getElem? (i := 478) (by decide +kernel), List.mem_of_getElem? (i := 479) (by decide +kernel)⟩
theorem lw_p33 : lw_okq (⟨"SaltSaints", "leave", "(I)V"⟩, 5) := ⟨⟨by decide +kernel, by decide +kernel⟩, List.mem_of_getElem? (i := 13) (by decide +kernel), List.mem_of_getElem? (i := 482) (by decide +kernel), List.mem_of_getElem? (i := 483) (by decide +kernel)⟩
theorem lw_p34 : lw_okq (⟨"SaltSaints", "bishopTells", "(LSaltSaints$Statue;)I"⟩, 5) := ⟨⟨by decide +kernel, by decide +kernel⟩, List.mem_of_getElem? (i := 13) (by decide +kernel), List.mem_of_getElem? (i := 486) (by decide +kernel), List.mem_of_getElem? (i := 487) (by decide +kernel)⟩
theorem lw_p35 : lw_okq (⟨"SaltSaints", "saintTells", "(LSaltSaints$Statue;)I"⟩, 5) := ⟨⟨by decide +kernel, by decide +kernel⟩, List.mem_of_getElem? (i := 13) (by decide +kernel), List.mem_of_getElem? (i := 490) (by decide +kernel), List.mem_of_getElem? (i := 491) (by decide +kernel)⟩
theorem lw_p36 : lw_okq (⟨"SaltSaintsModel", "barred", "(IIIJZ)I"⟩, 29) := ⟨⟨by decide +kernel, by decide +kernel⟩, List.mem_of_getElem? (i := 514) (by decide +kernel), List.mem_of_getElem? (i := 613) (by decide +kernel), List.mem_of_getElem? (i := 614) (by decide +kernel)⟩
theorem lw_p37 : lw_okq (⟨"SaltSaintsModel", "refused", "(I)I"⟩, 29) := ⟨⟨by decide +kernel, by decide +kernel⟩, List.mem_of_getElem? (i := 514) (by decide +kernel), List.mem_of_getElem? (i := 624) (by decide +kernel), List.mem_of_getElem? (i := 625) (by decide +kernel)⟩
theorem lw_p38 : lw_okq (⟨"SaltSaintsModel", "failed", "(I)I"⟩, 29) := ⟨⟨by decide +kernel, by decide +kernel⟩, List.mem_of_getElem? (i := 514) (by decide +kernel), List.mem_of_getElem? (i := 629) (by decide +kernel), List.mem_of_getElem? (i := 630) (by decide +kernel)⟩
theorem lw_p39 : lw_okq (⟨"SaltSaintsModel", "readsAll", "(II)Z"⟩, 29) := ⟨⟨by decide +kernel, by decide +kernel⟩, List.mem_of_getElem? (i := 514) (by decide +kernel), List.mem_of_getElem? (i := 636) (by decide +kernel), List.mem_of_getElem? (i := 637) (by decide +kernel)⟩
theorem lw_p40 : lw_okq (⟨"SaltSaintsModel", "readsOne", "(II)Z"⟩, 29) := ⟨⟨by decide +kernel, by decide +kernel⟩, List.mem_of_getElem? (i := 514) (by decide +kernel), List.mem_of_getElem? (i := 640) (by decide +kernel), List.mem_of_getElem? (i := 641) (by decide +kernel)⟩
theorem lw_p41 : lw_okq (⟨"SaltSaintsModel", "codeAt", "(II)I"⟩, 29) := ⟨⟨by decide +kernel, by decide +kernel⟩, List.mem_of_getElem? (i := 514) (by decide +kernel), List.mem_of_getElem? (i := 644) (by decide +kernel), List.mem_of_getElem? (i := 645) (by decide +kernel)⟩
theorem lw_p42 : lw_okq (⟨"SaltSaintsModel", "figure", "(IIII)I"⟩, 29) := ⟨⟨by decide +kernel, by decide +kernel⟩, List.mem_of_getElem? (i := 514) (by decide +kernel), List.mem_of_getElem? (i := 648) (by decide +kernel), List.mem_of_getElem? (i := 649) (by decide +kernel)⟩
theorem lw_p43 : lw_okq (⟨"SaltSaintsModel", "noOne", "(I)Z"⟩, 29) := ⟨⟨by decide +kernel, by decide +kernel⟩, List.mem_of_getElem? (i := 514) (by decide +kernel), List.mem_of_getElem? (i := 656) (by decide +kernel), List.mem_of_getElem? (i := 657) (by decide +kernel)⟩
theorem lw_p44 : lw_okq (⟨"SaltSaintsModel", "goTo", "(I)V"⟩, 29) := ⟨⟨by decide +kernel, by decide +kernel⟩, List.mem_of_getElem? (i := 514) (by decide +kernel), List.mem_of_getElem? (i := 693) (by decide +kernel), List.mem_of_getElem? (i := 694) (by decide +kernel)⟩
theorem lw_p45 : lw_okq (⟨"SaltSaintsModel", "begin", "()V"⟩, 29) := ⟨⟨by decide +kernel, by decide +kernel⟩, List.mem_of_getElem? (i := 514) (by decide +kernel), List.mem_of_getElem? (i := 697) (by decide +kernel), List.mem_of_getElem? (i := 698) (by decide +kernel)⟩
theorem lw_p46 : lw_okq (⟨"SaltSaintsModel", "goDay", "(I)V"⟩, 29) := ⟨⟨by decide +kernel, by decide +kernel⟩, List.mem_of_getElem? (i := 514) (by decide +kernel), List.mem_of_getElem? (i := 701) (by decide +kernel), List.mem_of_getElem? (i := 702) (by decide +kernel)⟩
theorem lw_p47 : lw_okq (⟨"SaltSaintsModel", "rainOn", "(I)V"⟩, 29) := ⟨⟨by decide +kernel, by decide +kernel⟩, List.mem_of_getElem? (i := 514) (by decide +kernel), List.mem_of_getElem? (i := 705) (by decide +kernel), List.mem_of_getElem? (i := 706) (by decide +kernel)⟩
def lw_privs_3 : List (MethodName × Nat) := [(⟨"SaltSaints", "martyrTells", "(LSaltSaints$Statue;)I"⟩, 5), (⟨"SaltSaints", "leave", "(I)V"⟩, 5), (⟨"SaltSaints", "bishopTells", "(LSaltSaints$Statue;)I"⟩, 5), (⟨"SaltSaints", "saintTells", "(LSaltSaints$Statue;)I"⟩, 5), (⟨"SaltSaintsModel", "barred", "(IIIJZ)I"⟩, 29), (⟨"SaltSaintsModel", "refused", "(I)I"⟩, 29), (⟨"SaltSaintsModel", "failed", "(I)I"⟩, 29), (⟨"SaltSaintsModel", "readsAll", "(II)Z"⟩, 29), (⟨"SaltSaintsModel", "readsOne", "(II)Z"⟩, 29), (⟨"SaltSaintsModel", "codeAt", "(II)I"⟩, 29), (⟨"SaltSaintsModel", "figure", "(IIII)I"⟩, 29), (⟨"SaltSaintsModel", "noOne", "(I)Z"⟩, 29), (⟨"SaltSaintsModel", "goTo", "(I)V"⟩, 29), (⟨"SaltSaintsModel", "begin", "()V"⟩, 29), (⟨"SaltSaintsModel", "goDay", "(I)V"⟩, 29), (⟨"SaltSaintsModel", "rainOn", "(I)V"⟩, 29)]
theorem lw_r3 : ∀ q ∈ lw_privs_3, lw_okq q := List.forall_mem_cons.mpr ⟨lw_p32, List.forall_mem_cons.mpr ⟨lw_p33, List.forall_mem_cons.mpr ⟨lw_p34, List.forall_mem_cons.mpr ⟨lw_p35, List.forall_mem_cons.mpr ⟨lw_p36, List.forall_mem_cons.mpr ⟨lw_p37, List.forall_mem_cons.mpr ⟨lw_p38, List.forall_mem_cons.mpr ⟨lw_p39, List.forall_mem_cons.mpr ⟨lw_p40, List.forall_mem_cons.mpr ⟨lw_p41, List.forall_mem_cons.mpr ⟨lw_p42, List.forall_mem_cons.mpr ⟨lw_p43, List.forall_mem_cons.mpr ⟨lw_p44, List.forall_mem_cons.mpr ⟨lw_p45, List.forall_mem_cons.mpr ⟨lw_p46, List.forall_mem_cons.mpr ⟨lw_p47, fun _ h => absurd h List.not_mem_nil⟩⟩⟩⟩⟩⟩⟩⟩⟩⟩⟩⟩⟩⟩⟩⟩
theorem lw_p48 : lw_okq (⟨"SaltSaintsModel", "losesBy", "(III)I"⟩, 29) := ⟨⟨by decide +kernel, by decide +kernel⟩, List.mem_of_getElem? (i := 514) (by decide +kernel), List.mem_of_getElem? (i := 709) (by decide +kernel), List.mem_of_getElem? (i := 710) (by decide +kernel)⟩
theorem lw_p49 : lw_okq (⟨"SaltSaintsModel", "likedNow", "()I"⟩, 29) := ⟨⟨by decide +kernel, by decide +kernel⟩, List.mem_of_getElem? (i := 514) (by decide +kernel), List.mem_of_getElem? (i := 716) (by decide +kernel), List.mem_of_getElem? (i := 717) (by decide +kernel)⟩
theorem lw_p50 : lw_okq (⟨"SaltSaintsModel", "canLick", "(I)Z"⟩, 29) := ⟨⟨by decide +kernel, by decide +kernel⟩, List.mem_of_getElem? (i := 514) (by decide +kernel), List.mem_of_getElem? (i := 720) (by decide +kernel), List.mem_of_getElem? (i := 721) (by decide +kernel)⟩
theorem lw_p51 : lw_okq (⟨"SaltSaintsModel", "goneAt", "(II)I"⟩, 29) := ⟨⟨by decide +kernel, by decide +kernel⟩, List.mem_of_getElem? (i := 514) (by decide +kernel), List.mem_of_getElem? (i := 732) (by decide +kernel), List.mem_of_getElem? (i := 733) (by decide +kernel)⟩
theorem lw_p52 : lw_okq (⟨"SaltSaintsModel", "isGoneNow", "(II)Z"⟩, 29) := ⟨⟨by decide +kernel, by decide +kernel⟩, List.mem_of_getElem? (i := 514) (by decide +kernel), List.mem_of_getElem? (i := 736) (by decide +kernel), List.mem_of_getElem? (i := 737) (by decide +kernel)⟩
theorem lw_p53 : lw_okq (⟨"SaltSaintsModel", "keepOver", "()V"⟩, 29) := ⟨⟨by decide +kernel, by decide +kernel⟩, List.mem_of_getElem? (i := 514) (by decide +kernel), List.mem_of_getElem? (i := 759) (by decide +kernel), List.mem_of_getElem? (i := 760) (by decide +kernel)⟩
theorem lw_p54 : lw_okq (⟨"SaltSaintsModel", "nosesNow", "()I"⟩, 29) := ⟨⟨by decide +kernel, by decide +kernel⟩, List.mem_of_getElem? (i := 514) (by decide +kernel), List.mem_of_getElem? (i := 766) (by decide +kernel), List.mem_of_getElem? (i := 767) (by decide +kernel)⟩
theorem lw_p55 : lw_okq (⟨"SaltSaintsModel", "takeOver", "()V"⟩, 29) := ⟨⟨by decide +kernel, by decide +kernel⟩, List.mem_of_getElem? (i := 514) (by decide +kernel), List.mem_of_getElem? (i := 770) (by decide +kernel), List.mem_of_getElem? (i := 771) (by decide +kernel)⟩
theorem lw_p56 : lw_okq (⟨"SaltSaintsModel", "firstNose", "()I"⟩, 29) := ⟨⟨by decide +kernel, by decide +kernel⟩, List.mem_of_getElem? (i := 514) (by decide +kernel), List.mem_of_getElem? (i := 778) (by decide +kernel), List.mem_of_getElem? (i := 779) (by decide +kernel)⟩
theorem lw_p57 : lw_okq (⟨"SaltSaintsModel", "areSo", "()Z"⟩, 29) := ⟨⟨by decide +kernel, by decide +kernel⟩, List.mem_of_getElem? (i := 514) (by decide +kernel), List.mem_of_getElem? (i := 811) (by decide +kernel), List.mem_of_getElem? (i := 812) (by decide +kernel)⟩
theorem lw_p58 : lw_okq (⟨"SaltSaintsModel", "noCell", "(II)I"⟩, 29) := ⟨⟨by decide +kernel, by decide +kernel⟩, List.mem_of_getElem? (i := 514) (by decide +kernel), List.mem_of_getElem? (i := 831) (by decide +kernel), List.mem_of_getElem? (i := 832) (by decide +kernel)⟩
theorem lw_p59 : lw_okq (⟨"SaltSaintsModel", "failedLong", "(I)J"⟩, 29) := ⟨⟨by decide +kernel, by decide +kernel⟩, List.mem_of_getElem? (i := 514) (by decide +kernel), List.mem_of_getElem? (i := 839) (by decide +kernel), List.mem_of_getElem? (i := 840) (by decide +kernel)⟩
theorem lw_p60 : lw_okq (⟨"SaltSaintsModel", "traced", "(I)V"⟩, 29) := ⟨⟨by decide +kernel, by decide +kernel⟩, List.mem_of_getElem? (i := 514) (by decide +kernel), List.mem_of_getElem? (i := 851) (by decide +kernel), List.mem_of_getElem? (i := 852) (by decide +kernel)⟩
def lw_privs_4 : List (MethodName × Nat) := [(⟨"SaltSaintsModel", "losesBy", "(III)I"⟩, 29), (⟨"SaltSaintsModel", "likedNow", "()I"⟩, 29), (⟨"SaltSaintsModel", "canLick", "(I)Z"⟩, 29), (⟨"SaltSaintsModel", "goneAt", "(II)I"⟩, 29), (⟨"SaltSaintsModel", "isGoneNow", "(II)Z"⟩, 29), (⟨"SaltSaintsModel", "keepOver", "()V"⟩, 29), (⟨"SaltSaintsModel", "nosesNow", "()I"⟩, 29), (⟨"SaltSaintsModel", "takeOver", "()V"⟩, 29), (⟨"SaltSaintsModel", "firstNose", "()I"⟩, 29), (⟨"SaltSaintsModel", "areSo", "()Z"⟩, 29), (⟨"SaltSaintsModel", "noCell", "(II)I"⟩, 29), (⟨"SaltSaintsModel", "failedLong", "(I)J"⟩, 29), (⟨"SaltSaintsModel", "traced", "(I)V"⟩, 29)]
theorem lw_r4 : ∀ q ∈ lw_privs_4, lw_okq q := List.forall_mem_cons.mpr ⟨lw_p48, List.forall_mem_cons.mpr ⟨lw_p49, List.forall_mem_cons.mpr ⟨lw_p50, List.forall_mem_cons.mpr ⟨lw_p51, List.forall_mem_cons.mpr ⟨lw_p52, List.forall_mem_cons.mpr ⟨lw_p53, List.forall_mem_cons.mpr ⟨lw_p54, List.forall_mem_cons.mpr ⟨lw_p55, List.forall_mem_cons.mpr ⟨lw_p56, List.forall_mem_cons.mpr ⟨lw_p57, List.forall_mem_cons.mpr ⟨lw_p58, List.forall_mem_cons.mpr ⟨lw_p59, List.forall_mem_cons.mpr ⟨lw_p60, fun _ h => absurd h List.not_mem_nil⟩⟩⟩⟩⟩⟩⟩⟩⟩⟩⟩⟩⟩
def lw_privs : List (MethodName × Nat) := lw_privs_1 ++ (lw_privs_2 ++ (lw_privs_3 ++ (lw_privs_4)))
def lw_tbl : List Cond := k2_sels lw_privs ++ tables_1
theorem lw_privs_ok : ∀ q ∈ lw_privs, lw_okq q := by
  show ∀ q ∈ lw_privs_1 ++ (lw_privs_2 ++ (lw_privs_3 ++ (lw_privs_4))), lw_okq q
  exact List.forall_mem_append.mpr ⟨lw_r1, List.forall_mem_append.mpr ⟨lw_r2, List.forall_mem_append.mpr ⟨lw_r3, lw_r4⟩⟩⟩
/-- the words that a call may hand on, and the words of members of nest mates -/
def xw_all : List Cond := lw_tbl.filter goodWord
def xw_isN : Cond → Bool
  | .fieldLinkNest .. => true
  | .methodLinkNest .. => true
  | _ => false
def xw_nest : List Cond := lw_tbl.filter xw_isN
theorem xw_of {w : Cond} (h : w ∈ lw_tbl) (g : goodWord w = true) : w ∈ xw_all := List.mem_filter.mpr ⟨h, g⟩
theorem xw_nof {w : Cond} (h : w ∈ lw_tbl) (g : xw_isN w = true) : w ∈ xw_nest := List.mem_filter.mpr ⟨h, g⟩
theorem xw_s {w : Cond} (h : w ∈ k2_sels lw_privs) : w ∈ lw_tbl := List.mem_append_left _ h
theorem xw_1 {w : Cond} (h : w ∈ tables_1_1) : w ∈ lw_tbl := List.mem_append_right _ (List.mem_append_left _ h)
theorem xw_2 {w : Cond} (h : w ∈ tables_1_2) : w ∈ lw_tbl := List.mem_append_right _ (List.mem_append_right _ (List.mem_append_left _ h))
theorem xw_3 {w : Cond} (h : w ∈ tables_1_3) : w ∈ lw_tbl := List.mem_append_right _ (List.mem_append_right _ (List.mem_append_right _ (List.mem_append_left _ h)))
theorem xw_4 {w : Cond} (h : w ∈ tables_1_4) : w ∈ lw_tbl := List.mem_append_right _ (List.mem_append_right _ (List.mem_append_right _ (List.mem_append_right _ h)))
theorem xw_good (cs : List Cond) (h : cs.all goodWord = true) (hm : ∀ w ∈ cs, w ∈ xw_all) : GoodIn xw_all (cs ++ xw_all) := by
  intro w hw
  rcases List.mem_append.mp hw with h1 | h1
  · exact ⟨hm w h1, good_of_word (List.all_eq_true.mp h w h1)⟩
  · exact ⟨h1, good_of_word (List.mem_filter.mp h1).2⟩
def xw_NW (s : State) : Prop := ∀ w ∈ xw_nest, va_Nw w s
theorem xw_NW.warm {s U : State} (hW : s.WarmedH U.vm) (h : xw_NW s) : xw_NW U := by
  intro w hw
  have h1 := h w hw
  have h2 := (List.mem_filter.mp hw).2
  cases w <;> first
    | exact va_Nw.warmF hW h1
    | exact va_Nw.warmM hW h1
    | (exfalso; revert h2; simp [xw_isN]; done)
theorem xw_NW.of {A : Array Value} {s : State} (h : ∀ w ∈ lw_tbl, w.before A s = true) : xw_NW s := by
  intro w hw
  have h1 := h w (List.mem_filter.mp hw).1
  have h2 := (List.mem_filter.mp hw).2
  cases w <;> first
    | exact va_Nw.of rfl h1
    | (exfalso; revert h2; simp [xw_isN]; done)
end
section
def RX0 : String := "SaltSaints$Plans"
def TX0 : u_T := fun k => match k with
  | _ => ("", "", "", false)
def tyX0 : Nat → FieldType := fun k => match k with
  | _ => .int
abbrev wsX00 : List Cond := u_ws RX0 TX0 0
theorem nmX0 : ∀ a, a < 0 → ∀ b, b < 0 → a ≠ b → (TX0 a).2.1 ≠ (TX0 b).2.1 := by decide +kernel
theorem tyX0_ok : ∀ k, k < 0 → parseFieldDescriptor (TX0 k).2.2.1 = some (tyX0 k) := by decide +kernel
abbrev cX0_giveUmbrellas : ByteArray := prog_2_method_2_code
def yX0_giveUmbrellas : MethodName := ⟨RX0, "giveUmbrellas", "(LSaltSaints$Yard;II)I"⟩
abbrev cX0_lastingUnder : ByteArray := prog_2_method_3_code
def yX0_lastingUnder : MethodName := ⟨RX0, "lastingUnder", "(LSaltSaints$Yard;I)I"⟩
abbrev cX0_turnOne : ByteArray := prog_2_method_4_code
def yX0_turnOne : MethodName := ⟨RX0, "turnOne", "(LSaltSaints$Yard;I)I"⟩
abbrev cX0_firstDawnOfOthers : ByteArray := prog_2_method_5_code
def yX0_firstDawnOfOthers : MethodName := ⟨RX0, "firstDawnOfOthers", "(LSaltSaints$Yard;I)I"⟩
abbrev cX0_dawnWithoutNose : ByteArray := prog_2_method_6_code
def yX0_dawnWithoutNose : MethodName := ⟨RX0, "dawnWithoutNose", "(LSaltSaints$Yard;III)I"⟩
abbrev cX0_nosesGone : ByteArray := prog_2_method_7_code
def yX0_nosesGone : MethodName := ⟨RX0, "nosesGone", "(LSaltSaints$Yard;I)I"⟩
def RX1 : String := "SaltSaints$Readings"
def TX1 : u_T := fun k => match k with
  | 0 => ("SaltSaints$Readings", "statue", "[I", true)
  | 1 => ("SaltSaints$Readings", "part", "[I", true)
  | 2 => ("SaltSaints$Readings", "dawn", "[I", true)
  | 3 => ("SaltSaints$Readings", "counted", "[I", true)
  | _ => ("SaltSaints$Readings", "many", "I", false)
def tyX1 : Nat → FieldType := fun k => match k with
  | 0 => .array .int
  | 1 => .array .int
  | 2 => .array .int
  | 3 => .array .int
  | _ => .int
abbrev wsX10 : List Cond := u_ws RX1 TX1 5
theorem nmX1 : ∀ a, a < 5 → ∀ b, b < 5 → a ≠ b → (TX1 a).2.1 ≠ (TX1 b).2.1 := by decide +kernel
theorem tyX1_ok : ∀ k, k < 5 → parseFieldDescriptor (TX1 k).2.2.1 = some (tyX1 k) := by decide +kernel
abbrev cX1_init : ByteArray := prog_3_method_1_code
def yX1_init : MethodName := ⟨RX1, "<init>", "()V"⟩
abbrev cX1_note : ByteArray := prog_3_method_2_code
def yX1_note : MethodName := ⟨RX1, "note", "(IIII)I"⟩
abbrev cX1_keep : ByteArray := prog_3_method_3_code
def yX1_keep : MethodName := ⟨RX1, "keep", "(I)V"⟩
abbrev cX1_allHold : ByteArray := prog_3_method_4_code
def yX1_allHold : MethodName := ⟨RX1, "allHold", "(LSaltSaints$Yard;)Z"⟩
def RX2 : String := "SaltSaints$Sheet"
def TX2 : u_T := fun k => match k with
  | 0 => ("SaltSaints$Sheet", "cells", "[I", true)
  | 1 => ("SaltSaints$Sheet", "has", "Z", false)
  | 2 => ("SaltSaints$Sheet", "lane", "I", false)
  | _ => ("SaltSaints$Sheet", "many", "I", false)
def tyX2 : Nat → FieldType := fun k => match k with
  | 0 => .array .int
  | 1 => .boolean
  | 2 => .int
  | _ => .int
abbrev wsX20 : List Cond := u_ws RX2 TX2 4
theorem nmX2 : ∀ a, a < 4 → ∀ b, b < 4 → a ≠ b → (TX2 a).2.1 ≠ (TX2 b).2.1 := by decide +kernel
theorem tyX2_ok : ∀ k, k < 4 → parseFieldDescriptor (TX2 k).2.2.1 = some (tyX2 k) := by decide +kernel
abbrev cX2_init : ByteArray := prog_4_method_1_code
def yX2_init : MethodName := ⟨RX2, "<init>", "()V"⟩
abbrev cX2_renew : ByteArray := prog_4_method_2_code
def yX2_renew : MethodName := ⟨RX2, "renew", "(II)V"⟩
abbrev cX2_faultAs : ByteArray := prog_4_method_3_code
def yX2_faultAs : MethodName := ⟨RX2, "faultAs", "(I)I"⟩
abbrev cX2_hasRun : ByteArray := prog_4_method_4_code
def yX2_hasRun : MethodName := ⟨RX2, "hasRun", "(II)Z"⟩
abbrev cX2_cut : ByteArray := prog_4_method_5_code
def yX2_cut : MethodName := ⟨RX2, "cut", "(I)I"⟩
def RX3 : String := "SaltSaints$Statue"
def TX3 : u_T := fun k => match k with
  | 0 => ("SaltSaints$Statue", "first", "[I", true)
  | 1 => ("SaltSaints$Statue", "kind", "I", false)
  | 2 => ("SaltSaints$Statue", "looks", "I", false)
  | 3 => ("SaltSaints$Statue", "cover", "I", false)
  | _ => ("SaltSaints$Statue", "fenced", "Z", false)
def tyX3 : Nat → FieldType := fun k => match k with
  | 0 => .array .int
  | 1 => .int
  | 2 => .int
  | 3 => .int
  | _ => .boolean
abbrev wsX30 : List Cond := u_ws RX3 TX3 5
theorem nmX3 : ∀ a, a < 5 → ∀ b, b < 5 → a ≠ b → (TX3 a).2.1 ≠ (TX3 b).2.1 := by decide +kernel
theorem tyX3_ok : ∀ k, k < 5 → parseFieldDescriptor (TX3 k).2.2.1 = some (tyX3 k) := by decide +kernel
abbrev cX3_init : ByteArray := prog_5_method_1_code
def yX3_init : MethodName := ⟨RX3, "<init>", "()V"⟩
abbrev cX3_carve : ByteArray := prog_5_method_2_code
def yX3_carve : MethodName := ⟨RX3, "carve", "(LSaltSaints$Sheet;I)V"⟩
abbrev cX3_allAtFirst : ByteArray := prog_5_method_3_code
def yX3_allAtFirst : MethodName := ⟨RX3, "allAtFirst", "()I"⟩
abbrev cX3_washedOff : ByteArray := prog_5_method_4_code
def yX3_washedOff : MethodName := ⟨RX3, "washedOff", "(IIIII)I"⟩
abbrev cX3_lickable : ByteArray := prog_5_method_5_code
def yX3_lickable : MethodName := ⟨RX3, "lickable", "(I)Z"⟩
def RX4 : String := "SaltSaints$Text"
def TX4 : u_T := fun k => match k with
  | _ => ("", "", "", false)
def tyX4 : Nat → FieldType := fun k => match k with
  | _ => .int
abbrev wsX40 : List Cond := u_ws RX4 TX4 0
theorem nmX4 : ∀ a, a < 0 → ∀ b, b < 0 → a ≠ b → (TX4 a).2.1 ≠ (TX4 b).2.1 := by decide +kernel
theorem tyX4_ok : ∀ k, k < 0 → parseFieldDescriptor (TX4 k).2.2.1 = some (tyX4 k) := by decide +kernel
abbrev cX4_firstFault : ByteArray := prog_6_method_2_code
def yX4_firstFault : MethodName := ⟨RX4, "firstFault", "(LSaltSaints$Sheet;II)I"⟩
abbrev cX4_goesOn : ByteArray := prog_6_method_3_code
def yX4_goesOn : MethodName := ⟨RX4, "goesOn", "(II)Z"⟩
abbrev cX4_isWhole : ByteArray := prog_6_method_4_code
def yX4_isWhole : MethodName := ⟨RX4, "isWhole", "(I)Z"⟩
abbrev cX4_kindOf : ByteArray := prog_6_method_5_code
def yX4_kindOf : MethodName := ⟨RX4, "kindOf", "(I)I"⟩
def RX5 : String := "SaltSaints$Yard"
def TX5 : u_T := fun k => match k with
  | 0 => ("SaltSaints$Yard", "statues", "[LSaltSaints$Statue;", true)
  | 1 => ("SaltSaints$Yard", "rains", "[I", true)
  | 2 => ("SaltSaints$Yard", "winds", "[I", true)
  | 3 => ("SaltSaints$Yard", "left", "[I", true)
  | 4 => ("SaltSaints$Yard", "licked", "[I", true)
  | 5 => ("SaltSaints$Yard", "liked", "[I", true)
  | 6 => ("SaltSaints$Yard", "many", "I", false)
  | 7 => ("SaltSaints$Yard", "herd", "I", false)
  | _ => ("SaltSaints$Yard", "known", "I", false)
def tyX5 : Nat → FieldType := fun k => match k with
  | 0 => .array (.object "SaltSaints$Statue")
  | 1 => .array .int
  | 2 => .array .int
  | 3 => .array .int
  | 4 => .array .int
  | 5 => .array .int
  | 6 => .int
  | 7 => .int
  | _ => .int
abbrev wsX50 : List Cond := u_ws RX5 TX5 9
theorem nmX5 : ∀ a, a < 9 → ∀ b, b < 9 → a ≠ b → (TX5 a).2.1 ≠ (TX5 b).2.1 := by decide +kernel
theorem tyX5_ok : ∀ k, k < 9 → parseFieldDescriptor (TX5 k).2.2.1 = some (tyX5 k) := by decide +kernel
abbrev cX5_init : ByteArray := prog_7_method_1_code
def yX5_init : MethodName := ⟨RX5, "<init>", "()V"⟩
abbrev cX5_settle : ByteArray := prog_7_method_2_code
def yX5_settle : MethodName := ⟨RX5, "settle", "(LSaltSaints$Sheet;II)V"⟩
abbrev cX5_forgetFrom : ByteArray := prog_7_method_3_code
def yX5_forgetFrom : MethodName := ⟨RX5, "forgetFrom", "(I)V"⟩
abbrev cX5_letRain : ByteArray := prog_7_method_4_code
def yX5_letRain : MethodName := ⟨RX5, "letRain", "(II)V"⟩
abbrev cX5_workOut : ByteArray := prog_7_method_5_code
def yX5_workOut : MethodName := ⟨RX5, "workOut", "(I)V"⟩
abbrev cX5_pour : ByteArray := prog_7_method_6_code
def yX5_pour : MethodName := ⟨RX5, "pour", "(I)V"⟩
abbrev cX5_graze : ByteArray := prog_7_method_7_code
def yX5_graze : MethodName := ⟨RX5, "graze", "(I)V"⟩
abbrev cX5_likedBest : ByteArray := prog_7_method_8_code
def yX5_likedBest : MethodName := ⟨RX5, "likedBest", "(I)I"⟩
abbrev cX5_placeOf : ByteArray := prog_7_method_9_code
def yX5_placeOf : MethodName := ⟨RX5, "placeOf", "(III)I"⟩
abbrev cX5_leftOfPart : ByteArray := prog_7_method_10_code
def yX5_leftOfPart : MethodName := ⟨RX5, "leftOfPart", "(III)I"⟩
abbrev cX5_leftOf : ByteArray := prog_7_method_11_code
def yX5_leftOf : MethodName := ⟨RX5, "leftOf", "(II)I"⟩
abbrev cX5_sumOf : ByteArray := prog_7_method_12_code
def yX5_sumOf : MethodName := ⟨RX5, "sumOf", "(II)I"⟩
abbrev cX5_leftOfAll : ByteArray := prog_7_method_13_code
def yX5_leftOfAll : MethodName := ⟨RX5, "leftOfAll", "(I)I"⟩
abbrev cX5_lickedOff : ByteArray := prog_7_method_14_code
def yX5_lickedOff : MethodName := ⟨RX5, "lickedOff", "(II)I"⟩
abbrev cX5_inPuddle : ByteArray := prog_7_method_15_code
def yX5_inPuddle : MethodName := ⟨RX5, "inPuddle", "(II)I"⟩
abbrev cX5_dawnWithoutPart : ByteArray := prog_7_method_16_code
def yX5_dawnWithoutPart : MethodName := ⟨RX5, "dawnWithoutPart", "(II)I"⟩
abbrev cX5_dawnWithoutAny : ByteArray := prog_7_method_17_code
def yX5_dawnWithoutAny : MethodName := ⟨RX5, "dawnWithoutAny", "(I)I"⟩
abbrev cX5_likedFirst : ByteArray := prog_7_method_18_code
def yX5_likedFirst : MethodName := ⟨RX5, "likedFirst", "(I)I"⟩
abbrev cX5_longestLasting : ByteArray := prog_7_method_19_code
def yX5_longestLasting : MethodName := ⟨RX5, "longestLasting", "()I"⟩
abbrev cX5_apart : ByteArray := prog_7_method_20_code
def yX5_apart : MethodName := ⟨RX5, "apart", "(ILSaltSaints$Sheet;II)I"⟩
abbrev cX5_nearest : ByteArray := prog_7_method_21_code
def yX5_nearest : MethodName := ⟨RX5, "nearest", "(LSaltSaints$Sheet;II)I"⟩
def RX6 : String := "SaltSaints"
def TX6 : u_T := fun k => match k with
  | 0 => ("SaltSaints", "sheets", "[LSaltSaints$Sheet;", true)
  | 1 => ("SaltSaints", "yard", "LSaltSaints$Yard;", true)
  | 2 => ("SaltSaints", "readings", "LSaltSaints$Readings;", true)
  | 3 => ("SaltSaints", "trace", "I", false)
  | _ => ("SaltSaints", "fault", "I", false)
def tyX6 : Nat → FieldType := fun k => match k with
  | 0 => .array (.object "SaltSaints$Sheet")
  | 1 => .object "SaltSaints$Yard"
  | 2 => .object "SaltSaints$Readings"
  | 3 => .int
  | _ => .int
abbrev wsX60 : List Cond := u_ws RX6 TX6 5
theorem nmX6 : ∀ a, a < 5 → ∀ b, b < 5 → a ≠ b → (TX6 a).2.1 ≠ (TX6 b).2.1 := by decide +kernel
theorem tyX6_ok : ∀ k, k < 5 → parseFieldDescriptor (TX6 k).2.2.1 = some (tyX6 k) := by decide +kernel
abbrev cX6_init : ByteArray := prog_1_method_1_code
def yX6_init : MethodName := ⟨RX6, "<init>", "()V"⟩
abbrev cX6_statues : ByteArray := prog_1_method_2_code
def yX6_statues : MethodName := ⟨RX6, "statues", "(IIII)I"⟩
abbrev cX6_ofStatue : ByteArray := prog_1_method_3_code
def yX6_ofStatue : MethodName := ⟨RX6, "ofStatue", "(II)I"⟩
abbrev cX6_look : ByteArray := prog_1_method_4_code
def yX6_look : MethodName := ⟨RX6, "look", "(II)I"⟩
abbrev cX6_over : ByteArray := prog_1_method_5_code
def yX6_over : MethodName := ⟨RX6, "over", "(II)I"⟩
abbrev cX6_fence : ByteArray := prog_1_method_6_code
def yX6_fence : MethodName := ⟨RX6, "fence", "(IZ)I"⟩
abbrev cX6_rain : ByteArray := prog_1_method_7_code
def yX6_rain : MethodName := ⟨RX6, "rain", "(III)I"⟩
abbrev cX6_deer : ByteArray := prog_1_method_8_code
def yX6_deer : MethodName := ⟨RX6, "deer", "(I)I"⟩
abbrev cX6_grains : ByteArray := prog_1_method_9_code
def yX6_grains : MethodName := ⟨RX6, "grains", "(III)I"⟩
abbrev cX6_lost : ByteArray := prog_1_method_10_code
def yX6_lost : MethodName := ⟨RX6, "lost", "(III)I"⟩
abbrev cX6_gone : ByteArray := prog_1_method_11_code
def yX6_gone : MethodName := ⟨RX6, "gone", "(II)I"⟩
abbrev cX6_liked : ByteArray := prog_1_method_12_code
def yX6_liked : MethodName := ⟨RX6, "liked", "(I)I"⟩
abbrev cX6_lasts : ByteArray := prog_1_method_13_code
def yX6_lasts : MethodName := ⟨RX6, "lasts", "(I)J"⟩
abbrev cX6_umbrellas : ByteArray := prog_1_method_14_code
def yX6_umbrellas : MethodName := ⟨RX6, "umbrellas", "(II)I"⟩
abbrev cX6_turn : ByteArray := prog_1_method_15_code
def yX6_turn : MethodName := ⟨RX6, "turn", "(I)I"⟩
abbrev cX6_roofs : ByteArray := prog_1_method_16_code
def yX6_roofs : MethodName := ⟨RX6, "roofs", "(II)I"⟩
abbrev cX6_takenFor : ByteArray := prog_1_method_17_code
def yX6_takenFor : MethodName := ⟨RX6, "takenFor", "(IIIII)I"⟩
abbrev cX6_whose : ByteArray := prog_1_method_18_code
def yX6_whose : MethodName := ⟨RX6, "whose", "(II)I"⟩
abbrev cX6_reading : ByteArray := prog_1_method_19_code
def yX6_reading : MethodName := ⟨RX6, "reading", "(IIII)I"⟩
abbrev cX6_back : ByteArray := prog_1_method_20_code
def yX6_back : MethodName := ⟨RX6, "back", "(I)I"⟩
abbrev cX6_rains : ByteArray := prog_1_method_21_code
def yX6_rains : MethodName := ⟨RX6, "rains", "(I)I"⟩
abbrev cX6_cast : ByteArray := prog_1_method_22_code
def yX6_cast : MethodName := ⟨RX6, "cast", "(II)I"⟩
abbrev cX6_sheet : ByteArray := prog_1_method_23_code
def yX6_sheet : MethodName := ⟨RX6, "sheet", "(III)I"⟩
abbrev cX6_lose : ByteArray := prog_1_method_24_code
def yX6_lose : MethodName := ⟨RX6, "lose", "(I)I"⟩
abbrev cX6_put : ByteArray := prog_1_method_25_code
def yX6_put : MethodName := ⟨RX6, "put", "(III)I"⟩
abbrev cX6_cell : ByteArray := prog_1_method_26_code
def yX6_cell : MethodName := ⟨RX6, "cell", "(III)J"⟩
abbrev cX6_copy : ByteArray := prog_1_method_27_code
def yX6_copy : MethodName := ⟨RX6, "copy", "(IIIII)I"⟩
abbrev cX6_tell : ByteArray := prog_1_method_28_code
def yX6_tell : MethodName := ⟨RX6, "tell", "(I)I"⟩
abbrev cX6_bow : ByteArray := prog_1_method_29_code
def yX6_bow : MethodName := ⟨RX6, "bow", "(I)I"⟩
abbrev cX6_as : ByteArray := prog_1_method_30_code
def yX6_as : MethodName := ⟨RX6, "as", "(II)I"⟩
abbrev cX6_trace : ByteArray := prog_1_method_31_code
def yX6_trace : MethodName := ⟨RX6, "trace", "()I"⟩
abbrev cX6_fault : ByteArray := prog_1_method_32_code
def yX6_fault : MethodName := ⟨RX6, "fault", "()I"⟩
abbrev cX6_many : ByteArray := prog_1_method_33_code
def yX6_many : MethodName := ⟨RX6, "many", "(I)I"⟩
abbrev cX6_isBelow : ByteArray := prog_1_method_34_code
def yX6_isBelow : MethodName := ⟨RX6, "isBelow", "(II)Z"⟩
abbrev cX6_isSheet : ByteArray := prog_1_method_35_code
def yX6_isSheet : MethodName := ⟨RX6, "isSheet", "(I)Z"⟩
abbrev cX6_isLane : ByteArray := prog_1_method_36_code
def yX6_isLane : MethodName := ⟨RX6, "isLane", "(I)Z"⟩
abbrev cX6_isDawn : ByteArray := prog_1_method_37_code
def yX6_isDawn : MethodName := ⟨RX6, "isDawn", "(I)Z"⟩
abbrev cX6_isStatue : ByteArray := prog_1_method_38_code
def yX6_isStatue : MethodName := ⟨RX6, "isStatue", "(I)Z"⟩
abbrev cX6_faulty : ByteArray := prog_1_method_39_code
def yX6_faulty : MethodName := ⟨RX6, "faulty", "(I)I"⟩
abbrev cX6_leave : ByteArray := prog_1_method_40_code
def yX6_leave : MethodName := ⟨RX6, "leave", "(I)V"⟩
abbrev cX6_saintTells : ByteArray := prog_1_method_41_code
def yX6_saintTells : MethodName := ⟨RX6, "saintTells", "(LSaltSaints$Statue;)I"⟩
abbrev cX6_bishopTells : ByteArray := prog_1_method_42_code
def yX6_bishopTells : MethodName := ⟨RX6, "bishopTells", "(LSaltSaints$Statue;)I"⟩
abbrev cX6_martyrTells : ByteArray := prog_1_method_43_code
def yX6_martyrTells : MethodName := ⟨RX6, "martyrTells", "(LSaltSaints$Statue;)I"⟩
abbrev cX6_commonDivisor : ByteArray := prog_1_method_44_code
def yX6_commonDivisor : MethodName := ⟨RX6, "commonDivisor", "(II)I"⟩
def RX7 : String := "SaltSaintsModel"
def TX7 : u_T := fun k => match k with
  | 0 => ("SaltSaintsModel", "fault", "I", false)
  | 1 => ("SaltSaintsModel", "saints", "I", false)
  | 2 => ("SaltSaintsModel", "kindOf", "[I", true)
  | 3 => ("SaltSaintsModel", "atFirst", "[I", true)
  | 4 => ("SaltSaintsModel", "looksTo", "[I", true)
  | 5 => ("SaltSaintsModel", "overOf", "[I", true)
  | 6 => ("SaltSaintsModel", "hasFence", "[Z", true)
  | 7 => ("SaltSaintsModel", "readAt", "I", false)
  | 8 => ("SaltSaintsModel", "readMany", "I", false)
  | 9 => ("SaltSaintsModel", "readKind", "[I", true)
  | 10 => ("SaltSaintsModel", "readParts", "[I", true)
  | 11 => ("SaltSaintsModel", "readLooks", "[I", true)
  | 12 => ("SaltSaintsModel", "rainOf", "[I", true)
  | 13 => ("SaltSaintsModel", "windOf", "[I", true)
  | 14 => ("SaltSaintsModel", "deerMany", "I", false)
  | 15 => ("SaltSaintsModel", "has", "[I", true)
  | 16 => ("SaltSaintsModel", "flowed", "[I", true)
  | 17 => ("SaltSaintsModel", "licked", "[I", true)
  | 18 => ("SaltSaintsModel", "overWas", "[I", true)
  | 19 => ("SaltSaintsModel", "readings", "I", false)
  | 20 => ("SaltSaintsModel", "readingOf", "[I", true)
  | 21 => ("SaltSaintsModel", "readingPart", "[I", true)
  | 22 => ("SaltSaintsModel", "readingDawn", "[I", true)
  | 23 => ("SaltSaintsModel", "readingTo", "[I", true)
  | 24 => ("SaltSaintsModel", "sheetSize", "[I", true)
  | 25 => ("SaltSaintsModel", "sheetLane", "[I", true)
  | 26 => ("SaltSaintsModel", "sheet", "[I", true)
  | 27 => ("SaltSaintsModel", "hands", "[I", true)
  | _ => ("SaltSaintsModel", "traceNow", "I", false)
def tyX7 : Nat → FieldType := fun k => match k with
  | 0 => .int
  | 1 => .int
  | 2 => .array .int
  | 3 => .array .int
  | 4 => .array .int
  | 5 => .array .int
  | 6 => .array .boolean
  | 7 => .int
  | 8 => .int
  | 9 => .array .int
  | 10 => .array .int
  | 11 => .array .int
  | 12 => .array .int
  | 13 => .array .int
  | 14 => .int
  | 15 => .array .int
  | 16 => .array .int
  | 17 => .array .int
  | 18 => .array .int
  | 19 => .int
  | 20 => .array .int
  | 21 => .array .int
  | 22 => .array .int
  | 23 => .array .int
  | 24 => .array .int
  | 25 => .array .int
  | 26 => .array .int
  | 27 => .array .int
  | _ => .int
abbrev wsX70 : List Cond := u_ws RX7 TX7 29
theorem nmX7 : ∀ a, a < 29 → ∀ b, b < 29 → a ≠ b → (TX7 a).2.1 ≠ (TX7 b).2.1 := by decide +kernel
theorem tyX7_ok : ∀ k, k < 29 → parseFieldDescriptor (TX7 k).2.2.1 = some (tyX7 k) := by decide +kernel
abbrev cX7_init : ByteArray := prog_9_method_1_code
def yX7_init : MethodName := ⟨RX7, "<init>", "()V"⟩
abbrev cX7_in : ByteArray := prog_9_method_2_code
def yX7_in : MethodName := ⟨RX7, "in", "(JJJ)Z"⟩
abbrev cX7_nothing : ByteArray := prog_9_method_3_code
def yX7_nothing : MethodName := ⟨RX7, "nothing", "()J"⟩
abbrev cX7_off : ByteArray := prog_9_method_4_code
def yX7_off : MethodName := ⟨RX7, "off", "(II)I"⟩
abbrev cX7_lesser : ByteArray := prog_9_method_5_code
def yX7_lesser : MethodName := ⟨RX7, "lesser", "(II)I"⟩
abbrev cX7_told : ByteArray := prog_9_method_6_code
def yX7_told : MethodName := ⟨RX7, "told", "(JJI)J"⟩
abbrev cX7_refused : ByteArray := prog_9_method_7_code
def yX7_refused : MethodName := ⟨RX7, "refused", "(I)I"⟩
abbrev cX7_failed : ByteArray := prog_9_method_8_code
def yX7_failed : MethodName := ⟨RX7, "failed", "(I)I"⟩
abbrev cX7_failedLong : ByteArray := prog_9_method_9_code
def yX7_failedLong : MethodName := ⟨RX7, "failedLong", "(I)J"⟩
abbrev cX7_barred : ByteArray := prog_9_method_10_code
def yX7_barred : MethodName := ⟨RX7, "barred", "(IIIJZ)I"⟩
abbrev cX7_noOne : ByteArray := prog_9_method_11_code
def yX7_noOne : MethodName := ⟨RX7, "noOne", "(I)Z"⟩
abbrev cX7_isDawn : ByteArray := prog_9_method_12_code
def yX7_isDawn : MethodName := ⟨RX7, "isDawn", "(I)Z"⟩
abbrev cX7_codeAt : ByteArray := prog_9_method_13_code
def yX7_codeAt : MethodName := ⟨RX7, "codeAt", "(II)I"⟩
abbrev cX7_figure : ByteArray := prog_9_method_14_code
def yX7_figure : MethodName := ⟨RX7, "figure", "(IIII)I"⟩
abbrev cX7_readsOne : ByteArray := prog_9_method_15_code
def yX7_readsOne : MethodName := ⟨RX7, "readsOne", "(II)Z"⟩
abbrev cX7_readsAll : ByteArray := prog_9_method_16_code
def yX7_readsAll : MethodName := ⟨RX7, "readsAll", "(II)Z"⟩
abbrev cX7_statues : ByteArray := prog_9_method_17_code
def yX7_statues : MethodName := ⟨RX7, "statues", "(IIII)I"⟩
abbrev cX7_ofStatue : ByteArray := prog_9_method_18_code
def yX7_ofStatue : MethodName := ⟨RX7, "ofStatue", "(II)I"⟩
abbrev cX7_look : ByteArray := prog_9_method_19_code
def yX7_look : MethodName := ⟨RX7, "look", "(II)I"⟩
abbrev cX7_over : ByteArray := prog_9_method_20_code
def yX7_over : MethodName := ⟨RX7, "over", "(II)I"⟩
abbrev cX7_fence : ByteArray := prog_9_method_21_code
def yX7_fence : MethodName := ⟨RX7, "fence", "(IZ)I"⟩
abbrev cX7_rain : ByteArray := prog_9_method_22_code
def yX7_rain : MethodName := ⟨RX7, "rain", "(III)I"⟩
abbrev cX7_deer : ByteArray := prog_9_method_23_code
def yX7_deer : MethodName := ⟨RX7, "deer", "(I)I"⟩
abbrev cX7_begin : ByteArray := prog_9_method_24_code
def yX7_begin : MethodName := ⟨RX7, "begin", "()V"⟩
abbrev cX7_losesBy : ByteArray := prog_9_method_25_code
def yX7_losesBy : MethodName := ⟨RX7, "losesBy", "(III)I"⟩
abbrev cX7_rainOn : ByteArray := prog_9_method_26_code
def yX7_rainOn : MethodName := ⟨RX7, "rainOn", "(I)V"⟩
abbrev cX7_canLick : ByteArray := prog_9_method_27_code
def yX7_canLick : MethodName := ⟨RX7, "canLick", "(I)Z"⟩
abbrev cX7_likedNow : ByteArray := prog_9_method_28_code
def yX7_likedNow : MethodName := ⟨RX7, "likedNow", "()I"⟩
abbrev cX7_goDay : ByteArray := prog_9_method_29_code
def yX7_goDay : MethodName := ⟨RX7, "goDay", "(I)V"⟩
abbrev cX7_goTo : ByteArray := prog_9_method_30_code
def yX7_goTo : MethodName := ⟨RX7, "goTo", "(I)V"⟩
abbrev cX7_noPart : ByteArray := prog_9_method_31_code
def yX7_noPart : MethodName := ⟨RX7, "noPart", "(I)Z"⟩
abbrev cX7_grains : ByteArray := prog_9_method_32_code
def yX7_grains : MethodName := ⟨RX7, "grains", "(III)I"⟩
abbrev cX7_lost : ByteArray := prog_9_method_33_code
def yX7_lost : MethodName := ⟨RX7, "lost", "(III)I"⟩
abbrev cX7_isGoneNow : ByteArray := prog_9_method_34_code
def yX7_isGoneNow : MethodName := ⟨RX7, "isGoneNow", "(II)Z"⟩
abbrev cX7_goneAt : ByteArray := prog_9_method_35_code
def yX7_goneAt : MethodName := ⟨RX7, "goneAt", "(II)I"⟩
abbrev cX7_gone : ByteArray := prog_9_method_36_code
def yX7_gone : MethodName := ⟨RX7, "gone", "(II)I"⟩
abbrev cX7_liked : ByteArray := prog_9_method_37_code
def yX7_liked : MethodName := ⟨RX7, "liked", "(I)I"⟩
abbrev cX7_lasts : ByteArray := prog_9_method_38_code
def yX7_lasts : MethodName := ⟨RX7, "lasts", "(I)J"⟩
abbrev cX7_keepOver : ByteArray := prog_9_method_39_code
def yX7_keepOver : MethodName := ⟨RX7, "keepOver", "()V"⟩
abbrev cX7_takeOver : ByteArray := prog_9_method_40_code
def yX7_takeOver : MethodName := ⟨RX7, "takeOver", "()V"⟩
abbrev cX7_nosesNow : ByteArray := prog_9_method_41_code
def yX7_nosesNow : MethodName := ⟨RX7, "nosesNow", "()I"⟩
abbrev cX7_bits : ByteArray := prog_9_method_42_code
def yX7_bits : MethodName := ⟨RX7, "bits", "(I)I"⟩
abbrev cX7_umbrellas : ByteArray := prog_9_method_43_code
def yX7_umbrellas : MethodName := ⟨RX7, "umbrellas", "(II)I"⟩
abbrev cX7_firstNose : ByteArray := prog_9_method_44_code
def yX7_firstNose : MethodName := ⟨RX7, "firstNose", "()I"⟩
abbrev cX7_turn : ByteArray := prog_9_method_45_code
def yX7_turn : MethodName := ⟨RX7, "turn", "(I)I"⟩
abbrev cX7_roofs : ByteArray := prog_9_method_46_code
def yX7_roofs : MethodName := ⟨RX7, "roofs", "(II)I"⟩
abbrev cX7_takenFor : ByteArray := prog_9_method_47_code
def yX7_takenFor : MethodName := ⟨RX7, "takenFor", "(IIIII)I"⟩
abbrev cX7_whose : ByteArray := prog_9_method_48_code
def yX7_whose : MethodName := ⟨RX7, "whose", "(II)I"⟩
abbrev cX7_reading : ByteArray := prog_9_method_49_code
def yX7_reading : MethodName := ⟨RX7, "reading", "(IIII)I"⟩
abbrev cX7_back : ByteArray := prog_9_method_50_code
def yX7_back : MethodName := ⟨RX7, "back", "(I)I"⟩
abbrev cX7_areSo : ByteArray := prog_9_method_51_code
def yX7_areSo : MethodName := ⟨RX7, "areSo", "()Z"⟩
abbrev cX7_rains : ByteArray := prog_9_method_52_code
def yX7_rains : MethodName := ⟨RX7, "rains", "(I)I"⟩
abbrev cX7_cast : ByteArray := prog_9_method_53_code
def yX7_cast : MethodName := ⟨RX7, "cast", "(II)I"⟩
abbrev cX7_noSheet : ByteArray := prog_9_method_54_code
def yX7_noSheet : MethodName := ⟨RX7, "noSheet", "(I)Z"⟩
abbrev cX7_sheet : ByteArray := prog_9_method_55_code
def yX7_sheet : MethodName := ⟨RX7, "sheet", "(III)I"⟩
abbrev cX7_lose : ByteArray := prog_9_method_56_code
def yX7_lose : MethodName := ⟨RX7, "lose", "(I)I"⟩
abbrev cX7_noCell : ByteArray := prog_9_method_57_code
def yX7_noCell : MethodName := ⟨RX7, "noCell", "(II)I"⟩
abbrev cX7_put : ByteArray := prog_9_method_58_code
def yX7_put : MethodName := ⟨RX7, "put", "(III)I"⟩
abbrev cX7_cell : ByteArray := prog_9_method_59_code
def yX7_cell : MethodName := ⟨RX7, "cell", "(III)J"⟩
abbrev cX7_isBeyond : ByteArray := prog_9_method_60_code
def yX7_isBeyond : MethodName := ⟨RX7, "isBeyond", "(IJI)Z"⟩
abbrev cX7_copy : ByteArray := prog_9_method_61_code
def yX7_copy : MethodName := ⟨RX7, "copy", "(IIIII)I"⟩
abbrev cX7_traced : ByteArray := prog_9_method_62_code
def yX7_traced : MethodName := ⟨RX7, "traced", "(I)V"⟩
abbrev cX7_tell : ByteArray := prog_9_method_63_code
def yX7_tell : MethodName := ⟨RX7, "tell", "(I)I"⟩
abbrev cX7_bow : ByteArray := prog_9_method_64_code
def yX7_bow : MethodName := ⟨RX7, "bow", "(I)I"⟩
abbrev cX7_as : ByteArray := prog_9_method_65_code
def yX7_as : MethodName := ⟨RX7, "as", "(II)I"⟩
abbrev cX7_trace : ByteArray := prog_9_method_66_code
def yX7_trace : MethodName := ⟨RX7, "trace", "()I"⟩
abbrev cX7_fault : ByteArray := prog_9_method_67_code
def yX7_fault : MethodName := ⟨RX7, "fault", "()I"⟩
abbrev cX7_many : ByteArray := prog_9_method_68_code
def yX7_many : MethodName := ⟨RX7, "many", "(I)I"⟩
def RJ6 : String := "java/lang/Integer"
abbrev cJ6_bitCount_0f7a4 : ByteArray := prog_10_method_49_code
def yJ6_bitCount_0f7a4 : MethodName := ⟨RJ6, "bitCount", "(I)I"⟩
def RJ9 : String := "java/lang/Math"
abbrev cJ9_abs_0f7a4 : ByteArray := prog_11_method_59_code
def yJ9_abs_0f7a4 : MethodName := ⟨RJ9, "abs", "(I)I"⟩
abbrev cJ9_max_7cf53 : ByteArray := prog_11_method_65_code
def yJ9_max_7cf53 : MethodName := ⟨RJ9, "max", "(II)I"⟩
abbrev cJ9_min_7cf53 : ByteArray := prog_11_method_69_code
def yJ9_min_7cf53 : MethodName := ⟨RJ9, "min", "(II)I"⟩
def RJ10 : String := "java/lang/System"
def RL : String := "SaltSaintsLaw"
abbrev cL_law : ByteArray := code
def yL_law : MethodName := ⟨RL, "law", "([I)Z"⟩
abbrev vwCl : List vw_C := [(RX1, TX1, 5), (RX2, TX2, 4), (RX3, TX3, 5), (RX5, TX5, 9), (RX6, TX6, 5), (RX7, TX7, 29)]
end
