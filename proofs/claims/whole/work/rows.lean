section
-- ===== PART A: goes FIRST, ahead of the names: the tables' words, and 'selects' of the private methods out of them =====
/-- a private method of a class that the tables say can be made, by its rows of tables_1 -/
def lw_okq (q : MethodName × Nat) : Prop := (q.1.cls ≠ "java/lang/invoke/MethodHandle" ∧ q.1.cls ≠ "java/lang/invoke/VarHandle") ∧ Cond.instantiable q.1.cls q.2 ∈ tables_1 ∧ Cond.privateMethod q.1 ∈ tables_1 ∧ Cond.instanceMethod q.1 ∈ tables_1
theorem lw_p0 : lw_okq (⟨"SaltSaints$Sheet", "faultAs", "(I)I"⟩, 4) := ⟨⟨by decide +kernel, by decide +kernel⟩, List.mem_of_getElem? (i := 22) (by decide +kernel), List.mem_of_getElem? (i := 177) (by decide +kernel), List.mem_of_getElem? (i := 178) (by decide +kernel)⟩
theorem lw_p1 : lw_okq (⟨"SaltSaints$Sheet", "hasRun", "(II)Z"⟩, 4) := ⟨⟨by decide +kernel, by decide +kernel⟩, List.mem_of_getElem? (i := 22) (by decide +kernel), List.mem_of_getElem? (i := 181) (by decide +kernel), List.mem_of_getElem? (i := 182) (by decide +kernel)⟩
theorem lw_p2 : lw_okq (⟨"SaltSaints", "faulty", "(I)I"⟩, 5) := ⟨⟨by decide +kernel, by decide +kernel⟩, List.mem_of_getElem? (i := 13) (by decide +kernel), List.mem_of_getElem? (i := 185) (by decide +kernel), List.mem_of_getElem? (i := 186) (by decide +kernel)⟩
theorem lw_p3 : lw_okq (⟨"SaltSaints$Yard", "settle", "(LSaltSaints$Sheet;II)V"⟩, 9) := ⟨⟨by decide +kernel, by decide +kernel⟩, List.mem_of_getElem? (i := 48) (by decide +kernel), List.mem_of_getElem? (i := 201) (by decide +kernel), List.mem_of_getElem? (i := 202) (by decide +kernel)⟩
theorem lw_p4 : lw_okq (⟨"SaltSaints$Statue", "carve", "(LSaltSaints$Sheet;I)V"⟩, 5) := ⟨⟨by decide +kernel, by decide +kernel⟩, List.mem_of_getElem? (i := 55) (by decide +kernel), List.mem_of_getElem? (i := 205) (by decide +kernel), List.mem_of_getElem? (i := 206) (by decide +kernel)⟩
theorem lw_p5 : lw_okq (⟨"SaltSaints$Readings", "keep", "(I)V"⟩, 5) := ⟨⟨by decide +kernel, by decide +kernel⟩, List.mem_of_getElem? (i := 125) (by decide +kernel), List.mem_of_getElem? (i := 213) (by decide +kernel), List.mem_of_getElem? (i := 214) (by decide +kernel)⟩
theorem lw_p6 : lw_okq (⟨"SaltSaints", "isStatue", "(I)Z"⟩, 5) := ⟨⟨by decide +kernel, by decide +kernel⟩, List.mem_of_getElem? (i := 13) (by decide +kernel), List.mem_of_getElem? (i := 221) (by decide +kernel), List.mem_of_getElem? (i := 222) (by decide +kernel)⟩
theorem lw_p7 : lw_okq (⟨"SaltSaints$Yard", "forgetFrom", "(I)V"⟩, 9) := ⟨⟨by decide +kernel, by decide +kernel⟩, List.mem_of_getElem? (i := 48) (by decide +kernel), List.mem_of_getElem? (i := 229) (by decide +kernel), List.mem_of_getElem? (i := 230) (by decide +kernel)⟩
theorem lw_p8 : lw_okq (⟨"SaltSaints$Yard", "letRain", "(II)V"⟩, 9) := ⟨⟨by decide +kernel, by decide +kernel⟩, List.mem_of_getElem? (i := 48) (by decide +kernel), List.mem_of_getElem? (i := 248) (by decide +kernel), List.mem_of_getElem? (i := 249) (by decide +kernel)⟩
theorem lw_p9 : lw_okq (⟨"SaltSaints$Yard", "leftOfPart", "(III)I"⟩, 9) := ⟨⟨by decide +kernel, by decide +kernel⟩, List.mem_of_getElem? (i := 48) (by decide +kernel), List.mem_of_getElem? (i := 264) (by decide +kernel), List.mem_of_getElem? (i := 265) (by decide +kernel)⟩
theorem lw_p10 : lw_okq (⟨"SaltSaints$Yard", "workOut", "(I)V"⟩, 9) := ⟨⟨by decide +kernel, by decide +kernel⟩, List.mem_of_getElem? (i := 48) (by decide +kernel), List.mem_of_getElem? (i := 268) (by decide +kernel), List.mem_of_getElem? (i := 269) (by decide +kernel)⟩
theorem lw_p11 : lw_okq (⟨"SaltSaints$Yard", "pour", "(I)V"⟩, 9) := ⟨⟨by decide +kernel, by decide +kernel⟩, List.mem_of_getElem? (i := 48) (by decide +kernel), List.mem_of_getElem? (i := 272) (by decide +kernel), List.mem_of_getElem? (i := 273) (by decide +kernel)⟩
theorem lw_p12 : lw_okq (⟨"SaltSaints$Statue", "washedOff", "(IIIII)I"⟩, 5) := ⟨⟨by decide +kernel, by decide +kernel⟩, List.mem_of_getElem? (i := 55) (by decide +kernel), List.mem_of_getElem? (i := 279) (by decide +kernel), List.mem_of_getElem? (i := 280) (by decide +kernel)⟩
theorem lw_p13 : lw_okq (⟨"SaltSaints$Yard", "graze", "(I)V"⟩, 9) := ⟨⟨by decide +kernel, by decide +kernel⟩, List.mem_of_getElem? (i := 48) (by decide +kernel), List.mem_of_getElem? (i := 283) (by decide +kernel), List.mem_of_getElem? (i := 284) (by decide +kernel)⟩
theorem lw_p14 : lw_okq (⟨"SaltSaints$Yard", "likedBest", "(I)I"⟩, 9) := ⟨⟨by decide +kernel, by decide +kernel⟩, List.mem_of_getElem? (i := 48) (by decide +kernel), List.mem_of_getElem? (i := 287) (by decide +kernel), List.mem_of_getElem? (i := 288) (by decide +kernel)⟩
theorem lw_p15 : lw_okq (⟨"SaltSaints$Statue", "lickable", "(I)Z"⟩, 5) := ⟨⟨by decide +kernel, by decide +kernel⟩, List.mem_of_getElem? (i := 55) (by decide +kernel), List.mem_of_getElem? (i := 291) (by decide +kernel), List.mem_of_getElem? (i := 292) (by decide +kernel)⟩
def lw_privs_1 : List (MethodName × Nat) := [(⟨"SaltSaints$Sheet", "faultAs", "(I)I"⟩, 4), (⟨"SaltSaints$Sheet", "hasRun", "(II)Z"⟩, 4), (⟨"SaltSaints", "faulty", "(I)I"⟩, 5), (⟨"SaltSaints$Yard", "settle", "(LSaltSaints$Sheet;II)V"⟩, 9), (⟨"SaltSaints$Statue", "carve", "(LSaltSaints$Sheet;I)V"⟩, 5), (⟨"SaltSaints$Readings", "keep", "(I)V"⟩, 5), (⟨"SaltSaints", "isStatue", "(I)Z"⟩, 5), (⟨"SaltSaints$Yard", "forgetFrom", "(I)V"⟩, 9), (⟨"SaltSaints$Yard", "letRain", "(II)V"⟩, 9), (⟨"SaltSaints$Yard", "leftOfPart", "(III)I"⟩, 9), (⟨"SaltSaints$Yard", "workOut", "(I)V"⟩, 9), (⟨"SaltSaints$Yard", "pour", "(I)V"⟩, 9), (⟨"SaltSaints$Statue", "washedOff", "(IIIII)I"⟩, 5), (⟨"SaltSaints$Yard", "graze", "(I)V"⟩, 9), (⟨"SaltSaints$Yard", "likedBest", "(I)I"⟩, 9), (⟨"SaltSaints$Statue", "lickable", "(I)Z"⟩, 5)]
theorem lw_r1 : ∀ q ∈ lw_privs_1, lw_okq q := List.forall_mem_cons.mpr ⟨lw_p0, List.forall_mem_cons.mpr ⟨lw_p1, List.forall_mem_cons.mpr ⟨lw_p2, List.forall_mem_cons.mpr ⟨lw_p3, List.forall_mem_cons.mpr ⟨lw_p4, List.forall_mem_cons.mpr ⟨lw_p5, List.forall_mem_cons.mpr ⟨lw_p6, List.forall_mem_cons.mpr ⟨lw_p7, List.forall_mem_cons.mpr ⟨lw_p8, List.forall_mem_cons.mpr ⟨lw_p9, List.forall_mem_cons.mpr ⟨lw_p10, List.forall_mem_cons.mpr ⟨lw_p11, List.forall_mem_cons.mpr ⟨lw_p12, List.forall_mem_cons.mpr ⟨lw_p13, List.forall_mem_cons.mpr ⟨lw_p14, List.forall_mem_cons.mpr ⟨lw_p15, fun _ h => absurd h List.not_mem_nil⟩⟩⟩⟩⟩⟩⟩⟩⟩⟩⟩⟩⟩⟩⟩⟩
theorem lw_p16 : lw_okq (⟨"SaltSaints$Yard", "inPuddle", "(II)I"⟩, 9) := ⟨⟨by decide +kernel, by decide +kernel⟩, List.mem_of_getElem? (i := 48) (by decide +kernel), List.mem_of_getElem? (i := 302) (by decide +kernel), List.mem_of_getElem? (i := 303) (by decide +kernel)⟩
theorem lw_p17 : lw_okq (⟨"SaltSaints$Statue", "allAtFirst", "()I"⟩, 5) := ⟨⟨by decide +kernel, by decide +kernel⟩, List.mem_of_getElem? (i := 55) (by decide +kernel), List.mem_of_getElem? (i := 306) (by decide +kernel), List.mem_of_getElem? (i := 307) (by decide +kernel)⟩
theorem lw_p18 : lw_okq (⟨"SaltSaints$Yard", "leftOf", "(II)I"⟩, 9) := ⟨⟨by decide +kernel, by decide +kernel⟩, List.mem_of_getElem? (i := 48) (by decide +kernel), List.mem_of_getElem? (i := 310) (by decide +kernel), List.mem_of_getElem? (i := 311) (by decide +kernel)⟩
theorem lw_p19 : lw_okq (⟨"SaltSaints$Yard", "sumOf", "(II)I"⟩, 9) := ⟨⟨by decide +kernel, by decide +kernel⟩, List.mem_of_getElem? (i := 48) (by decide +kernel), List.mem_of_getElem? (i := 314) (by decide +kernel), List.mem_of_getElem? (i := 315) (by decide +kernel)⟩
theorem lw_p20 : lw_okq (⟨"SaltSaints$Yard", "lickedOff", "(II)I"⟩, 9) := ⟨⟨by decide +kernel, by decide +kernel⟩, List.mem_of_getElem? (i := 48) (by decide +kernel), List.mem_of_getElem? (i := 318) (by decide +kernel), List.mem_of_getElem? (i := 319) (by decide +kernel)⟩
theorem lw_p21 : lw_okq (⟨"SaltSaints$Yard", "dawnWithoutPart", "(II)I"⟩, 9) := ⟨⟨by decide +kernel, by decide +kernel⟩, List.mem_of_getElem? (i := 48) (by decide +kernel), List.mem_of_getElem? (i := 327) (by decide +kernel), List.mem_of_getElem? (i := 328) (by decide +kernel)⟩
theorem lw_p22 : lw_okq (⟨"SaltSaints$Yard", "dawnWithoutAny", "(I)I"⟩, 9) := ⟨⟨by decide +kernel, by decide +kernel⟩, List.mem_of_getElem? (i := 48) (by decide +kernel), List.mem_of_getElem? (i := 331) (by decide +kernel), List.mem_of_getElem? (i := 332) (by decide +kernel)⟩
theorem lw_p23 : lw_okq (⟨"SaltSaints$Yard", "likedFirst", "(I)I"⟩, 9) := ⟨⟨by decide +kernel, by decide +kernel⟩, List.mem_of_getElem? (i := 48) (by decide +kernel), List.mem_of_getElem? (i := 339) (by decide +kernel), List.mem_of_getElem? (i := 340) (by decide +kernel)⟩
theorem lw_p24 : lw_okq (⟨"SaltSaints$Yard", "longestLasting", "()I"⟩, 9) := ⟨⟨by decide +kernel, by decide +kernel⟩, List.mem_of_getElem? (i := 48) (by decide +kernel), List.mem_of_getElem? (i := 348) (by decide +kernel), List.mem_of_getElem? (i := 349) (by decide +kernel)⟩
theorem lw_p25 : lw_okq (⟨"SaltSaints$Yard", "leftOfAll", "(I)I"⟩, 9) := ⟨⟨by decide +kernel, by decide +kernel⟩, List.mem_of_getElem? (i := 48) (by decide +kernel), List.mem_of_getElem? (i := 353) (by decide +kernel), List.mem_of_getElem? (i := 354) (by decide +kernel)⟩
theorem lw_p26 : lw_okq (⟨"SaltSaints$Yard", "nearest", "(LSaltSaints$Sheet;II)I"⟩, 9) := ⟨⟨by decide +kernel, by decide +kernel⟩, List.mem_of_getElem? (i := 48) (by decide +kernel), List.mem_of_getElem? (i := 404) (by decide +kernel), List.mem_of_getElem? (i := 405) (by decide +kernel)⟩
theorem lw_p27 : lw_okq (⟨"SaltSaints$Yard", "apart", "(ILSaltSaints$Sheet;II)I"⟩, 9) := ⟨⟨by decide +kernel, by decide +kernel⟩, List.mem_of_getElem? (i := 48) (by decide +kernel), List.mem_of_getElem? (i := 408) (by decide +kernel), List.mem_of_getElem? (i := 409) (by decide +kernel)⟩
theorem lw_p28 : lw_okq (⟨"SaltSaints$Readings", "note", "(IIII)I"⟩, 5) := ⟨⟨by decide +kernel, by decide +kernel⟩, List.mem_of_getElem? (i := 125) (by decide +kernel), List.mem_of_getElem? (i := 424) (by decide +kernel), List.mem_of_getElem? (i := 425) (by decide +kernel)⟩
theorem lw_p29 : lw_okq (⟨"SaltSaints$Readings", "allHold", "(LSaltSaints$Yard;)Z"⟩, 5) := ⟨⟨by decide +kernel, by decide +kernel⟩, List.mem_of_getElem? (i := 125) (by decide +kernel), List.mem_of_getElem? (i := 436) (by decide +kernel), List.mem_of_getElem? (i := 437) (by decide +kernel)⟩
theorem lw_p30 : lw_okq (⟨"SaltSaints$Sheet", "renew", "(II)V"⟩, 4) := ⟨⟨by decide +kernel, by decide +kernel⟩, List.mem_of_getElem? (i := 22) (by decide +kernel), List.mem_of_getElem? (i := 449) (by decide +kernel), List.mem_of_getElem? (i := 450) (by decide +kernel)⟩
theorem lw_p31 : lw_okq (⟨"SaltSaints$Sheet", "cut", "(I)I"⟩, 4) := ⟨⟨by decide +kernel, by decide +kernel⟩, List.mem_of_getElem? (i := 22) (by decide +kernel), List.mem_of_getElem? (i := 461) (by decide +kernel), List.mem_of_getElem? (i := 462) (by decide +kernel)⟩
def lw_privs_2 : List (MethodName × Nat) := [(⟨"SaltSaints$Yard", "inPuddle", "(II)I"⟩, 9), (⟨"SaltSaints$Statue", "allAtFirst", "()I"⟩, 5), (⟨"SaltSaints$Yard", "leftOf", "(II)I"⟩, 9), (⟨"SaltSaints$Yard", "sumOf", "(II)I"⟩, 9), (⟨"SaltSaints$Yard", "lickedOff", "(II)I"⟩, 9), (⟨"SaltSaints$Yard", "dawnWithoutPart", "(II)I"⟩, 9), (⟨"SaltSaints$Yard", "dawnWithoutAny", "(I)I"⟩, 9), (⟨"SaltSaints$Yard", "likedFirst", "(I)I"⟩, 9), (⟨"SaltSaints$Yard", "longestLasting", "()I"⟩, 9), (⟨"SaltSaints$Yard", "leftOfAll", "(I)I"⟩, 9), (⟨"SaltSaints$Yard", "nearest", "(LSaltSaints$Sheet;II)I"⟩, 9), (⟨"SaltSaints$Yard", "apart", "(ILSaltSaints$Sheet;II)I"⟩, 9), (⟨"SaltSaints$Readings", "note", "(IIII)I"⟩, 5), (⟨"SaltSaints$Readings", "allHold", "(LSaltSaints$Yard;)Z"⟩, 5), (⟨"SaltSaints$Sheet", "renew", "(II)V"⟩, 4), (⟨"SaltSaints$Sheet", "cut", "(I)I"⟩, 4)]
theorem lw_r2 : ∀ q ∈ lw_privs_2, lw_okq q := List.forall_mem_cons.mpr ⟨lw_p16, List.forall_mem_cons.mpr ⟨lw_p17, List.forall_mem_cons.mpr ⟨lw_p18, List.forall_mem_cons.mpr ⟨lw_p19, List.forall_mem_cons.mpr ⟨lw_p20, List.forall_mem_cons.mpr ⟨lw_p21, List.forall_mem_cons.mpr ⟨lw_p22, List.forall_mem_cons.mpr ⟨lw_p23, List.forall_mem_cons.mpr ⟨lw_p24, List.forall_mem_cons.mpr ⟨lw_p25, List.forall_mem_cons.mpr ⟨lw_p26, List.forall_mem_cons.mpr ⟨lw_p27, List.forall_mem_cons.mpr ⟨lw_p28, List.forall_mem_cons.mpr ⟨lw_p29, List.forall_mem_cons.mpr ⟨lw_p30, List.forall_mem_cons.mpr ⟨lw_p31, fun _ h => absurd h List.not_mem_nil⟩⟩⟩⟩⟩⟩⟩⟩⟩⟩⟩⟩⟩⟩⟩⟩
theorem lw_p32 : lw_okq (⟨"SaltSaints", "martyrTells", "(LSaltSaints$Statue;)I"⟩, 5) := ⟨⟨by decide +kernel, by decide +kernel⟩, List.mem_of_getElem? (i := 13) (by decide +kernel), List.mem_of_getElem? (i := 478) (by decide +kernel), List.mem_of_getElem? (i := 479) (by decide +kernel)⟩
theorem lw_p33 : lw_okq (⟨"SaltSaints", "leave", "(I)V"⟩, 5) := ⟨⟨by decide +kernel, by decide +kernel⟩, List.mem_of_getElem? (i := 13) (by decide +kernel), List.mem_of_getElem? (i := 482) (by decide +kernel), List.mem_of_getElem? (i := 483) (by decide +kernel)⟩
theorem lw_p34 : lw_okq (⟨"SaltSaints", "bishopTells", "(LSaltSaints$Statue;)I"⟩, 5) := ⟨⟨by decide +kernel, by decide +kernel⟩, List.mem_of_getElem? (i := 13) (by decide +kernel), List.mem_of_getElem? (i := 486) (by decide +kernel), List.mem_of_getElem? (i := 487) (by decide +kernel)⟩
theorem lw_p35 : lw_okq (⟨"SaltSaints", "saintTells", "(LSaltSaints$Statue;)I"⟩, 5) := ⟨⟨by decide +kernel, by decide +kernel⟩, List.mem_of_getElem? (i := 13) (by decide +kernel), List.mem_of_getElem? (i := 490) (by decide +kernel), List.mem_of_getElem? (i := 491) (by decide +kernel)⟩
theorem lw_p36 : lw_okq (⟨"SaltSaintsModel", "barred", "(IIIJZ)I"⟩, 29) := ⟨⟨by decide +kernel, by decide +kernel⟩, List.mem_of_getElem? (i := 514) (by decide +kernel), List.mem_of_getElem? (i := 613) (by decide +kernel), List.mem_of_getElem? (i := 614) (by decide +kernel)⟩
theorem lw_p37 : lw_okq (⟨"SaltSaintsModel", "refused", "(I)I"⟩, 29) := ⟨⟨by decide +kernel, by decide +kernel⟩, List.mem_of_getElem? (i := 514) (by decide +kernel), List.mem_of_getElem? (i := 624) (by decide +kernel), List.mem_of_getElem? (i := 625) (by decide +kernel)⟩
theorem lw_p38 : lw_okq (⟨"SaltSaintsModel", "failed", "(I)I"⟩, 29) := ⟨⟨by decide +kernel, by decide +kernel⟩, List.mem_of_getElem? (i := 514) (by decide +kernel), List.mem_of_getElem? (i := 629) (by decide +kernel), List.mem_of_getElem? (i := 630) (by decide +kernel)⟩
theorem lw_p39 : lw_okq (⟨"SaltSaintsModel", "readsAll", "(II)Z"⟩, 29) := ⟨⟨by decide +kernel, by decide +kernel⟩, List.mem_of_getElem? (i := 514) (by decide +kernel), List.mem_of_getElem? (i := 636) (by decide +kernel), List.mem_of_getElem? (i := 637) (by decide +kernel)⟩
theorem lw_p40 : lw_okq (⟨"SaltSaintsModel", "readsOne", "(II)Z"⟩, 29) := ⟨⟨by decide +kernel, by decide +kernel⟩, List.mem_of_getElem? (i := 514) (by decide +kernel), List.mem_of_getElem? (i := 640) (by decide +kernel), List.mem_of_getElem? (i := 641) (by decide +kernel)⟩
theorem lw_p41 : lw_okq (⟨"SaltSaintsModel", "codeAt", "(II)I"⟩, 29) := ⟨⟨by decide +kernel, by decide +kernel⟩, List.mem_of_getElem? (i := 514) (by decide +kernel), List.mem_of_getElem? (i := 644) (by decide +kernel), List.mem_of_getElem? (i := 645) (by decide +kernel)⟩
theorem lw_p42 : lw_okq (⟨"SaltSaintsModel", "figure", "(IIII)I"⟩, 29) := ⟨⟨by decide +kernel, by decide +kernel⟩, List.mem_of_getElem? (i := 514) (by decide +kernel), List.mem_of_getElem? (i := 648) (by decide +kernel), List.mem_of_getElem? (i := 649) (by decide +kernel)⟩
theorem lw_p43 : lw_okq (⟨"SaltSaintsModel", "noOne", "(I)Z"⟩, 29) := ⟨⟨by decide +kernel, by decide +kernel⟩, List.mem_of_getElem? (i := 514) (by decide +kernel), List.mem_of_getElem? (i := 656) (by decide +kernel), List.mem_of_getElem? (i := 657) (by decide +kernel)⟩
theorem lw_p44 : lw_okq (⟨"SaltSaintsModel", "goTo", "(I)V"⟩, 29) := ⟨⟨by decide +kernel, by decide +kernel⟩, List.mem_of_getElem? (i := 514) (by decide +kernel), List.mem_of_getElem? (i := 693) (by decide +kernel), List.mem_of_getElem? (i := 694) (by decide +kernel)⟩
theorem lw_p45 : lw_okq (⟨"SaltSaintsModel", "begin", "()V"⟩, 29) := ⟨⟨by decide +kernel, by decide +kernel⟩, List.mem_of_getElem? (i := 514) (by decide +kernel), List.mem_of_getElem? (i := 697) (by decide +kernel), List.mem_of_getElem? (i := 698) (by decide +kernel)⟩
theorem lw_p46 : lw_okq (⟨"SaltSaintsModel", "goDay", "(I)V"⟩, 29) := ⟨⟨by decide +kernel, by decide +kernel⟩, List.mem_of_getElem? (i := 514) (by decide +kernel), List.mem_of_getElem? (i := 701) (by decide +kernel), List.mem_of_getElem? (i := 702) (by decide +kernel)⟩
theorem lw_p47 : lw_okq (⟨"SaltSaintsModel", "rainOn", "(I)V"⟩, 29) := ⟨⟨by decide +kernel, by decide +kernel⟩, List.mem_of_getElem? (i := 514) (by decide +kernel), List.mem_of_getElem? (i := 705) (by decide +kernel), List.mem_of_getElem? (i := 706) (by decide +kernel)⟩
def lw_privs_3 : List (MethodName × Nat) := [(⟨"SaltSaints", "martyrTells", "(LSaltSaints$Statue;)I"⟩, 5), (⟨"SaltSaints", "leave", "(I)V"⟩, 5), (⟨"SaltSaints", "bishopTells", "(LSaltSaints$Statue;)I"⟩, 5), (⟨"SaltSaints", "saintTells", "(LSaltSaints$Statue;)I"⟩, 5), (⟨"SaltSaintsModel", "barred", "(IIIJZ)I"⟩, 29), (⟨"SaltSaintsModel", "refused", "(I)I"⟩, 29), (⟨"SaltSaintsModel", "failed", "(I)I"⟩, 29), (⟨"SaltSaintsModel", "readsAll", "(II)Z"⟩, 29), (⟨"SaltSaintsModel", "readsOne", "(II)Z"⟩, 29), (⟨"SaltSaintsModel", "codeAt", "(II)I"⟩, 29), (⟨"SaltSaintsModel", "figure", "(IIII)I"⟩, 29), (⟨"SaltSaintsModel", "noOne", "(I)Z"⟩, 29), (⟨"SaltSaintsModel", "goTo", "(I)V"⟩, 29), (⟨"SaltSaintsModel", "begin", "()V"⟩, 29), (⟨"SaltSaintsModel", "goDay", "(I)V"⟩, 29), (⟨"SaltSaintsModel", "rainOn", "(I)V"⟩, 29)]
theorem lw_r3 : ∀ q ∈ lw_privs_3, lw_okq q := List.forall_mem_cons.mpr ⟨lw_p32, List.forall_mem_cons.mpr ⟨lw_p33, List.forall_mem_cons.mpr ⟨lw_p34, List.forall_mem_cons.mpr ⟨lw_p35, List.forall_mem_cons.mpr ⟨lw_p36, List.forall_mem_cons.mpr ⟨lw_p37, List.forall_mem_cons.mpr ⟨lw_p38, List.forall_mem_cons.mpr ⟨lw_p39, List.forall_mem_cons.mpr ⟨lw_p40, List.forall_mem_cons.mpr ⟨lw_p41, List.forall_mem_cons.mpr ⟨lw_p42, List.forall_mem_cons.mpr ⟨lw_p43, List.forall_mem_cons.mpr ⟨lw_p44, List.forall_mem_cons.mpr ⟨lw_p45, List.forall_mem_cons.mpr ⟨lw_p46, List.forall_mem_cons.mpr ⟨lw_p47, fun _ h => absurd h List.not_mem_nil⟩⟩⟩⟩⟩⟩⟩⟩⟩⟩⟩⟩⟩⟩⟩⟩
theorem lw_p48 : lw_okq (⟨"SaltSaintsModel", "losesBy", "(III)I"⟩, 29) := ⟨⟨by decide +kernel, by decide +kernel⟩, List.mem_of_getElem? (i := 514) (by decide +kernel), List.mem_of_getElem? (i := 709) (by decide +kernel), List.mem_of_getElem? (i := 710) (by decide +kernel)⟩
theorem lw_p49 : lw_okq (⟨"SaltSaintsModel", "likedNow", "()I"⟩, 29) := ⟨⟨by decide +kernel, by decide +kernel⟩, List.mem_of_getElem? (i := 514) (by decide +kernel), List.mem_of_getElem? (i := 716) (by decide +kernel), List.mem_of_getElem? (i := 717) (by decide +kernel)⟩
theorem lw_p50 : lw_okq (⟨"SaltSaintsModel", "canLick", "(I)Z"⟩, 29) := ⟨⟨by decide +kernel, by decide +kernel⟩, List.mem_of_getElem? (i := 514) (by decide +kernel), List.mem_of_getElem? (i := 720) (by decide +kernel), List.mem_of_getElem? (i := 721) (by decide +kernel)⟩
theorem lw_p51 : lw_okq (⟨"SaltSaintsModel", "goneAt", "(II)I"⟩, 29) := ⟨⟨by decide +kernel, by decide +kernel⟩, List.mem_of_getElem? (i := 514) (by decide +kernel), List.mem_of_getElem? (i := 732) (by decide +kernel), List.mem_of_getElem? (i := 733) (by decide +kernel)⟩
theorem lw_p52 : lw_okq (⟨"SaltSaintsModel", "isGoneNow", "(II)Z"⟩, 29) := ⟨⟨by decide +kernel, by decide +kernel⟩, List.mem_of_getElem? (i := 514) (by decide +kernel), List.mem_of_getElem? (i := 736) (by decide +kernel), List.mem_of_getElem? (i := 737) (by decide +kernel)⟩
theorem lw_p53 : lw_okq (⟨"SaltSaintsModel", "keepOver", "()V"⟩, 29) := ⟨⟨by decide +kernel, by decide +kernel⟩, List.mem_of_getElem? (i := 514) (by decide +kernel), List.mem_of_getElem? (i := 759) (by decide +kernel), List.mem_of_getElem? (i := 760) (by decide +kernel)⟩
theorem lw_p54 : lw_okq (⟨"SaltSaintsModel", "nosesNow", "()I"⟩, 29) := ⟨⟨by decide +kernel, by decide +kernel⟩, List.mem_of_getElem? (i := 514) (by decide +kernel), List.mem_of_getElem? (i := 766) (by decide +kernel), List.mem_of_getElem? (i := 767) (by decide +kernel)⟩
theorem lw_p55 : lw_okq (⟨"SaltSaintsModel", "takeOver", "()V"⟩, 29) := ⟨⟨by decide +kernel, by decide +kernel⟩, List.mem_of_getElem? (i := 514) (by decide +kernel), List.mem_of_getElem? (i := 770) (by decide +kernel), List.mem_of_getElem? (i := 771) (by decide +kernel)⟩
theorem lw_p56 : lw_okq (⟨"SaltSaintsModel", "firstNose", "()I"⟩, 29) := ⟨⟨by decide +kernel, by decide +kernel⟩, List.mem_of_getElem? (i := 514) (by decide +kernel), List.mem_of_getElem? (i := 778) (by decide +kernel), List.mem_of_getElem? (i := 779) (by decide +kernel)⟩
theorem lw_p57 : lw_okq (⟨"SaltSaintsModel", "areSo", "()Z"⟩, 29) := ⟨⟨by decide +kernel, by decide +kernel⟩, List.mem_of_getElem? (i := 514) (by decide +kernel), List.mem_of_getElem? (i := 811) (by decide +kernel), List.mem_of_getElem? (i := 812) (by decide +kernel)⟩
theorem lw_p58 : lw_okq (⟨"SaltSaintsModel", "noCell", "(II)I"⟩, 29) := ⟨⟨by decide +kernel, by decide +kernel⟩, List.mem_of_getElem? (i := 514) (by decide +kernel), List.mem_of_getElem? (i := 831) (by decide +kernel), List.mem_of_getElem? (i := 832) (by decide +kernel)⟩
theorem lw_p59 : lw_okq (⟨"SaltSaintsModel", "failedLong", "(I)J"⟩, 29) := ⟨⟨by decide +kernel, by decide +kernel⟩, List.mem_of_getElem? (i := 514) (by decide +kernel), List.mem_of_getElem? (i := 839) (by decide +kernel), List.mem_of_getElem? (i := 840) (by decide +kernel)⟩
theorem lw_p60 : lw_okq (⟨"SaltSaintsModel", "traced", "(I)V"⟩, 29) := ⟨⟨by decide +kernel, by decide +kernel⟩, List.mem_of_getElem? (i := 514) (by decide +kernel), List.mem_of_getElem? (i := 851) (by decide +kernel), List.mem_of_getElem? (i := 852) (by decide +kernel)⟩
def lw_privs_4 : List (MethodName × Nat) := [(⟨"SaltSaintsModel", "losesBy", "(III)I"⟩, 29), (⟨"SaltSaintsModel", "likedNow", "()I"⟩, 29), (⟨"SaltSaintsModel", "canLick", "(I)Z"⟩, 29), (⟨"SaltSaintsModel", "goneAt", "(II)I"⟩, 29), (⟨"SaltSaintsModel", "isGoneNow", "(II)Z"⟩, 29), (⟨"SaltSaintsModel", "keepOver", "()V"⟩, 29), (⟨"SaltSaintsModel", "nosesNow", "()I"⟩, 29), (⟨"SaltSaintsModel", "takeOver", "()V"⟩, 29), (⟨"SaltSaintsModel", "firstNose", "()I"⟩, 29), (⟨"SaltSaintsModel", "areSo", "()Z"⟩, 29), (⟨"SaltSaintsModel", "noCell", "(II)I"⟩, 29), (⟨"SaltSaintsModel", "failedLong", "(I)J"⟩, 29), (⟨"SaltSaintsModel", "traced", "(I)V"⟩, 29)]
theorem lw_r4 : ∀ q ∈ lw_privs_4, lw_okq q := List.forall_mem_cons.mpr ⟨lw_p48, List.forall_mem_cons.mpr ⟨lw_p49, List.forall_mem_cons.mpr ⟨lw_p50, List.forall_mem_cons.mpr ⟨lw_p51, List.forall_mem_cons.mpr ⟨lw_p52, List.forall_mem_cons.mpr ⟨lw_p53, List.forall_mem_cons.mpr ⟨lw_p54, List.forall_mem_cons.mpr ⟨lw_p55, List.forall_mem_cons.mpr ⟨lw_p56, List.forall_mem_cons.mpr ⟨lw_p57, List.forall_mem_cons.mpr ⟨lw_p58, List.forall_mem_cons.mpr ⟨lw_p59, List.forall_mem_cons.mpr ⟨lw_p60, fun _ h => absurd h List.not_mem_nil⟩⟩⟩⟩⟩⟩⟩⟩⟩⟩⟩⟩⟩
def lw_privs : List (MethodName × Nat) := lw_privs_1 ++ (lw_privs_2 ++ (lw_privs_3 ++ (lw_privs_4)))
def lw_tbl : List Cond := k2_sels lw_privs ++ tables_1
theorem lw_privs_ok : ∀ q ∈ lw_privs, lw_okq q := by
  show ∀ q ∈ lw_privs_1 ++ (lw_privs_2 ++ (lw_privs_3 ++ (lw_privs_4))), lw_okq q
  exact List.forall_mem_append.mpr ⟨lw_r1, List.forall_mem_append.mpr ⟨lw_r2, List.forall_mem_append.mpr ⟨lw_r3, lw_r4⟩⟩⟩
/-- the words that a call may hand on, and the words of members of nest mates -/
def xw_all : List Cond := lw_tbl.filter goodWord
def xw_isN : Cond → Bool
  | .fieldLinkNest .. => true
  | .methodLinkNest .. => true
  | _ => false
def xw_nest : List Cond := lw_tbl.filter xw_isN
theorem xw_of {w : Cond} (h : w ∈ lw_tbl) (g : goodWord w = true) : w ∈ xw_all := List.mem_filter.mpr ⟨h, g⟩
theorem xw_nof {w : Cond} (h : w ∈ lw_tbl) (g : xw_isN w = true) : w ∈ xw_nest := List.mem_filter.mpr ⟨h, g⟩
theorem xw_s {w : Cond} (h : w ∈ k2_sels lw_privs) : w ∈ lw_tbl := List.mem_append_left _ h
theorem xw_1 {w : Cond} (h : w ∈ tables_1_1) : w ∈ lw_tbl := List.mem_append_right _ (List.mem_append_left _ h)
theorem xw_2 {w : Cond} (h : w ∈ tables_1_2) : w ∈ lw_tbl := List.mem_append_right _ (List.mem_append_right _ (List.mem_append_left _ h))
theorem xw_3 {w : Cond} (h : w ∈ tables_1_3) : w ∈ lw_tbl := List.mem_append_right _ (List.mem_append_right _ (List.mem_append_right _ (List.mem_append_left _ h)))
theorem xw_4 {w : Cond} (h : w ∈ tables_1_4) : w ∈ lw_tbl := List.mem_append_right _ (List.mem_append_right _ (List.mem_append_right _ (List.mem_append_right _ h)))
theorem xw_good (cs : List Cond) (h : cs.all goodWord = true) (hm : ∀ w ∈ cs, w ∈ xw_all) : GoodIn xw_all (cs ++ xw_all) := by
  intro w hw
  rcases List.mem_append.mp hw with h1 | h1
  · exact ⟨hm w h1, good_of_word (List.all_eq_true.mp h w h1)⟩
  · exact ⟨h1, good_of_word (List.mem_filter.mp h1).2⟩
def xw_NW (s : State) : Prop := ∀ w ∈ xw_nest, va_Nw w s
theorem xw_NW.warm {s U : State} (hW : s.WarmedH U.vm) (h : xw_NW s) : xw_NW U := by
  intro w hw
  have h1 := h w hw
  have h2 := (List.mem_filter.mp hw).2
  cases w <;> first
    | exact va_Nw.warmF hW h1
    | exact va_Nw.warmM hW h1
    | (exfalso; revert h2; simp [xw_isN]; done)
theorem xw_NW.of {A : Array Value} {s : State} (h : ∀ w ∈ lw_tbl, w.before A s = true) : xw_NW s := by
  intro w hw
  have h1 := h w (List.mem_filter.mp hw).1
  have h2 := (List.mem_filter.mp hw).2
  cases w <;> first
    | exact va_Nw.of rfl h1
    | (exfalso; revert h2; simp [xw_isN]; done)
end
section
def RX0 : String := "SaltSaints$Plans"
def TX0 : u_T := fun k => match k with
  | _ => ("", "", "", false)
def tyX0 : Nat → FieldType := fun k => match k with
  | _ => .int
abbrev wsX00 : List Cond := u_ws RX0 TX0 0
theorem nmX0 : ∀ a, a < 0 → ∀ b, b < 0 → a ≠ b → (TX0 a).2.1 ≠ (TX0 b).2.1 := by decide +kernel
theorem tyX0_ok : ∀ k, k < 0 → parseFieldDescriptor (TX0 k).2.2.1 = some (tyX0 k) := by decide +kernel
abbrev cX0_giveUmbrellas : ByteArray := prog_2_method_2_code
def yX0_giveUmbrellas : MethodName := ⟨RX0, "giveUmbrellas", "(LSaltSaints$Yard;II)I"⟩
abbrev cX0_lastingUnder : ByteArray := prog_2_method_3_code
def yX0_lastingUnder : MethodName := ⟨RX0, "lastingUnder", "(LSaltSaints$Yard;I)I"⟩
abbrev cX0_turnOne : ByteArray := prog_2_method_4_code
def yX0_turnOne : MethodName := ⟨RX0, "turnOne", "(LSaltSaints$Yard;I)I"⟩
abbrev cX0_firstDawnOfOthers : ByteArray := prog_2_method_5_code
def yX0_firstDawnOfOthers : MethodName := ⟨RX0, "firstDawnOfOthers", "(LSaltSaints$Yard;I)I"⟩
abbrev cX0_dawnWithoutNose : ByteArray := prog_2_method_6_code
def yX0_dawnWithoutNose : MethodName := ⟨RX0, "dawnWithoutNose", "(LSaltSaints$Yard;III)I"⟩
abbrev cX0_nosesGone : ByteArray := prog_2_method_7_code
def yX0_nosesGone : MethodName := ⟨RX0, "nosesGone", "(LSaltSaints$Yard;I)I"⟩
def RX1 : String := "SaltSaints$Readings"
def TX1 : u_T := fun k => match k with
  | 0 => ("SaltSaints$Readings", "statue", "[I", true)
  | 1 => ("SaltSaints$Readings", "part", "[I", true)
  | 2 => ("SaltSaints$Readings", "dawn", "[I", true)
  | 3 => ("SaltSaints$Readings", "counted", "[I", true)
  | _ => ("SaltSaints$Readings", "many", "I", false)
def tyX1 : Nat → FieldType := fun k => match k with
  | 0 => .array .int
  | 1 => .array .int
  | 2 => .array .int
  | 3 => .array .int
  | _ => .int
abbrev wsX10 : List Cond := u_ws RX1 TX1 5
theorem nmX1 : ∀ a, a < 5 → ∀ b, b < 5 → a ≠ b → (TX1 a).2.1 ≠ (TX1 b).2.1 := by decide +kernel
theorem tyX1_ok : ∀ k, k < 5 → parseFieldDescriptor (TX1 k).2.2.1 = some (tyX1 k) := by decide +kernel
abbrev cX1_init : ByteArray := prog_3_method_1_code
def yX1_init : MethodName := ⟨RX1, "<init>", "()V"⟩
abbrev cX1_note : ByteArray := prog_3_method_2_code
def yX1_note : MethodName := ⟨RX1, "note", "(IIII)I"⟩
abbrev cX1_keep : ByteArray := prog_3_method_3_code
def yX1_keep : MethodName := ⟨RX1, "keep", "(I)V"⟩
abbrev cX1_allHold : ByteArray := prog_3_method_4_code
def yX1_allHold : MethodName := ⟨RX1, "allHold", "(LSaltSaints$Yard;)Z"⟩
def RX2 : String := "SaltSaints$Sheet"
def TX2 : u_T := fun k => match k with
  | 0 => ("SaltSaints$Sheet", "cells", "[I", true)
  | 1 => ("SaltSaints$Sheet", "has", "Z", false)
  | 2 => ("SaltSaints$Sheet", "lane", "I", false)
  | _ => ("SaltSaints$Sheet", "many", "I", false)
def tyX2 : Nat → FieldType := fun k => match k with
  | 0 => .array .int
  | 1 => .boolean
  | 2 => .int
  | _ => .int
abbrev wsX20 : List Cond := u_ws RX2 TX2 4
theorem nmX2 : ∀ a, a < 4 → ∀ b, b < 4 → a ≠ b → (TX2 a).2.1 ≠ (TX2 b).2.1 := by decide +kernel
theorem tyX2_ok : ∀ k, k < 4 → parseFieldDescriptor (TX2 k).2.2.1 = some (tyX2 k) := by decide +kernel
abbrev cX2_init : ByteArray := prog_4_method_1_code
def yX2_init : MethodName := ⟨RX2, "<init>", "()V"⟩
abbrev cX2_renew : ByteArray := prog_4_method_2_code
def yX2_renew : MethodName := ⟨RX2, "renew", "(II)V"⟩
abbrev cX2_faultAs : ByteArray := prog_4_method_3_code
def yX2_faultAs : MethodName := ⟨RX2, "faultAs", "(I)I"⟩
abbrev cX2_hasRun : ByteArray := prog_4_method_4_code
def yX2_hasRun : MethodName := ⟨RX2, "hasRun", "(II)Z"⟩
abbrev cX2_cut : ByteArray := prog_4_method_5_code
def yX2_cut : MethodName := ⟨RX2, "cut", "(I)I"⟩
def RX3 : String := "SaltSaints$Statue"
def TX3 : u_T := fun k => match k with
  | 0 => ("SaltSaints$Statue", "first", "[I", true)
  | 1 => ("SaltSaints$Statue", "kind", "I", false)
  | 2 => ("SaltSaints$Statue", "looks", "I", false)
  | 3 => ("SaltSaints$Statue", "cover", "I", false)
  | _ => ("SaltSaints$Statue", "fenced", "Z", false)
def tyX3 : Nat → FieldType := fun k => match k with
  | 0 => .array .int
  | 1 => .int
  | 2 => .int
  | 3 => .int
  | _ => .boolean
abbrev wsX30 : List Cond := u_ws RX3 TX3 5
theorem nmX3 : ∀ a, a < 5 → ∀ b, b < 5 → a ≠ b → (TX3 a).2.1 ≠ (TX3 b).2.1 := by decide +kernel
theorem tyX3_ok : ∀ k, k < 5 → parseFieldDescriptor (TX3 k).2.2.1 = some (tyX3 k) := by decide +kernel
abbrev cX3_init : ByteArray := prog_5_method_1_code
def yX3_init : MethodName := ⟨RX3, "<init>", "()V"⟩
abbrev cX3_carve : ByteArray := prog_5_method_2_code
def yX3_carve : MethodName := ⟨RX3, "carve", "(LSaltSaints$Sheet;I)V"⟩
abbrev cX3_allAtFirst : ByteArray := prog_5_method_3_code
def yX3_allAtFirst : MethodName := ⟨RX3, "allAtFirst", "()I"⟩
abbrev cX3_washedOff : ByteArray := prog_5_method_4_code
def yX3_washedOff : MethodName := ⟨RX3, "washedOff", "(IIIII)I"⟩
abbrev cX3_lickable : ByteArray := prog_5_method_5_code
def yX3_lickable : MethodName := ⟨RX3, "lickable", "(I)Z"⟩
def RX4 : String := "SaltSaints$Text"
def TX4 : u_T := fun k => match k with
  | _ => ("", "", "", false)
def tyX4 : Nat → FieldType := fun k => match k with
  | _ => .int
abbrev wsX40 : List Cond := u_ws RX4 TX4 0
theorem nmX4 : ∀ a, a < 0 → ∀ b, b < 0 → a ≠ b → (TX4 a).2.1 ≠ (TX4 b).2.1 := by decide +kernel
theorem tyX4_ok : ∀ k, k < 0 → parseFieldDescriptor (TX4 k).2.2.1 = some (tyX4 k) := by decide +kernel
abbrev cX4_firstFault : ByteArray := prog_6_method_2_code
def yX4_firstFault : MethodName := ⟨RX4, "firstFault", "(LSaltSaints$Sheet;II)I"⟩
abbrev cX4_goesOn : ByteArray := prog_6_method_3_code
def yX4_goesOn : MethodName := ⟨RX4, "goesOn", "(II)Z"⟩
abbrev cX4_isWhole : ByteArray := prog_6_method_4_code
def yX4_isWhole : MethodName := ⟨RX4, "isWhole", "(I)Z"⟩
abbrev cX4_kindOf : ByteArray := prog_6_method_5_code
def yX4_kindOf : MethodName := ⟨RX4, "kindOf", "(I)I"⟩
def RX5 : String := "SaltSaints$Yard"
def TX5 : u_T := fun k => match k with
  | 0 => ("SaltSaints$Yard", "statues", "[LSaltSaints$Statue;", true)
  | 1 => ("SaltSaints$Yard", "rains", "[I", true)
  | 2 => ("SaltSaints$Yard", "winds", "[I", true)
  | 3 => ("SaltSaints$Yard", "left", "[I", true)
  | 4 => ("SaltSaints$Yard", "licked", "[I", true)
  | 5 => ("SaltSaints$Yard", "liked", "[I", true)
  | 6 => ("SaltSaints$Yard", "many", "I", false)
  | 7 => ("SaltSaints$Yard", "herd", "I", false)
  | _ => ("SaltSaints$Yard", "known", "I", false)
def tyX5 : Nat → FieldType := fun k => match k with
  | 0 => .array (.object "SaltSaints$Statue")
  | 1 => .array .int
  | 2 => .array .int
  | 3 => .array .int
  | 4 => .array .int
  | 5 => .array .int
  | 6 => .int
  | 7 => .int
  | _ => .int
abbrev wsX50 : List Cond := u_ws RX5 TX5 9
theorem nmX5 : ∀ a, a < 9 → ∀ b, b < 9 → a ≠ b → (TX5 a).2.1 ≠ (TX5 b).2.1 := by decide +kernel
theorem tyX5_ok : ∀ k, k < 9 → parseFieldDescriptor (TX5 k).2.2.1 = some (tyX5 k) := by decide +kernel
abbrev cX5_init : ByteArray := prog_7_method_1_code
def yX5_init : MethodName := ⟨RX5, "<init>", "()V"⟩
abbrev cX5_settle : ByteArray := prog_7_method_2_code
def yX5_settle : MethodName := ⟨RX5, "settle", "(LSaltSaints$Sheet;II)V"⟩
abbrev cX5_forgetFrom : ByteArray := prog_7_method_3_code
def yX5_forgetFrom : MethodName := ⟨RX5, "forgetFrom", "(I)V"⟩
abbrev cX5_letRain : ByteArray := prog_7_method_4_code
def yX5_letRain : MethodName := ⟨RX5, "letRain", "(II)V"⟩
abbrev cX5_workOut : ByteArray := prog_7_method_5_code
def yX5_workOut : MethodName := ⟨RX5, "workOut", "(I)V"⟩
abbrev cX5_pour : ByteArray := prog_7_method_6_code
def yX5_pour : MethodName := ⟨RX5, "pour", "(I)V"⟩
abbrev cX5_graze : ByteArray := prog_7_method_7_code
def yX5_graze : MethodName := ⟨RX5, "graze", "(I)V"⟩
abbrev cX5_likedBest : ByteArray := prog_7_method_8_code
def yX5_likedBest : MethodName := ⟨RX5, "likedBest", "(I)I"⟩
abbrev cX5_placeOf : ByteArray := prog_7_method_9_code
def yX5_placeOf : MethodName := ⟨RX5, "placeOf", "(III)I"⟩
abbrev cX5_leftOfPart : ByteArray := prog_7_method_10_code
def yX5_leftOfPart : MethodName := ⟨RX5, "leftOfPart", "(III)I"⟩
abbrev cX5_leftOf : ByteArray := prog_7_method_11_code
def yX5_leftOf : MethodName := ⟨RX5, "leftOf", "(II)I"⟩
abbrev cX5_sumOf : ByteArray := prog_7_method_12_code
def yX5_sumOf : MethodName := ⟨RX5, "sumOf", "(II)I"⟩
abbrev cX5_leftOfAll : ByteArray := prog_7_method_13_code
def yX5_leftOfAll : MethodName := ⟨RX5, "leftOfAll", "(I)I"⟩
abbrev cX5_lickedOff : ByteArray := prog_7_method_14_code
def yX5_lickedOff : MethodName := ⟨RX5, "lickedOff", "(II)I"⟩
abbrev cX5_inPuddle : ByteArray := prog_7_method_15_code
def yX5_inPuddle : MethodName := ⟨RX5, "inPuddle", "(II)I"⟩
abbrev cX5_dawnWithoutPart : ByteArray := prog_7_method_16_code
def yX5_dawnWithoutPart : MethodName := ⟨RX5, "dawnWithoutPart", "(II)I"⟩
abbrev cX5_dawnWithoutAny : ByteArray := prog_7_method_17_code
def yX5_dawnWithoutAny : MethodName := ⟨RX5, "dawnWithoutAny", "(I)I"⟩
abbrev cX5_likedFirst : ByteArray := prog_7_method_18_code
def yX5_likedFirst : MethodName := ⟨RX5, "likedFirst", "(I)I"⟩
abbrev cX5_longestLasting : ByteArray := prog_7_method_19_code
def yX5_longestLasting : MethodName := ⟨RX5, "longestLasting", "()I"⟩
abbrev cX5_apart : ByteArray := prog_7_method_20_code
def yX5_apart : MethodName := ⟨RX5, "apart", "(ILSaltSaints$Sheet;II)I"⟩
abbrev cX5_nearest : ByteArray := prog_7_method_21_code
def yX5_nearest : MethodName := ⟨RX5, "nearest", "(LSaltSaints$Sheet;II)I"⟩
def RX6 : String := "SaltSaints"
def TX6 : u_T := fun k => match k with
  | 0 => ("SaltSaints", "sheets", "[LSaltSaints$Sheet;", true)
  | 1 => ("SaltSaints", "yard", "LSaltSaints$Yard;", true)
  | 2 => ("SaltSaints", "readings", "LSaltSaints$Readings;", true)
  | 3 => ("SaltSaints", "trace", "I", false)
  | _ => ("SaltSaints", "fault", "I", false)
def tyX6 : Nat → FieldType := fun k => match k with
  | 0 => .array (.object "SaltSaints$Sheet")
  | 1 => .object "SaltSaints$Yard"
  | 2 => .object "SaltSaints$Readings"
  | 3 => .int
  | _ => .int
abbrev wsX60 : List Cond := u_ws RX6 TX6 5
theorem nmX6 : ∀ a, a < 5 → ∀ b, b < 5 → a ≠ b → (TX6 a).2.1 ≠ (TX6 b).2.1 := by decide +kernel
theorem tyX6_ok : ∀ k, k < 5 → parseFieldDescriptor (TX6 k).2.2.1 = some (tyX6 k) := by decide +kernel
abbrev cX6_init : ByteArray := prog_1_method_1_code
def yX6_init : MethodName := ⟨RX6, "<init>", "()V"⟩
abbrev cX6_statues : ByteArray := prog_1_method_2_code
def yX6_statues : MethodName := ⟨RX6, "statues", "(IIII)I"⟩
abbrev cX6_ofStatue : ByteArray := prog_1_method_3_code
def yX6_ofStatue : MethodName := ⟨RX6, "ofStatue", "(II)I"⟩
abbrev cX6_look : ByteArray := prog_1_method_4_code
def yX6_look : MethodName := ⟨RX6, "look", "(II)I"⟩
abbrev cX6_over : ByteArray := prog_1_method_5_code
def yX6_over : MethodName := ⟨RX6, "over", "(II)I"⟩
abbrev cX6_fence : ByteArray := prog_1_method_6_code
def yX6_fence : MethodName := ⟨RX6, "fence", "(IZ)I"⟩
abbrev cX6_rain : ByteArray := prog_1_method_7_code
def yX6_rain : MethodName := ⟨RX6, "rain", "(III)I"⟩
abbrev cX6_deer : ByteArray := prog_1_method_8_code
def yX6_deer : MethodName := ⟨RX6, "deer", "(I)I"⟩
abbrev cX6_grains : ByteArray := prog_1_method_9_code
def yX6_grains : MethodName := ⟨RX6, "grains", "(III)I"⟩
abbrev cX6_lost : ByteArray := prog_1_method_10_code
def yX6_lost : MethodName := ⟨RX6, "lost", "(III)I"⟩
abbrev cX6_gone : ByteArray := prog_1_method_11_code
def yX6_gone : MethodName := ⟨RX6, "gone", "(II)I"⟩
abbrev cX6_liked : ByteArray := prog_1_method_12_code
def yX6_liked : MethodName := ⟨RX6, "liked", "(I)I"⟩
abbrev cX6_lasts : ByteArray := prog_1_method_13_code
def yX6_lasts : MethodName := ⟨RX6, "lasts", "(I)J"⟩
abbrev cX6_umbrellas : ByteArray := prog_1_method_14_code
def yX6_umbrellas : MethodName := ⟨RX6, "umbrellas", "(II)I"⟩
abbrev cX6_turn : ByteArray := prog_1_method_15_code
def yX6_turn : MethodName := ⟨RX6, "turn", "(I)I"⟩
abbrev cX6_roofs : ByteArray := prog_1_method_16_code
def yX6_roofs : MethodName := ⟨RX6, "roofs", "(II)I"⟩
abbrev cX6_takenFor : ByteArray := prog_1_method_17_code
def yX6_takenFor : MethodName := ⟨RX6, "takenFor", "(IIIII)I"⟩
abbrev cX6_whose : ByteArray := prog_1_method_18_code
def yX6_whose : MethodName := ⟨RX6, "whose", "(II)I"⟩
abbrev cX6_reading : ByteArray := prog_1_method_19_code
def yX6_reading : MethodName := ⟨RX6, "reading", "(IIII)I"⟩
abbrev cX6_back : ByteArray := prog_1_method_20_code
def yX6_back : MethodName := ⟨RX6, "back", "(I)I"⟩
abbrev cX6_rains : ByteArray := prog_1_method_21_code
def yX6_rains : MethodName := ⟨RX6, "rains", "(I)I"⟩
abbrev cX6_cast : ByteArray := prog_1_method_22_code
def yX6_cast : MethodName := ⟨RX6, "cast", "(II)I"⟩
abbrev cX6_sheet : ByteArray := prog_1_method_23_code
def yX6_sheet : MethodName := ⟨RX6, "sheet", "(III)I"⟩
abbrev cX6_lose : ByteArray := prog_1_method_24_code
def yX6_lose : MethodName := ⟨RX6, "lose", "(I)I"⟩
abbrev cX6_put : ByteArray := prog_1_method_25_code
def yX6_put : MethodName := ⟨RX6, "put", "(III)I"⟩
abbrev cX6_cell : ByteArray := prog_1_method_26_code
def yX6_cell : MethodName := ⟨RX6, "cell", "(III)J"⟩
abbrev cX6_copy : ByteArray := prog_1_method_27_code
def yX6_copy : MethodName := ⟨RX6, "copy", "(IIIII)I"⟩
abbrev cX6_tell : ByteArray := prog_1_method_28_code
def yX6_tell : MethodName := ⟨RX6, "tell", "(I)I"⟩
abbrev cX6_bow : ByteArray := prog_1_method_29_code
def yX6_bow : MethodName := ⟨RX6, "bow", "(I)I"⟩
abbrev cX6_as : ByteArray := prog_1_method_30_code
def yX6_as : MethodName := ⟨RX6, "as", "(II)I"⟩
abbrev cX6_trace : ByteArray := prog_1_method_31_code
def yX6_trace : MethodName := ⟨RX6, "trace", "()I"⟩
abbrev cX6_fault : ByteArray := prog_1_method_32_code
def yX6_fault : MethodName := ⟨RX6, "fault", "()I"⟩
abbrev cX6_many : ByteArray := prog_1_method_33_code
def yX6_many : MethodName := ⟨RX6, "many", "(I)I"⟩
abbrev cX6_isBelow : ByteArray := prog_1_method_34_code
def yX6_isBelow : MethodName := ⟨RX6, "isBelow", "(II)Z"⟩
abbrev cX6_isSheet : ByteArray := prog_1_method_35_code
def yX6_isSheet : MethodName := ⟨RX6, "isSheet", "(I)Z"⟩
abbrev cX6_isLane : ByteArray := prog_1_method_36_code
def yX6_isLane : MethodName := ⟨RX6, "isLane", "(I)Z"⟩
abbrev cX6_isDawn : ByteArray := prog_1_method_37_code
def yX6_isDawn : MethodName := ⟨RX6, "isDawn", "(I)Z"⟩
abbrev cX6_isStatue : ByteArray := prog_1_method_38_code
def yX6_isStatue : MethodName := ⟨RX6, "isStatue", "(I)Z"⟩
abbrev cX6_faulty : ByteArray := prog_1_method_39_code
def yX6_faulty : MethodName := ⟨RX6, "faulty", "(I)I"⟩
abbrev cX6_leave : ByteArray := prog_1_method_40_code
def yX6_leave : MethodName := ⟨RX6, "leave", "(I)V"⟩
abbrev cX6_saintTells : ByteArray := prog_1_method_41_code
def yX6_saintTells : MethodName := ⟨RX6, "saintTells", "(LSaltSaints$Statue;)I"⟩
abbrev cX6_bishopTells : ByteArray := prog_1_method_42_code
def yX6_bishopTells : MethodName := ⟨RX6, "bishopTells", "(LSaltSaints$Statue;)I"⟩
abbrev cX6_martyrTells : ByteArray := prog_1_method_43_code
def yX6_martyrTells : MethodName := ⟨RX6, "martyrTells", "(LSaltSaints$Statue;)I"⟩
abbrev cX6_commonDivisor : ByteArray := prog_1_method_44_code
def yX6_commonDivisor : MethodName := ⟨RX6, "commonDivisor", "(II)I"⟩
def RX7 : String := "SaltSaintsModel"
def TX7 : u_T := fun k => match k with
  | 0 => ("SaltSaintsModel", "fault", "I", false)
  | 1 => ("SaltSaintsModel", "saints", "I", false)
  | 2 => ("SaltSaintsModel", "kindOf", "[I", true)
  | 3 => ("SaltSaintsModel", "atFirst", "[I", true)
  | 4 => ("SaltSaintsModel", "looksTo", "[I", true)
  | 5 => ("SaltSaintsModel", "overOf", "[I", true)
  | 6 => ("SaltSaintsModel", "hasFence", "[Z", true)
  | 7 => ("SaltSaintsModel", "readAt", "I", false)
  | 8 => ("SaltSaintsModel", "readMany", "I", false)
  | 9 => ("SaltSaintsModel", "readKind", "[I", true)
  | 10 => ("SaltSaintsModel", "readParts", "[I", true)
  | 11 => ("SaltSaintsModel", "readLooks", "[I", true)
  | 12 => ("SaltSaintsModel", "rainOf", "[I", true)
  | 13 => ("SaltSaintsModel", "windOf", "[I", true)
  | 14 => ("SaltSaintsModel", "deerMany", "I", false)
  | 15 => ("SaltSaintsModel", "has", "[I", true)
  | 16 => ("SaltSaintsModel", "flowed", "[I", true)
  | 17 => ("SaltSaintsModel", "licked", "[I", true)
  | 18 => ("SaltSaintsModel", "overWas", "[I", true)
  | 19 => ("SaltSaintsModel", "readings", "I", false)
  | 20 => ("SaltSaintsModel", "readingOf", "[I", true)
  | 21 => ("SaltSaintsModel", "readingPart", "[I", true)
  | 22 => ("SaltSaintsModel", "readingDawn", "[I", true)
  | 23 => ("SaltSaintsModel", "readingTo", "[I", true)
  | 24 => ("SaltSaintsModel", "sheetSize", "[I", true)
  | 25 => ("SaltSaintsModel", "sheetLane", "[I", true)
  | 26 => ("SaltSaintsModel", "sheet", "[I", true)
  | 27 => ("SaltSaintsModel", "hands", "[I", true)
  | _ => ("SaltSaintsModel", "traceNow", "I", false)
def tyX7 : Nat → FieldType := fun k => match k with
  | 0 => .int
  | 1 => .int
  | 2 => .array .int
  | 3 => .array .int
  | 4 => .array .int
  | 5 => .array .int
  | 6 => .array .boolean
  | 7 => .int
  | 8 => .int
  | 9 => .array .int
  | 10 => .array .int
  | 11 => .array .int
  | 12 => .array .int
  | 13 => .array .int
  | 14 => .int
  | 15 => .array .int
  | 16 => .array .int
  | 17 => .array .int
  | 18 => .array .int
  | 19 => .int
  | 20 => .array .int
  | 21 => .array .int
  | 22 => .array .int
  | 23 => .array .int
  | 24 => .array .int
  | 25 => .array .int
  | 26 => .array .int
  | 27 => .array .int
  | _ => .int
abbrev wsX70 : List Cond := u_ws RX7 TX7 29
theorem nmX7 : ∀ a, a < 29 → ∀ b, b < 29 → a ≠ b → (TX7 a).2.1 ≠ (TX7 b).2.1 := by decide +kernel
theorem tyX7_ok : ∀ k, k < 29 → parseFieldDescriptor (TX7 k).2.2.1 = some (tyX7 k) := by decide +kernel
abbrev cX7_init : ByteArray := prog_9_method_1_code
def yX7_init : MethodName := ⟨RX7, "<init>", "()V"⟩
abbrev cX7_in : ByteArray := prog_9_method_2_code
def yX7_in : MethodName := ⟨RX7, "in", "(JJJ)Z"⟩
abbrev cX7_nothing : ByteArray := prog_9_method_3_code
def yX7_nothing : MethodName := ⟨RX7, "nothing", "()J"⟩
abbrev cX7_off : ByteArray := prog_9_method_4_code
def yX7_off : MethodName := ⟨RX7, "off", "(II)I"⟩
abbrev cX7_lesser : ByteArray := prog_9_method_5_code
def yX7_lesser : MethodName := ⟨RX7, "lesser", "(II)I"⟩
abbrev cX7_told : ByteArray := prog_9_method_6_code
def yX7_told : MethodName := ⟨RX7, "told", "(JJI)J"⟩
abbrev cX7_refused : ByteArray := prog_9_method_7_code
def yX7_refused : MethodName := ⟨RX7, "refused", "(I)I"⟩
abbrev cX7_failed : ByteArray := prog_9_method_8_code
def yX7_failed : MethodName := ⟨RX7, "failed", "(I)I"⟩
abbrev cX7_failedLong : ByteArray := prog_9_method_9_code
def yX7_failedLong : MethodName := ⟨RX7, "failedLong", "(I)J"⟩
abbrev cX7_barred : ByteArray := prog_9_method_10_code
def yX7_barred : MethodName := ⟨RX7, "barred", "(IIIJZ)I"⟩
abbrev cX7_noOne : ByteArray := prog_9_method_11_code
def yX7_noOne : MethodName := ⟨RX7, "noOne", "(I)Z"⟩
abbrev cX7_isDawn : ByteArray := prog_9_method_12_code
def yX7_isDawn : MethodName := ⟨RX7, "isDawn", "(I)Z"⟩
abbrev cX7_codeAt : ByteArray := prog_9_method_13_code
def yX7_codeAt : MethodName := ⟨RX7, "codeAt", "(II)I"⟩
abbrev cX7_figure : ByteArray := prog_9_method_14_code
def yX7_figure : MethodName := ⟨RX7, "figure", "(IIII)I"⟩
abbrev cX7_readsOne : ByteArray := prog_9_method_15_code
def yX7_readsOne : MethodName := ⟨RX7, "readsOne", "(II)Z"⟩
abbrev cX7_readsAll : ByteArray := prog_9_method_16_code
def yX7_readsAll : MethodName := ⟨RX7, "readsAll", "(II)Z"⟩
abbrev cX7_statues : ByteArray := prog_9_method_17_code
def yX7_statues : MethodName := ⟨RX7, "statues", "(IIII)I"⟩
abbrev cX7_ofStatue : ByteArray := prog_9_method_18_code
def yX7_ofStatue : MethodName := ⟨RX7, "ofStatue", "(II)I"⟩
abbrev cX7_look : ByteArray := prog_9_method_19_code
def yX7_look : MethodName := ⟨RX7, "look", "(II)I"⟩
abbrev cX7_over : ByteArray := prog_9_method_20_code
def yX7_over : MethodName := ⟨RX7, "over", "(II)I"⟩
abbrev cX7_fence : ByteArray := prog_9_method_21_code
def yX7_fence : MethodName := ⟨RX7, "fence", "(IZ)I"⟩
abbrev cX7_rain : ByteArray := prog_9_method_22_code
def yX7_rain : MethodName := ⟨RX7, "rain", "(III)I"⟩
abbrev cX7_deer : ByteArray := prog_9_method_23_code
def yX7_deer : MethodName := ⟨RX7, "deer", "(I)I"⟩
abbrev cX7_begin : ByteArray := prog_9_method_24_code
def yX7_begin : MethodName := ⟨RX7, "begin", "()V"⟩
abbrev cX7_losesBy : ByteArray := prog_9_method_25_code
def yX7_losesBy : MethodName := ⟨RX7, "losesBy", "(III)I"⟩
abbrev cX7_rainOn : ByteArray := prog_9_method_26_code
def yX7_rainOn : MethodName := ⟨RX7, "rainOn", "(I)V"⟩
abbrev cX7_canLick : ByteArray := prog_9_method_27_code
def yX7_canLick : MethodName := ⟨RX7, "canLick", "(I)Z"⟩
abbrev cX7_likedNow : ByteArray := prog_9_method_28_code
def yX7_likedNow : MethodName := ⟨RX7, "likedNow", "()I"⟩
abbrev cX7_goDay : ByteArray := prog_9_method_29_code
def yX7_goDay : MethodName := ⟨RX7, "goDay", "(I)V"⟩
abbrev cX7_goTo : ByteArray := prog_9_method_30_code
def yX7_goTo : MethodName := ⟨RX7, "goTo", "(I)V"⟩
abbrev cX7_noPart : ByteArray := prog_9_method_31_code
def yX7_noPart : MethodName := ⟨RX7, "noPart", "(I)Z"⟩
abbrev cX7_grains : ByteArray := prog_9_method_32_code
def yX7_grains : MethodName := ⟨RX7, "grains", "(III)I"⟩
abbrev cX7_lost : ByteArray := prog_9_method_33_code
def yX7_lost : MethodName := ⟨RX7, "lost", "(III)I"⟩
abbrev cX7_isGoneNow : ByteArray := prog_9_method_34_code
def yX7_isGoneNow : MethodName := ⟨RX7, "isGoneNow", "(II)Z"⟩
abbrev cX7_goneAt : ByteArray := prog_9_method_35_code
def yX7_goneAt : MethodName := ⟨RX7, "goneAt", "(II)I"⟩
abbrev cX7_gone : ByteArray := prog_9_method_36_code
def yX7_gone : MethodName := ⟨RX7, "gone", "(II)I"⟩
abbrev cX7_liked : ByteArray := prog_9_method_37_code
def yX7_liked : MethodName := ⟨RX7, "liked", "(I)I"⟩
abbrev cX7_lasts : ByteArray := prog_9_method_38_code
def yX7_lasts : MethodName := ⟨RX7, "lasts", "(I)J"⟩
abbrev cX7_keepOver : ByteArray := prog_9_method_39_code
def yX7_keepOver : MethodName := ⟨RX7, "keepOver", "()V"⟩
abbrev cX7_takeOver : ByteArray := prog_9_method_40_code
def yX7_takeOver : MethodName := ⟨RX7, "takeOver", "()V"⟩
abbrev cX7_nosesNow : ByteArray := prog_9_method_41_code
def yX7_nosesNow : MethodName := ⟨RX7, "nosesNow", "()I"⟩
abbrev cX7_bits : ByteArray := prog_9_method_42_code
def yX7_bits : MethodName := ⟨RX7, "bits", "(I)I"⟩
abbrev cX7_umbrellas : ByteArray := prog_9_method_43_code
def yX7_umbrellas : MethodName := ⟨RX7, "umbrellas", "(II)I"⟩
abbrev cX7_firstNose : ByteArray := prog_9_method_44_code
def yX7_firstNose : MethodName := ⟨RX7, "firstNose", "()I"⟩
abbrev cX7_turn : ByteArray := prog_9_method_45_code
def yX7_turn : MethodName := ⟨RX7, "turn", "(I)I"⟩
abbrev cX7_roofs : ByteArray := prog_9_method_46_code
def yX7_roofs : MethodName := ⟨RX7, "roofs", "(II)I"⟩
abbrev cX7_takenFor : ByteArray := prog_9_method_47_code
def yX7_takenFor : MethodName := ⟨RX7, "takenFor", "(IIIII)I"⟩
abbrev cX7_whose : ByteArray := prog_9_method_48_code
def yX7_whose : MethodName := ⟨RX7, "whose", "(II)I"⟩
abbrev cX7_reading : ByteArray := prog_9_method_49_code
def yX7_reading : MethodName := ⟨RX7, "reading", "(IIII)I"⟩
abbrev cX7_back : ByteArray := prog_9_method_50_code
def yX7_back : MethodName := ⟨RX7, "back", "(I)I"⟩
abbrev cX7_areSo : ByteArray := prog_9_method_51_code
def yX7_areSo : MethodName := ⟨RX7, "areSo", "()Z"⟩
abbrev cX7_rains : ByteArray := prog_9_method_52_code
def yX7_rains : MethodName := ⟨RX7, "rains", "(I)I"⟩
abbrev cX7_cast : ByteArray := prog_9_method_53_code
def yX7_cast : MethodName := ⟨RX7, "cast", "(II)I"⟩
abbrev cX7_noSheet : ByteArray := prog_9_method_54_code
def yX7_noSheet : MethodName := ⟨RX7, "noSheet", "(I)Z"⟩
abbrev cX7_sheet : ByteArray := prog_9_method_55_code
def yX7_sheet : MethodName := ⟨RX7, "sheet", "(III)I"⟩
abbrev cX7_lose : ByteArray := prog_9_method_56_code
def yX7_lose : MethodName := ⟨RX7, "lose", "(I)I"⟩
abbrev cX7_noCell : ByteArray := prog_9_method_57_code
def yX7_noCell : MethodName := ⟨RX7, "noCell", "(II)I"⟩
abbrev cX7_put : ByteArray := prog_9_method_58_code
def yX7_put : MethodName := ⟨RX7, "put", "(III)I"⟩
abbrev cX7_cell : ByteArray := prog_9_method_59_code
def yX7_cell : MethodName := ⟨RX7, "cell", "(III)J"⟩
abbrev cX7_isBeyond : ByteArray := prog_9_method_60_code
def yX7_isBeyond : MethodName := ⟨RX7, "isBeyond", "(IJI)Z"⟩
abbrev cX7_copy : ByteArray := prog_9_method_61_code
def yX7_copy : MethodName := ⟨RX7, "copy", "(IIIII)I"⟩
abbrev cX7_traced : ByteArray := prog_9_method_62_code
def yX7_traced : MethodName := ⟨RX7, "traced", "(I)V"⟩
abbrev cX7_tell : ByteArray := prog_9_method_63_code
def yX7_tell : MethodName := ⟨RX7, "tell", "(I)I"⟩
abbrev cX7_bow : ByteArray := prog_9_method_64_code
def yX7_bow : MethodName := ⟨RX7, "bow", "(I)I"⟩
abbrev cX7_as : ByteArray := prog_9_method_65_code
def yX7_as : MethodName := ⟨RX7, "as", "(II)I"⟩
abbrev cX7_trace : ByteArray := prog_9_method_66_code
def yX7_trace : MethodName := ⟨RX7, "trace", "()I"⟩
abbrev cX7_fault : ByteArray := prog_9_method_67_code
def yX7_fault : MethodName := ⟨RX7, "fault", "()I"⟩
abbrev cX7_many : ByteArray := prog_9_method_68_code
def yX7_many : MethodName := ⟨RX7, "many", "(I)I"⟩
def RJ6 : String := "java/lang/Integer"
abbrev cJ6_bitCount_0f7a4 : ByteArray := prog_10_method_49_code
def yJ6_bitCount_0f7a4 : MethodName := ⟨RJ6, "bitCount", "(I)I"⟩
def RJ9 : String := "java/lang/Math"
abbrev cJ9_abs_0f7a4 : ByteArray := prog_11_method_59_code
def yJ9_abs_0f7a4 : MethodName := ⟨RJ9, "abs", "(I)I"⟩
abbrev cJ9_max_7cf53 : ByteArray := prog_11_method_65_code
def yJ9_max_7cf53 : MethodName := ⟨RJ9, "max", "(II)I"⟩
abbrev cJ9_min_7cf53 : ByteArray := prog_11_method_69_code
def yJ9_min_7cf53 : MethodName := ⟨RJ9, "min", "(II)I"⟩
def RJ10 : String := "java/lang/System"
def RL : String := "SaltSaintsLaw"
abbrev cL_law : ByteArray := code
def yL_law : MethodName := ⟨RL, "law", "([I)Z"⟩
abbrev vwCl : List vw_C := [(RX1, TX1, 5), (RX2, TX2, 4), (RX3, TX3, 5), (RX5, TX5, 9), (RX6, TX6, 5), (RX7, TX7, 29)]
end
section
theorem dX0_giveUmbrellas_0 : decode cX0_giveUmbrellas 0 = .ok (.aload_n 0, 1) := by decide +kernel
theorem dX0_giveUmbrellas_1 : decode cX0_giveUmbrellas 1 = .ok (.iconst 0, 1) := by decide +kernel
theorem dX0_giveUmbrellas_2 : decode cX0_giveUmbrellas 2 = .ok (.invokestatic 9, 3) := by decide +kernel
theorem dX0_giveUmbrellas_5 : decode cX0_giveUmbrellas 5 = .ok (.istore_n 3, 1) := by decide +kernel
theorem dX0_giveUmbrellas_6 : decode cX0_giveUmbrellas 6 = .ok (.aload_n 0, 1) := by decide +kernel
theorem dX0_giveUmbrellas_7 : decode cX0_giveUmbrellas 7 = .ok (.iconst 1, 1) := by decide +kernel
theorem dX0_giveUmbrellas_8 : decode cX0_giveUmbrellas 8 = .ok (.invokestatic 9, 3) := by decide +kernel
theorem dX0_giveUmbrellas_11 : decode cX0_giveUmbrellas 11 = .ok (.istore 4, 2) := by decide +kernel
theorem dX0_giveUmbrellas_13 : decode cX0_giveUmbrellas 13 = .ok (.iload_n 1, 1) := by decide +kernel
theorem dX0_giveUmbrellas_14 : decode cX0_giveUmbrellas 14 = .ok (.aload_n 0, 1) := by decide +kernel
theorem dX0_giveUmbrellas_15 : decode cX0_giveUmbrellas 15 = .ok (.getfield 15, 3) := by decide +kernel
theorem dX0_giveUmbrellas_18 : decode cX0_giveUmbrellas 18 = .ok (.invokestatic 21, 3) := by decide +kernel
theorem dX0_giveUmbrellas_21 : decode cX0_giveUmbrellas 21 = .ok (.istore 5, 2) := by decide +kernel
theorem dX0_giveUmbrellas_23 : decode cX0_giveUmbrellas 23 = .ok (.iconst 0, 1) := by decide +kernel
theorem dX0_giveUmbrellas_24 : decode cX0_giveUmbrellas 24 = .ok (.istore 6, 2) := by decide +kernel
theorem dX0_giveUmbrellas_26 : decode cX0_giveUmbrellas 26 = .ok (.iconst (-1), 1) := by decide +kernel
theorem dX0_giveUmbrellas_27 : decode cX0_giveUmbrellas 27 = .ok (.istore 7, 2) := by decide +kernel
theorem dX0_giveUmbrellas_29 : decode cX0_giveUmbrellas 29 = .ok (.iconst 0, 1) := by decide +kernel
theorem dX0_giveUmbrellas_30 : decode cX0_giveUmbrellas 30 = .ok (.istore 8, 2) := by decide +kernel
theorem dX0_giveUmbrellas_32 : decode cX0_giveUmbrellas 32 = .ok (.iload 8, 2) := by decide +kernel
theorem dX0_giveUmbrellas_34 : decode cX0_giveUmbrellas 34 = .ok (.iconst 1, 1) := by decide +kernel
theorem dX0_giveUmbrellas_35 : decode cX0_giveUmbrellas 35 = .ok (.aload_n 0, 1) := by decide +kernel
theorem dX0_giveUmbrellas_36 : decode cX0_giveUmbrellas 36 = .ok (.getfield 15, 3) := by decide +kernel
theorem dX0_giveUmbrellas_39 : decode cX0_giveUmbrellas 39 = .ok (.ishl, 1) := by decide +kernel
theorem dX0_giveUmbrellas_40 : decode cX0_giveUmbrellas 40 = .ok (.if_icmp .ge 51, 3) := by decide +kernel
theorem dX0_giveUmbrellas_43 : decode cX0_giveUmbrellas 43 = .ok (.iload 8, 2) := by decide +kernel
theorem dX0_giveUmbrellas_45 : decode cX0_giveUmbrellas 45 = .ok (.iload 4, 2) := by decide +kernel
theorem dX0_giveUmbrellas_47 : decode cX0_giveUmbrellas 47 = .ok (.iand, 1) := by decide +kernel
theorem dX0_giveUmbrellas_48 : decode cX0_giveUmbrellas 48 = .ok (.iload_n 3, 1) := by decide +kernel
theorem dX0_giveUmbrellas_49 : decode cX0_giveUmbrellas 49 = .ok (.iload 8, 2) := by decide +kernel
theorem dX0_giveUmbrellas_51 : decode cX0_giveUmbrellas 51 = .ok (.iconst (-1), 1) := by decide +kernel
theorem dX0_giveUmbrellas_52 : decode cX0_giveUmbrellas 52 = .ok (.ixor, 1) := by decide +kernel
theorem dX0_giveUmbrellas_53 : decode cX0_giveUmbrellas 53 = .ok (.iand, 1) := by decide +kernel
theorem dX0_giveUmbrellas_54 : decode cX0_giveUmbrellas 54 = .ok (.ior, 1) := by decide +kernel
theorem dX0_giveUmbrellas_55 : decode cX0_giveUmbrellas 55 = .ok (.invokestatic 27, 3) := by decide +kernel
theorem dX0_giveUmbrellas_58 : decode cX0_giveUmbrellas 58 = .ok (.istore 9, 2) := by decide +kernel
theorem dX0_giveUmbrellas_60 : decode cX0_giveUmbrellas 60 = .ok (.iload 8, 2) := by decide +kernel
theorem dX0_giveUmbrellas_62 : decode cX0_giveUmbrellas 62 = .ok (.invokestatic 27, 3) := by decide +kernel
theorem dX0_giveUmbrellas_65 : decode cX0_giveUmbrellas 65 = .ok (.iload 5, 2) := by decide +kernel
theorem dX0_giveUmbrellas_67 : decode cX0_giveUmbrellas 67 = .ok (.if_icmp .ne 18, 3) := by decide +kernel
theorem dX0_giveUmbrellas_70 : decode cX0_giveUmbrellas 70 = .ok (.iload 9, 2) := by decide +kernel
theorem dX0_giveUmbrellas_72 : decode cX0_giveUmbrellas 72 = .ok (.iload 7, 2) := by decide +kernel
theorem dX0_giveUmbrellas_74 : decode cX0_giveUmbrellas 74 = .ok (.if_icmp .le 11, 3) := by decide +kernel
theorem dX0_giveUmbrellas_77 : decode cX0_giveUmbrellas 77 = .ok (.iload 8, 2) := by decide +kernel
theorem dX0_giveUmbrellas_79 : decode cX0_giveUmbrellas 79 = .ok (.istore 6, 2) := by decide +kernel
theorem dX0_giveUmbrellas_81 : decode cX0_giveUmbrellas 81 = .ok (.iload 9, 2) := by decide +kernel
theorem dX0_giveUmbrellas_83 : decode cX0_giveUmbrellas 83 = .ok (.istore 7, 2) := by decide +kernel
theorem dX0_giveUmbrellas_85 : decode cX0_giveUmbrellas 85 = .ok (.iinc 8 1, 3) := by decide +kernel
theorem dX0_giveUmbrellas_88 : decode cX0_giveUmbrellas 88 = .ok (.goto (-56), 3) := by decide +kernel
theorem dX0_giveUmbrellas_91 : decode cX0_giveUmbrellas 91 = .ok (.iload_n 2, 1) := by decide +kernel
theorem dX0_giveUmbrellas_92 : decode cX0_giveUmbrellas 92 = .ok (.ifCond .ne 8, 3) := by decide +kernel
theorem dX0_giveUmbrellas_95 : decode cX0_giveUmbrellas 95 = .ok (.iload 6, 2) := by decide +kernel
theorem dX0_giveUmbrellas_97 : decode cX0_giveUmbrellas 97 = .ok (.goto 5, 3) := by decide +kernel
theorem dX0_giveUmbrellas_100 : decode cX0_giveUmbrellas 100 = .ok (.iload 7, 2) := by decide +kernel
theorem dX0_giveUmbrellas_102 : decode cX0_giveUmbrellas 102 = .ok (.ireturn, 1) := by decide +kernel
theorem dX0_lastingUnder_0 : decode cX0_lastingUnder 0 = .ok (.iconst 0, 1) := by decide +kernel
theorem dX0_lastingUnder_1 : decode cX0_lastingUnder 1 = .ok (.istore_n 2, 1) := by decide +kernel
theorem dX0_lastingUnder_2 : decode cX0_lastingUnder 2 = .ok (.iconst 0, 1) := by decide +kernel
theorem dX0_lastingUnder_3 : decode cX0_lastingUnder 3 = .ok (.istore_n 3, 1) := by decide +kernel
theorem dX0_lastingUnder_4 : decode cX0_lastingUnder 4 = .ok (.iload_n 3, 1) := by decide +kernel
theorem dX0_lastingUnder_5 : decode cX0_lastingUnder 5 = .ok (.aload_n 0, 1) := by decide +kernel
theorem dX0_lastingUnder_6 : decode cX0_lastingUnder 6 = .ok (.getfield 15, 3) := by decide +kernel
theorem dX0_lastingUnder_9 : decode cX0_lastingUnder 9 = .ok (.if_icmp .ge 35, 3) := by decide +kernel
theorem dX0_lastingUnder_12 : decode cX0_lastingUnder 12 = .ok (.aload_n 0, 1) := by decide +kernel
theorem dX0_lastingUnder_13 : decode cX0_lastingUnder 13 = .ok (.iload_n 3, 1) := by decide +kernel
theorem dX0_lastingUnder_14 : decode cX0_lastingUnder 14 = .ok (.aload_n 0, 1) := by decide +kernel
theorem dX0_lastingUnder_15 : decode cX0_lastingUnder 15 = .ok (.getfield 33, 3) := by decide +kernel
theorem dX0_lastingUnder_18 : decode cX0_lastingUnder 18 = .ok (.iload_n 3, 1) := by decide +kernel
theorem dX0_lastingUnder_19 : decode cX0_lastingUnder 19 = .ok (.aaload, 1) := by decide +kernel
theorem dX0_lastingUnder_20 : decode cX0_lastingUnder 20 = .ok (.getfield 37, 3) := by decide +kernel
theorem dX0_lastingUnder_23 : decode cX0_lastingUnder 23 = .ok (.iload_n 1, 1) := by decide +kernel
theorem dX0_lastingUnder_24 : decode cX0_lastingUnder 24 = .ok (.invokestatic 42, 3) := by decide +kernel
theorem dX0_lastingUnder_27 : decode cX0_lastingUnder 27 = .ok (.bipush 61, 2) := by decide +kernel
theorem dX0_lastingUnder_29 : decode cX0_lastingUnder 29 = .ok (.if_icmp .ne 9, 3) := by decide +kernel
theorem dX0_lastingUnder_32 : decode cX0_lastingUnder 32 = .ok (.iload_n 2, 1) := by decide +kernel
theorem dX0_lastingUnder_33 : decode cX0_lastingUnder 33 = .ok (.iconst 1, 1) := by decide +kernel
theorem dX0_lastingUnder_34 : decode cX0_lastingUnder 34 = .ok (.iload_n 3, 1) := by decide +kernel
theorem dX0_lastingUnder_35 : decode cX0_lastingUnder 35 = .ok (.ishl, 1) := by decide +kernel
theorem dX0_lastingUnder_36 : decode cX0_lastingUnder 36 = .ok (.ior, 1) := by decide +kernel
theorem dX0_lastingUnder_37 : decode cX0_lastingUnder 37 = .ok (.istore_n 2, 1) := by decide +kernel
theorem dX0_lastingUnder_38 : decode cX0_lastingUnder 38 = .ok (.iinc 3 1, 3) := by decide +kernel
theorem dX0_lastingUnder_41 : decode cX0_lastingUnder 41 = .ok (.goto (-37), 3) := by decide +kernel
theorem dX0_lastingUnder_44 : decode cX0_lastingUnder 44 = .ok (.iload_n 2, 1) := by decide +kernel
theorem dX0_lastingUnder_45 : decode cX0_lastingUnder 45 = .ok (.ireturn, 1) := by decide +kernel
theorem dX0_turnOne_0 : decode cX0_turnOne 0 = .ok (.iconst 0, 1) := by decide +kernel
theorem dX0_turnOne_1 : decode cX0_turnOne 1 = .ok (.istore_n 2, 1) := by decide +kernel
theorem dX0_turnOne_2 : decode cX0_turnOne 2 = .ok (.iconst 0, 1) := by decide +kernel
theorem dX0_turnOne_3 : decode cX0_turnOne 3 = .ok (.istore_n 3, 1) := by decide +kernel
theorem dX0_turnOne_4 : decode cX0_turnOne 4 = .ok (.iconst 0, 1) := by decide +kernel
theorem dX0_turnOne_5 : decode cX0_turnOne 5 = .ok (.istore 4, 2) := by decide +kernel
theorem dX0_turnOne_7 : decode cX0_turnOne 7 = .ok (.iload 4, 2) := by decide +kernel
theorem dX0_turnOne_9 : decode cX0_turnOne 9 = .ok (.aload_n 0, 1) := by decide +kernel
theorem dX0_turnOne_10 : decode cX0_turnOne 10 = .ok (.getfield 15, 3) := by decide +kernel
theorem dX0_turnOne_13 : decode cX0_turnOne 13 = .ok (.if_icmp .ge 75, 3) := by decide +kernel
theorem dX0_turnOne_16 : decode cX0_turnOne 16 = .ok (.aload_n 0, 1) := by decide +kernel
theorem dX0_turnOne_17 : decode cX0_turnOne 17 = .ok (.iload 4, 2) := by decide +kernel
theorem dX0_turnOne_19 : decode cX0_turnOne 19 = .ok (.invokestatic 46, 3) := by decide +kernel
theorem dX0_turnOne_22 : decode cX0_turnOne 22 = .ok (.istore 5, 2) := by decide +kernel
theorem dX0_turnOne_24 : decode cX0_turnOne 24 = .ok (.iconst 0, 1) := by decide +kernel
theorem dX0_turnOne_25 : decode cX0_turnOne 25 = .ok (.istore 6, 2) := by decide +kernel
theorem dX0_turnOne_27 : decode cX0_turnOne 27 = .ok (.iload 6, 2) := by decide +kernel
theorem dX0_turnOne_29 : decode cX0_turnOne 29 = .ok (.iconst 4, 1) := by decide +kernel
theorem dX0_turnOne_30 : decode cX0_turnOne 30 = .ok (.if_icmp .ge 52, 3) := by decide +kernel
theorem dX0_turnOne_33 : decode cX0_turnOne 33 = .ok (.iload 5, 2) := by decide +kernel
theorem dX0_turnOne_35 : decode cX0_turnOne 35 = .ok (.aload_n 0, 1) := by decide +kernel
theorem dX0_turnOne_36 : decode cX0_turnOne 36 = .ok (.iload 4, 2) := by decide +kernel
theorem dX0_turnOne_38 : decode cX0_turnOne 38 = .ok (.iload 6, 2) := by decide +kernel
theorem dX0_turnOne_40 : decode cX0_turnOne 40 = .ok (.aload_n 0, 1) := by decide +kernel
theorem dX0_turnOne_41 : decode cX0_turnOne 41 = .ok (.getfield 33, 3) := by decide +kernel
theorem dX0_turnOne_44 : decode cX0_turnOne 44 = .ok (.iload 4, 2) := by decide +kernel
theorem dX0_turnOne_46 : decode cX0_turnOne 46 = .ok (.aaload, 1) := by decide +kernel
theorem dX0_turnOne_47 : decode cX0_turnOne 47 = .ok (.getfield 49, 3) := by decide +kernel
theorem dX0_turnOne_50 : decode cX0_turnOne 50 = .ok (.invokestatic 42, 3) := by decide +kernel
theorem dX0_turnOne_53 : decode cX0_turnOne 53 = .ok (.invokestatic 21, 3) := by decide +kernel
theorem dX0_turnOne_56 : decode cX0_turnOne 56 = .ok (.istore 7, 2) := by decide +kernel
theorem dX0_turnOne_58 : decode cX0_turnOne 58 = .ok (.iload 7, 2) := by decide +kernel
theorem dX0_turnOne_60 : decode cX0_turnOne 60 = .ok (.iload_n 3, 1) := by decide +kernel
theorem dX0_turnOne_61 : decode cX0_turnOne 61 = .ok (.if_icmp .le 15, 3) := by decide +kernel
theorem dX0_turnOne_64 : decode cX0_turnOne 64 = .ok (.bipush 10, 2) := by decide +kernel
theorem dX0_turnOne_66 : decode cX0_turnOne 66 = .ok (.iload 4, 2) := by decide +kernel
theorem dX0_turnOne_68 : decode cX0_turnOne 68 = .ok (.imul, 1) := by decide +kernel
theorem dX0_turnOne_69 : decode cX0_turnOne 69 = .ok (.iload 6, 2) := by decide +kernel
theorem dX0_turnOne_71 : decode cX0_turnOne 71 = .ok (.iadd, 1) := by decide +kernel
theorem dX0_turnOne_72 : decode cX0_turnOne 72 = .ok (.istore_n 2, 1) := by decide +kernel
theorem dX0_turnOne_73 : decode cX0_turnOne 73 = .ok (.iload 7, 2) := by decide +kernel
theorem dX0_turnOne_75 : decode cX0_turnOne 75 = .ok (.istore_n 3, 1) := by decide +kernel
theorem dX0_turnOne_76 : decode cX0_turnOne 76 = .ok (.iinc 6 1, 3) := by decide +kernel
theorem dX0_turnOne_79 : decode cX0_turnOne 79 = .ok (.goto (-52), 3) := by decide +kernel
theorem dX0_turnOne_82 : decode cX0_turnOne 82 = .ok (.iinc 4 1, 3) := by decide +kernel
theorem dX0_turnOne_85 : decode cX0_turnOne 85 = .ok (.goto (-78), 3) := by decide +kernel
theorem dX0_turnOne_88 : decode cX0_turnOne 88 = .ok (.iload_n 1, 1) := by decide +kernel
theorem dX0_turnOne_89 : decode cX0_turnOne 89 = .ok (.ifCond .ne 7, 3) := by decide +kernel
theorem dX0_turnOne_92 : decode cX0_turnOne 92 = .ok (.iload_n 2, 1) := by decide +kernel
theorem dX0_turnOne_93 : decode cX0_turnOne 93 = .ok (.goto 4, 3) := by decide +kernel
theorem dX0_turnOne_96 : decode cX0_turnOne 96 = .ok (.iload_n 3, 1) := by decide +kernel
theorem dX0_turnOne_97 : decode cX0_turnOne 97 = .ok (.ireturn, 1) := by decide +kernel
theorem dX0_firstDawnOfOthers_0 : decode cX0_firstDawnOfOthers 0 = .ok (.bipush 61, 2) := by decide +kernel
theorem dX0_firstDawnOfOthers_2 : decode cX0_firstDawnOfOthers 2 = .ok (.istore_n 2, 1) := by decide +kernel
theorem dX0_firstDawnOfOthers_3 : decode cX0_firstDawnOfOthers 3 = .ok (.iconst 0, 1) := by decide +kernel
theorem dX0_firstDawnOfOthers_4 : decode cX0_firstDawnOfOthers 4 = .ok (.istore_n 3, 1) := by decide +kernel
theorem dX0_firstDawnOfOthers_5 : decode cX0_firstDawnOfOthers 5 = .ok (.iload_n 3, 1) := by decide +kernel
theorem dX0_firstDawnOfOthers_6 : decode cX0_firstDawnOfOthers 6 = .ok (.aload_n 0, 1) := by decide +kernel
theorem dX0_firstDawnOfOthers_7 : decode cX0_firstDawnOfOthers 7 = .ok (.getfield 15, 3) := by decide +kernel
theorem dX0_firstDawnOfOthers_10 : decode cX0_firstDawnOfOthers 10 = .ok (.if_icmp .ge 42, 3) := by decide +kernel
theorem dX0_firstDawnOfOthers_13 : decode cX0_firstDawnOfOthers 13 = .ok (.iload_n 3, 1) := by decide +kernel
theorem dX0_firstDawnOfOthers_14 : decode cX0_firstDawnOfOthers 14 = .ok (.iload_n 1, 1) := by decide +kernel
theorem dX0_firstDawnOfOthers_15 : decode cX0_firstDawnOfOthers 15 = .ok (.if_icmp .eq 31, 3) := by decide +kernel
theorem dX0_firstDawnOfOthers_18 : decode cX0_firstDawnOfOthers 18 = .ok (.aload_n 0, 1) := by decide +kernel
theorem dX0_firstDawnOfOthers_19 : decode cX0_firstDawnOfOthers 19 = .ok (.getfield 33, 3) := by decide +kernel
theorem dX0_firstDawnOfOthers_22 : decode cX0_firstDawnOfOthers 22 = .ok (.iload_n 3, 1) := by decide +kernel
theorem dX0_firstDawnOfOthers_23 : decode cX0_firstDawnOfOthers 23 = .ok (.aaload, 1) := by decide +kernel
theorem dX0_firstDawnOfOthers_24 : decode cX0_firstDawnOfOthers 24 = .ok (.astore 4, 2) := by decide +kernel
theorem dX0_firstDawnOfOthers_26 : decode cX0_firstDawnOfOthers 26 = .ok (.iload_n 2, 1) := by decide +kernel
theorem dX0_firstDawnOfOthers_27 : decode cX0_firstDawnOfOthers 27 = .ok (.aload_n 0, 1) := by decide +kernel
theorem dX0_firstDawnOfOthers_28 : decode cX0_firstDawnOfOthers 28 = .ok (.iload_n 3, 1) := by decide +kernel
theorem dX0_firstDawnOfOthers_29 : decode cX0_firstDawnOfOthers 29 = .ok (.aload 4, 2) := by decide +kernel
theorem dX0_firstDawnOfOthers_31 : decode cX0_firstDawnOfOthers 31 = .ok (.getfield 37, 3) := by decide +kernel
theorem dX0_firstDawnOfOthers_34 : decode cX0_firstDawnOfOthers 34 = .ok (.aload 4, 2) := by decide +kernel
theorem dX0_firstDawnOfOthers_36 : decode cX0_firstDawnOfOthers 36 = .ok (.getfield 49, 3) := by decide +kernel
theorem dX0_firstDawnOfOthers_39 : decode cX0_firstDawnOfOthers 39 = .ok (.invokestatic 42, 3) := by decide +kernel
theorem dX0_firstDawnOfOthers_42 : decode cX0_firstDawnOfOthers 42 = .ok (.invokestatic 21, 3) := by decide +kernel
theorem dX0_firstDawnOfOthers_45 : decode cX0_firstDawnOfOthers 45 = .ok (.istore_n 2, 1) := by decide +kernel
theorem dX0_firstDawnOfOthers_46 : decode cX0_firstDawnOfOthers 46 = .ok (.iinc 3 1, 3) := by decide +kernel
theorem dX0_firstDawnOfOthers_49 : decode cX0_firstDawnOfOthers 49 = .ok (.goto (-44), 3) := by decide +kernel
theorem dX0_firstDawnOfOthers_52 : decode cX0_firstDawnOfOthers 52 = .ok (.iload_n 2, 1) := by decide +kernel
theorem dX0_firstDawnOfOthers_53 : decode cX0_firstDawnOfOthers 53 = .ok (.ireturn, 1) := by decide +kernel
theorem dX0_dawnWithoutNose_0 : decode cX0_dawnWithoutNose 0 = .ok (.aload_n 0, 1) := by decide +kernel
theorem dX0_dawnWithoutNose_1 : decode cX0_dawnWithoutNose 1 = .ok (.getfield 33, 3) := by decide +kernel
theorem dX0_dawnWithoutNose_4 : decode cX0_dawnWithoutNose 4 = .ok (.iload_n 1, 1) := by decide +kernel
theorem dX0_dawnWithoutNose_5 : decode cX0_dawnWithoutNose 5 = .ok (.aaload, 1) := by decide +kernel
theorem dX0_dawnWithoutNose_6 : decode cX0_dawnWithoutNose 6 = .ok (.astore 4, 2) := by decide +kernel
theorem dX0_dawnWithoutNose_8 : decode cX0_dawnWithoutNose 8 = .ok (.aload 4, 2) := by decide +kernel
theorem dX0_dawnWithoutNose_10 : decode cX0_dawnWithoutNose 10 = .ok (.getfield 52, 3) := by decide +kernel
theorem dX0_dawnWithoutNose_13 : decode cX0_dawnWithoutNose 13 = .ok (.iconst 0, 1) := by decide +kernel
theorem dX0_dawnWithoutNose_14 : decode cX0_dawnWithoutNose 14 = .ok (.iaload, 1) := by decide +kernel
theorem dX0_dawnWithoutNose_15 : decode cX0_dawnWithoutNose 15 = .ok (.istore 5, 2) := by decide +kernel
theorem dX0_dawnWithoutNose_17 : decode cX0_dawnWithoutNose 17 = .ok (.iconst 0, 1) := by decide +kernel
theorem dX0_dawnWithoutNose_18 : decode cX0_dawnWithoutNose 18 = .ok (.istore 6, 2) := by decide +kernel
theorem dX0_dawnWithoutNose_20 : decode cX0_dawnWithoutNose 20 = .ok (.iload 6, 2) := by decide +kernel
theorem dX0_dawnWithoutNose_22 : decode cX0_dawnWithoutNose 22 = .ok (.bipush 60, 2) := by decide +kernel
theorem dX0_dawnWithoutNose_24 : decode cX0_dawnWithoutNose 24 = .ok (.if_icmp .ge 46, 3) := by decide +kernel
theorem dX0_dawnWithoutNose_27 : decode cX0_dawnWithoutNose 27 = .ok (.iload 5, 2) := by decide +kernel
theorem dX0_dawnWithoutNose_29 : decode cX0_dawnWithoutNose 29 = .ok (.aload 4, 2) := by decide +kernel
theorem dX0_dawnWithoutNose_31 : decode cX0_dawnWithoutNose 31 = .ok (.iconst 0, 1) := by decide +kernel
theorem dX0_dawnWithoutNose_32 : decode cX0_dawnWithoutNose 32 = .ok (.aload_n 0, 1) := by decide +kernel
theorem dX0_dawnWithoutNose_33 : decode cX0_dawnWithoutNose 33 = .ok (.getfield 56, 3) := by decide +kernel
theorem dX0_dawnWithoutNose_36 : decode cX0_dawnWithoutNose 36 = .ok (.iload 6, 2) := by decide +kernel
theorem dX0_dawnWithoutNose_38 : decode cX0_dawnWithoutNose 38 = .ok (.iaload, 1) := by decide +kernel
theorem dX0_dawnWithoutNose_39 : decode cX0_dawnWithoutNose 39 = .ok (.aload_n 0, 1) := by decide +kernel
theorem dX0_dawnWithoutNose_40 : decode cX0_dawnWithoutNose 40 = .ok (.getfield 59, 3) := by decide +kernel
theorem dX0_dawnWithoutNose_43 : decode cX0_dawnWithoutNose 43 = .ok (.iload 6, 2) := by decide +kernel
theorem dX0_dawnWithoutNose_45 : decode cX0_dawnWithoutNose 45 = .ok (.iaload, 1) := by decide +kernel
theorem dX0_dawnWithoutNose_46 : decode cX0_dawnWithoutNose 46 = .ok (.iload_n 2, 1) := by decide +kernel
theorem dX0_dawnWithoutNose_47 : decode cX0_dawnWithoutNose 47 = .ok (.iload_n 3, 1) := by decide +kernel
theorem dX0_dawnWithoutNose_48 : decode cX0_dawnWithoutNose 48 = .ok (.invokevirtual 62, 3) := by decide +kernel
theorem dX0_dawnWithoutNose_51 : decode cX0_dawnWithoutNose 51 = .ok (.isub, 1) := by decide +kernel
theorem dX0_dawnWithoutNose_52 : decode cX0_dawnWithoutNose 52 = .ok (.istore 5, 2) := by decide +kernel
theorem dX0_dawnWithoutNose_54 : decode cX0_dawnWithoutNose 54 = .ok (.iload 5, 2) := by decide +kernel
theorem dX0_dawnWithoutNose_56 : decode cX0_dawnWithoutNose 56 = .ok (.ifCond .gt 8, 3) := by decide +kernel
theorem dX0_dawnWithoutNose_59 : decode cX0_dawnWithoutNose 59 = .ok (.iload 6, 2) := by decide +kernel
theorem dX0_dawnWithoutNose_61 : decode cX0_dawnWithoutNose 61 = .ok (.iconst 1, 1) := by decide +kernel
theorem dX0_dawnWithoutNose_62 : decode cX0_dawnWithoutNose 62 = .ok (.iadd, 1) := by decide +kernel
theorem dX0_dawnWithoutNose_63 : decode cX0_dawnWithoutNose 63 = .ok (.ireturn, 1) := by decide +kernel
theorem dX0_dawnWithoutNose_64 : decode cX0_dawnWithoutNose 64 = .ok (.iinc 6 1, 3) := by decide +kernel
theorem dX0_dawnWithoutNose_67 : decode cX0_dawnWithoutNose 67 = .ok (.goto (-47), 3) := by decide +kernel
theorem dX0_dawnWithoutNose_70 : decode cX0_dawnWithoutNose 70 = .ok (.bipush 61, 2) := by decide +kernel
theorem dX0_dawnWithoutNose_72 : decode cX0_dawnWithoutNose 72 = .ok (.ireturn, 1) := by decide +kernel
theorem dX0_nosesGone_0 : decode cX0_nosesGone 0 = .ok (.iconst 0, 1) := by decide +kernel
theorem dX0_nosesGone_1 : decode cX0_nosesGone 1 = .ok (.istore_n 2, 1) := by decide +kernel
theorem dX0_nosesGone_2 : decode cX0_nosesGone 2 = .ok (.iconst 0, 1) := by decide +kernel
theorem dX0_nosesGone_3 : decode cX0_nosesGone 3 = .ok (.istore_n 3, 1) := by decide +kernel
theorem dX0_nosesGone_4 : decode cX0_nosesGone 4 = .ok (.iload_n 3, 1) := by decide +kernel
theorem dX0_nosesGone_5 : decode cX0_nosesGone 5 = .ok (.aload_n 0, 1) := by decide +kernel
theorem dX0_nosesGone_6 : decode cX0_nosesGone 6 = .ok (.getfield 15, 3) := by decide +kernel
theorem dX0_nosesGone_9 : decode cX0_nosesGone 9 = .ok (.if_icmp .ge 25, 3) := by decide +kernel
theorem dX0_nosesGone_12 : decode cX0_nosesGone 12 = .ok (.aload_n 0, 1) := by decide +kernel
theorem dX0_nosesGone_13 : decode cX0_nosesGone 13 = .ok (.iload_n 3, 1) := by decide +kernel
theorem dX0_nosesGone_14 : decode cX0_nosesGone 14 = .ok (.iconst 0, 1) := by decide +kernel
theorem dX0_nosesGone_15 : decode cX0_nosesGone 15 = .ok (.iload_n 1, 1) := by decide +kernel
theorem dX0_nosesGone_16 : decode cX0_nosesGone 16 = .ok (.invokevirtual 66, 3) := by decide +kernel
theorem dX0_nosesGone_19 : decode cX0_nosesGone 19 = .ok (.ifCond .ne 9, 3) := by decide +kernel
theorem dX0_nosesGone_22 : decode cX0_nosesGone 22 = .ok (.iload_n 2, 1) := by decide +kernel
theorem dX0_nosesGone_23 : decode cX0_nosesGone 23 = .ok (.iconst 1, 1) := by decide +kernel
theorem dX0_nosesGone_24 : decode cX0_nosesGone 24 = .ok (.iload_n 3, 1) := by decide +kernel
theorem dX0_nosesGone_25 : decode cX0_nosesGone 25 = .ok (.ishl, 1) := by decide +kernel
theorem dX0_nosesGone_26 : decode cX0_nosesGone 26 = .ok (.ior, 1) := by decide +kernel
theorem dX0_nosesGone_27 : decode cX0_nosesGone 27 = .ok (.istore_n 2, 1) := by decide +kernel
theorem dX0_nosesGone_28 : decode cX0_nosesGone 28 = .ok (.iinc 3 1, 3) := by decide +kernel
theorem dX0_nosesGone_31 : decode cX0_nosesGone 31 = .ok (.goto (-27), 3) := by decide +kernel
theorem dX0_nosesGone_34 : decode cX0_nosesGone 34 = .ok (.iload_n 2, 1) := by decide +kernel
theorem dX0_nosesGone_35 : decode cX0_nosesGone 35 = .ok (.ireturn, 1) := by decide +kernel
theorem dX1_init_0 : decode cX1_init 0 = .ok (.aload_n 0, 1) := by decide +kernel
theorem dX1_init_1 : decode cX1_init 1 = .ok (.invokespecial 3, 3) := by decide +kernel
theorem dX1_init_4 : decode cX1_init 4 = .ok (.aload_n 0, 1) := by decide +kernel
theorem dX1_init_5 : decode cX1_init 5 = .ok (.bipush 8, 2) := by decide +kernel
theorem dX1_init_7 : decode cX1_init 7 = .ok (.newarray .int, 2) := by decide +kernel
theorem dX1_init_9 : decode cX1_init 9 = .ok (.putfield 9, 3) := by decide +kernel
theorem dX1_init_12 : decode cX1_init 12 = .ok (.aload_n 0, 1) := by decide +kernel
theorem dX1_init_13 : decode cX1_init 13 = .ok (.bipush 8, 2) := by decide +kernel
theorem dX1_init_15 : decode cX1_init 15 = .ok (.newarray .int, 2) := by decide +kernel
theorem dX1_init_17 : decode cX1_init 17 = .ok (.putfield 15, 3) := by decide +kernel
theorem dX1_init_20 : decode cX1_init 20 = .ok (.aload_n 0, 1) := by decide +kernel
theorem dX1_init_21 : decode cX1_init 21 = .ok (.bipush 8, 2) := by decide +kernel
theorem dX1_init_23 : decode cX1_init 23 = .ok (.newarray .int, 2) := by decide +kernel
theorem dX1_init_25 : decode cX1_init 25 = .ok (.putfield 18, 3) := by decide +kernel
theorem dX1_init_28 : decode cX1_init 28 = .ok (.aload_n 0, 1) := by decide +kernel
theorem dX1_init_29 : decode cX1_init 29 = .ok (.bipush 8, 2) := by decide +kernel
theorem dX1_init_31 : decode cX1_init 31 = .ok (.newarray .int, 2) := by decide +kernel
theorem dX1_init_33 : decode cX1_init 33 = .ok (.putfield 21, 3) := by decide +kernel
theorem dX1_init_36 : decode cX1_init 36 = .ok (.aload_n 0, 1) := by decide +kernel
theorem dX1_init_37 : decode cX1_init 37 = .ok (.iconst 0, 1) := by decide +kernel
theorem dX1_init_38 : decode cX1_init 38 = .ok (.putfield 24, 3) := by decide +kernel
theorem dX1_init_41 : decode cX1_init 41 = .ok (.return_, 1) := by decide +kernel
theorem dX1_note_0 : decode cX1_note 0 = .ok (.aload_n 0, 1) := by decide +kernel
theorem dX1_note_1 : decode cX1_note 1 = .ok (.getfield 24, 3) := by decide +kernel
theorem dX1_note_4 : decode cX1_note 4 = .ok (.istore 5, 2) := by decide +kernel
theorem dX1_note_6 : decode cX1_note 6 = .ok (.aload_n 0, 1) := by decide +kernel
theorem dX1_note_7 : decode cX1_note 7 = .ok (.getfield 9, 3) := by decide +kernel
theorem dX1_note_10 : decode cX1_note 10 = .ok (.iload 5, 2) := by decide +kernel
theorem dX1_note_12 : decode cX1_note 12 = .ok (.iload_n 1, 1) := by decide +kernel
theorem dX1_note_13 : decode cX1_note 13 = .ok (.iastore, 1) := by decide +kernel
theorem dX1_note_14 : decode cX1_note 14 = .ok (.aload_n 0, 1) := by decide +kernel
theorem dX1_note_15 : decode cX1_note 15 = .ok (.getfield 15, 3) := by decide +kernel
theorem dX1_note_18 : decode cX1_note 18 = .ok (.iload 5, 2) := by decide +kernel
theorem dX1_note_20 : decode cX1_note 20 = .ok (.iload_n 2, 1) := by decide +kernel
theorem dX1_note_21 : decode cX1_note 21 = .ok (.iastore, 1) := by decide +kernel
theorem dX1_note_22 : decode cX1_note 22 = .ok (.aload_n 0, 1) := by decide +kernel
theorem dX1_note_23 : decode cX1_note 23 = .ok (.getfield 18, 3) := by decide +kernel
theorem dX1_note_26 : decode cX1_note 26 = .ok (.iload 5, 2) := by decide +kernel
theorem dX1_note_28 : decode cX1_note 28 = .ok (.iload_n 3, 1) := by decide +kernel
theorem dX1_note_29 : decode cX1_note 29 = .ok (.iastore, 1) := by decide +kernel
theorem dX1_note_30 : decode cX1_note 30 = .ok (.aload_n 0, 1) := by decide +kernel
theorem dX1_note_31 : decode cX1_note 31 = .ok (.getfield 21, 3) := by decide +kernel
theorem dX1_note_34 : decode cX1_note 34 = .ok (.iload 5, 2) := by decide +kernel
theorem dX1_note_36 : decode cX1_note 36 = .ok (.iload 4, 2) := by decide +kernel
theorem dX1_note_38 : decode cX1_note 38 = .ok (.iastore, 1) := by decide +kernel
theorem dX1_note_39 : decode cX1_note 39 = .ok (.aload_n 0, 1) := by decide +kernel
theorem dX1_note_40 : decode cX1_note 40 = .ok (.iload 5, 2) := by decide +kernel
theorem dX1_note_42 : decode cX1_note 42 = .ok (.iconst 1, 1) := by decide +kernel
theorem dX1_note_43 : decode cX1_note 43 = .ok (.iadd, 1) := by decide +kernel
theorem dX1_note_44 : decode cX1_note 44 = .ok (.putfield 24, 3) := by decide +kernel
theorem dX1_note_47 : decode cX1_note 47 = .ok (.iload 5, 2) := by decide +kernel
theorem dX1_note_49 : decode cX1_note 49 = .ok (.ireturn, 1) := by decide +kernel
theorem dX1_keep_0 : decode cX1_keep 0 = .ok (.aload_n 0, 1) := by decide +kernel
theorem dX1_keep_1 : decode cX1_keep 1 = .ok (.iload_n 1, 1) := by decide +kernel
theorem dX1_keep_2 : decode cX1_keep 2 = .ok (.putfield 24, 3) := by decide +kernel
theorem dX1_keep_5 : decode cX1_keep 5 = .ok (.return_, 1) := by decide +kernel
theorem dX1_allHold_0 : decode cX1_allHold 0 = .ok (.iconst 0, 1) := by decide +kernel
theorem dX1_allHold_1 : decode cX1_allHold 1 = .ok (.istore_n 2, 1) := by decide +kernel
theorem dX1_allHold_2 : decode cX1_allHold 2 = .ok (.iload_n 2, 1) := by decide +kernel
theorem dX1_allHold_3 : decode cX1_allHold 3 = .ok (.aload_n 0, 1) := by decide +kernel
theorem dX1_allHold_4 : decode cX1_allHold 4 = .ok (.getfield 24, 3) := by decide +kernel
theorem dX1_allHold_7 : decode cX1_allHold 7 = .ok (.if_icmp .ge 42, 3) := by decide +kernel
theorem dX1_allHold_10 : decode cX1_allHold 10 = .ok (.aload_n 1, 1) := by decide +kernel
theorem dX1_allHold_11 : decode cX1_allHold 11 = .ok (.aload_n 0, 1) := by decide +kernel
theorem dX1_allHold_12 : decode cX1_allHold 12 = .ok (.getfield 9, 3) := by decide +kernel
theorem dX1_allHold_15 : decode cX1_allHold 15 = .ok (.iload_n 2, 1) := by decide +kernel
theorem dX1_allHold_16 : decode cX1_allHold 16 = .ok (.iaload, 1) := by decide +kernel
theorem dX1_allHold_17 : decode cX1_allHold 17 = .ok (.aload_n 0, 1) := by decide +kernel
theorem dX1_allHold_18 : decode cX1_allHold 18 = .ok (.getfield 15, 3) := by decide +kernel
theorem dX1_allHold_21 : decode cX1_allHold 21 = .ok (.iload_n 2, 1) := by decide +kernel
theorem dX1_allHold_22 : decode cX1_allHold 22 = .ok (.iaload, 1) := by decide +kernel
theorem dX1_allHold_23 : decode cX1_allHold 23 = .ok (.aload_n 0, 1) := by decide +kernel
theorem dX1_allHold_24 : decode cX1_allHold 24 = .ok (.getfield 18, 3) := by decide +kernel
theorem dX1_allHold_27 : decode cX1_allHold 27 = .ok (.iload_n 2, 1) := by decide +kernel
theorem dX1_allHold_28 : decode cX1_allHold 28 = .ok (.iaload, 1) := by decide +kernel
theorem dX1_allHold_29 : decode cX1_allHold 29 = .ok (.invokevirtual 28, 3) := by decide +kernel
theorem dX1_allHold_32 : decode cX1_allHold 32 = .ok (.aload_n 0, 1) := by decide +kernel
theorem dX1_allHold_33 : decode cX1_allHold 33 = .ok (.getfield 21, 3) := by decide +kernel
theorem dX1_allHold_36 : decode cX1_allHold 36 = .ok (.iload_n 2, 1) := by decide +kernel
theorem dX1_allHold_37 : decode cX1_allHold 37 = .ok (.iaload, 1) := by decide +kernel
theorem dX1_allHold_38 : decode cX1_allHold 38 = .ok (.if_icmp .eq 5, 3) := by decide +kernel
theorem dX1_allHold_41 : decode cX1_allHold 41 = .ok (.iconst 0, 1) := by decide +kernel
theorem dX1_allHold_42 : decode cX1_allHold 42 = .ok (.ireturn, 1) := by decide +kernel
theorem dX1_allHold_43 : decode cX1_allHold 43 = .ok (.iinc 2 1, 3) := by decide +kernel
theorem dX1_allHold_46 : decode cX1_allHold 46 = .ok (.goto (-44), 3) := by decide +kernel
theorem dX1_allHold_49 : decode cX1_allHold 49 = .ok (.iconst 1, 1) := by decide +kernel
theorem dX1_allHold_50 : decode cX1_allHold 50 = .ok (.ireturn, 1) := by decide +kernel
theorem dX2_init_0 : decode cX2_init 0 = .ok (.aload_n 0, 1) := by decide +kernel
theorem dX2_init_1 : decode cX2_init 1 = .ok (.invokespecial 3, 3) := by decide +kernel
theorem dX2_init_4 : decode cX2_init 4 = .ok (.aload_n 0, 1) := by decide +kernel
theorem dX2_init_5 : decode cX2_init 5 = .ok (.bipush 60, 2) := by decide +kernel
theorem dX2_init_7 : decode cX2_init 7 = .ok (.newarray .int, 2) := by decide +kernel
theorem dX2_init_9 : decode cX2_init 9 = .ok (.putfield 9, 3) := by decide +kernel
theorem dX2_init_12 : decode cX2_init 12 = .ok (.aload_n 0, 1) := by decide +kernel
theorem dX2_init_13 : decode cX2_init 13 = .ok (.iconst 0, 1) := by decide +kernel
theorem dX2_init_14 : decode cX2_init 14 = .ok (.putfield 15, 3) := by decide +kernel
theorem dX2_init_17 : decode cX2_init 17 = .ok (.aload_n 0, 1) := by decide +kernel
theorem dX2_init_18 : decode cX2_init 18 = .ok (.iconst 0, 1) := by decide +kernel
theorem dX2_init_19 : decode cX2_init 19 = .ok (.putfield 19, 3) := by decide +kernel
theorem dX2_init_22 : decode cX2_init 22 = .ok (.aload_n 0, 1) := by decide +kernel
theorem dX2_init_23 : decode cX2_init 23 = .ok (.iconst 0, 1) := by decide +kernel
theorem dX2_init_24 : decode cX2_init 24 = .ok (.putfield 23, 3) := by decide +kernel
theorem dX2_init_27 : decode cX2_init 27 = .ok (.return_, 1) := by decide +kernel
theorem dX2_renew_0 : decode cX2_renew 0 = .ok (.aload_n 0, 1) := by decide +kernel
theorem dX2_renew_1 : decode cX2_renew 1 = .ok (.iconst 1, 1) := by decide +kernel
theorem dX2_renew_2 : decode cX2_renew 2 = .ok (.putfield 15, 3) := by decide +kernel
theorem dX2_renew_5 : decode cX2_renew 5 = .ok (.aload_n 0, 1) := by decide +kernel
theorem dX2_renew_6 : decode cX2_renew 6 = .ok (.iload_n 1, 1) := by decide +kernel
theorem dX2_renew_7 : decode cX2_renew 7 = .ok (.putfield 19, 3) := by decide +kernel
theorem dX2_renew_10 : decode cX2_renew 10 = .ok (.aload_n 0, 1) := by decide +kernel
theorem dX2_renew_11 : decode cX2_renew 11 = .ok (.iload_n 2, 1) := by decide +kernel
theorem dX2_renew_12 : decode cX2_renew 12 = .ok (.putfield 23, 3) := by decide +kernel
theorem dX2_renew_15 : decode cX2_renew 15 = .ok (.iconst 0, 1) := by decide +kernel
theorem dX2_renew_16 : decode cX2_renew 16 = .ok (.istore_n 3, 1) := by decide +kernel
theorem dX2_renew_17 : decode cX2_renew 17 = .ok (.iload_n 3, 1) := by decide +kernel
theorem dX2_renew_18 : decode cX2_renew 18 = .ok (.bipush 60, 2) := by decide +kernel
theorem dX2_renew_20 : decode cX2_renew 20 = .ok (.if_icmp .ge 16, 3) := by decide +kernel
theorem dX2_renew_23 : decode cX2_renew 23 = .ok (.aload_n 0, 1) := by decide +kernel
theorem dX2_renew_24 : decode cX2_renew 24 = .ok (.getfield 9, 3) := by decide +kernel
theorem dX2_renew_27 : decode cX2_renew 27 = .ok (.iload_n 3, 1) := by decide +kernel
theorem dX2_renew_28 : decode cX2_renew 28 = .ok (.iconst 0, 1) := by decide +kernel
theorem dX2_renew_29 : decode cX2_renew 29 = .ok (.iastore, 1) := by decide +kernel
theorem dX2_renew_30 : decode cX2_renew 30 = .ok (.iinc 3 1, 3) := by decide +kernel
theorem dX2_renew_33 : decode cX2_renew 33 = .ok (.goto (-16), 3) := by decide +kernel
theorem dX2_renew_36 : decode cX2_renew 36 = .ok (.return_, 1) := by decide +kernel
theorem dX2_faultAs_0 : decode cX2_faultAs 0 = .ok (.aload_n 0, 1) := by decide +kernel
theorem dX2_faultAs_1 : decode cX2_faultAs 1 = .ok (.getfield 15, 3) := by decide +kernel
theorem dX2_faultAs_4 : decode cX2_faultAs 4 = .ok (.ifCond .ne 5, 3) := by decide +kernel
theorem dX2_faultAs_7 : decode cX2_faultAs 7 = .ok (.iconst 1, 1) := by decide +kernel
theorem dX2_faultAs_8 : decode cX2_faultAs 8 = .ok (.ireturn, 1) := by decide +kernel
theorem dX2_faultAs_9 : decode cX2_faultAs 9 = .ok (.aload_n 0, 1) := by decide +kernel
theorem dX2_faultAs_10 : decode cX2_faultAs 10 = .ok (.getfield 19, 3) := by decide +kernel
theorem dX2_faultAs_13 : decode cX2_faultAs 13 = .ok (.iload_n 1, 1) := by decide +kernel
theorem dX2_faultAs_14 : decode cX2_faultAs 14 = .ok (.if_icmp .ne 7, 3) := by decide +kernel
theorem dX2_faultAs_17 : decode cX2_faultAs 17 = .ok (.iconst 0, 1) := by decide +kernel
theorem dX2_faultAs_18 : decode cX2_faultAs 18 = .ok (.goto 4, 3) := by decide +kernel
theorem dX2_faultAs_21 : decode cX2_faultAs 21 = .ok (.iconst 2, 1) := by decide +kernel
theorem dX2_faultAs_22 : decode cX2_faultAs 22 = .ok (.ireturn, 1) := by decide +kernel
theorem dX2_hasRun_0 : decode cX2_hasRun 0 = .ok (.iload_n 1, 1) := by decide +kernel
theorem dX2_hasRun_1 : decode cX2_hasRun 1 = .ok (.ifCond .lt 29, 3) := by decide +kernel
theorem dX2_hasRun_4 : decode cX2_hasRun 4 = .ok (.iload_n 1, 1) := by decide +kernel
theorem dX2_hasRun_5 : decode cX2_hasRun 5 = .ok (.aload_n 0, 1) := by decide +kernel
theorem dX2_hasRun_6 : decode cX2_hasRun 6 = .ok (.getfield 23, 3) := by decide +kernel
theorem dX2_hasRun_9 : decode cX2_hasRun 9 = .ok (.if_icmp .gt 21, 3) := by decide +kernel
theorem dX2_hasRun_12 : decode cX2_hasRun 12 = .ok (.iload_n 2, 1) := by decide +kernel
theorem dX2_hasRun_13 : decode cX2_hasRun 13 = .ok (.ifCond .lt 17, 3) := by decide +kernel
theorem dX2_hasRun_16 : decode cX2_hasRun 16 = .ok (.iload_n 2, 1) := by decide +kernel
theorem dX2_hasRun_17 : decode cX2_hasRun 17 = .ok (.aload_n 0, 1) := by decide +kernel
theorem dX2_hasRun_18 : decode cX2_hasRun 18 = .ok (.getfield 23, 3) := by decide +kernel
theorem dX2_hasRun_21 : decode cX2_hasRun 21 = .ok (.iload_n 1, 1) := by decide +kernel
theorem dX2_hasRun_22 : decode cX2_hasRun 22 = .ok (.isub, 1) := by decide +kernel
theorem dX2_hasRun_23 : decode cX2_hasRun 23 = .ok (.if_icmp .gt 7, 3) := by decide +kernel
theorem dX2_hasRun_26 : decode cX2_hasRun 26 = .ok (.iconst 1, 1) := by decide +kernel
theorem dX2_hasRun_27 : decode cX2_hasRun 27 = .ok (.goto 4, 3) := by decide +kernel
theorem dX2_hasRun_30 : decode cX2_hasRun 30 = .ok (.iconst 0, 1) := by decide +kernel
theorem dX2_hasRun_31 : decode cX2_hasRun 31 = .ok (.ireturn, 1) := by decide +kernel
theorem dX2_cut_0 : decode cX2_cut 0 = .ok (.aload_n 0, 1) := by decide +kernel
theorem dX2_cut_1 : decode cX2_cut 1 = .ok (.getfield 19, 3) := by decide +kernel
theorem dX2_cut_4 : decode cX2_cut 4 = .ok (.ifCond .ne 6, 3) := by decide +kernel
theorem dX2_cut_7 : decode cX2_cut 7 = .ok (.iload_n 1, 1) := by decide +kernel
theorem dX2_cut_8 : decode cX2_cut 8 = .ok (.i2b, 1) := by decide +kernel
theorem dX2_cut_9 : decode cX2_cut 9 = .ok (.ireturn, 1) := by decide +kernel
theorem dX2_cut_10 : decode cX2_cut 10 = .ok (.aload_n 0, 1) := by decide +kernel
theorem dX2_cut_11 : decode cX2_cut 11 = .ok (.getfield 19, 3) := by decide +kernel
theorem dX2_cut_14 : decode cX2_cut 14 = .ok (.iconst 1, 1) := by decide +kernel
theorem dX2_cut_15 : decode cX2_cut 15 = .ok (.if_icmp .ne 8, 3) := by decide +kernel
theorem dX2_cut_18 : decode cX2_cut 18 = .ok (.iload_n 1, 1) := by decide +kernel
theorem dX2_cut_19 : decode cX2_cut 19 = .ok (.i2s, 1) := by decide +kernel
theorem dX2_cut_20 : decode cX2_cut 20 = .ok (.goto 4, 3) := by decide +kernel
theorem dX2_cut_23 : decode cX2_cut 23 = .ok (.iload_n 1, 1) := by decide +kernel
theorem dX2_cut_24 : decode cX2_cut 24 = .ok (.ireturn, 1) := by decide +kernel
theorem dX3_init_0 : decode cX3_init 0 = .ok (.aload_n 0, 1) := by decide +kernel
theorem dX3_init_1 : decode cX3_init 1 = .ok (.invokespecial 3, 3) := by decide +kernel
theorem dX3_init_4 : decode cX3_init 4 = .ok (.aload_n 0, 1) := by decide +kernel
theorem dX3_init_5 : decode cX3_init 5 = .ok (.iconst 3, 1) := by decide +kernel
theorem dX3_init_6 : decode cX3_init 6 = .ok (.newarray .int, 2) := by decide +kernel
theorem dX3_init_8 : decode cX3_init 8 = .ok (.putfield 9, 3) := by decide +kernel
theorem dX3_init_11 : decode cX3_init 11 = .ok (.aload_n 0, 1) := by decide +kernel
theorem dX3_init_12 : decode cX3_init 12 = .ok (.iconst 0, 1) := by decide +kernel
theorem dX3_init_13 : decode cX3_init 13 = .ok (.putfield 15, 3) := by decide +kernel
theorem dX3_init_16 : decode cX3_init 16 = .ok (.aload_n 0, 1) := by decide +kernel
theorem dX3_init_17 : decode cX3_init 17 = .ok (.iconst 0, 1) := by decide +kernel
theorem dX3_init_18 : decode cX3_init 18 = .ok (.putfield 19, 3) := by decide +kernel
theorem dX3_init_21 : decode cX3_init 21 = .ok (.aload_n 0, 1) := by decide +kernel
theorem dX3_init_22 : decode cX3_init 22 = .ok (.iconst 0, 1) := by decide +kernel
theorem dX3_init_23 : decode cX3_init 23 = .ok (.putfield 22, 3) := by decide +kernel
theorem dX3_init_26 : decode cX3_init 26 = .ok (.aload_n 0, 1) := by decide +kernel
theorem dX3_init_27 : decode cX3_init 27 = .ok (.iconst 0, 1) := by decide +kernel
theorem dX3_init_28 : decode cX3_init 28 = .ok (.putfield 25, 3) := by decide +kernel
theorem dX3_init_31 : decode cX3_init 31 = .ok (.return_, 1) := by decide +kernel
theorem dX3_carve_0 : decode cX3_carve 0 = .ok (.aload_n 0, 1) := by decide +kernel
theorem dX3_carve_1 : decode cX3_carve 1 = .ok (.aload_n 1, 1) := by decide +kernel
theorem dX3_carve_2 : decode cX3_carve 2 = .ok (.getfield 29, 3) := by decide +kernel
theorem dX3_carve_5 : decode cX3_carve 5 = .ok (.iload_n 2, 1) := by decide +kernel
theorem dX3_carve_6 : decode cX3_carve 6 = .ok (.iaload, 1) := by decide +kernel
theorem dX3_carve_7 : decode cX3_carve 7 = .ok (.invokestatic 34, 3) := by decide +kernel
theorem dX3_carve_10 : decode cX3_carve 10 = .ok (.putfield 15, 3) := by decide +kernel
theorem dX3_carve_13 : decode cX3_carve 13 = .ok (.iconst 0, 1) := by decide +kernel
theorem dX3_carve_14 : decode cX3_carve 14 = .ok (.istore_n 3, 1) := by decide +kernel
theorem dX3_carve_15 : decode cX3_carve 15 = .ok (.iload_n 3, 1) := by decide +kernel
theorem dX3_carve_16 : decode cX3_carve 16 = .ok (.iconst 3, 1) := by decide +kernel
theorem dX3_carve_17 : decode cX3_carve 17 = .ok (.if_icmp .ge 31, 3) := by decide +kernel
theorem dX3_carve_20 : decode cX3_carve 20 = .ok (.aload_n 0, 1) := by decide +kernel
theorem dX3_carve_21 : decode cX3_carve 21 = .ok (.getfield 9, 3) := by decide +kernel
theorem dX3_carve_24 : decode cX3_carve 24 = .ok (.iload_n 3, 1) := by decide +kernel
theorem dX3_carve_25 : decode cX3_carve 25 = .ok (.bipush 10, 2) := by decide +kernel
theorem dX3_carve_27 : decode cX3_carve 27 = .ok (.aload_n 1, 1) := by decide +kernel
theorem dX3_carve_28 : decode cX3_carve 28 = .ok (.getfield 29, 3) := by decide +kernel
theorem dX3_carve_31 : decode cX3_carve 31 = .ok (.iload_n 2, 1) := by decide +kernel
theorem dX3_carve_32 : decode cX3_carve 32 = .ok (.iconst 1, 1) := by decide +kernel
theorem dX3_carve_33 : decode cX3_carve 33 = .ok (.iadd, 1) := by decide +kernel
theorem dX3_carve_34 : decode cX3_carve 34 = .ok (.iload_n 3, 1) := by decide +kernel
theorem dX3_carve_35 : decode cX3_carve 35 = .ok (.iadd, 1) := by decide +kernel
theorem dX3_carve_36 : decode cX3_carve 36 = .ok (.iaload, 1) := by decide +kernel
theorem dX3_carve_37 : decode cX3_carve 37 = .ok (.bipush 48, 2) := by decide +kernel
theorem dX3_carve_39 : decode cX3_carve 39 = .ok (.isub, 1) := by decide +kernel
theorem dX3_carve_40 : decode cX3_carve 40 = .ok (.imul, 1) := by decide +kernel
theorem dX3_carve_41 : decode cX3_carve 41 = .ok (.iastore, 1) := by decide +kernel
theorem dX3_carve_42 : decode cX3_carve 42 = .ok (.iinc 3 1, 3) := by decide +kernel
theorem dX3_carve_45 : decode cX3_carve 45 = .ok (.goto (-30), 3) := by decide +kernel
theorem dX3_carve_48 : decode cX3_carve 48 = .ok (.aload_n 0, 1) := by decide +kernel
theorem dX3_carve_49 : decode cX3_carve 49 = .ok (.aload_n 1, 1) := by decide +kernel
theorem dX3_carve_50 : decode cX3_carve 50 = .ok (.getfield 29, 3) := by decide +kernel
theorem dX3_carve_53 : decode cX3_carve 53 = .ok (.iload_n 2, 1) := by decide +kernel
theorem dX3_carve_54 : decode cX3_carve 54 = .ok (.iconst 1, 1) := by decide +kernel
theorem dX3_carve_55 : decode cX3_carve 55 = .ok (.iadd, 1) := by decide +kernel
theorem dX3_carve_56 : decode cX3_carve 56 = .ok (.iconst 3, 1) := by decide +kernel
theorem dX3_carve_57 : decode cX3_carve 57 = .ok (.iadd, 1) := by decide +kernel
theorem dX3_carve_58 : decode cX3_carve 58 = .ok (.iaload, 1) := by decide +kernel
theorem dX3_carve_59 : decode cX3_carve 59 = .ok (.bipush 48, 2) := by decide +kernel
theorem dX3_carve_61 : decode cX3_carve 61 = .ok (.isub, 1) := by decide +kernel
theorem dX3_carve_62 : decode cX3_carve 62 = .ok (.putfield 19, 3) := by decide +kernel
theorem dX3_carve_65 : decode cX3_carve 65 = .ok (.aload_n 0, 1) := by decide +kernel
theorem dX3_carve_66 : decode cX3_carve 66 = .ok (.iconst 0, 1) := by decide +kernel
theorem dX3_carve_67 : decode cX3_carve 67 = .ok (.putfield 22, 3) := by decide +kernel
theorem dX3_carve_70 : decode cX3_carve 70 = .ok (.aload_n 0, 1) := by decide +kernel
theorem dX3_carve_71 : decode cX3_carve 71 = .ok (.iconst 0, 1) := by decide +kernel
theorem dX3_carve_72 : decode cX3_carve 72 = .ok (.putfield 25, 3) := by decide +kernel
theorem dX3_carve_75 : decode cX3_carve 75 = .ok (.return_, 1) := by decide +kernel
theorem dX3_allAtFirst_0 : decode cX3_allAtFirst 0 = .ok (.aload_n 0, 1) := by decide +kernel
theorem dX3_allAtFirst_1 : decode cX3_allAtFirst 1 = .ok (.getfield 9, 3) := by decide +kernel
theorem dX3_allAtFirst_4 : decode cX3_allAtFirst 4 = .ok (.iconst 0, 1) := by decide +kernel
theorem dX3_allAtFirst_5 : decode cX3_allAtFirst 5 = .ok (.iaload, 1) := by decide +kernel
theorem dX3_allAtFirst_6 : decode cX3_allAtFirst 6 = .ok (.aload_n 0, 1) := by decide +kernel
theorem dX3_allAtFirst_7 : decode cX3_allAtFirst 7 = .ok (.getfield 9, 3) := by decide +kernel
theorem dX3_allAtFirst_10 : decode cX3_allAtFirst 10 = .ok (.iconst 1, 1) := by decide +kernel
theorem dX3_allAtFirst_11 : decode cX3_allAtFirst 11 = .ok (.iaload, 1) := by decide +kernel
theorem dX3_allAtFirst_12 : decode cX3_allAtFirst 12 = .ok (.iadd, 1) := by decide +kernel
theorem dX3_allAtFirst_13 : decode cX3_allAtFirst 13 = .ok (.aload_n 0, 1) := by decide +kernel
theorem dX3_allAtFirst_14 : decode cX3_allAtFirst 14 = .ok (.getfield 9, 3) := by decide +kernel
theorem dX3_allAtFirst_17 : decode cX3_allAtFirst 17 = .ok (.iconst 2, 1) := by decide +kernel
theorem dX3_allAtFirst_18 : decode cX3_allAtFirst 18 = .ok (.iaload, 1) := by decide +kernel
theorem dX3_allAtFirst_19 : decode cX3_allAtFirst 19 = .ok (.iadd, 1) := by decide +kernel
theorem dX3_allAtFirst_20 : decode cX3_allAtFirst 20 = .ok (.ireturn, 1) := by decide +kernel
theorem dX3_washedOff_0 : decode cX3_washedOff 0 = .ok (.iload_n 2, 1) := by decide +kernel
theorem dX3_washedOff_1 : decode cX3_washedOff 1 = .ok (.istore 6, 2) := by decide +kernel
theorem dX3_washedOff_3 : decode cX3_washedOff 3 = .ok (.iload_n 1, 1) := by decide +kernel
theorem dX3_washedOff_4 : decode cX3_washedOff 4 = .ok (.ifCond .ne 14, 3) := by decide +kernel
theorem dX3_washedOff_7 : decode cX3_washedOff 7 = .ok (.iload_n 3, 1) := by decide +kernel
theorem dX3_washedOff_8 : decode cX3_washedOff 8 = .ok (.iload 4, 2) := by decide +kernel
theorem dX3_washedOff_10 : decode cX3_washedOff 10 = .ok (.if_icmp .ne 8, 3) := by decide +kernel
theorem dX3_washedOff_13 : decode cX3_washedOff 13 = .ok (.iconst 3, 1) := by decide +kernel
theorem dX3_washedOff_14 : decode cX3_washedOff 14 = .ok (.iload_n 2, 1) := by decide +kernel
theorem dX3_washedOff_15 : decode cX3_washedOff 15 = .ok (.imul, 1) := by decide +kernel
theorem dX3_washedOff_16 : decode cX3_washedOff 16 = .ok (.istore 6, 2) := by decide +kernel
theorem dX3_washedOff_18 : decode cX3_washedOff 18 = .ok (.iload_n 1, 1) := by decide +kernel
theorem dX3_washedOff_19 : decode cX3_washedOff 19 = .ok (.iconst 1, 1) := by decide +kernel
theorem dX3_washedOff_20 : decode cX3_washedOff 20 = .ok (.if_icmp .ne 8, 3) := by decide +kernel
theorem dX3_washedOff_23 : decode cX3_washedOff 23 = .ok (.iconst 2, 1) := by decide +kernel
theorem dX3_washedOff_24 : decode cX3_washedOff 24 = .ok (.iload_n 2, 1) := by decide +kernel
theorem dX3_washedOff_25 : decode cX3_washedOff 25 = .ok (.imul, 1) := by decide +kernel
theorem dX3_washedOff_26 : decode cX3_washedOff 26 = .ok (.istore 6, 2) := by decide +kernel
theorem dX3_washedOff_28 : decode cX3_washedOff 28 = .ok (.aload_n 0, 1) := by decide +kernel
theorem dX3_washedOff_29 : decode cX3_washedOff 29 = .ok (.getfield 15, 3) := by decide +kernel
theorem dX3_washedOff_32 : decode cX3_washedOff 32 = .ok (.iconst 2, 1) := by decide +kernel
theorem dX3_washedOff_33 : decode cX3_washedOff 33 = .ok (.if_icmp .ne 9, 3) := by decide +kernel
theorem dX3_washedOff_36 : decode cX3_washedOff 36 = .ok (.iload 6, 2) := by decide +kernel
theorem dX3_washedOff_38 : decode cX3_washedOff 38 = .ok (.iconst 2, 1) := by decide +kernel
theorem dX3_washedOff_39 : decode cX3_washedOff 39 = .ok (.idiv, 1) := by decide +kernel
theorem dX3_washedOff_40 : decode cX3_washedOff 40 = .ok (.istore 6, 2) := by decide +kernel
theorem dX3_washedOff_42 : decode cX3_washedOff 42 = .ok (.iload 5, 2) := by decide +kernel
theorem dX3_washedOff_44 : decode cX3_washedOff 44 = .ok (.iconst 1, 1) := by decide +kernel
theorem dX3_washedOff_45 : decode cX3_washedOff 45 = .ok (.if_icmp .ne 9, 3) := by decide +kernel
theorem dX3_washedOff_48 : decode cX3_washedOff 48 = .ok (.iload 6, 2) := by decide +kernel
theorem dX3_washedOff_50 : decode cX3_washedOff 50 = .ok (.iconst 2, 1) := by decide +kernel
theorem dX3_washedOff_51 : decode cX3_washedOff 51 = .ok (.idiv, 1) := by decide +kernel
theorem dX3_washedOff_52 : decode cX3_washedOff 52 = .ok (.istore 6, 2) := by decide +kernel
theorem dX3_washedOff_54 : decode cX3_washedOff 54 = .ok (.iload 5, 2) := by decide +kernel
theorem dX3_washedOff_56 : decode cX3_washedOff 56 = .ok (.iconst 2, 1) := by decide +kernel
theorem dX3_washedOff_57 : decode cX3_washedOff 57 = .ok (.if_icmp .ne 7, 3) := by decide +kernel
theorem dX3_washedOff_60 : decode cX3_washedOff 60 = .ok (.iconst 0, 1) := by decide +kernel
theorem dX3_washedOff_61 : decode cX3_washedOff 61 = .ok (.goto 5, 3) := by decide +kernel
theorem dX3_washedOff_64 : decode cX3_washedOff 64 = .ok (.iload 6, 2) := by decide +kernel
theorem dX3_washedOff_66 : decode cX3_washedOff 66 = .ok (.ireturn, 1) := by decide +kernel
theorem dX3_lickable_0 : decode cX3_lickable 0 = .ok (.aload_n 0, 1) := by decide +kernel
theorem dX3_lickable_1 : decode cX3_lickable 1 = .ok (.getfield 25, 3) := by decide +kernel
theorem dX3_lickable_4 : decode cX3_lickable 4 = .ok (.ifCond .eq 5, 3) := by decide +kernel
theorem dX3_lickable_7 : decode cX3_lickable 7 = .ok (.iconst 0, 1) := by decide +kernel
theorem dX3_lickable_8 : decode cX3_lickable 8 = .ok (.ireturn, 1) := by decide +kernel
theorem dX3_lickable_9 : decode cX3_lickable 9 = .ok (.aload_n 0, 1) := by decide +kernel
theorem dX3_lickable_10 : decode cX3_lickable 10 = .ok (.getfield 15, 3) := by decide +kernel
theorem dX3_lickable_13 : decode cX3_lickable 13 = .ok (.ifCond .ne 13, 3) := by decide +kernel
theorem dX3_lickable_16 : decode cX3_lickable 16 = .ok (.iload_n 1, 1) := by decide +kernel
theorem dX3_lickable_17 : decode cX3_lickable 17 = .ok (.ifCond .le 7, 3) := by decide +kernel
theorem dX3_lickable_20 : decode cX3_lickable 20 = .ok (.iconst 1, 1) := by decide +kernel
theorem dX3_lickable_21 : decode cX3_lickable 21 = .ok (.goto 4, 3) := by decide +kernel
theorem dX3_lickable_24 : decode cX3_lickable 24 = .ok (.iconst 0, 1) := by decide +kernel
theorem dX3_lickable_25 : decode cX3_lickable 25 = .ok (.ireturn, 1) := by decide +kernel
theorem dX3_lickable_26 : decode cX3_lickable 26 = .ok (.iconst 2, 1) := by decide +kernel
theorem dX3_lickable_27 : decode cX3_lickable 27 = .ok (.iload_n 1, 1) := by decide +kernel
theorem dX3_lickable_28 : decode cX3_lickable 28 = .ok (.imul, 1) := by decide +kernel
theorem dX3_lickable_29 : decode cX3_lickable 29 = .ok (.aload_n 0, 1) := by decide +kernel
theorem dX3_lickable_30 : decode cX3_lickable 30 = .ok (.getfield 9, 3) := by decide +kernel
theorem dX3_lickable_33 : decode cX3_lickable 33 = .ok (.iconst 2, 1) := by decide +kernel
theorem dX3_lickable_34 : decode cX3_lickable 34 = .ok (.iaload, 1) := by decide +kernel
theorem dX3_lickable_35 : decode cX3_lickable 35 = .ok (.if_icmp .le 7, 3) := by decide +kernel
theorem dX3_lickable_38 : decode cX3_lickable 38 = .ok (.iconst 1, 1) := by decide +kernel
theorem dX3_lickable_39 : decode cX3_lickable 39 = .ok (.goto 4, 3) := by decide +kernel
theorem dX3_lickable_42 : decode cX3_lickable 42 = .ok (.iconst 0, 1) := by decide +kernel
theorem dX3_lickable_43 : decode cX3_lickable 43 = .ok (.ireturn, 1) := by decide +kernel
theorem dX4_firstFault_0 : decode cX4_firstFault 0 = .ok (.iconst 0, 1) := by decide +kernel
theorem dX4_firstFault_1 : decode cX4_firstFault 1 = .ok (.istore_n 3, 1) := by decide +kernel
theorem dX4_firstFault_2 : decode cX4_firstFault 2 = .ok (.iload_n 3, 1) := by decide +kernel
theorem dX4_firstFault_3 : decode cX4_firstFault 3 = .ok (.iload_n 2, 1) := by decide +kernel
theorem dX4_firstFault_4 : decode cX4_firstFault 4 = .ok (.if_icmp .ge 26, 3) := by decide +kernel
theorem dX4_firstFault_7 : decode cX4_firstFault 7 = .ok (.iload_n 3, 1) := by decide +kernel
theorem dX4_firstFault_8 : decode cX4_firstFault 8 = .ok (.aload_n 0, 1) := by decide +kernel
theorem dX4_firstFault_9 : decode cX4_firstFault 9 = .ok (.getfield 11, 3) := by decide +kernel
theorem dX4_firstFault_12 : decode cX4_firstFault 12 = .ok (.iload_n 1, 1) := by decide +kernel
theorem dX4_firstFault_13 : decode cX4_firstFault 13 = .ok (.iload_n 3, 1) := by decide +kernel
theorem dX4_firstFault_14 : decode cX4_firstFault 14 = .ok (.iadd, 1) := by decide +kernel
theorem dX4_firstFault_15 : decode cX4_firstFault 15 = .ok (.iaload, 1) := by decide +kernel
theorem dX4_firstFault_16 : decode cX4_firstFault 16 = .ok (.invokestatic 17, 3) := by decide +kernel
theorem dX4_firstFault_19 : decode cX4_firstFault 19 = .ok (.ifCond .ne 5, 3) := by decide +kernel
theorem dX4_firstFault_22 : decode cX4_firstFault 22 = .ok (.iload_n 3, 1) := by decide +kernel
theorem dX4_firstFault_23 : decode cX4_firstFault 23 = .ok (.ireturn, 1) := by decide +kernel
theorem dX4_firstFault_24 : decode cX4_firstFault 24 = .ok (.iinc 3 1, 3) := by decide +kernel
theorem dX4_firstFault_27 : decode cX4_firstFault 27 = .ok (.goto (-25), 3) := by decide +kernel
theorem dX4_firstFault_30 : decode cX4_firstFault 30 = .ok (.iload_n 2, 1) := by decide +kernel
theorem dX4_firstFault_31 : decode cX4_firstFault 31 = .ok (.invokestatic 21, 3) := by decide +kernel
theorem dX4_firstFault_34 : decode cX4_firstFault 34 = .ok (.ifCond .eq 7, 3) := by decide +kernel
theorem dX4_firstFault_37 : decode cX4_firstFault 37 = .ok (.iconst (-1), 1) := by decide +kernel
theorem dX4_firstFault_38 : decode cX4_firstFault 38 = .ok (.goto 4, 3) := by decide +kernel
theorem dX4_firstFault_41 : decode cX4_firstFault 41 = .ok (.iload_n 2, 1) := by decide +kernel
theorem dX4_firstFault_42 : decode cX4_firstFault 42 = .ok (.ireturn, 1) := by decide +kernel
theorem dX4_goesOn_0 : decode cX4_goesOn 0 = .ok (.iload_n 0, 1) := by decide +kernel
theorem dX4_goesOn_1 : decode cX4_goesOn 1 = .ok (.bipush 6, 2) := by decide +kernel
theorem dX4_goesOn_3 : decode cX4_goesOn 3 = .ok (.irem, 1) := by decide +kernel
theorem dX4_goesOn_4 : decode cX4_goesOn 4 = .ok (.tableswitch 87 0 4 #[36, 51, 51, 51, 69], 36) := by decide +kernel
theorem dX4_goesOn_40 : decode cX4_goesOn 40 = .ok (.iload_n 1, 1) := by decide +kernel
theorem dX4_goesOn_41 : decode cX4_goesOn 41 = .ok (.invokestatic 25, 3) := by decide +kernel
theorem dX4_goesOn_44 : decode cX4_goesOn 44 = .ok (.bipush (-9), 2) := by decide +kernel
theorem dX4_goesOn_46 : decode cX4_goesOn 46 = .ok (.if_icmp .eq 7, 3) := by decide +kernel
theorem dX4_goesOn_49 : decode cX4_goesOn 49 = .ok (.iconst 1, 1) := by decide +kernel
theorem dX4_goesOn_50 : decode cX4_goesOn 50 = .ok (.goto 4, 3) := by decide +kernel
theorem dX4_goesOn_53 : decode cX4_goesOn 53 = .ok (.iconst 0, 1) := by decide +kernel
theorem dX4_goesOn_54 : decode cX4_goesOn 54 = .ok (.ireturn, 1) := by decide +kernel
theorem dX4_goesOn_55 : decode cX4_goesOn 55 = .ok (.iload_n 1, 1) := by decide +kernel
theorem dX4_goesOn_56 : decode cX4_goesOn 56 = .ok (.bipush 49, 2) := by decide +kernel
theorem dX4_goesOn_58 : decode cX4_goesOn 58 = .ok (.if_icmp .lt 13, 3) := by decide +kernel
theorem dX4_goesOn_61 : decode cX4_goesOn 61 = .ok (.iload_n 1, 1) := by decide +kernel
theorem dX4_goesOn_62 : decode cX4_goesOn 62 = .ok (.bipush 57, 2) := by decide +kernel
theorem dX4_goesOn_64 : decode cX4_goesOn 64 = .ok (.if_icmp .gt 7, 3) := by decide +kernel
theorem dX4_goesOn_67 : decode cX4_goesOn 67 = .ok (.iconst 1, 1) := by decide +kernel
theorem dX4_goesOn_68 : decode cX4_goesOn 68 = .ok (.goto 4, 3) := by decide +kernel
theorem dX4_goesOn_71 : decode cX4_goesOn 71 = .ok (.iconst 0, 1) := by decide +kernel
theorem dX4_goesOn_72 : decode cX4_goesOn 72 = .ok (.ireturn, 1) := by decide +kernel
theorem dX4_goesOn_73 : decode cX4_goesOn 73 = .ok (.iload_n 1, 1) := by decide +kernel
theorem dX4_goesOn_74 : decode cX4_goesOn 74 = .ok (.bipush 48, 2) := by decide +kernel
theorem dX4_goesOn_76 : decode cX4_goesOn 76 = .ok (.if_icmp .lt 13, 3) := by decide +kernel
theorem dX4_goesOn_79 : decode cX4_goesOn 79 = .ok (.iload_n 1, 1) := by decide +kernel
theorem dX4_goesOn_80 : decode cX4_goesOn 80 = .ok (.bipush 51, 2) := by decide +kernel
theorem dX4_goesOn_82 : decode cX4_goesOn 82 = .ok (.if_icmp .gt 7, 3) := by decide +kernel
theorem dX4_goesOn_85 : decode cX4_goesOn 85 = .ok (.iconst 1, 1) := by decide +kernel
theorem dX4_goesOn_86 : decode cX4_goesOn 86 = .ok (.goto 4, 3) := by decide +kernel
theorem dX4_goesOn_89 : decode cX4_goesOn 89 = .ok (.iconst 0, 1) := by decide +kernel
theorem dX4_goesOn_90 : decode cX4_goesOn 90 = .ok (.ireturn, 1) := by decide +kernel
theorem dX4_goesOn_91 : decode cX4_goesOn 91 = .ok (.iload_n 1, 1) := by decide +kernel
theorem dX4_goesOn_92 : decode cX4_goesOn 92 = .ok (.bipush 59, 2) := by decide +kernel
theorem dX4_goesOn_94 : decode cX4_goesOn 94 = .ok (.if_icmp .ne 13, 3) := by decide +kernel
theorem dX4_goesOn_97 : decode cX4_goesOn 97 = .ok (.iload_n 0, 1) := by decide +kernel
theorem dX4_goesOn_98 : decode cX4_goesOn 98 = .ok (.bipush 41, 2) := by decide +kernel
theorem dX4_goesOn_100 : decode cX4_goesOn 100 = .ok (.if_icmp .ge 7, 3) := by decide +kernel
theorem dX4_goesOn_103 : decode cX4_goesOn 103 = .ok (.iconst 1, 1) := by decide +kernel
theorem dX4_goesOn_104 : decode cX4_goesOn 104 = .ok (.goto 4, 3) := by decide +kernel
theorem dX4_goesOn_107 : decode cX4_goesOn 107 = .ok (.iconst 0, 1) := by decide +kernel
theorem dX4_goesOn_108 : decode cX4_goesOn 108 = .ok (.ireturn, 1) := by decide +kernel
theorem dX4_isWhole_0 : decode cX4_isWhole 0 = .ok (.iload_n 0, 1) := by decide +kernel
theorem dX4_isWhole_1 : decode cX4_isWhole 1 = .ok (.bipush 6, 2) := by decide +kernel
theorem dX4_isWhole_3 : decode cX4_isWhole 3 = .ok (.irem, 1) := by decide +kernel
theorem dX4_isWhole_4 : decode cX4_isWhole 4 = .ok (.iconst 5, 1) := by decide +kernel
theorem dX4_isWhole_5 : decode cX4_isWhole 5 = .ok (.if_icmp .ne 7, 3) := by decide +kernel
theorem dX4_isWhole_8 : decode cX4_isWhole 8 = .ok (.iconst 1, 1) := by decide +kernel
theorem dX4_isWhole_9 : decode cX4_isWhole 9 = .ok (.goto 4, 3) := by decide +kernel
theorem dX4_isWhole_12 : decode cX4_isWhole 12 = .ok (.iconst 0, 1) := by decide +kernel
theorem dX4_isWhole_13 : decode cX4_isWhole 13 = .ok (.ireturn, 1) := by decide +kernel
theorem dX4_kindOf_0 : decode cX4_kindOf 0 = .ok (.iload_n 0, 1) := by decide +kernel
theorem dX4_kindOf_1 : decode cX4_kindOf 1 = .ok (.lookupswitch 41 #[(98, 37), (109, 39), (115, 35)], 35) := by decide +kernel
theorem dX4_kindOf_36 : decode cX4_kindOf 36 = .ok (.iconst 0, 1) := by decide +kernel
theorem dX4_kindOf_37 : decode cX4_kindOf 37 = .ok (.ireturn, 1) := by decide +kernel
theorem dX4_kindOf_38 : decode cX4_kindOf 38 = .ok (.iconst 1, 1) := by decide +kernel
theorem dX4_kindOf_39 : decode cX4_kindOf 39 = .ok (.ireturn, 1) := by decide +kernel
theorem dX4_kindOf_40 : decode cX4_kindOf 40 = .ok (.iconst 2, 1) := by decide +kernel
theorem dX4_kindOf_41 : decode cX4_kindOf 41 = .ok (.ireturn, 1) := by decide +kernel
theorem dX4_kindOf_42 : decode cX4_kindOf 42 = .ok (.bipush (-9), 2) := by decide +kernel
theorem dX4_kindOf_44 : decode cX4_kindOf 44 = .ok (.ireturn, 1) := by decide +kernel
theorem dX5_init_0 : decode cX5_init 0 = .ok (.aload_n 0, 1) := by decide +kernel
theorem dX5_init_1 : decode cX5_init 1 = .ok (.invokespecial 3, 3) := by decide +kernel
theorem dX5_init_4 : decode cX5_init 4 = .ok (.aload_n 0, 1) := by decide +kernel
theorem dX5_init_5 : decode cX5_init 5 = .ok (.bipush 7, 2) := by decide +kernel
theorem dX5_init_7 : decode cX5_init 7 = .ok (.anewarray 9, 3) := by decide +kernel
theorem dX5_init_10 : decode cX5_init 10 = .ok (.putfield 11, 3) := by decide +kernel
theorem dX5_init_13 : decode cX5_init 13 = .ok (.iconst 0, 1) := by decide +kernel
theorem dX5_init_14 : decode cX5_init 14 = .ok (.istore_n 1, 1) := by decide +kernel
theorem dX5_init_15 : decode cX5_init 15 = .ok (.iload_n 1, 1) := by decide +kernel
theorem dX5_init_16 : decode cX5_init 16 = .ok (.bipush 7, 2) := by decide +kernel
theorem dX5_init_18 : decode cX5_init 18 = .ok (.if_icmp .ge 22, 3) := by decide +kernel
theorem dX5_init_21 : decode cX5_init 21 = .ok (.aload_n 0, 1) := by decide +kernel
theorem dX5_init_22 : decode cX5_init 22 = .ok (.getfield 11, 3) := by decide +kernel
theorem dX5_init_25 : decode cX5_init 25 = .ok (.iload_n 1, 1) := by decide +kernel
theorem dX5_init_26 : decode cX5_init 26 = .ok (.new 9, 3) := by decide +kernel
theorem dX5_init_29 : decode cX5_init 29 = .ok (.dup, 1) := by decide +kernel
theorem dX5_init_30 : decode cX5_init 30 = .ok (.invokespecial 17, 3) := by decide +kernel
theorem dX5_init_33 : decode cX5_init 33 = .ok (.aastore, 1) := by decide +kernel
theorem dX5_init_34 : decode cX5_init 34 = .ok (.iinc 1 1, 3) := by decide +kernel
theorem dX5_init_37 : decode cX5_init 37 = .ok (.goto (-22), 3) := by decide +kernel
theorem dX5_init_40 : decode cX5_init 40 = .ok (.aload_n 0, 1) := by decide +kernel
theorem dX5_init_41 : decode cX5_init 41 = .ok (.bipush 60, 2) := by decide +kernel
theorem dX5_init_43 : decode cX5_init 43 = .ok (.newarray .int, 2) := by decide +kernel
theorem dX5_init_45 : decode cX5_init 45 = .ok (.putfield 18, 3) := by decide +kernel
theorem dX5_init_48 : decode cX5_init 48 = .ok (.aload_n 0, 1) := by decide +kernel
theorem dX5_init_49 : decode cX5_init 49 = .ok (.bipush 60, 2) := by decide +kernel
theorem dX5_init_51 : decode cX5_init 51 = .ok (.newarray .int, 2) := by decide +kernel
theorem dX5_init_53 : decode cX5_init 53 = .ok (.putfield 22, 3) := by decide +kernel
theorem dX5_init_56 : decode cX5_init 56 = .ok (.aload_n 0, 1) := by decide +kernel
theorem dX5_init_57 : decode cX5_init 57 = .ok (.sipush 1281, 3) := by decide +kernel
theorem dX5_init_60 : decode cX5_init 60 = .ok (.newarray .int, 2) := by decide +kernel
theorem dX5_init_62 : decode cX5_init 62 = .ok (.putfield 25, 3) := by decide +kernel
theorem dX5_init_65 : decode cX5_init 65 = .ok (.aload_n 0, 1) := by decide +kernel
theorem dX5_init_66 : decode cX5_init 66 = .ok (.sipush 427, 3) := by decide +kernel
theorem dX5_init_69 : decode cX5_init 69 = .ok (.newarray .int, 2) := by decide +kernel
theorem dX5_init_71 : decode cX5_init 71 = .ok (.putfield 28, 3) := by decide +kernel
theorem dX5_init_74 : decode cX5_init 74 = .ok (.aload_n 0, 1) := by decide +kernel
theorem dX5_init_75 : decode cX5_init 75 = .ok (.bipush 60, 2) := by decide +kernel
theorem dX5_init_77 : decode cX5_init 77 = .ok (.newarray .int, 2) := by decide +kernel
theorem dX5_init_79 : decode cX5_init 79 = .ok (.putfield 31, 3) := by decide +kernel
theorem dX5_init_82 : decode cX5_init 82 = .ok (.aload_n 0, 1) := by decide +kernel
theorem dX5_init_83 : decode cX5_init 83 = .ok (.iconst 0, 1) := by decide +kernel
theorem dX5_init_84 : decode cX5_init 84 = .ok (.putfield 34, 3) := by decide +kernel
theorem dX5_init_87 : decode cX5_init 87 = .ok (.aload_n 0, 1) := by decide +kernel
theorem dX5_init_88 : decode cX5_init 88 = .ok (.iconst 0, 1) := by decide +kernel
theorem dX5_init_89 : decode cX5_init 89 = .ok (.putfield 38, 3) := by decide +kernel
theorem dX5_init_92 : decode cX5_init 92 = .ok (.aload_n 0, 1) := by decide +kernel
theorem dX5_init_93 : decode cX5_init 93 = .ok (.iconst 0, 1) := by decide +kernel
theorem dX5_init_94 : decode cX5_init 94 = .ok (.putfield 41, 3) := by decide +kernel
theorem dX5_init_97 : decode cX5_init 97 = .ok (.return_, 1) := by decide +kernel
theorem dX5_settle_0 : decode cX5_settle 0 = .ok (.aload_n 0, 1) := by decide +kernel
theorem dX5_settle_1 : decode cX5_settle 1 = .ok (.iload_n 3, 1) := by decide +kernel
theorem dX5_settle_2 : decode cX5_settle 2 = .ok (.iconst 1, 1) := by decide +kernel
theorem dX5_settle_3 : decode cX5_settle 3 = .ok (.iadd, 1) := by decide +kernel
theorem dX5_settle_4 : decode cX5_settle 4 = .ok (.bipush 6, 2) := by decide +kernel
theorem dX5_settle_6 : decode cX5_settle 6 = .ok (.idiv, 1) := by decide +kernel
theorem dX5_settle_7 : decode cX5_settle 7 = .ok (.putfield 34, 3) := by decide +kernel
theorem dX5_settle_10 : decode cX5_settle 10 = .ok (.iconst 0, 1) := by decide +kernel
theorem dX5_settle_11 : decode cX5_settle 11 = .ok (.istore 4, 2) := by decide +kernel
theorem dX5_settle_13 : decode cX5_settle 13 = .ok (.iload 4, 2) := by decide +kernel
theorem dX5_settle_15 : decode cX5_settle 15 = .ok (.aload_n 0, 1) := by decide +kernel
theorem dX5_settle_16 : decode cX5_settle 16 = .ok (.getfield 34, 3) := by decide +kernel
theorem dX5_settle_19 : decode cX5_settle 19 = .ok (.if_icmp .ge 50, 3) := by decide +kernel
theorem dX5_settle_22 : decode cX5_settle 22 = .ok (.aload_n 0, 1) := by decide +kernel
theorem dX5_settle_23 : decode cX5_settle 23 = .ok (.getfield 11, 3) := by decide +kernel
theorem dX5_settle_26 : decode cX5_settle 26 = .ok (.iload 4, 2) := by decide +kernel
theorem dX5_settle_28 : decode cX5_settle 28 = .ok (.aaload, 1) := by decide +kernel
theorem dX5_settle_29 : decode cX5_settle 29 = .ok (.aload_n 1, 1) := by decide +kernel
theorem dX5_settle_30 : decode cX5_settle 30 = .ok (.iload_n 2, 1) := by decide +kernel
theorem dX5_settle_31 : decode cX5_settle 31 = .ok (.bipush 6, 2) := by decide +kernel
theorem dX5_settle_33 : decode cX5_settle 33 = .ok (.iload 4, 2) := by decide +kernel
theorem dX5_settle_35 : decode cX5_settle 35 = .ok (.imul, 1) := by decide +kernel
theorem dX5_settle_36 : decode cX5_settle 36 = .ok (.iadd, 1) := by decide +kernel
theorem dX5_settle_37 : decode cX5_settle 37 = .ok (.invokevirtual 46, 3) := by decide +kernel
theorem dX5_settle_40 : decode cX5_settle 40 = .ok (.aload_n 0, 1) := by decide +kernel
theorem dX5_settle_41 : decode cX5_settle 41 = .ok (.getfield 11, 3) := by decide +kernel
theorem dX5_settle_44 : decode cX5_settle 44 = .ok (.iload 4, 2) := by decide +kernel
theorem dX5_settle_46 : decode cX5_settle 46 = .ok (.aaload, 1) := by decide +kernel
theorem dX5_settle_47 : decode cX5_settle 47 = .ok (.getfield 50, 3) := by decide +kernel
theorem dX5_settle_50 : decode cX5_settle 50 = .ok (.iconst 0, 1) := by decide +kernel
theorem dX5_settle_51 : decode cX5_settle 51 = .ok (.aload_n 0, 1) := by decide +kernel
theorem dX5_settle_52 : decode cX5_settle 52 = .ok (.getfield 25, 3) := by decide +kernel
theorem dX5_settle_55 : decode cX5_settle 55 = .ok (.iconst 3, 1) := by decide +kernel
theorem dX5_settle_56 : decode cX5_settle 56 = .ok (.iload 4, 2) := by decide +kernel
theorem dX5_settle_58 : decode cX5_settle 58 = .ok (.imul, 1) := by decide +kernel
theorem dX5_settle_59 : decode cX5_settle 59 = .ok (.iconst 3, 1) := by decide +kernel
theorem dX5_settle_60 : decode cX5_settle 60 = .ok (.invokestatic 53, 3) := by decide +kernel
theorem dX5_settle_63 : decode cX5_settle 63 = .ok (.iinc 4 1, 3) := by decide +kernel
theorem dX5_settle_66 : decode cX5_settle 66 = .ok (.goto (-53), 3) := by decide +kernel
theorem dX5_settle_69 : decode cX5_settle 69 = .ok (.iconst 0, 1) := by decide +kernel
theorem dX5_settle_70 : decode cX5_settle 70 = .ok (.istore 4, 2) := by decide +kernel
theorem dX5_settle_72 : decode cX5_settle 72 = .ok (.iload 4, 2) := by decide +kernel
theorem dX5_settle_74 : decode cX5_settle 74 = .ok (.bipush 60, 2) := by decide +kernel
theorem dX5_settle_76 : decode cX5_settle 76 = .ok (.if_icmp .ge 25, 3) := by decide +kernel
theorem dX5_settle_79 : decode cX5_settle 79 = .ok (.aload_n 0, 1) := by decide +kernel
theorem dX5_settle_80 : decode cX5_settle 80 = .ok (.getfield 18, 3) := by decide +kernel
theorem dX5_settle_83 : decode cX5_settle 83 = .ok (.iload 4, 2) := by decide +kernel
theorem dX5_settle_85 : decode cX5_settle 85 = .ok (.iconst 0, 1) := by decide +kernel
theorem dX5_settle_86 : decode cX5_settle 86 = .ok (.iastore, 1) := by decide +kernel
theorem dX5_settle_87 : decode cX5_settle 87 = .ok (.aload_n 0, 1) := by decide +kernel
theorem dX5_settle_88 : decode cX5_settle 88 = .ok (.getfield 22, 3) := by decide +kernel
theorem dX5_settle_91 : decode cX5_settle 91 = .ok (.iload 4, 2) := by decide +kernel
theorem dX5_settle_93 : decode cX5_settle 93 = .ok (.iconst 0, 1) := by decide +kernel
theorem dX5_settle_94 : decode cX5_settle 94 = .ok (.iastore, 1) := by decide +kernel
theorem dX5_settle_95 : decode cX5_settle 95 = .ok (.iinc 4 1, 3) := by decide +kernel
theorem dX5_settle_98 : decode cX5_settle 98 = .ok (.goto (-26), 3) := by decide +kernel
theorem dX5_settle_101 : decode cX5_settle 101 = .ok (.aload_n 0, 1) := by decide +kernel
theorem dX5_settle_102 : decode cX5_settle 102 = .ok (.iconst 0, 1) := by decide +kernel
theorem dX5_settle_103 : decode cX5_settle 103 = .ok (.putfield 38, 3) := by decide +kernel
theorem dX5_settle_106 : decode cX5_settle 106 = .ok (.aload_n 0, 1) := by decide +kernel
theorem dX5_settle_107 : decode cX5_settle 107 = .ok (.iconst 0, 1) := by decide +kernel
theorem dX5_settle_108 : decode cX5_settle 108 = .ok (.putfield 41, 3) := by decide +kernel
theorem dX5_settle_111 : decode cX5_settle 111 = .ok (.return_, 1) := by decide +kernel
theorem dX5_forgetFrom_0 : decode cX5_forgetFrom 0 = .ok (.aload_n 0, 1) := by decide +kernel
theorem dX5_forgetFrom_1 : decode cX5_forgetFrom 1 = .ok (.aload_n 0, 1) := by decide +kernel
theorem dX5_forgetFrom_2 : decode cX5_forgetFrom 2 = .ok (.getfield 41, 3) := by decide +kernel
theorem dX5_forgetFrom_5 : decode cX5_forgetFrom 5 = .ok (.iload_n 1, 1) := by decide +kernel
theorem dX5_forgetFrom_6 : decode cX5_forgetFrom 6 = .ok (.invokestatic 59, 3) := by decide +kernel
theorem dX5_forgetFrom_9 : decode cX5_forgetFrom 9 = .ok (.putfield 41, 3) := by decide +kernel
theorem dX5_forgetFrom_12 : decode cX5_forgetFrom 12 = .ok (.return_, 1) := by decide +kernel
theorem dX5_letRain_0 : decode cX5_letRain 0 = .ok (.aload_n 0, 1) := by decide +kernel
theorem dX5_letRain_1 : decode cX5_letRain 1 = .ok (.getfield 18, 3) := by decide +kernel
theorem dX5_letRain_4 : decode cX5_letRain 4 = .ok (.iload_n 1, 1) := by decide +kernel
theorem dX5_letRain_5 : decode cX5_letRain 5 = .ok (.iload_n 2, 1) := by decide +kernel
theorem dX5_letRain_6 : decode cX5_letRain 6 = .ok (.iastore, 1) := by decide +kernel
theorem dX5_letRain_7 : decode cX5_letRain 7 = .ok (.aload_n 0, 1) := by decide +kernel
theorem dX5_letRain_8 : decode cX5_letRain 8 = .ok (.iload_n 1, 1) := by decide +kernel
theorem dX5_letRain_9 : decode cX5_letRain 9 = .ok (.invokevirtual 65, 3) := by decide +kernel
theorem dX5_letRain_12 : decode cX5_letRain 12 = .ok (.return_, 1) := by decide +kernel
theorem dX5_workOut_0 : decode cX5_workOut 0 = .ok (.aload_n 0, 1) := by decide +kernel
theorem dX5_workOut_1 : decode cX5_workOut 1 = .ok (.getfield 41, 3) := by decide +kernel
theorem dX5_workOut_4 : decode cX5_workOut 4 = .ok (.istore_n 2, 1) := by decide +kernel
theorem dX5_workOut_5 : decode cX5_workOut 5 = .ok (.iload_n 2, 1) := by decide +kernel
theorem dX5_workOut_6 : decode cX5_workOut 6 = .ok (.iload_n 1, 1) := by decide +kernel
theorem dX5_workOut_7 : decode cX5_workOut 7 = .ok (.if_icmp .ge 65, 3) := by decide +kernel
theorem dX5_workOut_10 : decode cX5_workOut 10 = .ok (.aload_n 0, 1) := by decide +kernel
theorem dX5_workOut_11 : decode cX5_workOut 11 = .ok (.getfield 25, 3) := by decide +kernel
theorem dX5_workOut_14 : decode cX5_workOut 14 = .ok (.iload_n 2, 1) := by decide +kernel
theorem dX5_workOut_15 : decode cX5_workOut 15 = .ok (.bipush 21, 2) := by decide +kernel
theorem dX5_workOut_17 : decode cX5_workOut 17 = .ok (.imul, 1) := by decide +kernel
theorem dX5_workOut_18 : decode cX5_workOut 18 = .ok (.aload_n 0, 1) := by decide +kernel
theorem dX5_workOut_19 : decode cX5_workOut 19 = .ok (.getfield 25, 3) := by decide +kernel
theorem dX5_workOut_22 : decode cX5_workOut 22 = .ok (.iload_n 2, 1) := by decide +kernel
theorem dX5_workOut_23 : decode cX5_workOut 23 = .ok (.iconst 1, 1) := by decide +kernel
theorem dX5_workOut_24 : decode cX5_workOut 24 = .ok (.iadd, 1) := by decide +kernel
theorem dX5_workOut_25 : decode cX5_workOut 25 = .ok (.bipush 21, 2) := by decide +kernel
theorem dX5_workOut_27 : decode cX5_workOut 27 = .ok (.imul, 1) := by decide +kernel
theorem dX5_workOut_28 : decode cX5_workOut 28 = .ok (.bipush 21, 2) := by decide +kernel
theorem dX5_workOut_30 : decode cX5_workOut 30 = .ok (.invokestatic 53, 3) := by decide +kernel
theorem dX5_workOut_33 : decode cX5_workOut 33 = .ok (.aload_n 0, 1) := by decide +kernel
theorem dX5_workOut_34 : decode cX5_workOut 34 = .ok (.getfield 28, 3) := by decide +kernel
theorem dX5_workOut_37 : decode cX5_workOut 37 = .ok (.iload_n 2, 1) := by decide +kernel
theorem dX5_workOut_38 : decode cX5_workOut 38 = .ok (.bipush 7, 2) := by decide +kernel
theorem dX5_workOut_40 : decode cX5_workOut 40 = .ok (.imul, 1) := by decide +kernel
theorem dX5_workOut_41 : decode cX5_workOut 41 = .ok (.aload_n 0, 1) := by decide +kernel
theorem dX5_workOut_42 : decode cX5_workOut 42 = .ok (.getfield 28, 3) := by decide +kernel
theorem dX5_workOut_45 : decode cX5_workOut 45 = .ok (.iload_n 2, 1) := by decide +kernel
theorem dX5_workOut_46 : decode cX5_workOut 46 = .ok (.iconst 1, 1) := by decide +kernel
theorem dX5_workOut_47 : decode cX5_workOut 47 = .ok (.iadd, 1) := by decide +kernel
theorem dX5_workOut_48 : decode cX5_workOut 48 = .ok (.bipush 7, 2) := by decide +kernel
theorem dX5_workOut_50 : decode cX5_workOut 50 = .ok (.imul, 1) := by decide +kernel
theorem dX5_workOut_51 : decode cX5_workOut 51 = .ok (.bipush 7, 2) := by decide +kernel
theorem dX5_workOut_53 : decode cX5_workOut 53 = .ok (.invokestatic 53, 3) := by decide +kernel
theorem dX5_workOut_56 : decode cX5_workOut 56 = .ok (.aload_n 0, 1) := by decide +kernel
theorem dX5_workOut_57 : decode cX5_workOut 57 = .ok (.iload_n 2, 1) := by decide +kernel
theorem dX5_workOut_58 : decode cX5_workOut 58 = .ok (.invokevirtual 69, 3) := by decide +kernel
theorem dX5_workOut_61 : decode cX5_workOut 61 = .ok (.aload_n 0, 1) := by decide +kernel
theorem dX5_workOut_62 : decode cX5_workOut 62 = .ok (.iload_n 2, 1) := by decide +kernel
theorem dX5_workOut_63 : decode cX5_workOut 63 = .ok (.invokevirtual 72, 3) := by decide +kernel
theorem dX5_workOut_66 : decode cX5_workOut 66 = .ok (.iinc 2 1, 3) := by decide +kernel
theorem dX5_workOut_69 : decode cX5_workOut 69 = .ok (.goto (-64), 3) := by decide +kernel
theorem dX5_workOut_72 : decode cX5_workOut 72 = .ok (.aload_n 0, 1) := by decide +kernel
theorem dX5_workOut_73 : decode cX5_workOut 73 = .ok (.aload_n 0, 1) := by decide +kernel
theorem dX5_workOut_74 : decode cX5_workOut 74 = .ok (.getfield 41, 3) := by decide +kernel
theorem dX5_workOut_77 : decode cX5_workOut 77 = .ok (.iload_n 1, 1) := by decide +kernel
theorem dX5_workOut_78 : decode cX5_workOut 78 = .ok (.invokestatic 75, 3) := by decide +kernel
theorem dX5_workOut_81 : decode cX5_workOut 81 = .ok (.putfield 41, 3) := by decide +kernel
theorem dX5_workOut_84 : decode cX5_workOut 84 = .ok (.return_, 1) := by decide +kernel
theorem dX5_pour_0 : decode cX5_pour 0 = .ok (.aload_n 0, 1) := by decide +kernel
theorem dX5_pour_1 : decode cX5_pour 1 = .ok (.getfield 18, 3) := by decide +kernel
theorem dX5_pour_4 : decode cX5_pour 4 = .ok (.iload_n 1, 1) := by decide +kernel
theorem dX5_pour_5 : decode cX5_pour 5 = .ok (.iaload, 1) := by decide +kernel
theorem dX5_pour_6 : decode cX5_pour 6 = .ok (.ifCond .ne 4, 3) := by decide +kernel
theorem dX5_pour_9 : decode cX5_pour 9 = .ok (.return_, 1) := by decide +kernel
theorem dX5_pour_10 : decode cX5_pour 10 = .ok (.iconst 0, 1) := by decide +kernel
theorem dX5_pour_11 : decode cX5_pour 11 = .ok (.istore_n 2, 1) := by decide +kernel
theorem dX5_pour_12 : decode cX5_pour 12 = .ok (.iload_n 2, 1) := by decide +kernel
theorem dX5_pour_13 : decode cX5_pour 13 = .ok (.aload_n 0, 1) := by decide +kernel
theorem dX5_pour_14 : decode cX5_pour 14 = .ok (.getfield 34, 3) := by decide +kernel
theorem dX5_pour_17 : decode cX5_pour 17 = .ok (.if_icmp .ge 92, 3) := by decide +kernel
theorem dX5_pour_20 : decode cX5_pour 20 = .ok (.aload_n 0, 1) := by decide +kernel
theorem dX5_pour_21 : decode cX5_pour 21 = .ok (.getfield 11, 3) := by decide +kernel
theorem dX5_pour_24 : decode cX5_pour 24 = .ok (.iload_n 2, 1) := by decide +kernel
theorem dX5_pour_25 : decode cX5_pour 25 = .ok (.aaload, 1) := by decide +kernel
theorem dX5_pour_26 : decode cX5_pour 26 = .ok (.astore_n 3, 1) := by decide +kernel
theorem dX5_pour_27 : decode cX5_pour 27 = .ok (.iconst 0, 1) := by decide +kernel
theorem dX5_pour_28 : decode cX5_pour 28 = .ok (.istore 4, 2) := by decide +kernel
theorem dX5_pour_30 : decode cX5_pour 30 = .ok (.iload 4, 2) := by decide +kernel
theorem dX5_pour_32 : decode cX5_pour 32 = .ok (.iconst 3, 1) := by decide +kernel
theorem dX5_pour_33 : decode cX5_pour 33 = .ok (.if_icmp .ge 70, 3) := by decide +kernel
theorem dX5_pour_36 : decode cX5_pour 36 = .ok (.iload_n 2, 1) := by decide +kernel
theorem dX5_pour_37 : decode cX5_pour 37 = .ok (.iload 4, 2) := by decide +kernel
theorem dX5_pour_39 : decode cX5_pour 39 = .ok (.iload_n 1, 1) := by decide +kernel
theorem dX5_pour_40 : decode cX5_pour 40 = .ok (.iconst 1, 1) := by decide +kernel
theorem dX5_pour_41 : decode cX5_pour 41 = .ok (.iadd, 1) := by decide +kernel
theorem dX5_pour_42 : decode cX5_pour 42 = .ok (.invokestatic 78, 3) := by decide +kernel
theorem dX5_pour_45 : decode cX5_pour 45 = .ok (.istore 5, 2) := by decide +kernel
theorem dX5_pour_47 : decode cX5_pour 47 = .ok (.aload_n 3, 1) := by decide +kernel
theorem dX5_pour_48 : decode cX5_pour 48 = .ok (.iload 4, 2) := by decide +kernel
theorem dX5_pour_50 : decode cX5_pour 50 = .ok (.aload_n 0, 1) := by decide +kernel
theorem dX5_pour_51 : decode cX5_pour 51 = .ok (.getfield 18, 3) := by decide +kernel
theorem dX5_pour_54 : decode cX5_pour 54 = .ok (.iload_n 1, 1) := by decide +kernel
theorem dX5_pour_55 : decode cX5_pour 55 = .ok (.iaload, 1) := by decide +kernel
theorem dX5_pour_56 : decode cX5_pour 56 = .ok (.aload_n 0, 1) := by decide +kernel
theorem dX5_pour_57 : decode cX5_pour 57 = .ok (.getfield 22, 3) := by decide +kernel
theorem dX5_pour_60 : decode cX5_pour 60 = .ok (.iload_n 1, 1) := by decide +kernel
theorem dX5_pour_61 : decode cX5_pour 61 = .ok (.iaload, 1) := by decide +kernel
theorem dX5_pour_62 : decode cX5_pour 62 = .ok (.aload_n 3, 1) := by decide +kernel
theorem dX5_pour_63 : decode cX5_pour 63 = .ok (.getfield 82, 3) := by decide +kernel
theorem dX5_pour_66 : decode cX5_pour 66 = .ok (.aload_n 3, 1) := by decide +kernel
theorem dX5_pour_67 : decode cX5_pour 67 = .ok (.getfield 85, 3) := by decide +kernel
theorem dX5_pour_70 : decode cX5_pour 70 = .ok (.invokevirtual 88, 3) := by decide +kernel
theorem dX5_pour_73 : decode cX5_pour 73 = .ok (.istore 6, 2) := by decide +kernel
theorem dX5_pour_75 : decode cX5_pour 75 = .ok (.aload_n 0, 1) := by decide +kernel
theorem dX5_pour_76 : decode cX5_pour 76 = .ok (.getfield 25, 3) := by decide +kernel
theorem dX5_pour_79 : decode cX5_pour 79 = .ok (.iload 5, 2) := by decide +kernel
theorem dX5_pour_81 : decode cX5_pour 81 = .ok (.dup2, 1) := by decide +kernel
theorem dX5_pour_82 : decode cX5_pour 82 = .ok (.iaload, 1) := by decide +kernel
theorem dX5_pour_83 : decode cX5_pour 83 = .ok (.iload 6, 2) := by decide +kernel
theorem dX5_pour_85 : decode cX5_pour 85 = .ok (.aload_n 0, 1) := by decide +kernel
theorem dX5_pour_86 : decode cX5_pour 86 = .ok (.getfield 25, 3) := by decide +kernel
theorem dX5_pour_89 : decode cX5_pour 89 = .ok (.iload 5, 2) := by decide +kernel
theorem dX5_pour_91 : decode cX5_pour 91 = .ok (.iaload, 1) := by decide +kernel
theorem dX5_pour_92 : decode cX5_pour 92 = .ok (.invokestatic 59, 3) := by decide +kernel
theorem dX5_pour_95 : decode cX5_pour 95 = .ok (.isub, 1) := by decide +kernel
theorem dX5_pour_96 : decode cX5_pour 96 = .ok (.iastore, 1) := by decide +kernel
theorem dX5_pour_97 : decode cX5_pour 97 = .ok (.iinc 4 1, 3) := by decide +kernel
theorem dX5_pour_100 : decode cX5_pour 100 = .ok (.goto (-70), 3) := by decide +kernel
theorem dX5_pour_103 : decode cX5_pour 103 = .ok (.iinc 2 1, 3) := by decide +kernel
theorem dX5_pour_106 : decode cX5_pour 106 = .ok (.goto (-94), 3) := by decide +kernel
theorem dX5_pour_109 : decode cX5_pour 109 = .ok (.return_, 1) := by decide +kernel
theorem dX5_graze_0 : decode cX5_graze 0 = .ok (.aload_n 0, 1) := by decide +kernel
theorem dX5_graze_1 : decode cX5_graze 1 = .ok (.getfield 31, 3) := by decide +kernel
theorem dX5_graze_4 : decode cX5_graze 4 = .ok (.iload_n 1, 1) := by decide +kernel
theorem dX5_graze_5 : decode cX5_graze 5 = .ok (.bipush (-9), 2) := by decide +kernel
theorem dX5_graze_7 : decode cX5_graze 7 = .ok (.iastore, 1) := by decide +kernel
theorem dX5_graze_8 : decode cX5_graze 8 = .ok (.iconst 0, 1) := by decide +kernel
theorem dX5_graze_9 : decode cX5_graze 9 = .ok (.istore_n 2, 1) := by decide +kernel
theorem dX5_graze_10 : decode cX5_graze 10 = .ok (.iload_n 2, 1) := by decide +kernel
theorem dX5_graze_11 : decode cX5_graze 11 = .ok (.aload_n 0, 1) := by decide +kernel
theorem dX5_graze_12 : decode cX5_graze 12 = .ok (.getfield 38, 3) := by decide +kernel
theorem dX5_graze_15 : decode cX5_graze 15 = .ok (.if_icmp .ge 88, 3) := by decide +kernel
theorem dX5_graze_18 : decode cX5_graze 18 = .ok (.aload_n 0, 1) := by decide +kernel
theorem dX5_graze_19 : decode cX5_graze 19 = .ok (.iload_n 1, 1) := by decide +kernel
theorem dX5_graze_20 : decode cX5_graze 20 = .ok (.iconst 1, 1) := by decide +kernel
theorem dX5_graze_21 : decode cX5_graze 21 = .ok (.iadd, 1) := by decide +kernel
theorem dX5_graze_22 : decode cX5_graze 22 = .ok (.invokevirtual 92, 3) := by decide +kernel
theorem dX5_graze_25 : decode cX5_graze 25 = .ok (.istore_n 3, 1) := by decide +kernel
theorem dX5_graze_26 : decode cX5_graze 26 = .ok (.iload_n 2, 1) := by decide +kernel
theorem dX5_graze_27 : decode cX5_graze 27 = .ok (.ifCond .ne 10, 3) := by decide +kernel
theorem dX5_graze_30 : decode cX5_graze 30 = .ok (.aload_n 0, 1) := by decide +kernel
theorem dX5_graze_31 : decode cX5_graze 31 = .ok (.getfield 31, 3) := by decide +kernel
theorem dX5_graze_34 : decode cX5_graze 34 = .ok (.iload_n 1, 1) := by decide +kernel
theorem dX5_graze_35 : decode cX5_graze 35 = .ok (.iload_n 3, 1) := by decide +kernel
theorem dX5_graze_36 : decode cX5_graze 36 = .ok (.iastore, 1) := by decide +kernel
theorem dX5_graze_37 : decode cX5_graze 37 = .ok (.iload_n 3, 1) := by decide +kernel
theorem dX5_graze_38 : decode cX5_graze 38 = .ok (.bipush (-9), 2) := by decide +kernel
theorem dX5_graze_40 : decode cX5_graze 40 = .ok (.if_icmp .ne 4, 3) := by decide +kernel
theorem dX5_graze_43 : decode cX5_graze 43 = .ok (.return_, 1) := by decide +kernel
theorem dX5_graze_44 : decode cX5_graze 44 = .ok (.iload_n 3, 1) := by decide +kernel
theorem dX5_graze_45 : decode cX5_graze 45 = .ok (.iconst 2, 1) := by decide +kernel
theorem dX5_graze_46 : decode cX5_graze 46 = .ok (.iload_n 1, 1) := by decide +kernel
theorem dX5_graze_47 : decode cX5_graze 47 = .ok (.iconst 1, 1) := by decide +kernel
theorem dX5_graze_48 : decode cX5_graze 48 = .ok (.iadd, 1) := by decide +kernel
theorem dX5_graze_49 : decode cX5_graze 49 = .ok (.invokestatic 78, 3) := by decide +kernel
theorem dX5_graze_52 : decode cX5_graze 52 = .ok (.istore 4, 2) := by decide +kernel
theorem dX5_graze_54 : decode cX5_graze 54 = .ok (.iconst 2, 1) := by decide +kernel
theorem dX5_graze_55 : decode cX5_graze 55 = .ok (.aload_n 0, 1) := by decide +kernel
theorem dX5_graze_56 : decode cX5_graze 56 = .ok (.getfield 25, 3) := by decide +kernel
theorem dX5_graze_59 : decode cX5_graze 59 = .ok (.iload 4, 2) := by decide +kernel
theorem dX5_graze_61 : decode cX5_graze 61 = .ok (.iaload, 1) := by decide +kernel
theorem dX5_graze_62 : decode cX5_graze 62 = .ok (.invokestatic 59, 3) := by decide +kernel
theorem dX5_graze_65 : decode cX5_graze 65 = .ok (.istore 5, 2) := by decide +kernel
theorem dX5_graze_67 : decode cX5_graze 67 = .ok (.aload_n 0, 1) := by decide +kernel
theorem dX5_graze_68 : decode cX5_graze 68 = .ok (.getfield 25, 3) := by decide +kernel
theorem dX5_graze_71 : decode cX5_graze 71 = .ok (.iload 4, 2) := by decide +kernel
theorem dX5_graze_73 : decode cX5_graze 73 = .ok (.dup2, 1) := by decide +kernel
theorem dX5_graze_74 : decode cX5_graze 74 = .ok (.iaload, 1) := by decide +kernel
theorem dX5_graze_75 : decode cX5_graze 75 = .ok (.iload 5, 2) := by decide +kernel
theorem dX5_graze_77 : decode cX5_graze 77 = .ok (.isub, 1) := by decide +kernel
theorem dX5_graze_78 : decode cX5_graze 78 = .ok (.iastore, 1) := by decide +kernel
theorem dX5_graze_79 : decode cX5_graze 79 = .ok (.aload_n 0, 1) := by decide +kernel
theorem dX5_graze_80 : decode cX5_graze 80 = .ok (.getfield 28, 3) := by decide +kernel
theorem dX5_graze_83 : decode cX5_graze 83 = .ok (.iload_n 1, 1) := by decide +kernel
theorem dX5_graze_84 : decode cX5_graze 84 = .ok (.iconst 1, 1) := by decide +kernel
theorem dX5_graze_85 : decode cX5_graze 85 = .ok (.iadd, 1) := by decide +kernel
theorem dX5_graze_86 : decode cX5_graze 86 = .ok (.bipush 7, 2) := by decide +kernel
theorem dX5_graze_88 : decode cX5_graze 88 = .ok (.imul, 1) := by decide +kernel
theorem dX5_graze_89 : decode cX5_graze 89 = .ok (.iload_n 3, 1) := by decide +kernel
theorem dX5_graze_90 : decode cX5_graze 90 = .ok (.iadd, 1) := by decide +kernel
theorem dX5_graze_91 : decode cX5_graze 91 = .ok (.dup2, 1) := by decide +kernel
theorem dX5_graze_92 : decode cX5_graze 92 = .ok (.iaload, 1) := by decide +kernel
theorem dX5_graze_93 : decode cX5_graze 93 = .ok (.iload 5, 2) := by decide +kernel
theorem dX5_graze_95 : decode cX5_graze 95 = .ok (.iadd, 1) := by decide +kernel
theorem dX5_graze_96 : decode cX5_graze 96 = .ok (.iastore, 1) := by decide +kernel
theorem dX5_graze_97 : decode cX5_graze 97 = .ok (.iinc 2 1, 3) := by decide +kernel
theorem dX5_graze_100 : decode cX5_graze 100 = .ok (.goto (-90), 3) := by decide +kernel
theorem dX5_graze_103 : decode cX5_graze 103 = .ok (.return_, 1) := by decide +kernel
theorem dX5_likedBest_0 : decode cX5_likedBest 0 = .ok (.bipush (-9), 2) := by decide +kernel
theorem dX5_likedBest_2 : decode cX5_likedBest 2 = .ok (.istore_n 2, 1) := by decide +kernel
theorem dX5_likedBest_3 : decode cX5_likedBest 3 = .ok (.iconst 0, 1) := by decide +kernel
theorem dX5_likedBest_4 : decode cX5_likedBest 4 = .ok (.istore_n 3, 1) := by decide +kernel
theorem dX5_likedBest_5 : decode cX5_likedBest 5 = .ok (.iconst 0, 1) := by decide +kernel
theorem dX5_likedBest_6 : decode cX5_likedBest 6 = .ok (.istore 4, 2) := by decide +kernel
theorem dX5_likedBest_8 : decode cX5_likedBest 8 = .ok (.iload 4, 2) := by decide +kernel
theorem dX5_likedBest_10 : decode cX5_likedBest 10 = .ok (.aload_n 0, 1) := by decide +kernel
theorem dX5_likedBest_11 : decode cX5_likedBest 11 = .ok (.getfield 34, 3) := by decide +kernel
theorem dX5_likedBest_14 : decode cX5_likedBest 14 = .ok (.if_icmp .ge 50, 3) := by decide +kernel
theorem dX5_likedBest_17 : decode cX5_likedBest 17 = .ok (.aload_n 0, 1) := by decide +kernel
theorem dX5_likedBest_18 : decode cX5_likedBest 18 = .ok (.getfield 25, 3) := by decide +kernel
theorem dX5_likedBest_21 : decode cX5_likedBest 21 = .ok (.iload 4, 2) := by decide +kernel
theorem dX5_likedBest_23 : decode cX5_likedBest 23 = .ok (.iconst 2, 1) := by decide +kernel
theorem dX5_likedBest_24 : decode cX5_likedBest 24 = .ok (.iload_n 1, 1) := by decide +kernel
theorem dX5_likedBest_25 : decode cX5_likedBest 25 = .ok (.invokestatic 78, 3) := by decide +kernel
theorem dX5_likedBest_28 : decode cX5_likedBest 28 = .ok (.iaload, 1) := by decide +kernel
theorem dX5_likedBest_29 : decode cX5_likedBest 29 = .ok (.istore 5, 2) := by decide +kernel
theorem dX5_likedBest_31 : decode cX5_likedBest 31 = .ok (.iload 5, 2) := by decide +kernel
theorem dX5_likedBest_33 : decode cX5_likedBest 33 = .ok (.iload_n 3, 1) := by decide +kernel
theorem dX5_likedBest_34 : decode cX5_likedBest 34 = .ok (.if_icmp .le 24, 3) := by decide +kernel
theorem dX5_likedBest_37 : decode cX5_likedBest 37 = .ok (.aload_n 0, 1) := by decide +kernel
theorem dX5_likedBest_38 : decode cX5_likedBest 38 = .ok (.getfield 11, 3) := by decide +kernel
theorem dX5_likedBest_41 : decode cX5_likedBest 41 = .ok (.iload 4, 2) := by decide +kernel
theorem dX5_likedBest_43 : decode cX5_likedBest 43 = .ok (.aaload, 1) := by decide +kernel
theorem dX5_likedBest_44 : decode cX5_likedBest 44 = .ok (.iload 5, 2) := by decide +kernel
theorem dX5_likedBest_46 : decode cX5_likedBest 46 = .ok (.invokevirtual 96, 3) := by decide +kernel
theorem dX5_likedBest_49 : decode cX5_likedBest 49 = .ok (.ifCond .eq 9, 3) := by decide +kernel
theorem dX5_likedBest_52 : decode cX5_likedBest 52 = .ok (.iload 4, 2) := by decide +kernel
theorem dX5_likedBest_54 : decode cX5_likedBest 54 = .ok (.istore_n 2, 1) := by decide +kernel
theorem dX5_likedBest_55 : decode cX5_likedBest 55 = .ok (.iload 5, 2) := by decide +kernel
theorem dX5_likedBest_57 : decode cX5_likedBest 57 = .ok (.istore_n 3, 1) := by decide +kernel
theorem dX5_likedBest_58 : decode cX5_likedBest 58 = .ok (.iinc 4 1, 3) := by decide +kernel
theorem dX5_likedBest_61 : decode cX5_likedBest 61 = .ok (.goto (-53), 3) := by decide +kernel
theorem dX5_likedBest_64 : decode cX5_likedBest 64 = .ok (.iload_n 2, 1) := by decide +kernel
theorem dX5_likedBest_65 : decode cX5_likedBest 65 = .ok (.ireturn, 1) := by decide +kernel
theorem dX5_placeOf_0 : decode cX5_placeOf 0 = .ok (.iload_n 2, 1) := by decide +kernel
theorem dX5_placeOf_1 : decode cX5_placeOf 1 = .ok (.bipush 21, 2) := by decide +kernel
theorem dX5_placeOf_3 : decode cX5_placeOf 3 = .ok (.imul, 1) := by decide +kernel
theorem dX5_placeOf_4 : decode cX5_placeOf 4 = .ok (.iload_n 0, 1) := by decide +kernel
theorem dX5_placeOf_5 : decode cX5_placeOf 5 = .ok (.iconst 3, 1) := by decide +kernel
theorem dX5_placeOf_6 : decode cX5_placeOf 6 = .ok (.imul, 1) := by decide +kernel
theorem dX5_placeOf_7 : decode cX5_placeOf 7 = .ok (.iadd, 1) := by decide +kernel
theorem dX5_placeOf_8 : decode cX5_placeOf 8 = .ok (.iload_n 1, 1) := by decide +kernel
theorem dX5_placeOf_9 : decode cX5_placeOf 9 = .ok (.iadd, 1) := by decide +kernel
theorem dX5_placeOf_10 : decode cX5_placeOf 10 = .ok (.ireturn, 1) := by decide +kernel
theorem dX5_leftOfPart_0 : decode cX5_leftOfPart 0 = .ok (.aload_n 0, 1) := by decide +kernel
theorem dX5_leftOfPart_1 : decode cX5_leftOfPart 1 = .ok (.iload_n 3, 1) := by decide +kernel
theorem dX5_leftOfPart_2 : decode cX5_leftOfPart 2 = .ok (.invokevirtual 100, 3) := by decide +kernel
theorem dX5_leftOfPart_5 : decode cX5_leftOfPart 5 = .ok (.aload_n 0, 1) := by decide +kernel
theorem dX5_leftOfPart_6 : decode cX5_leftOfPart 6 = .ok (.getfield 25, 3) := by decide +kernel
theorem dX5_leftOfPart_9 : decode cX5_leftOfPart 9 = .ok (.iload_n 1, 1) := by decide +kernel
theorem dX5_leftOfPart_10 : decode cX5_leftOfPart 10 = .ok (.iload_n 2, 1) := by decide +kernel
theorem dX5_leftOfPart_11 : decode cX5_leftOfPart 11 = .ok (.iload_n 3, 1) := by decide +kernel
theorem dX5_leftOfPart_12 : decode cX5_leftOfPart 12 = .ok (.invokestatic 78, 3) := by decide +kernel
theorem dX5_leftOfPart_15 : decode cX5_leftOfPart 15 = .ok (.iaload, 1) := by decide +kernel
theorem dX5_leftOfPart_16 : decode cX5_leftOfPart 16 = .ok (.ireturn, 1) := by decide +kernel
theorem dX5_leftOf_0 : decode cX5_leftOf 0 = .ok (.aload_n 0, 1) := by decide +kernel
theorem dX5_leftOf_1 : decode cX5_leftOf 1 = .ok (.iload_n 2, 1) := by decide +kernel
theorem dX5_leftOf_2 : decode cX5_leftOf 2 = .ok (.invokevirtual 100, 3) := by decide +kernel
theorem dX5_leftOf_5 : decode cX5_leftOf 5 = .ok (.aload_n 0, 1) := by decide +kernel
theorem dX5_leftOf_6 : decode cX5_leftOf 6 = .ok (.iload_n 1, 1) := by decide +kernel
theorem dX5_leftOf_7 : decode cX5_leftOf 7 = .ok (.iload_n 2, 1) := by decide +kernel
theorem dX5_leftOf_8 : decode cX5_leftOf 8 = .ok (.invokevirtual 103, 3) := by decide +kernel
theorem dX5_leftOf_11 : decode cX5_leftOf 11 = .ok (.ireturn, 1) := by decide +kernel
theorem dX5_sumOf_0 : decode cX5_sumOf 0 = .ok (.aload_n 0, 1) := by decide +kernel
theorem dX5_sumOf_1 : decode cX5_sumOf 1 = .ok (.getfield 25, 3) := by decide +kernel
theorem dX5_sumOf_4 : decode cX5_sumOf 4 = .ok (.iload_n 1, 1) := by decide +kernel
theorem dX5_sumOf_5 : decode cX5_sumOf 5 = .ok (.iconst 0, 1) := by decide +kernel
theorem dX5_sumOf_6 : decode cX5_sumOf 6 = .ok (.iload_n 2, 1) := by decide +kernel
theorem dX5_sumOf_7 : decode cX5_sumOf 7 = .ok (.invokestatic 78, 3) := by decide +kernel
theorem dX5_sumOf_10 : decode cX5_sumOf 10 = .ok (.iaload, 1) := by decide +kernel
theorem dX5_sumOf_11 : decode cX5_sumOf 11 = .ok (.aload_n 0, 1) := by decide +kernel
theorem dX5_sumOf_12 : decode cX5_sumOf 12 = .ok (.getfield 25, 3) := by decide +kernel
theorem dX5_sumOf_15 : decode cX5_sumOf 15 = .ok (.iload_n 1, 1) := by decide +kernel
theorem dX5_sumOf_16 : decode cX5_sumOf 16 = .ok (.iconst 1, 1) := by decide +kernel
theorem dX5_sumOf_17 : decode cX5_sumOf 17 = .ok (.iload_n 2, 1) := by decide +kernel
theorem dX5_sumOf_18 : decode cX5_sumOf 18 = .ok (.invokestatic 78, 3) := by decide +kernel
theorem dX5_sumOf_21 : decode cX5_sumOf 21 = .ok (.iaload, 1) := by decide +kernel
theorem dX5_sumOf_22 : decode cX5_sumOf 22 = .ok (.iadd, 1) := by decide +kernel
theorem dX5_sumOf_23 : decode cX5_sumOf 23 = .ok (.aload_n 0, 1) := by decide +kernel
theorem dX5_sumOf_24 : decode cX5_sumOf 24 = .ok (.getfield 25, 3) := by decide +kernel
theorem dX5_sumOf_27 : decode cX5_sumOf 27 = .ok (.iload_n 1, 1) := by decide +kernel
theorem dX5_sumOf_28 : decode cX5_sumOf 28 = .ok (.iconst 2, 1) := by decide +kernel
theorem dX5_sumOf_29 : decode cX5_sumOf 29 = .ok (.iload_n 2, 1) := by decide +kernel
theorem dX5_sumOf_30 : decode cX5_sumOf 30 = .ok (.invokestatic 78, 3) := by decide +kernel
theorem dX5_sumOf_33 : decode cX5_sumOf 33 = .ok (.iaload, 1) := by decide +kernel
theorem dX5_sumOf_34 : decode cX5_sumOf 34 = .ok (.iadd, 1) := by decide +kernel
theorem dX5_sumOf_35 : decode cX5_sumOf 35 = .ok (.ireturn, 1) := by decide +kernel
theorem dX5_leftOfAll_0 : decode cX5_leftOfAll 0 = .ok (.iconst 0, 1) := by decide +kernel
theorem dX5_leftOfAll_1 : decode cX5_leftOfAll 1 = .ok (.istore_n 2, 1) := by decide +kernel
theorem dX5_leftOfAll_2 : decode cX5_leftOfAll 2 = .ok (.iconst 0, 1) := by decide +kernel
theorem dX5_leftOfAll_3 : decode cX5_leftOfAll 3 = .ok (.istore_n 3, 1) := by decide +kernel
theorem dX5_leftOfAll_4 : decode cX5_leftOfAll 4 = .ok (.iload_n 3, 1) := by decide +kernel
theorem dX5_leftOfAll_5 : decode cX5_leftOfAll 5 = .ok (.aload_n 0, 1) := by decide +kernel
theorem dX5_leftOfAll_6 : decode cX5_leftOfAll 6 = .ok (.getfield 34, 3) := by decide +kernel
theorem dX5_leftOfAll_9 : decode cX5_leftOfAll 9 = .ok (.if_icmp .ge 18, 3) := by decide +kernel
theorem dX5_leftOfAll_12 : decode cX5_leftOfAll 12 = .ok (.iload_n 2, 1) := by decide +kernel
theorem dX5_leftOfAll_13 : decode cX5_leftOfAll 13 = .ok (.aload_n 0, 1) := by decide +kernel
theorem dX5_leftOfAll_14 : decode cX5_leftOfAll 14 = .ok (.iload_n 3, 1) := by decide +kernel
theorem dX5_leftOfAll_15 : decode cX5_leftOfAll 15 = .ok (.iload_n 1, 1) := by decide +kernel
theorem dX5_leftOfAll_16 : decode cX5_leftOfAll 16 = .ok (.invokevirtual 106, 3) := by decide +kernel
theorem dX5_leftOfAll_19 : decode cX5_leftOfAll 19 = .ok (.iadd, 1) := by decide +kernel
theorem dX5_leftOfAll_20 : decode cX5_leftOfAll 20 = .ok (.istore_n 2, 1) := by decide +kernel
theorem dX5_leftOfAll_21 : decode cX5_leftOfAll 21 = .ok (.iinc 3 1, 3) := by decide +kernel
theorem dX5_leftOfAll_24 : decode cX5_leftOfAll 24 = .ok (.goto (-20), 3) := by decide +kernel
theorem dX5_leftOfAll_27 : decode cX5_leftOfAll 27 = .ok (.iload_n 2, 1) := by decide +kernel
theorem dX5_leftOfAll_28 : decode cX5_leftOfAll 28 = .ok (.ireturn, 1) := by decide +kernel
theorem dX5_lickedOff_0 : decode cX5_lickedOff 0 = .ok (.aload_n 0, 1) := by decide +kernel
theorem dX5_lickedOff_1 : decode cX5_lickedOff 1 = .ok (.iload_n 2, 1) := by decide +kernel
theorem dX5_lickedOff_2 : decode cX5_lickedOff 2 = .ok (.invokevirtual 100, 3) := by decide +kernel
theorem dX5_lickedOff_5 : decode cX5_lickedOff 5 = .ok (.aload_n 0, 1) := by decide +kernel
theorem dX5_lickedOff_6 : decode cX5_lickedOff 6 = .ok (.getfield 28, 3) := by decide +kernel
theorem dX5_lickedOff_9 : decode cX5_lickedOff 9 = .ok (.iload_n 2, 1) := by decide +kernel
theorem dX5_lickedOff_10 : decode cX5_lickedOff 10 = .ok (.bipush 7, 2) := by decide +kernel
theorem dX5_lickedOff_12 : decode cX5_lickedOff 12 = .ok (.imul, 1) := by decide +kernel
theorem dX5_lickedOff_13 : decode cX5_lickedOff 13 = .ok (.iload_n 1, 1) := by decide +kernel
theorem dX5_lickedOff_14 : decode cX5_lickedOff 14 = .ok (.iadd, 1) := by decide +kernel
theorem dX5_lickedOff_15 : decode cX5_lickedOff 15 = .ok (.iaload, 1) := by decide +kernel
theorem dX5_lickedOff_16 : decode cX5_lickedOff 16 = .ok (.ireturn, 1) := by decide +kernel
theorem dX5_inPuddle_0 : decode cX5_inPuddle 0 = .ok (.aload_n 0, 1) := by decide +kernel
theorem dX5_inPuddle_1 : decode cX5_inPuddle 1 = .ok (.getfield 11, 3) := by decide +kernel
theorem dX5_inPuddle_4 : decode cX5_inPuddle 4 = .ok (.iload_n 1, 1) := by decide +kernel
theorem dX5_inPuddle_5 : decode cX5_inPuddle 5 = .ok (.aaload, 1) := by decide +kernel
theorem dX5_inPuddle_6 : decode cX5_inPuddle 6 = .ok (.invokevirtual 109, 3) := by decide +kernel
theorem dX5_inPuddle_9 : decode cX5_inPuddle 9 = .ok (.aload_n 0, 1) := by decide +kernel
theorem dX5_inPuddle_10 : decode cX5_inPuddle 10 = .ok (.iload_n 1, 1) := by decide +kernel
theorem dX5_inPuddle_11 : decode cX5_inPuddle 11 = .ok (.iload_n 2, 1) := by decide +kernel
theorem dX5_inPuddle_12 : decode cX5_inPuddle 12 = .ok (.invokevirtual 106, 3) := by decide +kernel
theorem dX5_inPuddle_15 : decode cX5_inPuddle 15 = .ok (.isub, 1) := by decide +kernel
theorem dX5_inPuddle_16 : decode cX5_inPuddle 16 = .ok (.aload_n 0, 1) := by decide +kernel
theorem dX5_inPuddle_17 : decode cX5_inPuddle 17 = .ok (.iload_n 1, 1) := by decide +kernel
theorem dX5_inPuddle_18 : decode cX5_inPuddle 18 = .ok (.iload_n 2, 1) := by decide +kernel
theorem dX5_inPuddle_19 : decode cX5_inPuddle 19 = .ok (.invokevirtual 113, 3) := by decide +kernel
theorem dX5_inPuddle_22 : decode cX5_inPuddle 22 = .ok (.isub, 1) := by decide +kernel
theorem dX5_inPuddle_23 : decode cX5_inPuddle 23 = .ok (.ireturn, 1) := by decide +kernel
theorem dX5_dawnWithoutPart_0 : decode cX5_dawnWithoutPart 0 = .ok (.aload_n 0, 1) := by decide +kernel
theorem dX5_dawnWithoutPart_1 : decode cX5_dawnWithoutPart 1 = .ok (.bipush 60, 2) := by decide +kernel
theorem dX5_dawnWithoutPart_3 : decode cX5_dawnWithoutPart 3 = .ok (.invokevirtual 100, 3) := by decide +kernel
theorem dX5_dawnWithoutPart_6 : decode cX5_dawnWithoutPart 6 = .ok (.iconst 0, 1) := by decide +kernel
theorem dX5_dawnWithoutPart_7 : decode cX5_dawnWithoutPart 7 = .ok (.istore_n 3, 1) := by decide +kernel
theorem dX5_dawnWithoutPart_8 : decode cX5_dawnWithoutPart 8 = .ok (.iload_n 3, 1) := by decide +kernel
theorem dX5_dawnWithoutPart_9 : decode cX5_dawnWithoutPart 9 = .ok (.bipush 60, 2) := by decide +kernel
theorem dX5_dawnWithoutPart_11 : decode cX5_dawnWithoutPart 11 = .ok (.if_icmp .gt 25, 3) := by decide +kernel
theorem dX5_dawnWithoutPart_14 : decode cX5_dawnWithoutPart 14 = .ok (.aload_n 0, 1) := by decide +kernel
theorem dX5_dawnWithoutPart_15 : decode cX5_dawnWithoutPart 15 = .ok (.getfield 25, 3) := by decide +kernel
theorem dX5_dawnWithoutPart_18 : decode cX5_dawnWithoutPart 18 = .ok (.iload_n 1, 1) := by decide +kernel
theorem dX5_dawnWithoutPart_19 : decode cX5_dawnWithoutPart 19 = .ok (.iload_n 2, 1) := by decide +kernel
theorem dX5_dawnWithoutPart_20 : decode cX5_dawnWithoutPart 20 = .ok (.iload_n 3, 1) := by decide +kernel
theorem dX5_dawnWithoutPart_21 : decode cX5_dawnWithoutPart 21 = .ok (.invokestatic 78, 3) := by decide +kernel
theorem dX5_dawnWithoutPart_24 : decode cX5_dawnWithoutPart 24 = .ok (.iaload, 1) := by decide +kernel
theorem dX5_dawnWithoutPart_25 : decode cX5_dawnWithoutPart 25 = .ok (.ifCond .ne 5, 3) := by decide +kernel
theorem dX5_dawnWithoutPart_28 : decode cX5_dawnWithoutPart 28 = .ok (.iload_n 3, 1) := by decide +kernel
theorem dX5_dawnWithoutPart_29 : decode cX5_dawnWithoutPart 29 = .ok (.ireturn, 1) := by decide +kernel
theorem dX5_dawnWithoutPart_30 : decode cX5_dawnWithoutPart 30 = .ok (.iinc 3 1, 3) := by decide +kernel
theorem dX5_dawnWithoutPart_33 : decode cX5_dawnWithoutPart 33 = .ok (.goto (-25), 3) := by decide +kernel
theorem dX5_dawnWithoutPart_36 : decode cX5_dawnWithoutPart 36 = .ok (.bipush 61, 2) := by decide +kernel
theorem dX5_dawnWithoutPart_38 : decode cX5_dawnWithoutPart 38 = .ok (.ireturn, 1) := by decide +kernel
theorem dX5_dawnWithoutAny_0 : decode cX5_dawnWithoutAny 0 = .ok (.aload_n 0, 1) := by decide +kernel
theorem dX5_dawnWithoutAny_1 : decode cX5_dawnWithoutAny 1 = .ok (.bipush 60, 2) := by decide +kernel
theorem dX5_dawnWithoutAny_3 : decode cX5_dawnWithoutAny 3 = .ok (.invokevirtual 100, 3) := by decide +kernel
theorem dX5_dawnWithoutAny_6 : decode cX5_dawnWithoutAny 6 = .ok (.iconst 0, 1) := by decide +kernel
theorem dX5_dawnWithoutAny_7 : decode cX5_dawnWithoutAny 7 = .ok (.istore_n 2, 1) := by decide +kernel
theorem dX5_dawnWithoutAny_8 : decode cX5_dawnWithoutAny 8 = .ok (.iload_n 2, 1) := by decide +kernel
theorem dX5_dawnWithoutAny_9 : decode cX5_dawnWithoutAny 9 = .ok (.bipush 60, 2) := by decide +kernel
theorem dX5_dawnWithoutAny_11 : decode cX5_dawnWithoutAny 11 = .ok (.if_icmp .gt 20, 3) := by decide +kernel
theorem dX5_dawnWithoutAny_14 : decode cX5_dawnWithoutAny 14 = .ok (.aload_n 0, 1) := by decide +kernel
theorem dX5_dawnWithoutAny_15 : decode cX5_dawnWithoutAny 15 = .ok (.iload_n 1, 1) := by decide +kernel
theorem dX5_dawnWithoutAny_16 : decode cX5_dawnWithoutAny 16 = .ok (.iload_n 2, 1) := by decide +kernel
theorem dX5_dawnWithoutAny_17 : decode cX5_dawnWithoutAny 17 = .ok (.invokevirtual 103, 3) := by decide +kernel
theorem dX5_dawnWithoutAny_20 : decode cX5_dawnWithoutAny 20 = .ok (.ifCond .ne 5, 3) := by decide +kernel
theorem dX5_dawnWithoutAny_23 : decode cX5_dawnWithoutAny 23 = .ok (.iload_n 2, 1) := by decide +kernel
theorem dX5_dawnWithoutAny_24 : decode cX5_dawnWithoutAny 24 = .ok (.ireturn, 1) := by decide +kernel
theorem dX5_dawnWithoutAny_25 : decode cX5_dawnWithoutAny 25 = .ok (.iinc 2 1, 3) := by decide +kernel
theorem dX5_dawnWithoutAny_28 : decode cX5_dawnWithoutAny 28 = .ok (.goto (-20), 3) := by decide +kernel
theorem dX5_dawnWithoutAny_31 : decode cX5_dawnWithoutAny 31 = .ok (.bipush 61, 2) := by decide +kernel
theorem dX5_dawnWithoutAny_33 : decode cX5_dawnWithoutAny 33 = .ok (.ireturn, 1) := by decide +kernel
theorem dX5_likedFirst_0 : decode cX5_likedFirst 0 = .ok (.aload_n 0, 1) := by decide +kernel
theorem dX5_likedFirst_1 : decode cX5_likedFirst 1 = .ok (.iload_n 1, 1) := by decide +kernel
theorem dX5_likedFirst_2 : decode cX5_likedFirst 2 = .ok (.iconst 1, 1) := by decide +kernel
theorem dX5_likedFirst_3 : decode cX5_likedFirst 3 = .ok (.iadd, 1) := by decide +kernel
theorem dX5_likedFirst_4 : decode cX5_likedFirst 4 = .ok (.invokevirtual 100, 3) := by decide +kernel
theorem dX5_likedFirst_7 : decode cX5_likedFirst 7 = .ok (.aload_n 0, 1) := by decide +kernel
theorem dX5_likedFirst_8 : decode cX5_likedFirst 8 = .ok (.getfield 31, 3) := by decide +kernel
theorem dX5_likedFirst_11 : decode cX5_likedFirst 11 = .ok (.iload_n 1, 1) := by decide +kernel
theorem dX5_likedFirst_12 : decode cX5_likedFirst 12 = .ok (.iaload, 1) := by decide +kernel
theorem dX5_likedFirst_13 : decode cX5_likedFirst 13 = .ok (.ireturn, 1) := by decide +kernel
theorem dX5_longestLasting_0 : decode cX5_longestLasting 0 = .ok (.iconst 0, 1) := by decide +kernel
theorem dX5_longestLasting_1 : decode cX5_longestLasting 1 = .ok (.istore_n 1, 1) := by decide +kernel
theorem dX5_longestLasting_2 : decode cX5_longestLasting 2 = .ok (.iconst 0, 1) := by decide +kernel
theorem dX5_longestLasting_3 : decode cX5_longestLasting 3 = .ok (.istore_n 2, 1) := by decide +kernel
theorem dX5_longestLasting_4 : decode cX5_longestLasting 4 = .ok (.iconst 0, 1) := by decide +kernel
theorem dX5_longestLasting_5 : decode cX5_longestLasting 5 = .ok (.istore_n 3, 1) := by decide +kernel
theorem dX5_longestLasting_6 : decode cX5_longestLasting 6 = .ok (.iload_n 3, 1) := by decide +kernel
theorem dX5_longestLasting_7 : decode cX5_longestLasting 7 = .ok (.aload_n 0, 1) := by decide +kernel
theorem dX5_longestLasting_8 : decode cX5_longestLasting 8 = .ok (.getfield 34, 3) := by decide +kernel
theorem dX5_longestLasting_11 : decode cX5_longestLasting 11 = .ok (.if_icmp .ge 27, 3) := by decide +kernel
theorem dX5_longestLasting_14 : decode cX5_longestLasting 14 = .ok (.aload_n 0, 1) := by decide +kernel
theorem dX5_longestLasting_15 : decode cX5_longestLasting 15 = .ok (.iload_n 3, 1) := by decide +kernel
theorem dX5_longestLasting_16 : decode cX5_longestLasting 16 = .ok (.invokevirtual 116, 3) := by decide +kernel
theorem dX5_longestLasting_19 : decode cX5_longestLasting 19 = .ok (.istore 4, 2) := by decide +kernel
theorem dX5_longestLasting_21 : decode cX5_longestLasting 21 = .ok (.iload 4, 2) := by decide +kernel
theorem dX5_longestLasting_23 : decode cX5_longestLasting 23 = .ok (.iload_n 2, 1) := by decide +kernel
theorem dX5_longestLasting_24 : decode cX5_longestLasting 24 = .ok (.if_icmp .le 8, 3) := by decide +kernel
theorem dX5_longestLasting_27 : decode cX5_longestLasting 27 = .ok (.iload_n 3, 1) := by decide +kernel
theorem dX5_longestLasting_28 : decode cX5_longestLasting 28 = .ok (.istore_n 1, 1) := by decide +kernel
theorem dX5_longestLasting_29 : decode cX5_longestLasting 29 = .ok (.iload 4, 2) := by decide +kernel
theorem dX5_longestLasting_31 : decode cX5_longestLasting 31 = .ok (.istore_n 2, 1) := by decide +kernel
theorem dX5_longestLasting_32 : decode cX5_longestLasting 32 = .ok (.iinc 3 1, 3) := by decide +kernel
theorem dX5_longestLasting_35 : decode cX5_longestLasting 35 = .ok (.goto (-29), 3) := by decide +kernel
theorem dX5_longestLasting_38 : decode cX5_longestLasting 38 = .ok (.iload_n 1, 1) := by decide +kernel
theorem dX5_longestLasting_39 : decode cX5_longestLasting 39 = .ok (.ireturn, 1) := by decide +kernel
theorem dX5_apart_0 : decode cX5_apart 0 = .ok (.aload_n 0, 1) := by decide +kernel
theorem dX5_apart_1 : decode cX5_apart 1 = .ok (.iload 4, 2) := by decide +kernel
theorem dX5_apart_3 : decode cX5_apart 3 = .ok (.invokevirtual 100, 3) := by decide +kernel
theorem dX5_apart_6 : decode cX5_apart 6 = .ok (.iconst 0, 1) := by decide +kernel
theorem dX5_apart_7 : decode cX5_apart 7 = .ok (.istore 5, 2) := by decide +kernel
theorem dX5_apart_9 : decode cX5_apart 9 = .ok (.iconst 0, 1) := by decide +kernel
theorem dX5_apart_10 : decode cX5_apart 10 = .ok (.istore 6, 2) := by decide +kernel
theorem dX5_apart_12 : decode cX5_apart 12 = .ok (.iload 6, 2) := by decide +kernel
theorem dX5_apart_14 : decode cX5_apart 14 = .ok (.iconst 3, 1) := by decide +kernel
theorem dX5_apart_15 : decode cX5_apart 15 = .ok (.if_icmp .ge 40, 3) := by decide +kernel
theorem dX5_apart_18 : decode cX5_apart 18 = .ok (.iload 5, 2) := by decide +kernel
theorem dX5_apart_20 : decode cX5_apart 20 = .ok (.aload_n 0, 1) := by decide +kernel
theorem dX5_apart_21 : decode cX5_apart 21 = .ok (.getfield 25, 3) := by decide +kernel
theorem dX5_apart_24 : decode cX5_apart 24 = .ok (.iload_n 1, 1) := by decide +kernel
theorem dX5_apart_25 : decode cX5_apart 25 = .ok (.iload 6, 2) := by decide +kernel
theorem dX5_apart_27 : decode cX5_apart 27 = .ok (.iload 4, 2) := by decide +kernel
theorem dX5_apart_29 : decode cX5_apart 29 = .ok (.invokestatic 78, 3) := by decide +kernel
theorem dX5_apart_32 : decode cX5_apart 32 = .ok (.iaload, 1) := by decide +kernel
theorem dX5_apart_33 : decode cX5_apart 33 = .ok (.aload_n 2, 1) := by decide +kernel
theorem dX5_apart_34 : decode cX5_apart 34 = .ok (.getfield 119, 3) := by decide +kernel
theorem dX5_apart_37 : decode cX5_apart 37 = .ok (.iload_n 3, 1) := by decide +kernel
theorem dX5_apart_38 : decode cX5_apart 38 = .ok (.iload 6, 2) := by decide +kernel
theorem dX5_apart_40 : decode cX5_apart 40 = .ok (.iadd, 1) := by decide +kernel
theorem dX5_apart_41 : decode cX5_apart 41 = .ok (.iaload, 1) := by decide +kernel
theorem dX5_apart_42 : decode cX5_apart 42 = .ok (.isub, 1) := by decide +kernel
theorem dX5_apart_43 : decode cX5_apart 43 = .ok (.invokestatic 124, 3) := by decide +kernel
theorem dX5_apart_46 : decode cX5_apart 46 = .ok (.iadd, 1) := by decide +kernel
theorem dX5_apart_47 : decode cX5_apart 47 = .ok (.istore 5, 2) := by decide +kernel
theorem dX5_apart_49 : decode cX5_apart 49 = .ok (.iinc 6 1, 3) := by decide +kernel
theorem dX5_apart_52 : decode cX5_apart 52 = .ok (.goto (-40), 3) := by decide +kernel
theorem dX5_apart_55 : decode cX5_apart 55 = .ok (.iload 5, 2) := by decide +kernel
theorem dX5_apart_57 : decode cX5_apart 57 = .ok (.ireturn, 1) := by decide +kernel
theorem dX5_nearest_0 : decode cX5_nearest 0 = .ok (.iconst 0, 1) := by decide +kernel
theorem dX5_nearest_1 : decode cX5_nearest 1 = .ok (.istore 4, 2) := by decide +kernel
theorem dX5_nearest_3 : decode cX5_nearest 3 = .ok (.iconst 1, 1) := by decide +kernel
theorem dX5_nearest_4 : decode cX5_nearest 4 = .ok (.istore 5, 2) := by decide +kernel
theorem dX5_nearest_6 : decode cX5_nearest 6 = .ok (.iload 5, 2) := by decide +kernel
theorem dX5_nearest_8 : decode cX5_nearest 8 = .ok (.aload_n 0, 1) := by decide +kernel
theorem dX5_nearest_9 : decode cX5_nearest 9 = .ok (.getfield 34, 3) := by decide +kernel
theorem dX5_nearest_12 : decode cX5_nearest 12 = .ok (.if_icmp .ge 34, 3) := by decide +kernel
theorem dX5_nearest_15 : decode cX5_nearest 15 = .ok (.aload_n 0, 1) := by decide +kernel
theorem dX5_nearest_16 : decode cX5_nearest 16 = .ok (.iload 5, 2) := by decide +kernel
theorem dX5_nearest_18 : decode cX5_nearest 18 = .ok (.aload_n 1, 1) := by decide +kernel
theorem dX5_nearest_19 : decode cX5_nearest 19 = .ok (.iload_n 2, 1) := by decide +kernel
theorem dX5_nearest_20 : decode cX5_nearest 20 = .ok (.iload_n 3, 1) := by decide +kernel
theorem dX5_nearest_21 : decode cX5_nearest 21 = .ok (.invokevirtual 127, 3) := by decide +kernel
theorem dX5_nearest_24 : decode cX5_nearest 24 = .ok (.aload_n 0, 1) := by decide +kernel
theorem dX5_nearest_25 : decode cX5_nearest 25 = .ok (.iload 4, 2) := by decide +kernel
theorem dX5_nearest_27 : decode cX5_nearest 27 = .ok (.aload_n 1, 1) := by decide +kernel
theorem dX5_nearest_28 : decode cX5_nearest 28 = .ok (.iload_n 2, 1) := by decide +kernel
theorem dX5_nearest_29 : decode cX5_nearest 29 = .ok (.iload_n 3, 1) := by decide +kernel
theorem dX5_nearest_30 : decode cX5_nearest 30 = .ok (.invokevirtual 127, 3) := by decide +kernel
theorem dX5_nearest_33 : decode cX5_nearest 33 = .ok (.if_icmp .ge 7, 3) := by decide +kernel
theorem dX5_nearest_36 : decode cX5_nearest 36 = .ok (.iload 5, 2) := by decide +kernel
theorem dX5_nearest_38 : decode cX5_nearest 38 = .ok (.istore 4, 2) := by decide +kernel
theorem dX5_nearest_40 : decode cX5_nearest 40 = .ok (.iinc 5 1, 3) := by decide +kernel
theorem dX5_nearest_43 : decode cX5_nearest 43 = .ok (.goto (-37), 3) := by decide +kernel
theorem dX5_nearest_46 : decode cX5_nearest 46 = .ok (.iload 4, 2) := by decide +kernel
theorem dX5_nearest_48 : decode cX5_nearest 48 = .ok (.ireturn, 1) := by decide +kernel
theorem dJ6_bitCount_0f7a4_0 : decode cJ6_bitCount_0f7a4 0 = .ok (.iload_n 0, 1) := by decide +kernel
theorem dJ6_bitCount_0f7a4_1 : decode cJ6_bitCount_0f7a4 1 = .ok (.iload_n 0, 1) := by decide +kernel
theorem dJ6_bitCount_0f7a4_2 : decode cJ6_bitCount_0f7a4 2 = .ok (.iconst 1, 1) := by decide +kernel
theorem dJ6_bitCount_0f7a4_3 : decode cJ6_bitCount_0f7a4 3 = .ok (.iushr, 1) := by decide +kernel
theorem dJ6_bitCount_0f7a4_4 : decode cJ6_bitCount_0f7a4 4 = .ok (.ldc_w 265, 3) := by decide +kernel
theorem dJ6_bitCount_0f7a4_7 : decode cJ6_bitCount_0f7a4 7 = .ok (.iand, 1) := by decide +kernel
theorem dJ6_bitCount_0f7a4_8 : decode cJ6_bitCount_0f7a4 8 = .ok (.isub, 1) := by decide +kernel
theorem dJ6_bitCount_0f7a4_9 : decode cJ6_bitCount_0f7a4 9 = .ok (.istore_n 0, 1) := by decide +kernel
theorem dJ6_bitCount_0f7a4_10 : decode cJ6_bitCount_0f7a4 10 = .ok (.iload_n 0, 1) := by decide +kernel
theorem dJ6_bitCount_0f7a4_11 : decode cJ6_bitCount_0f7a4 11 = .ok (.ldc_w 266, 3) := by decide +kernel
theorem dJ6_bitCount_0f7a4_14 : decode cJ6_bitCount_0f7a4 14 = .ok (.iand, 1) := by decide +kernel
theorem dJ6_bitCount_0f7a4_15 : decode cJ6_bitCount_0f7a4 15 = .ok (.iload_n 0, 1) := by decide +kernel
theorem dJ6_bitCount_0f7a4_16 : decode cJ6_bitCount_0f7a4 16 = .ok (.iconst 2, 1) := by decide +kernel
theorem dJ6_bitCount_0f7a4_17 : decode cJ6_bitCount_0f7a4 17 = .ok (.iushr, 1) := by decide +kernel
theorem dJ6_bitCount_0f7a4_18 : decode cJ6_bitCount_0f7a4 18 = .ok (.ldc_w 266, 3) := by decide +kernel
theorem dJ6_bitCount_0f7a4_21 : decode cJ6_bitCount_0f7a4 21 = .ok (.iand, 1) := by decide +kernel
theorem dJ6_bitCount_0f7a4_22 : decode cJ6_bitCount_0f7a4 22 = .ok (.iadd, 1) := by decide +kernel
theorem dJ6_bitCount_0f7a4_23 : decode cJ6_bitCount_0f7a4 23 = .ok (.istore_n 0, 1) := by decide +kernel
theorem dJ6_bitCount_0f7a4_24 : decode cJ6_bitCount_0f7a4 24 = .ok (.iload_n 0, 1) := by decide +kernel
theorem dJ6_bitCount_0f7a4_25 : decode cJ6_bitCount_0f7a4 25 = .ok (.iload_n 0, 1) := by decide +kernel
theorem dJ6_bitCount_0f7a4_26 : decode cJ6_bitCount_0f7a4 26 = .ok (.iconst 4, 1) := by decide +kernel
theorem dJ6_bitCount_0f7a4_27 : decode cJ6_bitCount_0f7a4 27 = .ok (.iushr, 1) := by decide +kernel
theorem dJ6_bitCount_0f7a4_28 : decode cJ6_bitCount_0f7a4 28 = .ok (.iadd, 1) := by decide +kernel
theorem dJ6_bitCount_0f7a4_29 : decode cJ6_bitCount_0f7a4 29 = .ok (.ldc_w 267, 3) := by decide +kernel
theorem dJ6_bitCount_0f7a4_32 : decode cJ6_bitCount_0f7a4 32 = .ok (.iand, 1) := by decide +kernel
theorem dJ6_bitCount_0f7a4_33 : decode cJ6_bitCount_0f7a4 33 = .ok (.istore_n 0, 1) := by decide +kernel
theorem dJ6_bitCount_0f7a4_34 : decode cJ6_bitCount_0f7a4 34 = .ok (.iload_n 0, 1) := by decide +kernel
theorem dJ6_bitCount_0f7a4_35 : decode cJ6_bitCount_0f7a4 35 = .ok (.iload_n 0, 1) := by decide +kernel
theorem dJ6_bitCount_0f7a4_36 : decode cJ6_bitCount_0f7a4 36 = .ok (.bipush 8, 2) := by decide +kernel
theorem dJ6_bitCount_0f7a4_38 : decode cJ6_bitCount_0f7a4 38 = .ok (.iushr, 1) := by decide +kernel
theorem dJ6_bitCount_0f7a4_39 : decode cJ6_bitCount_0f7a4 39 = .ok (.iadd, 1) := by decide +kernel
theorem dJ6_bitCount_0f7a4_40 : decode cJ6_bitCount_0f7a4 40 = .ok (.istore_n 0, 1) := by decide +kernel
theorem dJ6_bitCount_0f7a4_41 : decode cJ6_bitCount_0f7a4 41 = .ok (.iload_n 0, 1) := by decide +kernel
theorem dJ6_bitCount_0f7a4_42 : decode cJ6_bitCount_0f7a4 42 = .ok (.iload_n 0, 1) := by decide +kernel
theorem dJ6_bitCount_0f7a4_43 : decode cJ6_bitCount_0f7a4 43 = .ok (.bipush 16, 2) := by decide +kernel
theorem dJ6_bitCount_0f7a4_45 : decode cJ6_bitCount_0f7a4 45 = .ok (.iushr, 1) := by decide +kernel
theorem dJ6_bitCount_0f7a4_46 : decode cJ6_bitCount_0f7a4 46 = .ok (.iadd, 1) := by decide +kernel
theorem dJ6_bitCount_0f7a4_47 : decode cJ6_bitCount_0f7a4 47 = .ok (.istore_n 0, 1) := by decide +kernel
theorem dJ6_bitCount_0f7a4_48 : decode cJ6_bitCount_0f7a4 48 = .ok (.iload_n 0, 1) := by decide +kernel
theorem dJ6_bitCount_0f7a4_49 : decode cJ6_bitCount_0f7a4 49 = .ok (.bipush 63, 2) := by decide +kernel
theorem dJ6_bitCount_0f7a4_51 : decode cJ6_bitCount_0f7a4 51 = .ok (.iand, 1) := by decide +kernel
theorem dJ6_bitCount_0f7a4_52 : decode cJ6_bitCount_0f7a4 52 = .ok (.ireturn, 1) := by decide +kernel
end
section
theorem dX6_init_0 : decode cX6_init 0 = .ok (.aload_n 0, 1) := by decide +kernel
theorem dX6_init_1 : decode cX6_init 1 = .ok (.invokespecial 3, 3) := by decide +kernel
theorem dX6_init_4 : decode cX6_init 4 = .ok (.aload_n 0, 1) := by decide +kernel
theorem dX6_init_5 : decode cX6_init 5 = .ok (.iconst 4, 1) := by decide +kernel
theorem dX6_init_6 : decode cX6_init 6 = .ok (.anewarray 11, 3) := by decide +kernel
theorem dX6_init_9 : decode cX6_init 9 = .ok (.putfield 13, 3) := by decide +kernel
theorem dX6_init_12 : decode cX6_init 12 = .ok (.iconst 0, 1) := by decide +kernel
theorem dX6_init_13 : decode cX6_init 13 = .ok (.istore_n 1, 1) := by decide +kernel
theorem dX6_init_14 : decode cX6_init 14 = .ok (.iload_n 1, 1) := by decide +kernel
theorem dX6_init_15 : decode cX6_init 15 = .ok (.iconst 4, 1) := by decide +kernel
theorem dX6_init_16 : decode cX6_init 16 = .ok (.if_icmp .ge 22, 3) := by decide +kernel
theorem dX6_init_19 : decode cX6_init 19 = .ok (.aload_n 0, 1) := by decide +kernel
theorem dX6_init_20 : decode cX6_init 20 = .ok (.getfield 13, 3) := by decide +kernel
theorem dX6_init_23 : decode cX6_init 23 = .ok (.iload_n 1, 1) := by decide +kernel
theorem dX6_init_24 : decode cX6_init 24 = .ok (.new 11, 3) := by decide +kernel
theorem dX6_init_27 : decode cX6_init 27 = .ok (.dup, 1) := by decide +kernel
theorem dX6_init_28 : decode cX6_init 28 = .ok (.invokespecial 17, 3) := by decide +kernel
theorem dX6_init_31 : decode cX6_init 31 = .ok (.aastore, 1) := by decide +kernel
theorem dX6_init_32 : decode cX6_init 32 = .ok (.iinc 1 1, 3) := by decide +kernel
theorem dX6_init_35 : decode cX6_init 35 = .ok (.goto (-21), 3) := by decide +kernel
theorem dX6_init_38 : decode cX6_init 38 = .ok (.aload_n 0, 1) := by decide +kernel
theorem dX6_init_39 : decode cX6_init 39 = .ok (.new 18, 3) := by decide +kernel
theorem dX6_init_42 : decode cX6_init 42 = .ok (.dup, 1) := by decide +kernel
theorem dX6_init_43 : decode cX6_init 43 = .ok (.invokespecial 20, 3) := by decide +kernel
theorem dX6_init_46 : decode cX6_init 46 = .ok (.putfield 21, 3) := by decide +kernel
theorem dX6_init_49 : decode cX6_init 49 = .ok (.aload_n 0, 1) := by decide +kernel
theorem dX6_init_50 : decode cX6_init 50 = .ok (.new 25, 3) := by decide +kernel
theorem dX6_init_53 : decode cX6_init 53 = .ok (.dup, 1) := by decide +kernel
theorem dX6_init_54 : decode cX6_init 54 = .ok (.invokespecial 27, 3) := by decide +kernel
theorem dX6_init_57 : decode cX6_init 57 = .ok (.putfield 28, 3) := by decide +kernel
theorem dX6_init_60 : decode cX6_init 60 = .ok (.aload_n 0, 1) := by decide +kernel
theorem dX6_init_61 : decode cX6_init 61 = .ok (.iconst 0, 1) := by decide +kernel
theorem dX6_init_62 : decode cX6_init 62 = .ok (.putfield 32, 3) := by decide +kernel
theorem dX6_init_65 : decode cX6_init 65 = .ok (.aload_n 0, 1) := by decide +kernel
theorem dX6_init_66 : decode cX6_init 66 = .ok (.iconst 0, 1) := by decide +kernel
theorem dX6_init_67 : decode cX6_init 67 = .ok (.putfield 36, 3) := by decide +kernel
theorem dX6_init_70 : decode cX6_init 70 = .ok (.return_, 1) := by decide +kernel
theorem dX6_statues_0 : decode cX6_statues 0 = .ok (.aload_n 0, 1) := by decide +kernel
theorem dX6_statues_1 : decode cX6_statues 1 = .ok (.iconst 0, 1) := by decide +kernel
theorem dX6_statues_2 : decode cX6_statues 2 = .ok (.putfield 36, 3) := by decide +kernel
theorem dX6_statues_5 : decode cX6_statues 5 = .ok (.iload_n 1, 1) := by decide +kernel
theorem dX6_statues_6 : decode cX6_statues 6 = .ok (.invokestatic 39, 3) := by decide +kernel
theorem dX6_statues_9 : decode cX6_statues 9 = .ok (.ifCond .ne 5, 3) := by decide +kernel
theorem dX6_statues_12 : decode cX6_statues 12 = .ok (.iconst (-1), 1) := by decide +kernel
theorem dX6_statues_13 : decode cX6_statues 13 = .ok (.ireturn, 1) := by decide +kernel
theorem dX6_statues_14 : decode cX6_statues 14 = .ok (.iload_n 2, 1) := by decide +kernel
theorem dX6_statues_15 : decode cX6_statues 15 = .ok (.invokestatic 43, 3) := by decide +kernel
theorem dX6_statues_18 : decode cX6_statues 18 = .ok (.ifCond .ne 6, 3) := by decide +kernel
theorem dX6_statues_21 : decode cX6_statues 21 = .ok (.bipush (-2), 2) := by decide +kernel
theorem dX6_statues_23 : decode cX6_statues 23 = .ok (.ireturn, 1) := by decide +kernel
theorem dX6_statues_24 : decode cX6_statues 24 = .ok (.aload_n 0, 1) := by decide +kernel
theorem dX6_statues_25 : decode cX6_statues 25 = .ok (.getfield 13, 3) := by decide +kernel
theorem dX6_statues_28 : decode cX6_statues 28 = .ok (.iload_n 1, 1) := by decide +kernel
theorem dX6_statues_29 : decode cX6_statues 29 = .ok (.aaload, 1) := by decide +kernel
theorem dX6_statues_30 : decode cX6_statues 30 = .ok (.astore 5, 2) := by decide +kernel
theorem dX6_statues_32 : decode cX6_statues 32 = .ok (.aload 5, 2) := by decide +kernel
theorem dX6_statues_34 : decode cX6_statues 34 = .ok (.iload_n 2, 1) := by decide +kernel
theorem dX6_statues_35 : decode cX6_statues 35 = .ok (.invokevirtual 46, 3) := by decide +kernel
theorem dX6_statues_38 : decode cX6_statues 38 = .ok (.istore 6, 2) := by decide +kernel
theorem dX6_statues_40 : decode cX6_statues 40 = .ok (.iload 6, 2) := by decide +kernel
theorem dX6_statues_42 : decode cX6_statues 42 = .ok (.ifCond .ne 11, 3) := by decide +kernel
theorem dX6_statues_45 : decode cX6_statues 45 = .ok (.iload 4, 2) := by decide +kernel
theorem dX6_statues_47 : decode cX6_statues 47 = .ok (.ifCond .ge 6, 3) := by decide +kernel
theorem dX6_statues_50 : decode cX6_statues 50 = .ok (.iconst 4, 1) := by decide +kernel
theorem dX6_statues_51 : decode cX6_statues 51 = .ok (.istore 6, 2) := by decide +kernel
theorem dX6_statues_53 : decode cX6_statues 53 = .ok (.iload 6, 2) := by decide +kernel
theorem dX6_statues_55 : decode cX6_statues 55 = .ok (.ifCond .ne 17, 3) := by decide +kernel
theorem dX6_statues_58 : decode cX6_statues 58 = .ok (.aload 5, 2) := by decide +kernel
theorem dX6_statues_60 : decode cX6_statues 60 = .ok (.iload_n 3, 1) := by decide +kernel
theorem dX6_statues_61 : decode cX6_statues 61 = .ok (.iload 4, 2) := by decide +kernel
theorem dX6_statues_63 : decode cX6_statues 63 = .ok (.invokevirtual 50, 3) := by decide +kernel
theorem dX6_statues_66 : decode cX6_statues 66 = .ok (.ifCond .ne 6, 3) := by decide +kernel
theorem dX6_statues_69 : decode cX6_statues 69 = .ok (.iconst 3, 1) := by decide +kernel
theorem dX6_statues_70 : decode cX6_statues 70 = .ok (.istore 6, 2) := by decide +kernel
theorem dX6_statues_72 : decode cX6_statues 72 = .ok (.iload 6, 2) := by decide +kernel
theorem dX6_statues_74 : decode cX6_statues 74 = .ok (.ifCond .eq 10, 3) := by decide +kernel
theorem dX6_statues_77 : decode cX6_statues 77 = .ok (.aload_n 0, 1) := by decide +kernel
theorem dX6_statues_78 : decode cX6_statues 78 = .ok (.iload 6, 2) := by decide +kernel
theorem dX6_statues_80 : decode cX6_statues 80 = .ok (.invokevirtual 54, 3) := by decide +kernel
theorem dX6_statues_83 : decode cX6_statues 83 = .ok (.ireturn, 1) := by decide +kernel
theorem dX6_statues_84 : decode cX6_statues 84 = .ok (.aload 5, 2) := by decide +kernel
theorem dX6_statues_86 : decode cX6_statues 86 = .ok (.iload_n 3, 1) := by decide +kernel
theorem dX6_statues_87 : decode cX6_statues 87 = .ok (.iload 4, 2) := by decide +kernel
theorem dX6_statues_89 : decode cX6_statues 89 = .ok (.invokestatic 57, 3) := by decide +kernel
theorem dX6_statues_92 : decode cX6_statues 92 = .ok (.istore 7, 2) := by decide +kernel
theorem dX6_statues_94 : decode cX6_statues 94 = .ok (.iload 7, 2) := by decide +kernel
theorem dX6_statues_96 : decode cX6_statues 96 = .ok (.iconst (-1), 1) := by decide +kernel
theorem dX6_statues_97 : decode cX6_statues 97 = .ok (.if_icmp .eq 9, 3) := by decide +kernel
theorem dX6_statues_100 : decode cX6_statues 100 = .ok (.bipush (-100), 2) := by decide +kernel
theorem dX6_statues_102 : decode cX6_statues 102 = .ok (.iload 7, 2) := by decide +kernel
theorem dX6_statues_104 : decode cX6_statues 104 = .ok (.isub, 1) := by decide +kernel
theorem dX6_statues_105 : decode cX6_statues 105 = .ok (.ireturn, 1) := by decide +kernel
theorem dX6_statues_106 : decode cX6_statues 106 = .ok (.aload_n 0, 1) := by decide +kernel
theorem dX6_statues_107 : decode cX6_statues 107 = .ok (.getfield 21, 3) := by decide +kernel
theorem dX6_statues_110 : decode cX6_statues 110 = .ok (.aload 5, 2) := by decide +kernel
theorem dX6_statues_112 : decode cX6_statues 112 = .ok (.iload_n 3, 1) := by decide +kernel
theorem dX6_statues_113 : decode cX6_statues 113 = .ok (.iload 4, 2) := by decide +kernel
theorem dX6_statues_115 : decode cX6_statues 115 = .ok (.invokevirtual 63, 3) := by decide +kernel
theorem dX6_statues_118 : decode cX6_statues 118 = .ok (.aload_n 0, 1) := by decide +kernel
theorem dX6_statues_119 : decode cX6_statues 119 = .ok (.getfield 28, 3) := by decide +kernel
theorem dX6_statues_122 : decode cX6_statues 122 = .ok (.iconst 0, 1) := by decide +kernel
theorem dX6_statues_123 : decode cX6_statues 123 = .ok (.invokevirtual 67, 3) := by decide +kernel
theorem dX6_statues_126 : decode cX6_statues 126 = .ok (.aload_n 0, 1) := by decide +kernel
theorem dX6_statues_127 : decode cX6_statues 127 = .ok (.getfield 21, 3) := by decide +kernel
theorem dX6_statues_130 : decode cX6_statues 130 = .ok (.getfield 71, 3) := by decide +kernel
theorem dX6_statues_133 : decode cX6_statues 133 = .ok (.ireturn, 1) := by decide +kernel
theorem dX6_ofStatue_0 : decode cX6_ofStatue 0 = .ok (.aload_n 0, 1) := by decide +kernel
theorem dX6_ofStatue_1 : decode cX6_ofStatue 1 = .ok (.iload_n 1, 1) := by decide +kernel
theorem dX6_ofStatue_2 : decode cX6_ofStatue 2 = .ok (.invokevirtual 74, 3) := by decide +kernel
theorem dX6_ofStatue_5 : decode cX6_ofStatue 5 = .ok (.ifCond .ne 5, 3) := by decide +kernel
theorem dX6_ofStatue_8 : decode cX6_ofStatue 8 = .ok (.iconst (-1), 1) := by decide +kernel
theorem dX6_ofStatue_9 : decode cX6_ofStatue 9 = .ok (.ireturn, 1) := by decide +kernel
theorem dX6_ofStatue_10 : decode cX6_ofStatue 10 = .ok (.aload_n 0, 1) := by decide +kernel
theorem dX6_ofStatue_11 : decode cX6_ofStatue 11 = .ok (.getfield 21, 3) := by decide +kernel
theorem dX6_ofStatue_14 : decode cX6_ofStatue 14 = .ok (.getfield 77, 3) := by decide +kernel
theorem dX6_ofStatue_17 : decode cX6_ofStatue 17 = .ok (.iload_n 1, 1) := by decide +kernel
theorem dX6_ofStatue_18 : decode cX6_ofStatue 18 = .ok (.aaload, 1) := by decide +kernel
theorem dX6_ofStatue_19 : decode cX6_ofStatue 19 = .ok (.astore_n 3, 1) := by decide +kernel
theorem dX6_ofStatue_20 : decode cX6_ofStatue 20 = .ok (.iload_n 2, 1) := by decide +kernel
theorem dX6_ofStatue_21 : decode cX6_ofStatue 21 = .ok (.tableswitch 78 0 6 #[43, 43, 43, 50, 55, 60, 65], 43) := by decide +kernel
theorem dX6_ofStatue_64 : decode cX6_ofStatue 64 = .ok (.aload_n 3, 1) := by decide +kernel
theorem dX6_ofStatue_65 : decode cX6_ofStatue 65 = .ok (.getfield 81, 3) := by decide +kernel
theorem dX6_ofStatue_68 : decode cX6_ofStatue 68 = .ok (.iload_n 2, 1) := by decide +kernel
theorem dX6_ofStatue_69 : decode cX6_ofStatue 69 = .ok (.iaload, 1) := by decide +kernel
theorem dX6_ofStatue_70 : decode cX6_ofStatue 70 = .ok (.ireturn, 1) := by decide +kernel
theorem dX6_ofStatue_71 : decode cX6_ofStatue 71 = .ok (.aload_n 3, 1) := by decide +kernel
theorem dX6_ofStatue_72 : decode cX6_ofStatue 72 = .ok (.getfield 87, 3) := by decide +kernel
theorem dX6_ofStatue_75 : decode cX6_ofStatue 75 = .ok (.ireturn, 1) := by decide +kernel
theorem dX6_ofStatue_76 : decode cX6_ofStatue 76 = .ok (.aload_n 3, 1) := by decide +kernel
theorem dX6_ofStatue_77 : decode cX6_ofStatue 77 = .ok (.getfield 90, 3) := by decide +kernel
theorem dX6_ofStatue_80 : decode cX6_ofStatue 80 = .ok (.ireturn, 1) := by decide +kernel
theorem dX6_ofStatue_81 : decode cX6_ofStatue 81 = .ok (.aload_n 3, 1) := by decide +kernel
theorem dX6_ofStatue_82 : decode cX6_ofStatue 82 = .ok (.getfield 93, 3) := by decide +kernel
theorem dX6_ofStatue_85 : decode cX6_ofStatue 85 = .ok (.ireturn, 1) := by decide +kernel
theorem dX6_ofStatue_86 : decode cX6_ofStatue 86 = .ok (.aload_n 3, 1) := by decide +kernel
theorem dX6_ofStatue_87 : decode cX6_ofStatue 87 = .ok (.getfield 96, 3) := by decide +kernel
theorem dX6_ofStatue_90 : decode cX6_ofStatue 90 = .ok (.ifCond .eq 7, 3) := by decide +kernel
theorem dX6_ofStatue_93 : decode cX6_ofStatue 93 = .ok (.iconst 1, 1) := by decide +kernel
theorem dX6_ofStatue_94 : decode cX6_ofStatue 94 = .ok (.goto 4, 3) := by decide +kernel
theorem dX6_ofStatue_97 : decode cX6_ofStatue 97 = .ok (.iconst 0, 1) := by decide +kernel
theorem dX6_ofStatue_98 : decode cX6_ofStatue 98 = .ok (.ireturn, 1) := by decide +kernel
theorem dX6_ofStatue_99 : decode cX6_ofStatue 99 = .ok (.bipush (-2), 2) := by decide +kernel
theorem dX6_ofStatue_101 : decode cX6_ofStatue 101 = .ok (.ireturn, 1) := by decide +kernel
theorem dX6_look_0 : decode cX6_look 0 = .ok (.aload_n 0, 1) := by decide +kernel
theorem dX6_look_1 : decode cX6_look 1 = .ok (.iload_n 1, 1) := by decide +kernel
theorem dX6_look_2 : decode cX6_look 2 = .ok (.invokevirtual 74, 3) := by decide +kernel
theorem dX6_look_5 : decode cX6_look 5 = .ok (.ifCond .ne 5, 3) := by decide +kernel
theorem dX6_look_8 : decode cX6_look 8 = .ok (.iconst (-1), 1) := by decide +kernel
theorem dX6_look_9 : decode cX6_look 9 = .ok (.ireturn, 1) := by decide +kernel
theorem dX6_look_10 : decode cX6_look 10 = .ok (.iload_n 2, 1) := by decide +kernel
theorem dX6_look_11 : decode cX6_look 11 = .ok (.iconst 4, 1) := by decide +kernel
theorem dX6_look_12 : decode cX6_look 12 = .ok (.invokestatic 100, 3) := by decide +kernel
theorem dX6_look_15 : decode cX6_look 15 = .ok (.ifCond .ne 6, 3) := by decide +kernel
theorem dX6_look_18 : decode cX6_look 18 = .ok (.bipush (-2), 2) := by decide +kernel
theorem dX6_look_20 : decode cX6_look 20 = .ok (.ireturn, 1) := by decide +kernel
theorem dX6_look_21 : decode cX6_look 21 = .ok (.aload_n 0, 1) := by decide +kernel
theorem dX6_look_22 : decode cX6_look 22 = .ok (.getfield 21, 3) := by decide +kernel
theorem dX6_look_25 : decode cX6_look 25 = .ok (.getfield 77, 3) := by decide +kernel
theorem dX6_look_28 : decode cX6_look 28 = .ok (.iload_n 1, 1) := by decide +kernel
theorem dX6_look_29 : decode cX6_look 29 = .ok (.aaload, 1) := by decide +kernel
theorem dX6_look_30 : decode cX6_look 30 = .ok (.astore_n 3, 1) := by decide +kernel
theorem dX6_look_31 : decode cX6_look 31 = .ok (.aload_n 3, 1) := by decide +kernel
theorem dX6_look_32 : decode cX6_look 32 = .ok (.getfield 90, 3) := by decide +kernel
theorem dX6_look_35 : decode cX6_look 35 = .ok (.istore 4, 2) := by decide +kernel
theorem dX6_look_37 : decode cX6_look 37 = .ok (.aload_n 3, 1) := by decide +kernel
theorem dX6_look_38 : decode cX6_look 38 = .ok (.iload_n 2, 1) := by decide +kernel
theorem dX6_look_39 : decode cX6_look 39 = .ok (.putfield 90, 3) := by decide +kernel
theorem dX6_look_42 : decode cX6_look 42 = .ok (.aload_n 0, 1) := by decide +kernel
theorem dX6_look_43 : decode cX6_look 43 = .ok (.getfield 21, 3) := by decide +kernel
theorem dX6_look_46 : decode cX6_look 46 = .ok (.iconst 0, 1) := by decide +kernel
theorem dX6_look_47 : decode cX6_look 47 = .ok (.invokevirtual 103, 3) := by decide +kernel
theorem dX6_look_50 : decode cX6_look 50 = .ok (.iload 4, 2) := by decide +kernel
theorem dX6_look_52 : decode cX6_look 52 = .ok (.ireturn, 1) := by decide +kernel
theorem dX6_over_0 : decode cX6_over 0 = .ok (.aload_n 0, 1) := by decide +kernel
theorem dX6_over_1 : decode cX6_over 1 = .ok (.iload_n 1, 1) := by decide +kernel
theorem dX6_over_2 : decode cX6_over 2 = .ok (.invokevirtual 74, 3) := by decide +kernel
theorem dX6_over_5 : decode cX6_over 5 = .ok (.ifCond .ne 5, 3) := by decide +kernel
theorem dX6_over_8 : decode cX6_over 8 = .ok (.iconst (-1), 1) := by decide +kernel
theorem dX6_over_9 : decode cX6_over 9 = .ok (.ireturn, 1) := by decide +kernel
theorem dX6_over_10 : decode cX6_over 10 = .ok (.iload_n 2, 1) := by decide +kernel
theorem dX6_over_11 : decode cX6_over 11 = .ok (.iconst 3, 1) := by decide +kernel
theorem dX6_over_12 : decode cX6_over 12 = .ok (.invokestatic 100, 3) := by decide +kernel
theorem dX6_over_15 : decode cX6_over 15 = .ok (.ifCond .ne 6, 3) := by decide +kernel
theorem dX6_over_18 : decode cX6_over 18 = .ok (.bipush (-2), 2) := by decide +kernel
theorem dX6_over_20 : decode cX6_over 20 = .ok (.ireturn, 1) := by decide +kernel
theorem dX6_over_21 : decode cX6_over 21 = .ok (.aload_n 0, 1) := by decide +kernel
theorem dX6_over_22 : decode cX6_over 22 = .ok (.getfield 21, 3) := by decide +kernel
theorem dX6_over_25 : decode cX6_over 25 = .ok (.getfield 77, 3) := by decide +kernel
theorem dX6_over_28 : decode cX6_over 28 = .ok (.iload_n 1, 1) := by decide +kernel
theorem dX6_over_29 : decode cX6_over 29 = .ok (.aaload, 1) := by decide +kernel
theorem dX6_over_30 : decode cX6_over 30 = .ok (.astore_n 3, 1) := by decide +kernel
theorem dX6_over_31 : decode cX6_over 31 = .ok (.aload_n 3, 1) := by decide +kernel
theorem dX6_over_32 : decode cX6_over 32 = .ok (.getfield 93, 3) := by decide +kernel
theorem dX6_over_35 : decode cX6_over 35 = .ok (.istore 4, 2) := by decide +kernel
theorem dX6_over_37 : decode cX6_over 37 = .ok (.aload_n 3, 1) := by decide +kernel
theorem dX6_over_38 : decode cX6_over 38 = .ok (.iload_n 2, 1) := by decide +kernel
theorem dX6_over_39 : decode cX6_over 39 = .ok (.putfield 93, 3) := by decide +kernel
theorem dX6_over_42 : decode cX6_over 42 = .ok (.aload_n 0, 1) := by decide +kernel
theorem dX6_over_43 : decode cX6_over 43 = .ok (.getfield 21, 3) := by decide +kernel
theorem dX6_over_46 : decode cX6_over 46 = .ok (.iconst 0, 1) := by decide +kernel
theorem dX6_over_47 : decode cX6_over 47 = .ok (.invokevirtual 103, 3) := by decide +kernel
theorem dX6_over_50 : decode cX6_over 50 = .ok (.iload 4, 2) := by decide +kernel
theorem dX6_over_52 : decode cX6_over 52 = .ok (.ireturn, 1) := by decide +kernel
theorem dX6_fence_0 : decode cX6_fence 0 = .ok (.aload_n 0, 1) := by decide +kernel
theorem dX6_fence_1 : decode cX6_fence 1 = .ok (.iload_n 1, 1) := by decide +kernel
theorem dX6_fence_2 : decode cX6_fence 2 = .ok (.invokevirtual 74, 3) := by decide +kernel
theorem dX6_fence_5 : decode cX6_fence 5 = .ok (.ifCond .ne 5, 3) := by decide +kernel
theorem dX6_fence_8 : decode cX6_fence 8 = .ok (.iconst (-1), 1) := by decide +kernel
theorem dX6_fence_9 : decode cX6_fence 9 = .ok (.ireturn, 1) := by decide +kernel
theorem dX6_fence_10 : decode cX6_fence 10 = .ok (.aload_n 0, 1) := by decide +kernel
theorem dX6_fence_11 : decode cX6_fence 11 = .ok (.getfield 21, 3) := by decide +kernel
theorem dX6_fence_14 : decode cX6_fence 14 = .ok (.getfield 77, 3) := by decide +kernel
theorem dX6_fence_17 : decode cX6_fence 17 = .ok (.iload_n 1, 1) := by decide +kernel
theorem dX6_fence_18 : decode cX6_fence 18 = .ok (.aaload, 1) := by decide +kernel
theorem dX6_fence_19 : decode cX6_fence 19 = .ok (.astore_n 3, 1) := by decide +kernel
theorem dX6_fence_20 : decode cX6_fence 20 = .ok (.aload_n 3, 1) := by decide +kernel
theorem dX6_fence_21 : decode cX6_fence 21 = .ok (.getfield 96, 3) := by decide +kernel
theorem dX6_fence_24 : decode cX6_fence 24 = .ok (.iload_n 2, 1) := by decide +kernel
theorem dX6_fence_25 : decode cX6_fence 25 = .ok (.if_icmp .ne 5, 3) := by decide +kernel
theorem dX6_fence_28 : decode cX6_fence 28 = .ok (.iconst 0, 1) := by decide +kernel
theorem dX6_fence_29 : decode cX6_fence 29 = .ok (.ireturn, 1) := by decide +kernel
theorem dX6_fence_30 : decode cX6_fence 30 = .ok (.aload_n 3, 1) := by decide +kernel
theorem dX6_fence_31 : decode cX6_fence 31 = .ok (.iload_n 2, 1) := by decide +kernel
theorem dX6_fence_32 : decode cX6_fence 32 = .ok (.putfield 96, 3) := by decide +kernel
theorem dX6_fence_35 : decode cX6_fence 35 = .ok (.aload_n 0, 1) := by decide +kernel
theorem dX6_fence_36 : decode cX6_fence 36 = .ok (.getfield 21, 3) := by decide +kernel
theorem dX6_fence_39 : decode cX6_fence 39 = .ok (.iconst 0, 1) := by decide +kernel
theorem dX6_fence_40 : decode cX6_fence 40 = .ok (.invokevirtual 103, 3) := by decide +kernel
theorem dX6_fence_43 : decode cX6_fence 43 = .ok (.iconst 1, 1) := by decide +kernel
theorem dX6_fence_44 : decode cX6_fence 44 = .ok (.ireturn, 1) := by decide +kernel
theorem dX6_rain_0 : decode cX6_rain 0 = .ok (.iload_n 1, 1) := by decide +kernel
theorem dX6_rain_1 : decode cX6_rain 1 = .ok (.bipush 60, 2) := by decide +kernel
theorem dX6_rain_3 : decode cX6_rain 3 = .ok (.invokestatic 100, 3) := by decide +kernel
theorem dX6_rain_6 : decode cX6_rain 6 = .ok (.ifCond .eq 20, 3) := by decide +kernel
theorem dX6_rain_9 : decode cX6_rain 9 = .ok (.iload_n 2, 1) := by decide +kernel
theorem dX6_rain_10 : decode cX6_rain 10 = .ok (.bipush 10, 2) := by decide +kernel
theorem dX6_rain_12 : decode cX6_rain 12 = .ok (.invokestatic 100, 3) := by decide +kernel
theorem dX6_rain_15 : decode cX6_rain 15 = .ok (.ifCond .eq 11, 3) := by decide +kernel
theorem dX6_rain_18 : decode cX6_rain 18 = .ok (.iload_n 3, 1) := by decide +kernel
theorem dX6_rain_19 : decode cX6_rain 19 = .ok (.iconst 4, 1) := by decide +kernel
theorem dX6_rain_20 : decode cX6_rain 20 = .ok (.invokestatic 100, 3) := by decide +kernel
theorem dX6_rain_23 : decode cX6_rain 23 = .ok (.ifCond .ne 6, 3) := by decide +kernel
theorem dX6_rain_26 : decode cX6_rain 26 = .ok (.bipush (-2), 2) := by decide +kernel
theorem dX6_rain_28 : decode cX6_rain 28 = .ok (.ireturn, 1) := by decide +kernel
theorem dX6_rain_29 : decode cX6_rain 29 = .ok (.aload_n 0, 1) := by decide +kernel
theorem dX6_rain_30 : decode cX6_rain 30 = .ok (.getfield 21, 3) := by decide +kernel
theorem dX6_rain_33 : decode cX6_rain 33 = .ok (.getfield 71, 3) := by decide +kernel
theorem dX6_rain_36 : decode cX6_rain 36 = .ok (.ifCond .ne 6, 3) := by decide +kernel
theorem dX6_rain_39 : decode cX6_rain 39 = .ok (.bipush (-3), 2) := by decide +kernel
theorem dX6_rain_41 : decode cX6_rain 41 = .ok (.ireturn, 1) := by decide +kernel
theorem dX6_rain_42 : decode cX6_rain 42 = .ok (.bipush 10, 2) := by decide +kernel
theorem dX6_rain_44 : decode cX6_rain 44 = .ok (.aload_n 0, 1) := by decide +kernel
theorem dX6_rain_45 : decode cX6_rain 45 = .ok (.getfield 21, 3) := by decide +kernel
theorem dX6_rain_48 : decode cX6_rain 48 = .ok (.getfield 106, 3) := by decide +kernel
theorem dX6_rain_51 : decode cX6_rain 51 = .ok (.iload_n 1, 1) := by decide +kernel
theorem dX6_rain_52 : decode cX6_rain 52 = .ok (.iaload, 1) := by decide +kernel
theorem dX6_rain_53 : decode cX6_rain 53 = .ok (.imul, 1) := by decide +kernel
theorem dX6_rain_54 : decode cX6_rain 54 = .ok (.aload_n 0, 1) := by decide +kernel
theorem dX6_rain_55 : decode cX6_rain 55 = .ok (.getfield 21, 3) := by decide +kernel
theorem dX6_rain_58 : decode cX6_rain 58 = .ok (.getfield 109, 3) := by decide +kernel
theorem dX6_rain_61 : decode cX6_rain 61 = .ok (.iload_n 1, 1) := by decide +kernel
theorem dX6_rain_62 : decode cX6_rain 62 = .ok (.iaload, 1) := by decide +kernel
theorem dX6_rain_63 : decode cX6_rain 63 = .ok (.iadd, 1) := by decide +kernel
theorem dX6_rain_64 : decode cX6_rain 64 = .ok (.istore 4, 2) := by decide +kernel
theorem dX6_rain_66 : decode cX6_rain 66 = .ok (.aload_n 0, 1) := by decide +kernel
theorem dX6_rain_67 : decode cX6_rain 67 = .ok (.getfield 21, 3) := by decide +kernel
theorem dX6_rain_70 : decode cX6_rain 70 = .ok (.iload_n 1, 1) := by decide +kernel
theorem dX6_rain_71 : decode cX6_rain 71 = .ok (.iload_n 2, 1) := by decide +kernel
theorem dX6_rain_72 : decode cX6_rain 72 = .ok (.invokevirtual 112, 3) := by decide +kernel
theorem dX6_rain_75 : decode cX6_rain 75 = .ok (.aload_n 0, 1) := by decide +kernel
theorem dX6_rain_76 : decode cX6_rain 76 = .ok (.getfield 21, 3) := by decide +kernel
theorem dX6_rain_79 : decode cX6_rain 79 = .ok (.getfield 109, 3) := by decide +kernel
theorem dX6_rain_82 : decode cX6_rain 82 = .ok (.iload_n 1, 1) := by decide +kernel
theorem dX6_rain_83 : decode cX6_rain 83 = .ok (.iload_n 3, 1) := by decide +kernel
theorem dX6_rain_84 : decode cX6_rain 84 = .ok (.iastore, 1) := by decide +kernel
theorem dX6_rain_85 : decode cX6_rain 85 = .ok (.iload 4, 2) := by decide +kernel
theorem dX6_rain_87 : decode cX6_rain 87 = .ok (.ireturn, 1) := by decide +kernel
theorem dX6_deer_0 : decode cX6_deer 0 = .ok (.iload_n 1, 1) := by decide +kernel
theorem dX6_deer_1 : decode cX6_deer 1 = .ok (.bipush 10, 2) := by decide +kernel
theorem dX6_deer_3 : decode cX6_deer 3 = .ok (.invokestatic 100, 3) := by decide +kernel
theorem dX6_deer_6 : decode cX6_deer 6 = .ok (.ifCond .ne 6, 3) := by decide +kernel
theorem dX6_deer_9 : decode cX6_deer 9 = .ok (.bipush (-2), 2) := by decide +kernel
theorem dX6_deer_11 : decode cX6_deer 11 = .ok (.ireturn, 1) := by decide +kernel
theorem dX6_deer_12 : decode cX6_deer 12 = .ok (.aload_n 0, 1) := by decide +kernel
theorem dX6_deer_13 : decode cX6_deer 13 = .ok (.getfield 21, 3) := by decide +kernel
theorem dX6_deer_16 : decode cX6_deer 16 = .ok (.getfield 71, 3) := by decide +kernel
theorem dX6_deer_19 : decode cX6_deer 19 = .ok (.ifCond .ne 6, 3) := by decide +kernel
theorem dX6_deer_22 : decode cX6_deer 22 = .ok (.bipush (-3), 2) := by decide +kernel
theorem dX6_deer_24 : decode cX6_deer 24 = .ok (.ireturn, 1) := by decide +kernel
theorem dX6_deer_25 : decode cX6_deer 25 = .ok (.aload_n 0, 1) := by decide +kernel
theorem dX6_deer_26 : decode cX6_deer 26 = .ok (.getfield 21, 3) := by decide +kernel
theorem dX6_deer_29 : decode cX6_deer 29 = .ok (.getfield 116, 3) := by decide +kernel
theorem dX6_deer_32 : decode cX6_deer 32 = .ok (.istore_n 2, 1) := by decide +kernel
theorem dX6_deer_33 : decode cX6_deer 33 = .ok (.aload_n 0, 1) := by decide +kernel
theorem dX6_deer_34 : decode cX6_deer 34 = .ok (.getfield 21, 3) := by decide +kernel
theorem dX6_deer_37 : decode cX6_deer 37 = .ok (.iload_n 1, 1) := by decide +kernel
theorem dX6_deer_38 : decode cX6_deer 38 = .ok (.putfield 116, 3) := by decide +kernel
theorem dX6_deer_41 : decode cX6_deer 41 = .ok (.aload_n 0, 1) := by decide +kernel
theorem dX6_deer_42 : decode cX6_deer 42 = .ok (.getfield 21, 3) := by decide +kernel
theorem dX6_deer_45 : decode cX6_deer 45 = .ok (.iconst 0, 1) := by decide +kernel
theorem dX6_deer_46 : decode cX6_deer 46 = .ok (.invokevirtual 103, 3) := by decide +kernel
theorem dX6_deer_49 : decode cX6_deer 49 = .ok (.iload_n 2, 1) := by decide +kernel
theorem dX6_deer_50 : decode cX6_deer 50 = .ok (.ireturn, 1) := by decide +kernel
theorem dX6_grains_0 : decode cX6_grains 0 = .ok (.aload_n 0, 1) := by decide +kernel
theorem dX6_grains_1 : decode cX6_grains 1 = .ok (.iload_n 1, 1) := by decide +kernel
theorem dX6_grains_2 : decode cX6_grains 2 = .ok (.invokevirtual 74, 3) := by decide +kernel
theorem dX6_grains_5 : decode cX6_grains 5 = .ok (.ifCond .eq 11, 3) := by decide +kernel
theorem dX6_grains_8 : decode cX6_grains 8 = .ok (.iload_n 2, 1) := by decide +kernel
theorem dX6_grains_9 : decode cX6_grains 9 = .ok (.iconst 3, 1) := by decide +kernel
theorem dX6_grains_10 : decode cX6_grains 10 = .ok (.invokestatic 100, 3) := by decide +kernel
theorem dX6_grains_13 : decode cX6_grains 13 = .ok (.ifCond .ne 5, 3) := by decide +kernel
theorem dX6_grains_16 : decode cX6_grains 16 = .ok (.iconst (-1), 1) := by decide +kernel
theorem dX6_grains_17 : decode cX6_grains 17 = .ok (.ireturn, 1) := by decide +kernel
theorem dX6_grains_18 : decode cX6_grains 18 = .ok (.iload_n 3, 1) := by decide +kernel
theorem dX6_grains_19 : decode cX6_grains 19 = .ok (.invokestatic 119, 3) := by decide +kernel
theorem dX6_grains_22 : decode cX6_grains 22 = .ok (.ifCond .ne 6, 3) := by decide +kernel
theorem dX6_grains_25 : decode cX6_grains 25 = .ok (.bipush (-2), 2) := by decide +kernel
theorem dX6_grains_27 : decode cX6_grains 27 = .ok (.ireturn, 1) := by decide +kernel
theorem dX6_grains_28 : decode cX6_grains 28 = .ok (.aload_n 0, 1) := by decide +kernel
theorem dX6_grains_29 : decode cX6_grains 29 = .ok (.getfield 21, 3) := by decide +kernel
theorem dX6_grains_32 : decode cX6_grains 32 = .ok (.iload_n 1, 1) := by decide +kernel
theorem dX6_grains_33 : decode cX6_grains 33 = .ok (.iload_n 2, 1) := by decide +kernel
theorem dX6_grains_34 : decode cX6_grains 34 = .ok (.iload_n 3, 1) := by decide +kernel
theorem dX6_grains_35 : decode cX6_grains 35 = .ok (.invokevirtual 122, 3) := by decide +kernel
theorem dX6_grains_38 : decode cX6_grains 38 = .ok (.ireturn, 1) := by decide +kernel
theorem dX6_lost_0 : decode cX6_lost 0 = .ok (.aload_n 0, 1) := by decide +kernel
theorem dX6_lost_1 : decode cX6_lost 1 = .ok (.iload_n 1, 1) := by decide +kernel
theorem dX6_lost_2 : decode cX6_lost 2 = .ok (.invokevirtual 74, 3) := by decide +kernel
theorem dX6_lost_5 : decode cX6_lost 5 = .ok (.ifCond .ne 5, 3) := by decide +kernel
theorem dX6_lost_8 : decode cX6_lost 8 = .ok (.iconst (-1), 1) := by decide +kernel
theorem dX6_lost_9 : decode cX6_lost 9 = .ok (.ireturn, 1) := by decide +kernel
theorem dX6_lost_10 : decode cX6_lost 10 = .ok (.iload_n 2, 1) := by decide +kernel
theorem dX6_lost_11 : decode cX6_lost 11 = .ok (.invokestatic 119, 3) := by decide +kernel
theorem dX6_lost_14 : decode cX6_lost 14 = .ok (.ifCond .eq 11, 3) := by decide +kernel
theorem dX6_lost_17 : decode cX6_lost 17 = .ok (.iload_n 3, 1) := by decide +kernel
theorem dX6_lost_18 : decode cX6_lost 18 = .ok (.iconst 2, 1) := by decide +kernel
theorem dX6_lost_19 : decode cX6_lost 19 = .ok (.invokestatic 100, 3) := by decide +kernel
theorem dX6_lost_22 : decode cX6_lost 22 = .ok (.ifCond .ne 6, 3) := by decide +kernel
theorem dX6_lost_25 : decode cX6_lost 25 = .ok (.bipush (-2), 2) := by decide +kernel
theorem dX6_lost_27 : decode cX6_lost 27 = .ok (.ireturn, 1) := by decide +kernel
theorem dX6_lost_28 : decode cX6_lost 28 = .ok (.iload_n 3, 1) := by decide +kernel
theorem dX6_lost_29 : decode cX6_lost 29 = .ok (.ifCond .ne 15, 3) := by decide +kernel
theorem dX6_lost_32 : decode cX6_lost 32 = .ok (.aload_n 0, 1) := by decide +kernel
theorem dX6_lost_33 : decode cX6_lost 33 = .ok (.getfield 21, 3) := by decide +kernel
theorem dX6_lost_36 : decode cX6_lost 36 = .ok (.iload_n 1, 1) := by decide +kernel
theorem dX6_lost_37 : decode cX6_lost 37 = .ok (.iload_n 2, 1) := by decide +kernel
theorem dX6_lost_38 : decode cX6_lost 38 = .ok (.invokevirtual 126, 3) := by decide +kernel
theorem dX6_lost_41 : decode cX6_lost 41 = .ok (.goto 12, 3) := by decide +kernel
theorem dX6_lost_44 : decode cX6_lost 44 = .ok (.aload_n 0, 1) := by decide +kernel
theorem dX6_lost_45 : decode cX6_lost 45 = .ok (.getfield 21, 3) := by decide +kernel
theorem dX6_lost_48 : decode cX6_lost 48 = .ok (.iload_n 1, 1) := by decide +kernel
theorem dX6_lost_49 : decode cX6_lost 49 = .ok (.iload_n 2, 1) := by decide +kernel
theorem dX6_lost_50 : decode cX6_lost 50 = .ok (.invokevirtual 130, 3) := by decide +kernel
theorem dX6_lost_53 : decode cX6_lost 53 = .ok (.ireturn, 1) := by decide +kernel
theorem dX6_gone_0 : decode cX6_gone 0 = .ok (.aload_n 0, 1) := by decide +kernel
theorem dX6_gone_1 : decode cX6_gone 1 = .ok (.iload_n 1, 1) := by decide +kernel
theorem dX6_gone_2 : decode cX6_gone 2 = .ok (.invokevirtual 74, 3) := by decide +kernel
theorem dX6_gone_5 : decode cX6_gone 5 = .ok (.ifCond .eq 11, 3) := by decide +kernel
theorem dX6_gone_8 : decode cX6_gone 8 = .ok (.iload_n 2, 1) := by decide +kernel
theorem dX6_gone_9 : decode cX6_gone 9 = .ok (.iconst 4, 1) := by decide +kernel
theorem dX6_gone_10 : decode cX6_gone 10 = .ok (.invokestatic 100, 3) := by decide +kernel
theorem dX6_gone_13 : decode cX6_gone 13 = .ok (.ifCond .ne 5, 3) := by decide +kernel
theorem dX6_gone_16 : decode cX6_gone 16 = .ok (.iconst (-1), 1) := by decide +kernel
theorem dX6_gone_17 : decode cX6_gone 17 = .ok (.ireturn, 1) := by decide +kernel
theorem dX6_gone_18 : decode cX6_gone 18 = .ok (.iload_n 2, 1) := by decide +kernel
theorem dX6_gone_19 : decode cX6_gone 19 = .ok (.iconst 3, 1) := by decide +kernel
theorem dX6_gone_20 : decode cX6_gone 20 = .ok (.if_icmp .ge 15, 3) := by decide +kernel
theorem dX6_gone_23 : decode cX6_gone 23 = .ok (.aload_n 0, 1) := by decide +kernel
theorem dX6_gone_24 : decode cX6_gone 24 = .ok (.getfield 21, 3) := by decide +kernel
theorem dX6_gone_27 : decode cX6_gone 27 = .ok (.iload_n 1, 1) := by decide +kernel
theorem dX6_gone_28 : decode cX6_gone 28 = .ok (.iload_n 2, 1) := by decide +kernel
theorem dX6_gone_29 : decode cX6_gone 29 = .ok (.invokevirtual 133, 3) := by decide +kernel
theorem dX6_gone_32 : decode cX6_gone 32 = .ok (.goto 11, 3) := by decide +kernel
theorem dX6_gone_35 : decode cX6_gone 35 = .ok (.aload_n 0, 1) := by decide +kernel
theorem dX6_gone_36 : decode cX6_gone 36 = .ok (.getfield 21, 3) := by decide +kernel
theorem dX6_gone_39 : decode cX6_gone 39 = .ok (.iload_n 1, 1) := by decide +kernel
theorem dX6_gone_40 : decode cX6_gone 40 = .ok (.invokevirtual 136, 3) := by decide +kernel
theorem dX6_gone_43 : decode cX6_gone 43 = .ok (.istore_n 3, 1) := by decide +kernel
theorem dX6_gone_44 : decode cX6_gone 44 = .ok (.iload_n 3, 1) := by decide +kernel
theorem dX6_gone_45 : decode cX6_gone 45 = .ok (.bipush 61, 2) := by decide +kernel
theorem dX6_gone_47 : decode cX6_gone 47 = .ok (.if_icmp .ne 8, 3) := by decide +kernel
theorem dX6_gone_50 : decode cX6_gone 50 = .ok (.bipush (-9), 2) := by decide +kernel
theorem dX6_gone_52 : decode cX6_gone 52 = .ok (.goto 4, 3) := by decide +kernel
theorem dX6_gone_55 : decode cX6_gone 55 = .ok (.iload_n 3, 1) := by decide +kernel
theorem dX6_gone_56 : decode cX6_gone 56 = .ok (.ireturn, 1) := by decide +kernel
theorem dX6_liked_0 : decode cX6_liked 0 = .ok (.iload_n 1, 1) := by decide +kernel
theorem dX6_liked_1 : decode cX6_liked 1 = .ok (.bipush 60, 2) := by decide +kernel
theorem dX6_liked_3 : decode cX6_liked 3 = .ok (.invokestatic 100, 3) := by decide +kernel
theorem dX6_liked_6 : decode cX6_liked 6 = .ok (.ifCond .ne 6, 3) := by decide +kernel
theorem dX6_liked_9 : decode cX6_liked 9 = .ok (.bipush (-2), 2) := by decide +kernel
theorem dX6_liked_11 : decode cX6_liked 11 = .ok (.ireturn, 1) := by decide +kernel
theorem dX6_liked_12 : decode cX6_liked 12 = .ok (.aload_n 0, 1) := by decide +kernel
theorem dX6_liked_13 : decode cX6_liked 13 = .ok (.getfield 21, 3) := by decide +kernel
theorem dX6_liked_16 : decode cX6_liked 16 = .ok (.getfield 71, 3) := by decide +kernel
theorem dX6_liked_19 : decode cX6_liked 19 = .ok (.ifCond .ne 6, 3) := by decide +kernel
theorem dX6_liked_22 : decode cX6_liked 22 = .ok (.bipush (-3), 2) := by decide +kernel
theorem dX6_liked_24 : decode cX6_liked 24 = .ok (.ireturn, 1) := by decide +kernel
theorem dX6_liked_25 : decode cX6_liked 25 = .ok (.aload_n 0, 1) := by decide +kernel
theorem dX6_liked_26 : decode cX6_liked 26 = .ok (.getfield 21, 3) := by decide +kernel
theorem dX6_liked_29 : decode cX6_liked 29 = .ok (.iload_n 1, 1) := by decide +kernel
theorem dX6_liked_30 : decode cX6_liked 30 = .ok (.invokevirtual 139, 3) := by decide +kernel
theorem dX6_liked_33 : decode cX6_liked 33 = .ok (.ireturn, 1) := by decide +kernel
theorem dX6_lasts_0 : decode cX6_lasts 0 = .ok (.iload_n 1, 1) := by decide +kernel
theorem dX6_lasts_1 : decode cX6_lasts 1 = .ok (.iconst 3, 1) := by decide +kernel
theorem dX6_lasts_2 : decode cX6_lasts 2 = .ok (.invokestatic 100, 3) := by decide +kernel
theorem dX6_lasts_5 : decode cX6_lasts 5 = .ok (.ifCond .eq 13, 3) := by decide +kernel
theorem dX6_lasts_8 : decode cX6_lasts 8 = .ok (.aload_n 0, 1) := by decide +kernel
theorem dX6_lasts_9 : decode cX6_lasts 9 = .ok (.getfield 21, 3) := by decide +kernel
theorem dX6_lasts_12 : decode cX6_lasts 12 = .ok (.getfield 71, 3) := by decide +kernel
theorem dX6_lasts_15 : decode cX6_lasts 15 = .ok (.ifCond .ne 7, 3) := by decide +kernel
theorem dX6_lasts_18 : decode cX6_lasts 18 = .ok (.ldc2_w 142, 3) := by decide +kernel
theorem dX6_lasts_21 : decode cX6_lasts 21 = .ok (.lreturn, 1) := by decide +kernel
theorem dX6_lasts_22 : decode cX6_lasts 22 = .ok (.iload_n 1, 1) := by decide +kernel
theorem dX6_lasts_23 : decode cX6_lasts 23 = .ok (.ifCond .ne 12, 3) := by decide +kernel
theorem dX6_lasts_26 : decode cX6_lasts 26 = .ok (.aload_n 0, 1) := by decide +kernel
theorem dX6_lasts_27 : decode cX6_lasts 27 = .ok (.getfield 21, 3) := by decide +kernel
theorem dX6_lasts_30 : decode cX6_lasts 30 = .ok (.invokevirtual 144, 3) := by decide +kernel
theorem dX6_lasts_33 : decode cX6_lasts 33 = .ok (.i2l, 1) := by decide +kernel
theorem dX6_lasts_34 : decode cX6_lasts 34 = .ok (.lreturn, 1) := by decide +kernel
theorem dX6_lasts_35 : decode cX6_lasts 35 = .ok (.aload_n 0, 1) := by decide +kernel
theorem dX6_lasts_36 : decode cX6_lasts 36 = .ok (.getfield 21, 3) := by decide +kernel
theorem dX6_lasts_39 : decode cX6_lasts 39 = .ok (.bipush 60, 2) := by decide +kernel
theorem dX6_lasts_41 : decode cX6_lasts 41 = .ok (.invokevirtual 148, 3) := by decide +kernel
theorem dX6_lasts_44 : decode cX6_lasts 44 = .ok (.istore_n 2, 1) := by decide +kernel
theorem dX6_lasts_45 : decode cX6_lasts 45 = .ok (.aload_n 0, 1) := by decide +kernel
theorem dX6_lasts_46 : decode cX6_lasts 46 = .ok (.getfield 21, 3) := by decide +kernel
theorem dX6_lasts_49 : decode cX6_lasts 49 = .ok (.iconst 0, 1) := by decide +kernel
theorem dX6_lasts_50 : decode cX6_lasts 50 = .ok (.invokevirtual 148, 3) := by decide +kernel
theorem dX6_lasts_53 : decode cX6_lasts 53 = .ok (.istore_n 3, 1) := by decide +kernel
theorem dX6_lasts_54 : decode cX6_lasts 54 = .ok (.iload_n 3, 1) := by decide +kernel
theorem dX6_lasts_55 : decode cX6_lasts 55 = .ok (.iload_n 2, 1) := by decide +kernel
theorem dX6_lasts_56 : decode cX6_lasts 56 = .ok (.invokestatic 151, 3) := by decide +kernel
theorem dX6_lasts_59 : decode cX6_lasts 59 = .ok (.istore 4, 2) := by decide +kernel
theorem dX6_lasts_61 : decode cX6_lasts 61 = .ok (.iload 4, 2) := by decide +kernel
theorem dX6_lasts_63 : decode cX6_lasts 63 = .ok (.iconst 1, 1) := by decide +kernel
theorem dX6_lasts_64 : decode cX6_lasts 64 = .ok (.if_icmp .ge 7, 3) := by decide +kernel
theorem dX6_lasts_67 : decode cX6_lasts 67 = .ok (.ldc2_w 142, 3) := by decide +kernel
theorem dX6_lasts_70 : decode cX6_lasts 70 = .ok (.lreturn, 1) := by decide +kernel
theorem dX6_lasts_71 : decode cX6_lasts 71 = .ok (.iload_n 1, 1) := by decide +kernel
theorem dX6_lasts_72 : decode cX6_lasts 72 = .ok (.iconst 1, 1) := by decide +kernel
theorem dX6_lasts_73 : decode cX6_lasts 73 = .ok (.if_icmp .ne 11, 3) := by decide +kernel
theorem dX6_lasts_76 : decode cX6_lasts 76 = .ok (.iload_n 2, 1) := by decide +kernel
theorem dX6_lasts_77 : decode cX6_lasts 77 = .ok (.iload 4, 2) := by decide +kernel
theorem dX6_lasts_79 : decode cX6_lasts 79 = .ok (.idiv, 1) := by decide +kernel
theorem dX6_lasts_80 : decode cX6_lasts 80 = .ok (.i2l, 1) := by decide +kernel
theorem dX6_lasts_81 : decode cX6_lasts 81 = .ok (.goto 8, 3) := by decide +kernel
theorem dX6_lasts_84 : decode cX6_lasts 84 = .ok (.iload_n 3, 1) := by decide +kernel
theorem dX6_lasts_85 : decode cX6_lasts 85 = .ok (.iload 4, 2) := by decide +kernel
theorem dX6_lasts_87 : decode cX6_lasts 87 = .ok (.idiv, 1) := by decide +kernel
theorem dX6_lasts_88 : decode cX6_lasts 88 = .ok (.i2l, 1) := by decide +kernel
theorem dX6_lasts_89 : decode cX6_lasts 89 = .ok (.lreturn, 1) := by decide +kernel
theorem dX6_umbrellas_0 : decode cX6_umbrellas 0 = .ok (.iload_n 1, 1) := by decide +kernel
theorem dX6_umbrellas_1 : decode cX6_umbrellas 1 = .ok (.iconst 4, 1) := by decide +kernel
theorem dX6_umbrellas_2 : decode cX6_umbrellas 2 = .ok (.invokestatic 100, 3) := by decide +kernel
theorem dX6_umbrellas_5 : decode cX6_umbrellas 5 = .ok (.ifCond .eq 11, 3) := by decide +kernel
theorem dX6_umbrellas_8 : decode cX6_umbrellas 8 = .ok (.iload_n 2, 1) := by decide +kernel
theorem dX6_umbrellas_9 : decode cX6_umbrellas 9 = .ok (.iconst 2, 1) := by decide +kernel
theorem dX6_umbrellas_10 : decode cX6_umbrellas 10 = .ok (.invokestatic 100, 3) := by decide +kernel
theorem dX6_umbrellas_13 : decode cX6_umbrellas 13 = .ok (.ifCond .ne 6, 3) := by decide +kernel
theorem dX6_umbrellas_16 : decode cX6_umbrellas 16 = .ok (.bipush (-2), 2) := by decide +kernel
theorem dX6_umbrellas_18 : decode cX6_umbrellas 18 = .ok (.ireturn, 1) := by decide +kernel
theorem dX6_umbrellas_19 : decode cX6_umbrellas 19 = .ok (.aload_n 0, 1) := by decide +kernel
theorem dX6_umbrellas_20 : decode cX6_umbrellas 20 = .ok (.getfield 21, 3) := by decide +kernel
theorem dX6_umbrellas_23 : decode cX6_umbrellas 23 = .ok (.getfield 71, 3) := by decide +kernel
theorem dX6_umbrellas_26 : decode cX6_umbrellas 26 = .ok (.ifCond .ne 6, 3) := by decide +kernel
theorem dX6_umbrellas_29 : decode cX6_umbrellas 29 = .ok (.bipush (-3), 2) := by decide +kernel
theorem dX6_umbrellas_31 : decode cX6_umbrellas 31 = .ok (.ireturn, 1) := by decide +kernel
theorem dX6_umbrellas_32 : decode cX6_umbrellas 32 = .ok (.aload_n 0, 1) := by decide +kernel
theorem dX6_umbrellas_33 : decode cX6_umbrellas 33 = .ok (.getfield 21, 3) := by decide +kernel
theorem dX6_umbrellas_36 : decode cX6_umbrellas 36 = .ok (.iload_n 1, 1) := by decide +kernel
theorem dX6_umbrellas_37 : decode cX6_umbrellas 37 = .ok (.iload_n 2, 1) := by decide +kernel
theorem dX6_umbrellas_38 : decode cX6_umbrellas 38 = .ok (.invokestatic 154, 3) := by decide +kernel
theorem dX6_umbrellas_41 : decode cX6_umbrellas 41 = .ok (.ireturn, 1) := by decide +kernel
theorem dX6_turn_0 : decode cX6_turn 0 = .ok (.iload_n 1, 1) := by decide +kernel
theorem dX6_turn_1 : decode cX6_turn 1 = .ok (.iconst 2, 1) := by decide +kernel
theorem dX6_turn_2 : decode cX6_turn 2 = .ok (.invokestatic 100, 3) := by decide +kernel
theorem dX6_turn_5 : decode cX6_turn 5 = .ok (.ifCond .ne 6, 3) := by decide +kernel
theorem dX6_turn_8 : decode cX6_turn 8 = .ok (.bipush (-2), 2) := by decide +kernel
theorem dX6_turn_10 : decode cX6_turn 10 = .ok (.ireturn, 1) := by decide +kernel
theorem dX6_turn_11 : decode cX6_turn 11 = .ok (.aload_n 0, 1) := by decide +kernel
theorem dX6_turn_12 : decode cX6_turn 12 = .ok (.getfield 21, 3) := by decide +kernel
theorem dX6_turn_15 : decode cX6_turn 15 = .ok (.getfield 71, 3) := by decide +kernel
theorem dX6_turn_18 : decode cX6_turn 18 = .ok (.ifCond .ne 6, 3) := by decide +kernel
theorem dX6_turn_21 : decode cX6_turn 21 = .ok (.bipush (-3), 2) := by decide +kernel
theorem dX6_turn_23 : decode cX6_turn 23 = .ok (.ireturn, 1) := by decide +kernel
theorem dX6_turn_24 : decode cX6_turn 24 = .ok (.aload_n 0, 1) := by decide +kernel
theorem dX6_turn_25 : decode cX6_turn 25 = .ok (.getfield 21, 3) := by decide +kernel
theorem dX6_turn_28 : decode cX6_turn 28 = .ok (.iload_n 1, 1) := by decide +kernel
theorem dX6_turn_29 : decode cX6_turn 29 = .ok (.invokestatic 160, 3) := by decide +kernel
theorem dX6_turn_32 : decode cX6_turn 32 = .ok (.ireturn, 1) := by decide +kernel
theorem dX6_roofs_0 : decode cX6_roofs 0 = .ok (.iload_n 1, 1) := by decide +kernel
theorem dX6_roofs_1 : decode cX6_roofs 1 = .ok (.invokestatic 119, 3) := by decide +kernel
theorem dX6_roofs_4 : decode cX6_roofs 4 = .ok (.ifCond .eq 11, 3) := by decide +kernel
theorem dX6_roofs_7 : decode cX6_roofs 7 = .ok (.iload_n 2, 1) := by decide +kernel
theorem dX6_roofs_8 : decode cX6_roofs 8 = .ok (.iconst 2, 1) := by decide +kernel
theorem dX6_roofs_9 : decode cX6_roofs 9 = .ok (.invokestatic 100, 3) := by decide +kernel
theorem dX6_roofs_12 : decode cX6_roofs 12 = .ok (.ifCond .ne 6, 3) := by decide +kernel
theorem dX6_roofs_15 : decode cX6_roofs 15 = .ok (.bipush (-2), 2) := by decide +kernel
theorem dX6_roofs_17 : decode cX6_roofs 17 = .ok (.ireturn, 1) := by decide +kernel
theorem dX6_roofs_18 : decode cX6_roofs 18 = .ok (.aload_n 0, 1) := by decide +kernel
theorem dX6_roofs_19 : decode cX6_roofs 19 = .ok (.getfield 21, 3) := by decide +kernel
theorem dX6_roofs_22 : decode cX6_roofs 22 = .ok (.getfield 71, 3) := by decide +kernel
theorem dX6_roofs_25 : decode cX6_roofs 25 = .ok (.ifCond .ne 6, 3) := by decide +kernel
theorem dX6_roofs_28 : decode cX6_roofs 28 = .ok (.bipush (-3), 2) := by decide +kernel
theorem dX6_roofs_30 : decode cX6_roofs 30 = .ok (.ireturn, 1) := by decide +kernel
theorem dX6_roofs_31 : decode cX6_roofs 31 = .ok (.aload_n 0, 1) := by decide +kernel
theorem dX6_roofs_32 : decode cX6_roofs 32 = .ok (.getfield 21, 3) := by decide +kernel
theorem dX6_roofs_35 : decode cX6_roofs 35 = .ok (.iload_n 1, 1) := by decide +kernel
theorem dX6_roofs_36 : decode cX6_roofs 36 = .ok (.invokestatic 164, 3) := by decide +kernel
theorem dX6_roofs_39 : decode cX6_roofs 39 = .ok (.istore_n 3, 1) := by decide +kernel
theorem dX6_roofs_40 : decode cX6_roofs 40 = .ok (.iload_n 2, 1) := by decide +kernel
theorem dX6_roofs_41 : decode cX6_roofs 41 = .ok (.ifCond .ne 7, 3) := by decide +kernel
theorem dX6_roofs_44 : decode cX6_roofs 44 = .ok (.iload_n 3, 1) := by decide +kernel
theorem dX6_roofs_45 : decode cX6_roofs 45 = .ok (.goto 7, 3) := by decide +kernel
theorem dX6_roofs_48 : decode cX6_roofs 48 = .ok (.iload_n 3, 1) := by decide +kernel
theorem dX6_roofs_49 : decode cX6_roofs 49 = .ok (.invokestatic 167, 3) := by decide +kernel
theorem dX6_roofs_52 : decode cX6_roofs 52 = .ok (.ireturn, 1) := by decide +kernel
theorem dX6_takenFor_0 : decode cX6_takenFor 0 = .ok (.aload_n 0, 1) := by decide +kernel
theorem dX6_takenFor_1 : decode cX6_takenFor 1 = .ok (.iconst 0, 1) := by decide +kernel
theorem dX6_takenFor_2 : decode cX6_takenFor 2 = .ok (.putfield 36, 3) := by decide +kernel
theorem dX6_takenFor_5 : decode cX6_takenFor 5 = .ok (.iload_n 2, 1) := by decide +kernel
theorem dX6_takenFor_6 : decode cX6_takenFor 6 = .ok (.invokestatic 39, 3) := by decide +kernel
theorem dX6_takenFor_9 : decode cX6_takenFor 9 = .ok (.ifCond .ne 5, 3) := by decide +kernel
theorem dX6_takenFor_12 : decode cX6_takenFor 12 = .ok (.iconst (-1), 1) := by decide +kernel
theorem dX6_takenFor_13 : decode cX6_takenFor 13 = .ok (.ireturn, 1) := by decide +kernel
theorem dX6_takenFor_14 : decode cX6_takenFor 14 = .ok (.iload_n 1, 1) := by decide +kernel
theorem dX6_takenFor_15 : decode cX6_takenFor 15 = .ok (.invokestatic 119, 3) := by decide +kernel
theorem dX6_takenFor_18 : decode cX6_takenFor 18 = .ok (.ifCond .eq 19, 3) := by decide +kernel
theorem dX6_takenFor_21 : decode cX6_takenFor 21 = .ok (.iload 5, 2) := by decide +kernel
theorem dX6_takenFor_23 : decode cX6_takenFor 23 = .ok (.iconst 2, 1) := by decide +kernel
theorem dX6_takenFor_24 : decode cX6_takenFor 24 = .ok (.invokestatic 100, 3) := by decide +kernel
theorem dX6_takenFor_27 : decode cX6_takenFor 27 = .ok (.ifCond .eq 10, 3) := by decide +kernel
theorem dX6_takenFor_30 : decode cX6_takenFor 30 = .ok (.iload_n 3, 1) := by decide +kernel
theorem dX6_takenFor_31 : decode cX6_takenFor 31 = .ok (.invokestatic 43, 3) := by decide +kernel
theorem dX6_takenFor_34 : decode cX6_takenFor 34 = .ok (.ifCond .ne 6, 3) := by decide +kernel
theorem dX6_takenFor_37 : decode cX6_takenFor 37 = .ok (.bipush (-2), 2) := by decide +kernel
theorem dX6_takenFor_39 : decode cX6_takenFor 39 = .ok (.ireturn, 1) := by decide +kernel
theorem dX6_takenFor_40 : decode cX6_takenFor 40 = .ok (.aload_n 0, 1) := by decide +kernel
theorem dX6_takenFor_41 : decode cX6_takenFor 41 = .ok (.getfield 13, 3) := by decide +kernel
theorem dX6_takenFor_44 : decode cX6_takenFor 44 = .ok (.iload_n 2, 1) := by decide +kernel
theorem dX6_takenFor_45 : decode cX6_takenFor 45 = .ok (.aaload, 1) := by decide +kernel
theorem dX6_takenFor_46 : decode cX6_takenFor 46 = .ok (.astore 6, 2) := by decide +kernel
theorem dX6_takenFor_48 : decode cX6_takenFor 48 = .ok (.aload 6, 2) := by decide +kernel
theorem dX6_takenFor_50 : decode cX6_takenFor 50 = .ok (.iload_n 3, 1) := by decide +kernel
theorem dX6_takenFor_51 : decode cX6_takenFor 51 = .ok (.invokevirtual 46, 3) := by decide +kernel
theorem dX6_takenFor_54 : decode cX6_takenFor 54 = .ok (.istore 7, 2) := by decide +kernel
theorem dX6_takenFor_56 : decode cX6_takenFor 56 = .ok (.iload 7, 2) := by decide +kernel
theorem dX6_takenFor_58 : decode cX6_takenFor 58 = .ok (.ifCond .ne 17, 3) := by decide +kernel
theorem dX6_takenFor_61 : decode cX6_takenFor 61 = .ok (.aload 6, 2) := by decide +kernel
theorem dX6_takenFor_63 : decode cX6_takenFor 63 = .ok (.iload 4, 2) := by decide +kernel
theorem dX6_takenFor_65 : decode cX6_takenFor 65 = .ok (.iconst 3, 1) := by decide +kernel
theorem dX6_takenFor_66 : decode cX6_takenFor 66 = .ok (.invokevirtual 50, 3) := by decide +kernel
theorem dX6_takenFor_69 : decode cX6_takenFor 69 = .ok (.ifCond .ne 6, 3) := by decide +kernel
theorem dX6_takenFor_72 : decode cX6_takenFor 72 = .ok (.iconst 3, 1) := by decide +kernel
theorem dX6_takenFor_73 : decode cX6_takenFor 73 = .ok (.istore 7, 2) := by decide +kernel
theorem dX6_takenFor_75 : decode cX6_takenFor 75 = .ok (.iload 7, 2) := by decide +kernel
theorem dX6_takenFor_77 : decode cX6_takenFor 77 = .ok (.ifCond .eq 10, 3) := by decide +kernel
theorem dX6_takenFor_80 : decode cX6_takenFor 80 = .ok (.aload_n 0, 1) := by decide +kernel
theorem dX6_takenFor_81 : decode cX6_takenFor 81 = .ok (.iload 7, 2) := by decide +kernel
theorem dX6_takenFor_83 : decode cX6_takenFor 83 = .ok (.invokevirtual 54, 3) := by decide +kernel
theorem dX6_takenFor_86 : decode cX6_takenFor 86 = .ok (.ireturn, 1) := by decide +kernel
theorem dX6_takenFor_87 : decode cX6_takenFor 87 = .ok (.aload_n 0, 1) := by decide +kernel
theorem dX6_takenFor_88 : decode cX6_takenFor 88 = .ok (.getfield 21, 3) := by decide +kernel
theorem dX6_takenFor_91 : decode cX6_takenFor 91 = .ok (.getfield 71, 3) := by decide +kernel
theorem dX6_takenFor_94 : decode cX6_takenFor 94 = .ok (.ifCond .ne 6, 3) := by decide +kernel
theorem dX6_takenFor_97 : decode cX6_takenFor 97 = .ok (.bipush (-3), 2) := by decide +kernel
theorem dX6_takenFor_99 : decode cX6_takenFor 99 = .ok (.ireturn, 1) := by decide +kernel
theorem dX6_takenFor_100 : decode cX6_takenFor 100 = .ok (.iconst 0, 1) := by decide +kernel
theorem dX6_takenFor_101 : decode cX6_takenFor 101 = .ok (.istore 8, 2) := by decide +kernel
theorem dX6_takenFor_103 : decode cX6_takenFor 103 = .ok (.iload 8, 2) := by decide +kernel
theorem dX6_takenFor_105 : decode cX6_takenFor 105 = .ok (.iconst 3, 1) := by decide +kernel
theorem dX6_takenFor_106 : decode cX6_takenFor 106 = .ok (.if_icmp .ge 32, 3) := by decide +kernel
theorem dX6_takenFor_109 : decode cX6_takenFor 109 = .ok (.aload 6, 2) := by decide +kernel
theorem dX6_takenFor_111 : decode cX6_takenFor 111 = .ok (.getfield 172, 3) := by decide +kernel
theorem dX6_takenFor_114 : decode cX6_takenFor 114 = .ok (.iload 4, 2) := by decide +kernel
theorem dX6_takenFor_116 : decode cX6_takenFor 116 = .ok (.iload 8, 2) := by decide +kernel
theorem dX6_takenFor_118 : decode cX6_takenFor 118 = .ok (.iadd, 1) := by decide +kernel
theorem dX6_takenFor_119 : decode cX6_takenFor 119 = .ok (.iaload, 1) := by decide +kernel
theorem dX6_takenFor_120 : decode cX6_takenFor 120 = .ok (.sipush 1000, 3) := by decide +kernel
theorem dX6_takenFor_123 : decode cX6_takenFor 123 = .ok (.invokestatic 100, 3) := by decide +kernel
theorem dX6_takenFor_126 : decode cX6_takenFor 126 = .ok (.ifCond .ne 6, 3) := by decide +kernel
theorem dX6_takenFor_129 : decode cX6_takenFor 129 = .ok (.bipush (-2), 2) := by decide +kernel
theorem dX6_takenFor_131 : decode cX6_takenFor 131 = .ok (.ireturn, 1) := by decide +kernel
theorem dX6_takenFor_132 : decode cX6_takenFor 132 = .ok (.iinc 8 1, 3) := by decide +kernel
theorem dX6_takenFor_135 : decode cX6_takenFor 135 = .ok (.goto (-32), 3) := by decide +kernel
theorem dX6_takenFor_138 : decode cX6_takenFor 138 = .ok (.aload_n 0, 1) := by decide +kernel
theorem dX6_takenFor_139 : decode cX6_takenFor 139 = .ok (.getfield 21, 3) := by decide +kernel
theorem dX6_takenFor_142 : decode cX6_takenFor 142 = .ok (.aload 6, 2) := by decide +kernel
theorem dX6_takenFor_144 : decode cX6_takenFor 144 = .ok (.iload 4, 2) := by decide +kernel
theorem dX6_takenFor_146 : decode cX6_takenFor 146 = .ok (.iload_n 1, 1) := by decide +kernel
theorem dX6_takenFor_147 : decode cX6_takenFor 147 = .ok (.invokevirtual 175, 3) := by decide +kernel
theorem dX6_takenFor_150 : decode cX6_takenFor 150 = .ok (.istore 8, 2) := by decide +kernel
theorem dX6_takenFor_152 : decode cX6_takenFor 152 = .ok (.iload 5, 2) := by decide +kernel
theorem dX6_takenFor_154 : decode cX6_takenFor 154 = .ok (.ifCond .ne 8, 3) := by decide +kernel
theorem dX6_takenFor_157 : decode cX6_takenFor 157 = .ok (.iload 8, 2) := by decide +kernel
theorem dX6_takenFor_159 : decode cX6_takenFor 159 = .ok (.goto 17, 3) := by decide +kernel
theorem dX6_takenFor_162 : decode cX6_takenFor 162 = .ok (.aload_n 0, 1) := by decide +kernel
theorem dX6_takenFor_163 : decode cX6_takenFor 163 = .ok (.getfield 21, 3) := by decide +kernel
theorem dX6_takenFor_166 : decode cX6_takenFor 166 = .ok (.iload 8, 2) := by decide +kernel
theorem dX6_takenFor_168 : decode cX6_takenFor 168 = .ok (.aload 6, 2) := by decide +kernel
theorem dX6_takenFor_170 : decode cX6_takenFor 170 = .ok (.iload 4, 2) := by decide +kernel
theorem dX6_takenFor_172 : decode cX6_takenFor 172 = .ok (.iload_n 1, 1) := by decide +kernel
theorem dX6_takenFor_173 : decode cX6_takenFor 173 = .ok (.invokevirtual 178, 3) := by decide +kernel
theorem dX6_takenFor_176 : decode cX6_takenFor 176 = .ok (.ireturn, 1) := by decide +kernel
theorem dX6_whose_0 : decode cX6_whose 0 = .ok (.iload_n 2, 1) := by decide +kernel
theorem dX6_whose_1 : decode cX6_whose 1 = .ok (.invokestatic 119, 3) := by decide +kernel
theorem dX6_whose_4 : decode cX6_whose 4 = .ok (.ifCond .ne 6, 3) := by decide +kernel
theorem dX6_whose_7 : decode cX6_whose 7 = .ok (.bipush (-2), 2) := by decide +kernel
theorem dX6_whose_9 : decode cX6_whose 9 = .ok (.ireturn, 1) := by decide +kernel
theorem dX6_whose_10 : decode cX6_whose 10 = .ok (.iconst 0, 1) := by decide +kernel
theorem dX6_whose_11 : decode cX6_whose 11 = .ok (.istore_n 3, 1) := by decide +kernel
theorem dX6_whose_12 : decode cX6_whose 12 = .ok (.iconst 0, 1) := by decide +kernel
theorem dX6_whose_13 : decode cX6_whose 13 = .ok (.istore 4, 2) := by decide +kernel
theorem dX6_whose_15 : decode cX6_whose 15 = .ok (.iload 4, 2) := by decide +kernel
theorem dX6_whose_17 : decode cX6_whose 17 = .ok (.aload_n 0, 1) := by decide +kernel
theorem dX6_whose_18 : decode cX6_whose 18 = .ok (.getfield 21, 3) := by decide +kernel
theorem dX6_whose_21 : decode cX6_whose 21 = .ok (.getfield 71, 3) := by decide +kernel
theorem dX6_whose_24 : decode cX6_whose 24 = .ok (.if_icmp .ge 30, 3) := by decide +kernel
theorem dX6_whose_27 : decode cX6_whose 27 = .ok (.aload_n 0, 1) := by decide +kernel
theorem dX6_whose_28 : decode cX6_whose 28 = .ok (.getfield 21, 3) := by decide +kernel
theorem dX6_whose_31 : decode cX6_whose 31 = .ok (.iload 4, 2) := by decide +kernel
theorem dX6_whose_33 : decode cX6_whose 33 = .ok (.iload_n 2, 1) := by decide +kernel
theorem dX6_whose_34 : decode cX6_whose 34 = .ok (.invokevirtual 126, 3) := by decide +kernel
theorem dX6_whose_37 : decode cX6_whose 37 = .ok (.iload_n 1, 1) := by decide +kernel
theorem dX6_whose_38 : decode cX6_whose 38 = .ok (.if_icmp .ne 10, 3) := by decide +kernel
theorem dX6_whose_41 : decode cX6_whose 41 = .ok (.iload_n 3, 1) := by decide +kernel
theorem dX6_whose_42 : decode cX6_whose 42 = .ok (.iconst 1, 1) := by decide +kernel
theorem dX6_whose_43 : decode cX6_whose 43 = .ok (.iload 4, 2) := by decide +kernel
theorem dX6_whose_45 : decode cX6_whose 45 = .ok (.ishl, 1) := by decide +kernel
theorem dX6_whose_46 : decode cX6_whose 46 = .ok (.ior, 1) := by decide +kernel
theorem dX6_whose_47 : decode cX6_whose 47 = .ok (.istore_n 3, 1) := by decide +kernel
theorem dX6_whose_48 : decode cX6_whose 48 = .ok (.iinc 4 1, 3) := by decide +kernel
theorem dX6_whose_51 : decode cX6_whose 51 = .ok (.goto (-36), 3) := by decide +kernel
theorem dX6_whose_54 : decode cX6_whose 54 = .ok (.iload_n 3, 1) := by decide +kernel
theorem dX6_whose_55 : decode cX6_whose 55 = .ok (.ireturn, 1) := by decide +kernel
theorem dX6_reading_0 : decode cX6_reading 0 = .ok (.aload_n 0, 1) := by decide +kernel
theorem dX6_reading_1 : decode cX6_reading 1 = .ok (.iload_n 1, 1) := by decide +kernel
theorem dX6_reading_2 : decode cX6_reading 2 = .ok (.invokevirtual 74, 3) := by decide +kernel
theorem dX6_reading_5 : decode cX6_reading 5 = .ok (.ifCond .eq 11, 3) := by decide +kernel
theorem dX6_reading_8 : decode cX6_reading 8 = .ok (.iload_n 2, 1) := by decide +kernel
theorem dX6_reading_9 : decode cX6_reading 9 = .ok (.iconst 3, 1) := by decide +kernel
theorem dX6_reading_10 : decode cX6_reading 10 = .ok (.invokestatic 100, 3) := by decide +kernel
theorem dX6_reading_13 : decode cX6_reading 13 = .ok (.ifCond .ne 5, 3) := by decide +kernel
theorem dX6_reading_16 : decode cX6_reading 16 = .ok (.iconst (-1), 1) := by decide +kernel
theorem dX6_reading_17 : decode cX6_reading 17 = .ok (.ireturn, 1) := by decide +kernel
theorem dX6_reading_18 : decode cX6_reading 18 = .ok (.iload_n 3, 1) := by decide +kernel
theorem dX6_reading_19 : decode cX6_reading 19 = .ok (.invokestatic 119, 3) := by decide +kernel
theorem dX6_reading_22 : decode cX6_reading 22 = .ok (.ifCond .eq 13, 3) := by decide +kernel
theorem dX6_reading_25 : decode cX6_reading 25 = .ok (.iload 4, 2) := by decide +kernel
theorem dX6_reading_27 : decode cX6_reading 27 = .ok (.bipush 100, 2) := by decide +kernel
theorem dX6_reading_29 : decode cX6_reading 29 = .ok (.invokestatic 100, 3) := by decide +kernel
theorem dX6_reading_32 : decode cX6_reading 32 = .ok (.ifCond .ne 6, 3) := by decide +kernel
theorem dX6_reading_35 : decode cX6_reading 35 = .ok (.bipush (-2), 2) := by decide +kernel
theorem dX6_reading_37 : decode cX6_reading 37 = .ok (.ireturn, 1) := by decide +kernel
theorem dX6_reading_38 : decode cX6_reading 38 = .ok (.aload_n 0, 1) := by decide +kernel
theorem dX6_reading_39 : decode cX6_reading 39 = .ok (.getfield 28, 3) := by decide +kernel
theorem dX6_reading_42 : decode cX6_reading 42 = .ok (.getfield 182, 3) := by decide +kernel
theorem dX6_reading_45 : decode cX6_reading 45 = .ok (.bipush 8, 2) := by decide +kernel
theorem dX6_reading_47 : decode cX6_reading 47 = .ok (.if_icmp .ne 6, 3) := by decide +kernel
theorem dX6_reading_50 : decode cX6_reading 50 = .ok (.bipush (-4), 2) := by decide +kernel
theorem dX6_reading_52 : decode cX6_reading 52 = .ok (.ireturn, 1) := by decide +kernel
theorem dX6_reading_53 : decode cX6_reading 53 = .ok (.aload_n 0, 1) := by decide +kernel
theorem dX6_reading_54 : decode cX6_reading 54 = .ok (.getfield 28, 3) := by decide +kernel
theorem dX6_reading_57 : decode cX6_reading 57 = .ok (.iload_n 1, 1) := by decide +kernel
theorem dX6_reading_58 : decode cX6_reading 58 = .ok (.iload_n 2, 1) := by decide +kernel
theorem dX6_reading_59 : decode cX6_reading 59 = .ok (.iload_n 3, 1) := by decide +kernel
theorem dX6_reading_60 : decode cX6_reading 60 = .ok (.iload 4, 2) := by decide +kernel
theorem dX6_reading_62 : decode cX6_reading 62 = .ok (.invokevirtual 183, 3) := by decide +kernel
theorem dX6_reading_65 : decode cX6_reading 65 = .ok (.ireturn, 1) := by decide +kernel
theorem dX6_back_0 : decode cX6_back 0 = .ok (.iload_n 1, 1) := by decide +kernel
theorem dX6_back_1 : decode cX6_back 1 = .ok (.aload_n 0, 1) := by decide +kernel
theorem dX6_back_2 : decode cX6_back 2 = .ok (.getfield 28, 3) := by decide +kernel
theorem dX6_back_5 : decode cX6_back 5 = .ok (.getfield 182, 3) := by decide +kernel
theorem dX6_back_8 : decode cX6_back 8 = .ok (.iconst 1, 1) := by decide +kernel
theorem dX6_back_9 : decode cX6_back 9 = .ok (.iadd, 1) := by decide +kernel
theorem dX6_back_10 : decode cX6_back 10 = .ok (.invokestatic 100, 3) := by decide +kernel
theorem dX6_back_13 : decode cX6_back 13 = .ok (.ifCond .ne 6, 3) := by decide +kernel
theorem dX6_back_16 : decode cX6_back 16 = .ok (.bipush (-2), 2) := by decide +kernel
theorem dX6_back_18 : decode cX6_back 18 = .ok (.ireturn, 1) := by decide +kernel
theorem dX6_back_19 : decode cX6_back 19 = .ok (.aload_n 0, 1) := by decide +kernel
theorem dX6_back_20 : decode cX6_back 20 = .ok (.getfield 28, 3) := by decide +kernel
theorem dX6_back_23 : decode cX6_back 23 = .ok (.aload_n 0, 1) := by decide +kernel
theorem dX6_back_24 : decode cX6_back 24 = .ok (.getfield 28, 3) := by decide +kernel
theorem dX6_back_27 : decode cX6_back 27 = .ok (.getfield 182, 3) := by decide +kernel
theorem dX6_back_30 : decode cX6_back 30 = .ok (.iload_n 1, 1) := by decide +kernel
theorem dX6_back_31 : decode cX6_back 31 = .ok (.isub, 1) := by decide +kernel
theorem dX6_back_32 : decode cX6_back 32 = .ok (.invokevirtual 67, 3) := by decide +kernel
theorem dX6_back_35 : decode cX6_back 35 = .ok (.aload_n 0, 1) := by decide +kernel
theorem dX6_back_36 : decode cX6_back 36 = .ok (.getfield 28, 3) := by decide +kernel
theorem dX6_back_39 : decode cX6_back 39 = .ok (.getfield 182, 3) := by decide +kernel
theorem dX6_back_42 : decode cX6_back 42 = .ok (.ireturn, 1) := by decide +kernel
theorem dX6_rains_0 : decode cX6_rains 0 = .ok (.iload_n 1, 1) := by decide +kernel
theorem dX6_rains_1 : decode cX6_rains 1 = .ok (.bipush 60, 2) := by decide +kernel
theorem dX6_rains_3 : decode cX6_rains 3 = .ok (.invokestatic 100, 3) := by decide +kernel
theorem dX6_rains_6 : decode cX6_rains 6 = .ok (.ifCond .ne 6, 3) := by decide +kernel
theorem dX6_rains_9 : decode cX6_rains 9 = .ok (.bipush (-2), 2) := by decide +kernel
theorem dX6_rains_11 : decode cX6_rains 11 = .ok (.ireturn, 1) := by decide +kernel
theorem dX6_rains_12 : decode cX6_rains 12 = .ok (.aload_n 0, 1) := by decide +kernel
theorem dX6_rains_13 : decode cX6_rains 13 = .ok (.getfield 21, 3) := by decide +kernel
theorem dX6_rains_16 : decode cX6_rains 16 = .ok (.getfield 71, 3) := by decide +kernel
theorem dX6_rains_19 : decode cX6_rains 19 = .ok (.ifCond .ne 6, 3) := by decide +kernel
theorem dX6_rains_22 : decode cX6_rains 22 = .ok (.bipush (-3), 2) := by decide +kernel
theorem dX6_rains_24 : decode cX6_rains 24 = .ok (.ireturn, 1) := by decide +kernel
theorem dX6_rains_25 : decode cX6_rains 25 = .ok (.aload_n 0, 1) := by decide +kernel
theorem dX6_rains_26 : decode cX6_rains 26 = .ok (.getfield 21, 3) := by decide +kernel
theorem dX6_rains_29 : decode cX6_rains 29 = .ok (.getfield 106, 3) := by decide +kernel
theorem dX6_rains_32 : decode cX6_rains 32 = .ok (.iload_n 1, 1) := by decide +kernel
theorem dX6_rains_33 : decode cX6_rains 33 = .ok (.iaload, 1) := by decide +kernel
theorem dX6_rains_34 : decode cX6_rains 34 = .ok (.istore_n 2, 1) := by decide +kernel
theorem dX6_rains_35 : decode cX6_rains 35 = .ok (.iconst 0, 1) := by decide +kernel
theorem dX6_rains_36 : decode cX6_rains 36 = .ok (.istore_n 3, 1) := by decide +kernel
theorem dX6_rains_37 : decode cX6_rains 37 = .ok (.iconst 0, 1) := by decide +kernel
theorem dX6_rains_38 : decode cX6_rains 38 = .ok (.istore 4, 2) := by decide +kernel
theorem dX6_rains_40 : decode cX6_rains 40 = .ok (.iload 4, 2) := by decide +kernel
theorem dX6_rains_42 : decode cX6_rains 42 = .ok (.bipush 9, 2) := by decide +kernel
theorem dX6_rains_44 : decode cX6_rains 44 = .ok (.if_icmp .gt 40, 3) := by decide +kernel
theorem dX6_rains_47 : decode cX6_rains 47 = .ok (.aload_n 0, 1) := by decide +kernel
theorem dX6_rains_48 : decode cX6_rains 48 = .ok (.getfield 21, 3) := by decide +kernel
theorem dX6_rains_51 : decode cX6_rains 51 = .ok (.iload_n 1, 1) := by decide +kernel
theorem dX6_rains_52 : decode cX6_rains 52 = .ok (.iload 4, 2) := by decide +kernel
theorem dX6_rains_54 : decode cX6_rains 54 = .ok (.invokevirtual 112, 3) := by decide +kernel
theorem dX6_rains_57 : decode cX6_rains 57 = .ok (.aload_n 0, 1) := by decide +kernel
theorem dX6_rains_58 : decode cX6_rains 58 = .ok (.getfield 28, 3) := by decide +kernel
theorem dX6_rains_61 : decode cX6_rains 61 = .ok (.aload_n 0, 1) := by decide +kernel
theorem dX6_rains_62 : decode cX6_rains 62 = .ok (.getfield 21, 3) := by decide +kernel
theorem dX6_rains_65 : decode cX6_rains 65 = .ok (.invokevirtual 187, 3) := by decide +kernel
theorem dX6_rains_68 : decode cX6_rains 68 = .ok (.ifCond .eq 10, 3) := by decide +kernel
theorem dX6_rains_71 : decode cX6_rains 71 = .ok (.iload_n 3, 1) := by decide +kernel
theorem dX6_rains_72 : decode cX6_rains 72 = .ok (.iconst 1, 1) := by decide +kernel
theorem dX6_rains_73 : decode cX6_rains 73 = .ok (.iload 4, 2) := by decide +kernel
theorem dX6_rains_75 : decode cX6_rains 75 = .ok (.ishl, 1) := by decide +kernel
theorem dX6_rains_76 : decode cX6_rains 76 = .ok (.ior, 1) := by decide +kernel
theorem dX6_rains_77 : decode cX6_rains 77 = .ok (.istore_n 3, 1) := by decide +kernel
theorem dX6_rains_78 : decode cX6_rains 78 = .ok (.iinc 4 1, 3) := by decide +kernel
theorem dX6_rains_81 : decode cX6_rains 81 = .ok (.goto (-41), 3) := by decide +kernel
theorem dX6_rains_84 : decode cX6_rains 84 = .ok (.aload_n 0, 1) := by decide +kernel
theorem dX6_rains_85 : decode cX6_rains 85 = .ok (.getfield 21, 3) := by decide +kernel
theorem dX6_rains_88 : decode cX6_rains 88 = .ok (.iload_n 1, 1) := by decide +kernel
theorem dX6_rains_89 : decode cX6_rains 89 = .ok (.iload_n 2, 1) := by decide +kernel
theorem dX6_rains_90 : decode cX6_rains 90 = .ok (.invokevirtual 112, 3) := by decide +kernel
theorem dX6_rains_93 : decode cX6_rains 93 = .ok (.iload_n 3, 1) := by decide +kernel
theorem dX6_rains_94 : decode cX6_rains 94 = .ok (.ireturn, 1) := by decide +kernel
theorem dX6_cast_0 : decode cX6_cast 0 = .ok (.iload_n 1, 1) := by decide +kernel
theorem dX6_cast_1 : decode cX6_cast 1 = .ok (.invokestatic 119, 3) := by decide +kernel
theorem dX6_cast_4 : decode cX6_cast 4 = .ok (.ifCond .eq 15, 3) := by decide +kernel
theorem dX6_cast_7 : decode cX6_cast 7 = .ok (.iload_n 2, 1) := by decide +kernel
theorem dX6_cast_8 : decode cX6_cast 8 = .ok (.iconst 1, 1) := by decide +kernel
theorem dX6_cast_9 : decode cX6_cast 9 = .ok (.if_icmp .lt 10, 3) := by decide +kernel
theorem dX6_cast_12 : decode cX6_cast 12 = .ok (.iload_n 2, 1) := by decide +kernel
theorem dX6_cast_13 : decode cX6_cast 13 = .ok (.sipush 999, 3) := by decide +kernel
theorem dX6_cast_16 : decode cX6_cast 16 = .ok (.if_icmp .le 6, 3) := by decide +kernel
theorem dX6_cast_19 : decode cX6_cast 19 = .ok (.bipush (-2), 2) := by decide +kernel
theorem dX6_cast_21 : decode cX6_cast 21 = .ok (.ireturn, 1) := by decide +kernel
theorem dX6_cast_22 : decode cX6_cast 22 = .ok (.iconst 0, 1) := by decide +kernel
theorem dX6_cast_23 : decode cX6_cast 23 = .ok (.istore_n 3, 1) := by decide +kernel
theorem dX6_cast_24 : decode cX6_cast 24 = .ok (.iconst 0, 1) := by decide +kernel
theorem dX6_cast_25 : decode cX6_cast 25 = .ok (.istore 4, 2) := by decide +kernel
theorem dX6_cast_27 : decode cX6_cast 27 = .ok (.iload 4, 2) := by decide +kernel
theorem dX6_cast_29 : decode cX6_cast 29 = .ok (.aload_n 0, 1) := by decide +kernel
theorem dX6_cast_30 : decode cX6_cast 30 = .ok (.getfield 21, 3) := by decide +kernel
theorem dX6_cast_33 : decode cX6_cast 33 = .ok (.getfield 71, 3) := by decide +kernel
theorem dX6_cast_36 : decode cX6_cast 36 = .ok (.if_icmp .ge 22, 3) := by decide +kernel
theorem dX6_cast_39 : decode cX6_cast 39 = .ok (.iload_n 3, 1) := by decide +kernel
theorem dX6_cast_40 : decode cX6_cast 40 = .ok (.aload_n 0, 1) := by decide +kernel
theorem dX6_cast_41 : decode cX6_cast 41 = .ok (.getfield 21, 3) := by decide +kernel
theorem dX6_cast_44 : decode cX6_cast 44 = .ok (.iload 4, 2) := by decide +kernel
theorem dX6_cast_46 : decode cX6_cast 46 = .ok (.iload_n 1, 1) := by decide +kernel
theorem dX6_cast_47 : decode cX6_cast 47 = .ok (.invokevirtual 126, 3) := by decide +kernel
theorem dX6_cast_50 : decode cX6_cast 50 = .ok (.iadd, 1) := by decide +kernel
theorem dX6_cast_51 : decode cX6_cast 51 = .ok (.istore_n 3, 1) := by decide +kernel
theorem dX6_cast_52 : decode cX6_cast 52 = .ok (.iinc 4 1, 3) := by decide +kernel
theorem dX6_cast_55 : decode cX6_cast 55 = .ok (.goto (-28), 3) := by decide +kernel
theorem dX6_cast_58 : decode cX6_cast 58 = .ok (.iload_n 3, 1) := by decide +kernel
theorem dX6_cast_59 : decode cX6_cast 59 = .ok (.bipush 9, 2) := by decide +kernel
theorem dX6_cast_61 : decode cX6_cast 61 = .ok (.imul, 1) := by decide +kernel
theorem dX6_cast_62 : decode cX6_cast 62 = .ok (.bipush 10, 2) := by decide +kernel
theorem dX6_cast_64 : decode cX6_cast 64 = .ok (.idiv, 1) := by decide +kernel
theorem dX6_cast_65 : decode cX6_cast 65 = .ok (.iload_n 2, 1) := by decide +kernel
theorem dX6_cast_66 : decode cX6_cast 66 = .ok (.idiv, 1) := by decide +kernel
theorem dX6_cast_67 : decode cX6_cast 67 = .ok (.ireturn, 1) := by decide +kernel
theorem dX6_sheet_0 : decode cX6_sheet 0 = .ok (.aload_n 0, 1) := by decide +kernel
theorem dX6_sheet_1 : decode cX6_sheet 1 = .ok (.iconst 0, 1) := by decide +kernel
theorem dX6_sheet_2 : decode cX6_sheet 2 = .ok (.putfield 36, 3) := by decide +kernel
theorem dX6_sheet_5 : decode cX6_sheet 5 = .ok (.iload_n 1, 1) := by decide +kernel
theorem dX6_sheet_6 : decode cX6_sheet 6 = .ok (.invokestatic 39, 3) := by decide +kernel
theorem dX6_sheet_9 : decode cX6_sheet 9 = .ok (.ifCond .ne 5, 3) := by decide +kernel
theorem dX6_sheet_12 : decode cX6_sheet 12 = .ok (.iconst (-1), 1) := by decide +kernel
theorem dX6_sheet_13 : decode cX6_sheet 13 = .ok (.ireturn, 1) := by decide +kernel
theorem dX6_sheet_14 : decode cX6_sheet 14 = .ok (.iload_n 2, 1) := by decide +kernel
theorem dX6_sheet_15 : decode cX6_sheet 15 = .ok (.invokestatic 43, 3) := by decide +kernel
theorem dX6_sheet_18 : decode cX6_sheet 18 = .ok (.ifCond .eq 9, 3) := by decide +kernel
theorem dX6_sheet_21 : decode cX6_sheet 21 = .ok (.iload_n 3, 1) := by decide +kernel
theorem dX6_sheet_22 : decode cX6_sheet 22 = .ok (.bipush 60, 2) := by decide +kernel
theorem dX6_sheet_24 : decode cX6_sheet 24 = .ok (.if_icmp .le 6, 3) := by decide +kernel
theorem dX6_sheet_27 : decode cX6_sheet 27 = .ok (.bipush (-2), 2) := by decide +kernel
theorem dX6_sheet_29 : decode cX6_sheet 29 = .ok (.ireturn, 1) := by decide +kernel
theorem dX6_sheet_30 : decode cX6_sheet 30 = .ok (.iload_n 3, 1) := by decide +kernel
theorem dX6_sheet_31 : decode cX6_sheet 31 = .ok (.ifCond .ge 9, 3) := by decide +kernel
theorem dX6_sheet_34 : decode cX6_sheet 34 = .ok (.aload_n 0, 1) := by decide +kernel
theorem dX6_sheet_35 : decode cX6_sheet 35 = .ok (.iconst 4, 1) := by decide +kernel
theorem dX6_sheet_36 : decode cX6_sheet 36 = .ok (.invokevirtual 54, 3) := by decide +kernel
theorem dX6_sheet_39 : decode cX6_sheet 39 = .ok (.ireturn, 1) := by decide +kernel
theorem dX6_sheet_40 : decode cX6_sheet 40 = .ok (.aload_n 0, 1) := by decide +kernel
theorem dX6_sheet_41 : decode cX6_sheet 41 = .ok (.getfield 13, 3) := by decide +kernel
theorem dX6_sheet_44 : decode cX6_sheet 44 = .ok (.iload_n 1, 1) := by decide +kernel
theorem dX6_sheet_45 : decode cX6_sheet 45 = .ok (.aaload, 1) := by decide +kernel
theorem dX6_sheet_46 : decode cX6_sheet 46 = .ok (.iload_n 2, 1) := by decide +kernel
theorem dX6_sheet_47 : decode cX6_sheet 47 = .ok (.iload_n 3, 1) := by decide +kernel
theorem dX6_sheet_48 : decode cX6_sheet 48 = .ok (.invokevirtual 191, 3) := by decide +kernel
theorem dX6_sheet_51 : decode cX6_sheet 51 = .ok (.iconst 1, 1) := by decide +kernel
theorem dX6_sheet_52 : decode cX6_sheet 52 = .ok (.ireturn, 1) := by decide +kernel
theorem dX6_lose_0 : decode cX6_lose 0 = .ok (.iload_n 1, 1) := by decide +kernel
theorem dX6_lose_1 : decode cX6_lose 1 = .ok (.invokestatic 39, 3) := by decide +kernel
theorem dX6_lose_4 : decode cX6_lose 4 = .ok (.ifCond .ne 5, 3) := by decide +kernel
theorem dX6_lose_7 : decode cX6_lose 7 = .ok (.iconst (-1), 1) := by decide +kernel
theorem dX6_lose_8 : decode cX6_lose 8 = .ok (.ireturn, 1) := by decide +kernel
theorem dX6_lose_9 : decode cX6_lose 9 = .ok (.aload_n 0, 1) := by decide +kernel
theorem dX6_lose_10 : decode cX6_lose 10 = .ok (.getfield 13, 3) := by decide +kernel
theorem dX6_lose_13 : decode cX6_lose 13 = .ok (.iload_n 1, 1) := by decide +kernel
theorem dX6_lose_14 : decode cX6_lose 14 = .ok (.aaload, 1) := by decide +kernel
theorem dX6_lose_15 : decode cX6_lose 15 = .ok (.getfield 194, 3) := by decide +kernel
theorem dX6_lose_18 : decode cX6_lose 18 = .ok (.ifCond .eq 7, 3) := by decide +kernel
theorem dX6_lose_21 : decode cX6_lose 21 = .ok (.iconst 1, 1) := by decide +kernel
theorem dX6_lose_22 : decode cX6_lose 22 = .ok (.goto 4, 3) := by decide +kernel
theorem dX6_lose_25 : decode cX6_lose 25 = .ok (.iconst 0, 1) := by decide +kernel
theorem dX6_lose_26 : decode cX6_lose 26 = .ok (.istore_n 2, 1) := by decide +kernel
theorem dX6_lose_27 : decode cX6_lose 27 = .ok (.aload_n 0, 1) := by decide +kernel
theorem dX6_lose_28 : decode cX6_lose 28 = .ok (.getfield 13, 3) := by decide +kernel
theorem dX6_lose_31 : decode cX6_lose 31 = .ok (.iload_n 1, 1) := by decide +kernel
theorem dX6_lose_32 : decode cX6_lose 32 = .ok (.aaload, 1) := by decide +kernel
theorem dX6_lose_33 : decode cX6_lose 33 = .ok (.iconst 0, 1) := by decide +kernel
theorem dX6_lose_34 : decode cX6_lose 34 = .ok (.putfield 194, 3) := by decide +kernel
theorem dX6_lose_37 : decode cX6_lose 37 = .ok (.iload_n 2, 1) := by decide +kernel
theorem dX6_lose_38 : decode cX6_lose 38 = .ok (.ireturn, 1) := by decide +kernel
theorem dX6_put_0 : decode cX6_put 0 = .ok (.aload_n 0, 1) := by decide +kernel
theorem dX6_put_1 : decode cX6_put 1 = .ok (.iconst 0, 1) := by decide +kernel
theorem dX6_put_2 : decode cX6_put 2 = .ok (.putfield 36, 3) := by decide +kernel
theorem dX6_put_5 : decode cX6_put 5 = .ok (.iload_n 1, 1) := by decide +kernel
theorem dX6_put_6 : decode cX6_put 6 = .ok (.invokestatic 39, 3) := by decide +kernel
theorem dX6_put_9 : decode cX6_put 9 = .ok (.ifCond .ne 5, 3) := by decide +kernel
theorem dX6_put_12 : decode cX6_put 12 = .ok (.iconst (-1), 1) := by decide +kernel
theorem dX6_put_13 : decode cX6_put 13 = .ok (.ireturn, 1) := by decide +kernel
theorem dX6_put_14 : decode cX6_put 14 = .ok (.aload_n 0, 1) := by decide +kernel
theorem dX6_put_15 : decode cX6_put 15 = .ok (.getfield 13, 3) := by decide +kernel
theorem dX6_put_18 : decode cX6_put 18 = .ok (.iload_n 1, 1) := by decide +kernel
theorem dX6_put_19 : decode cX6_put 19 = .ok (.aaload, 1) := by decide +kernel
theorem dX6_put_20 : decode cX6_put 20 = .ok (.astore 4, 2) := by decide +kernel
theorem dX6_put_22 : decode cX6_put 22 = .ok (.aload 4, 2) := by decide +kernel
theorem dX6_put_24 : decode cX6_put 24 = .ok (.getfield 194, 3) := by decide +kernel
theorem dX6_put_27 : decode cX6_put 27 = .ok (.ifCond .ne 9, 3) := by decide +kernel
theorem dX6_put_30 : decode cX6_put 30 = .ok (.aload_n 0, 1) := by decide +kernel
theorem dX6_put_31 : decode cX6_put 31 = .ok (.iconst 1, 1) := by decide +kernel
theorem dX6_put_32 : decode cX6_put 32 = .ok (.invokevirtual 54, 3) := by decide +kernel
theorem dX6_put_35 : decode cX6_put 35 = .ok (.ireturn, 1) := by decide +kernel
theorem dX6_put_36 : decode cX6_put 36 = .ok (.aload 4, 2) := by decide +kernel
theorem dX6_put_38 : decode cX6_put 38 = .ok (.iload_n 2, 1) := by decide +kernel
theorem dX6_put_39 : decode cX6_put 39 = .ok (.iconst 1, 1) := by decide +kernel
theorem dX6_put_40 : decode cX6_put 40 = .ok (.invokevirtual 50, 3) := by decide +kernel
theorem dX6_put_43 : decode cX6_put 43 = .ok (.ifCond .ne 9, 3) := by decide +kernel
theorem dX6_put_46 : decode cX6_put 46 = .ok (.aload_n 0, 1) := by decide +kernel
theorem dX6_put_47 : decode cX6_put 47 = .ok (.iconst 3, 1) := by decide +kernel
theorem dX6_put_48 : decode cX6_put 48 = .ok (.invokevirtual 54, 3) := by decide +kernel
theorem dX6_put_51 : decode cX6_put 51 = .ok (.ireturn, 1) := by decide +kernel
theorem dX6_put_52 : decode cX6_put 52 = .ok (.aload 4, 2) := by decide +kernel
theorem dX6_put_54 : decode cX6_put 54 = .ok (.getfield 172, 3) := by decide +kernel
theorem dX6_put_57 : decode cX6_put 57 = .ok (.iload_n 2, 1) := by decide +kernel
theorem dX6_put_58 : decode cX6_put 58 = .ok (.aload 4, 2) := by decide +kernel
theorem dX6_put_60 : decode cX6_put 60 = .ok (.iload_n 3, 1) := by decide +kernel
theorem dX6_put_61 : decode cX6_put 61 = .ok (.invokevirtual 197, 3) := by decide +kernel
theorem dX6_put_64 : decode cX6_put 64 = .ok (.iastore, 1) := by decide +kernel
theorem dX6_put_65 : decode cX6_put 65 = .ok (.iconst 1, 1) := by decide +kernel
theorem dX6_put_66 : decode cX6_put 66 = .ok (.ireturn, 1) := by decide +kernel
theorem dX6_cell_0 : decode cX6_cell 0 = .ok (.aload_n 0, 1) := by decide +kernel
theorem dX6_cell_1 : decode cX6_cell 1 = .ok (.iconst 0, 1) := by decide +kernel
theorem dX6_cell_2 : decode cX6_cell 2 = .ok (.putfield 36, 3) := by decide +kernel
theorem dX6_cell_5 : decode cX6_cell 5 = .ok (.iload_n 1, 1) := by decide +kernel
theorem dX6_cell_6 : decode cX6_cell 6 = .ok (.invokestatic 39, 3) := by decide +kernel
theorem dX6_cell_9 : decode cX6_cell 9 = .ok (.ifCond .eq 10, 3) := by decide +kernel
theorem dX6_cell_12 : decode cX6_cell 12 = .ok (.iload_n 3, 1) := by decide +kernel
theorem dX6_cell_13 : decode cX6_cell 13 = .ok (.invokestatic 43, 3) := by decide +kernel
theorem dX6_cell_16 : decode cX6_cell 16 = .ok (.ifCond .ne 7, 3) := by decide +kernel
theorem dX6_cell_19 : decode cX6_cell 19 = .ok (.ldc2_w 142, 3) := by decide +kernel
theorem dX6_cell_22 : decode cX6_cell 22 = .ok (.lreturn, 1) := by decide +kernel
theorem dX6_cell_23 : decode cX6_cell 23 = .ok (.aload_n 0, 1) := by decide +kernel
theorem dX6_cell_24 : decode cX6_cell 24 = .ok (.getfield 13, 3) := by decide +kernel
theorem dX6_cell_27 : decode cX6_cell 27 = .ok (.iload_n 1, 1) := by decide +kernel
theorem dX6_cell_28 : decode cX6_cell 28 = .ok (.aaload, 1) := by decide +kernel
theorem dX6_cell_29 : decode cX6_cell 29 = .ok (.astore 4, 2) := by decide +kernel
theorem dX6_cell_31 : decode cX6_cell 31 = .ok (.aload 4, 2) := by decide +kernel
theorem dX6_cell_33 : decode cX6_cell 33 = .ok (.iload_n 3, 1) := by decide +kernel
theorem dX6_cell_34 : decode cX6_cell 34 = .ok (.invokevirtual 46, 3) := by decide +kernel
theorem dX6_cell_37 : decode cX6_cell 37 = .ok (.istore 5, 2) := by decide +kernel
theorem dX6_cell_39 : decode cX6_cell 39 = .ok (.iload 5, 2) := by decide +kernel
theorem dX6_cell_41 : decode cX6_cell 41 = .ok (.ifCond .ne 16, 3) := by decide +kernel
theorem dX6_cell_44 : decode cX6_cell 44 = .ok (.aload 4, 2) := by decide +kernel
theorem dX6_cell_46 : decode cX6_cell 46 = .ok (.iload_n 2, 1) := by decide +kernel
theorem dX6_cell_47 : decode cX6_cell 47 = .ok (.iconst 1, 1) := by decide +kernel
theorem dX6_cell_48 : decode cX6_cell 48 = .ok (.invokevirtual 50, 3) := by decide +kernel
theorem dX6_cell_51 : decode cX6_cell 51 = .ok (.ifCond .ne 6, 3) := by decide +kernel
theorem dX6_cell_54 : decode cX6_cell 54 = .ok (.iconst 3, 1) := by decide +kernel
theorem dX6_cell_55 : decode cX6_cell 55 = .ok (.istore 5, 2) := by decide +kernel
theorem dX6_cell_57 : decode cX6_cell 57 = .ok (.iload 5, 2) := by decide +kernel
theorem dX6_cell_59 : decode cX6_cell 59 = .ok (.ifCond .eq 13, 3) := by decide +kernel
theorem dX6_cell_62 : decode cX6_cell 62 = .ok (.aload_n 0, 1) := by decide +kernel
theorem dX6_cell_63 : decode cX6_cell 63 = .ok (.iload 5, 2) := by decide +kernel
theorem dX6_cell_65 : decode cX6_cell 65 = .ok (.putfield 36, 3) := by decide +kernel
theorem dX6_cell_68 : decode cX6_cell 68 = .ok (.ldc2_w 142, 3) := by decide +kernel
theorem dX6_cell_71 : decode cX6_cell 71 = .ok (.lreturn, 1) := by decide +kernel
theorem dX6_cell_72 : decode cX6_cell 72 = .ok (.aload 4, 2) := by decide +kernel
theorem dX6_cell_74 : decode cX6_cell 74 = .ok (.getfield 172, 3) := by decide +kernel
theorem dX6_cell_77 : decode cX6_cell 77 = .ok (.iload_n 2, 1) := by decide +kernel
theorem dX6_cell_78 : decode cX6_cell 78 = .ok (.iaload, 1) := by decide +kernel
theorem dX6_cell_79 : decode cX6_cell 79 = .ok (.i2l, 1) := by decide +kernel
theorem dX6_cell_80 : decode cX6_cell 80 = .ok (.lreturn, 1) := by decide +kernel
theorem dX6_copy_0 : decode cX6_copy 0 = .ok (.aload_n 0, 1) := by decide +kernel
theorem dX6_copy_1 : decode cX6_copy 1 = .ok (.iconst 0, 1) := by decide +kernel
theorem dX6_copy_2 : decode cX6_copy 2 = .ok (.putfield 36, 3) := by decide +kernel
theorem dX6_copy_5 : decode cX6_copy 5 = .ok (.iload_n 1, 1) := by decide +kernel
theorem dX6_copy_6 : decode cX6_copy 6 = .ok (.invokestatic 39, 3) := by decide +kernel
theorem dX6_copy_9 : decode cX6_copy 9 = .ok (.ifCond .eq 10, 3) := by decide +kernel
theorem dX6_copy_12 : decode cX6_copy 12 = .ok (.iload_n 3, 1) := by decide +kernel
theorem dX6_copy_13 : decode cX6_copy 13 = .ok (.invokestatic 39, 3) := by decide +kernel
theorem dX6_copy_16 : decode cX6_copy 16 = .ok (.ifCond .ne 5, 3) := by decide +kernel
theorem dX6_copy_19 : decode cX6_copy 19 = .ok (.iconst (-1), 1) := by decide +kernel
theorem dX6_copy_20 : decode cX6_copy 20 = .ok (.ireturn, 1) := by decide +kernel
theorem dX6_copy_21 : decode cX6_copy 21 = .ok (.aload_n 0, 1) := by decide +kernel
theorem dX6_copy_22 : decode cX6_copy 22 = .ok (.getfield 13, 3) := by decide +kernel
theorem dX6_copy_25 : decode cX6_copy 25 = .ok (.iload_n 1, 1) := by decide +kernel
theorem dX6_copy_26 : decode cX6_copy 26 = .ok (.aaload, 1) := by decide +kernel
theorem dX6_copy_27 : decode cX6_copy 27 = .ok (.astore 6, 2) := by decide +kernel
theorem dX6_copy_29 : decode cX6_copy 29 = .ok (.aload_n 0, 1) := by decide +kernel
theorem dX6_copy_30 : decode cX6_copy 30 = .ok (.getfield 13, 3) := by decide +kernel
theorem dX6_copy_33 : decode cX6_copy 33 = .ok (.iload_n 3, 1) := by decide +kernel
theorem dX6_copy_34 : decode cX6_copy 34 = .ok (.aaload, 1) := by decide +kernel
theorem dX6_copy_35 : decode cX6_copy 35 = .ok (.astore 7, 2) := by decide +kernel
theorem dX6_copy_37 : decode cX6_copy 37 = .ok (.aload 6, 2) := by decide +kernel
theorem dX6_copy_39 : decode cX6_copy 39 = .ok (.getfield 194, 3) := by decide +kernel
theorem dX6_copy_42 : decode cX6_copy 42 = .ok (.ifCond .eq 11, 3) := by decide +kernel
theorem dX6_copy_45 : decode cX6_copy 45 = .ok (.aload 7, 2) := by decide +kernel
theorem dX6_copy_47 : decode cX6_copy 47 = .ok (.getfield 194, 3) := by decide +kernel
theorem dX6_copy_50 : decode cX6_copy 50 = .ok (.ifCond .ne 9, 3) := by decide +kernel
theorem dX6_copy_53 : decode cX6_copy 53 = .ok (.aload_n 0, 1) := by decide +kernel
theorem dX6_copy_54 : decode cX6_copy 54 = .ok (.iconst 1, 1) := by decide +kernel
theorem dX6_copy_55 : decode cX6_copy 55 = .ok (.invokevirtual 54, 3) := by decide +kernel
theorem dX6_copy_58 : decode cX6_copy 58 = .ok (.ireturn, 1) := by decide +kernel
theorem dX6_copy_59 : decode cX6_copy 59 = .ok (.aload 6, 2) := by decide +kernel
theorem dX6_copy_61 : decode cX6_copy 61 = .ok (.getfield 200, 3) := by decide +kernel
theorem dX6_copy_64 : decode cX6_copy 64 = .ok (.aload 7, 2) := by decide +kernel
theorem dX6_copy_66 : decode cX6_copy 66 = .ok (.getfield 200, 3) := by decide +kernel
theorem dX6_copy_69 : decode cX6_copy 69 = .ok (.if_icmp .eq 9, 3) := by decide +kernel
theorem dX6_copy_72 : decode cX6_copy 72 = .ok (.aload_n 0, 1) := by decide +kernel
theorem dX6_copy_73 : decode cX6_copy 73 = .ok (.iconst 2, 1) := by decide +kernel
theorem dX6_copy_74 : decode cX6_copy 74 = .ok (.invokevirtual 54, 3) := by decide +kernel
theorem dX6_copy_77 : decode cX6_copy 77 = .ok (.ireturn, 1) := by decide +kernel
theorem dX6_copy_78 : decode cX6_copy 78 = .ok (.aload 6, 2) := by decide +kernel
theorem dX6_copy_80 : decode cX6_copy 80 = .ok (.iload_n 2, 1) := by decide +kernel
theorem dX6_copy_81 : decode cX6_copy 81 = .ok (.iload 5, 2) := by decide +kernel
theorem dX6_copy_83 : decode cX6_copy 83 = .ok (.invokevirtual 50, 3) := by decide +kernel
theorem dX6_copy_86 : decode cX6_copy 86 = .ok (.ifCond .eq 15, 3) := by decide +kernel
theorem dX6_copy_89 : decode cX6_copy 89 = .ok (.aload 7, 2) := by decide +kernel
theorem dX6_copy_91 : decode cX6_copy 91 = .ok (.iload 4, 2) := by decide +kernel
theorem dX6_copy_93 : decode cX6_copy 93 = .ok (.iload 5, 2) := by decide +kernel
theorem dX6_copy_95 : decode cX6_copy 95 = .ok (.invokevirtual 50, 3) := by decide +kernel
theorem dX6_copy_98 : decode cX6_copy 98 = .ok (.ifCond .ne 9, 3) := by decide +kernel
theorem dX6_copy_101 : decode cX6_copy 101 = .ok (.aload_n 0, 1) := by decide +kernel
theorem dX6_copy_102 : decode cX6_copy 102 = .ok (.iconst 3, 1) := by decide +kernel
theorem dX6_copy_103 : decode cX6_copy 103 = .ok (.invokevirtual 54, 3) := by decide +kernel
theorem dX6_copy_106 : decode cX6_copy 106 = .ok (.ireturn, 1) := by decide +kernel
theorem dX6_copy_107 : decode cX6_copy 107 = .ok (.aload 6, 2) := by decide +kernel
theorem dX6_copy_109 : decode cX6_copy 109 = .ok (.getfield 172, 3) := by decide +kernel
theorem dX6_copy_112 : decode cX6_copy 112 = .ok (.iload_n 2, 1) := by decide +kernel
theorem dX6_copy_113 : decode cX6_copy 113 = .ok (.aload 7, 2) := by decide +kernel
theorem dX6_copy_115 : decode cX6_copy 115 = .ok (.getfield 172, 3) := by decide +kernel
theorem dX6_copy_118 : decode cX6_copy 118 = .ok (.iload 4, 2) := by decide +kernel
theorem dX6_copy_120 : decode cX6_copy 120 = .ok (.iload 5, 2) := by decide +kernel
theorem dX6_copy_122 : decode cX6_copy 122 = .ok (.invokestatic 203, 3) := by decide +kernel
theorem dX6_copy_125 : decode cX6_copy 125 = .ok (.iload 5, 2) := by decide +kernel
theorem dX6_copy_127 : decode cX6_copy 127 = .ok (.ireturn, 1) := by decide +kernel
theorem dX6_tell_0 : decode cX6_tell 0 = .ok (.aload_n 0, 1) := by decide +kernel
theorem dX6_tell_1 : decode cX6_tell 1 = .ok (.iload_n 1, 1) := by decide +kernel
theorem dX6_tell_2 : decode cX6_tell 2 = .ok (.invokevirtual 74, 3) := by decide +kernel
theorem dX6_tell_5 : decode cX6_tell 5 = .ok (.ifCond .ne 5, 3) := by decide +kernel
theorem dX6_tell_8 : decode cX6_tell 8 = .ok (.iconst (-1), 1) := by decide +kernel
theorem dX6_tell_9 : decode cX6_tell 9 = .ok (.ireturn, 1) := by decide +kernel
theorem dX6_tell_10 : decode cX6_tell 10 = .ok (.aload_n 0, 1) := by decide +kernel
theorem dX6_tell_11 : decode cX6_tell 11 = .ok (.getfield 21, 3) := by decide +kernel
theorem dX6_tell_14 : decode cX6_tell 14 = .ok (.getfield 77, 3) := by decide +kernel
theorem dX6_tell_17 : decode cX6_tell 17 = .ok (.iload_n 1, 1) := by decide +kernel
theorem dX6_tell_18 : decode cX6_tell 18 = .ok (.aaload, 1) := by decide +kernel
theorem dX6_tell_19 : decode cX6_tell 19 = .ok (.astore_n 2, 1) := by decide +kernel
theorem dX6_tell_20 : decode cX6_tell 20 = .ok (.aload_n 2, 1) := by decide +kernel
theorem dX6_tell_21 : decode cX6_tell 21 = .ok (.getfield 87, 3) := by decide +kernel
theorem dX6_tell_24 : decode cX6_tell 24 = .ok (.lookupswitch 40 #[(1, 34), (2, 28)], 28) := by decide +kernel
theorem dX6_tell_52 : decode cX6_tell 52 = .ok (.aload_n 0, 1) := by decide +kernel
theorem dX6_tell_53 : decode cX6_tell 53 = .ok (.aload_n 2, 1) := by decide +kernel
theorem dX6_tell_54 : decode cX6_tell 54 = .ok (.invokevirtual 209, 3) := by decide +kernel
theorem dX6_tell_57 : decode cX6_tell 57 = .ok (.ireturn, 1) := by decide +kernel
theorem dX6_tell_58 : decode cX6_tell 58 = .ok (.aload_n 0, 1) := by decide +kernel
theorem dX6_tell_59 : decode cX6_tell 59 = .ok (.aload_n 2, 1) := by decide +kernel
theorem dX6_tell_60 : decode cX6_tell 60 = .ok (.invokevirtual 213, 3) := by decide +kernel
theorem dX6_tell_63 : decode cX6_tell 63 = .ok (.ireturn, 1) := by decide +kernel
theorem dX6_tell_64 : decode cX6_tell 64 = .ok (.aload_n 0, 1) := by decide +kernel
theorem dX6_tell_65 : decode cX6_tell 65 = .ok (.aload_n 2, 1) := by decide +kernel
theorem dX6_tell_66 : decode cX6_tell 66 = .ok (.invokevirtual 216, 3) := by decide +kernel
theorem dX6_tell_69 : decode cX6_tell 69 = .ok (.ireturn, 1) := by decide +kernel
theorem dX6_bow_0 : decode cX6_bow 0 = .ok (.aload_n 0, 1) := by decide +kernel
theorem dX6_bow_1 : decode cX6_bow 1 = .ok (.iload_n 1, 1) := by decide +kernel
theorem dX6_bow_2 : decode cX6_bow 2 = .ok (.invokevirtual 74, 3) := by decide +kernel
theorem dX6_bow_5 : decode cX6_bow 5 = .ok (.ifCond .ne 5, 3) := by decide +kernel
theorem dX6_bow_8 : decode cX6_bow 8 = .ok (.iconst (-1), 1) := by decide +kernel
theorem dX6_bow_9 : decode cX6_bow 9 = .ok (.ireturn, 1) := by decide +kernel
theorem dX6_bow_10 : decode cX6_bow 10 = .ok (.aload_n 0, 1) := by decide +kernel
theorem dX6_bow_11 : decode cX6_bow 11 = .ok (.getfield 21, 3) := by decide +kernel
theorem dX6_bow_14 : decode cX6_bow 14 = .ok (.getfield 77, 3) := by decide +kernel
theorem dX6_bow_17 : decode cX6_bow 17 = .ok (.iload_n 1, 1) := by decide +kernel
theorem dX6_bow_18 : decode cX6_bow 18 = .ok (.aaload, 1) := by decide +kernel
theorem dX6_bow_19 : decode cX6_bow 19 = .ok (.getfield 87, 3) := by decide +kernel
theorem dX6_bow_22 : decode cX6_bow 22 = .ok (.iconst 2, 1) := by decide +kernel
theorem dX6_bow_23 : decode cX6_bow 23 = .ok (.if_icmp .ne 11, 3) := by decide +kernel
theorem dX6_bow_26 : decode cX6_bow 26 = .ok (.aload_n 0, 1) := by decide +kernel
theorem dX6_bow_27 : decode cX6_bow 27 = .ok (.iconst 5, 1) := by decide +kernel
theorem dX6_bow_28 : decode cX6_bow 28 = .ok (.invokevirtual 219, 3) := by decide +kernel
theorem dX6_bow_31 : decode cX6_bow 31 = .ok (.bipush 70, 2) := by decide +kernel
theorem dX6_bow_33 : decode cX6_bow 33 = .ok (.ireturn, 1) := by decide +kernel
theorem dX6_bow_34 : decode cX6_bow 34 = .ok (.aload_n 0, 1) := by decide +kernel
theorem dX6_bow_35 : decode cX6_bow 35 = .ok (.iconst 4, 1) := by decide +kernel
theorem dX6_bow_36 : decode cX6_bow 36 = .ok (.invokevirtual 219, 3) := by decide +kernel
theorem dX6_bow_39 : decode cX6_bow 39 = .ok (.iload_n 1, 1) := by decide +kernel
theorem dX6_bow_40 : decode cX6_bow 40 = .ok (.ireturn, 1) := by decide +kernel
theorem dX6_as_0 : decode cX6_as 0 = .ok (.aload_n 0, 1) := by decide +kernel
theorem dX6_as_1 : decode cX6_as 1 = .ok (.iconst 0, 1) := by decide +kernel
theorem dX6_as_2 : decode cX6_as 2 = .ok (.putfield 36, 3) := by decide +kernel
theorem dX6_as_5 : decode cX6_as 5 = .ok (.aload_n 0, 1) := by decide +kernel
theorem dX6_as_6 : decode cX6_as 6 = .ok (.iload_n 1, 1) := by decide +kernel
theorem dX6_as_7 : decode cX6_as 7 = .ok (.invokevirtual 74, 3) := by decide +kernel
theorem dX6_as_10 : decode cX6_as 10 = .ok (.ifCond .ne 5, 3) := by decide +kernel
theorem dX6_as_13 : decode cX6_as 13 = .ok (.iconst (-1), 1) := by decide +kernel
theorem dX6_as_14 : decode cX6_as 14 = .ok (.ireturn, 1) := by decide +kernel
theorem dX6_as_15 : decode cX6_as 15 = .ok (.iload_n 2, 1) := by decide +kernel
theorem dX6_as_16 : decode cX6_as 16 = .ok (.iconst 3, 1) := by decide +kernel
theorem dX6_as_17 : decode cX6_as 17 = .ok (.invokestatic 100, 3) := by decide +kernel
theorem dX6_as_20 : decode cX6_as 20 = .ok (.ifCond .ne 6, 3) := by decide +kernel
theorem dX6_as_23 : decode cX6_as 23 = .ok (.bipush (-2), 2) := by decide +kernel
theorem dX6_as_25 : decode cX6_as 25 = .ok (.ireturn, 1) := by decide +kernel
theorem dX6_as_26 : decode cX6_as 26 = .ok (.aload_n 0, 1) := by decide +kernel
theorem dX6_as_27 : decode cX6_as 27 = .ok (.getfield 21, 3) := by decide +kernel
theorem dX6_as_30 : decode cX6_as 30 = .ok (.getfield 77, 3) := by decide +kernel
theorem dX6_as_33 : decode cX6_as 33 = .ok (.iload_n 1, 1) := by decide +kernel
theorem dX6_as_34 : decode cX6_as 34 = .ok (.aaload, 1) := by decide +kernel
theorem dX6_as_35 : decode cX6_as 35 = .ok (.getfield 87, 3) := by decide +kernel
theorem dX6_as_38 : decode cX6_as 38 = .ok (.iload_n 2, 1) := by decide +kernel
theorem dX6_as_39 : decode cX6_as 39 = .ok (.if_icmp .ge 9, 3) := by decide +kernel
theorem dX6_as_42 : decode cX6_as 42 = .ok (.aload_n 0, 1) := by decide +kernel
theorem dX6_as_43 : decode cX6_as 43 = .ok (.iconst 2, 1) := by decide +kernel
theorem dX6_as_44 : decode cX6_as 44 = .ok (.invokevirtual 54, 3) := by decide +kernel
theorem dX6_as_47 : decode cX6_as 47 = .ok (.ireturn, 1) := by decide +kernel
theorem dX6_as_48 : decode cX6_as 48 = .ok (.iconst 1, 1) := by decide +kernel
theorem dX6_as_49 : decode cX6_as 49 = .ok (.ireturn, 1) := by decide +kernel
theorem dX6_trace_0 : decode cX6_trace 0 = .ok (.aload_n 0, 1) := by decide +kernel
theorem dX6_trace_1 : decode cX6_trace 1 = .ok (.getfield 32, 3) := by decide +kernel
theorem dX6_trace_4 : decode cX6_trace 4 = .ok (.ireturn, 1) := by decide +kernel
theorem dX6_fault_0 : decode cX6_fault 0 = .ok (.aload_n 0, 1) := by decide +kernel
theorem dX6_fault_1 : decode cX6_fault 1 = .ok (.getfield 36, 3) := by decide +kernel
theorem dX6_fault_4 : decode cX6_fault 4 = .ok (.ireturn, 1) := by decide +kernel
theorem dX6_many_0 : decode cX6_many 0 = .ok (.iload_n 1, 1) := by decide +kernel
theorem dX6_many_1 : decode cX6_many 1 = .ok (.tableswitch 51 0 2 #[27, 35, 43], 27) := by decide +kernel
theorem dX6_many_28 : decode cX6_many 28 = .ok (.aload_n 0, 1) := by decide +kernel
theorem dX6_many_29 : decode cX6_many 29 = .ok (.getfield 21, 3) := by decide +kernel
theorem dX6_many_32 : decode cX6_many 32 = .ok (.getfield 71, 3) := by decide +kernel
theorem dX6_many_35 : decode cX6_many 35 = .ok (.ireturn, 1) := by decide +kernel
theorem dX6_many_36 : decode cX6_many 36 = .ok (.aload_n 0, 1) := by decide +kernel
theorem dX6_many_37 : decode cX6_many 37 = .ok (.getfield 21, 3) := by decide +kernel
theorem dX6_many_40 : decode cX6_many 40 = .ok (.getfield 116, 3) := by decide +kernel
theorem dX6_many_43 : decode cX6_many 43 = .ok (.ireturn, 1) := by decide +kernel
theorem dX6_many_44 : decode cX6_many 44 = .ok (.aload_n 0, 1) := by decide +kernel
theorem dX6_many_45 : decode cX6_many 45 = .ok (.getfield 28, 3) := by decide +kernel
theorem dX6_many_48 : decode cX6_many 48 = .ok (.getfield 182, 3) := by decide +kernel
theorem dX6_many_51 : decode cX6_many 51 = .ok (.ireturn, 1) := by decide +kernel
theorem dX6_many_52 : decode cX6_many 52 = .ok (.bipush (-2), 2) := by decide +kernel
theorem dX6_many_54 : decode cX6_many 54 = .ok (.ireturn, 1) := by decide +kernel
theorem dX6_isBelow_0 : decode cX6_isBelow 0 = .ok (.iload_n 0, 1) := by decide +kernel
theorem dX6_isBelow_1 : decode cX6_isBelow 1 = .ok (.ifCond .lt 12, 3) := by decide +kernel
theorem dX6_isBelow_4 : decode cX6_isBelow 4 = .ok (.iload_n 0, 1) := by decide +kernel
theorem dX6_isBelow_5 : decode cX6_isBelow 5 = .ok (.iload_n 1, 1) := by decide +kernel
theorem dX6_isBelow_6 : decode cX6_isBelow 6 = .ok (.if_icmp .ge 7, 3) := by decide +kernel
theorem dX6_isBelow_9 : decode cX6_isBelow 9 = .ok (.iconst 1, 1) := by decide +kernel
theorem dX6_isBelow_10 : decode cX6_isBelow 10 = .ok (.goto 4, 3) := by decide +kernel
theorem dX6_isBelow_13 : decode cX6_isBelow 13 = .ok (.iconst 0, 1) := by decide +kernel
theorem dX6_isBelow_14 : decode cX6_isBelow 14 = .ok (.ireturn, 1) := by decide +kernel
theorem dX6_isSheet_0 : decode cX6_isSheet 0 = .ok (.iload_n 0, 1) := by decide +kernel
theorem dX6_isSheet_1 : decode cX6_isSheet 1 = .ok (.iconst 4, 1) := by decide +kernel
theorem dX6_isSheet_2 : decode cX6_isSheet 2 = .ok (.invokestatic 100, 3) := by decide +kernel
theorem dX6_isSheet_5 : decode cX6_isSheet 5 = .ok (.ireturn, 1) := by decide +kernel
theorem dX6_isLane_0 : decode cX6_isLane 0 = .ok (.iload_n 0, 1) := by decide +kernel
theorem dX6_isLane_1 : decode cX6_isLane 1 = .ok (.iconst 3, 1) := by decide +kernel
theorem dX6_isLane_2 : decode cX6_isLane 2 = .ok (.invokestatic 100, 3) := by decide +kernel
theorem dX6_isLane_5 : decode cX6_isLane 5 = .ok (.ireturn, 1) := by decide +kernel
theorem dX6_isDawn_0 : decode cX6_isDawn 0 = .ok (.iload_n 0, 1) := by decide +kernel
theorem dX6_isDawn_1 : decode cX6_isDawn 1 = .ok (.bipush 61, 2) := by decide +kernel
theorem dX6_isDawn_3 : decode cX6_isDawn 3 = .ok (.invokestatic 100, 3) := by decide +kernel
theorem dX6_isDawn_6 : decode cX6_isDawn 6 = .ok (.ireturn, 1) := by decide +kernel
theorem dX6_isStatue_0 : decode cX6_isStatue 0 = .ok (.iload_n 1, 1) := by decide +kernel
theorem dX6_isStatue_1 : decode cX6_isStatue 1 = .ok (.aload_n 0, 1) := by decide +kernel
theorem dX6_isStatue_2 : decode cX6_isStatue 2 = .ok (.getfield 21, 3) := by decide +kernel
theorem dX6_isStatue_5 : decode cX6_isStatue 5 = .ok (.getfield 71, 3) := by decide +kernel
theorem dX6_isStatue_8 : decode cX6_isStatue 8 = .ok (.invokestatic 100, 3) := by decide +kernel
theorem dX6_isStatue_11 : decode cX6_isStatue 11 = .ok (.ireturn, 1) := by decide +kernel
theorem dX6_faulty_0 : decode cX6_faulty 0 = .ok (.aload_n 0, 1) := by decide +kernel
theorem dX6_faulty_1 : decode cX6_faulty 1 = .ok (.iload_n 1, 1) := by decide +kernel
theorem dX6_faulty_2 : decode cX6_faulty 2 = .ok (.putfield 36, 3) := by decide +kernel
theorem dX6_faulty_5 : decode cX6_faulty 5 = .ok (.bipush (-10), 2) := by decide +kernel
theorem dX6_faulty_7 : decode cX6_faulty 7 = .ok (.iload_n 1, 1) := by decide +kernel
theorem dX6_faulty_8 : decode cX6_faulty 8 = .ok (.isub, 1) := by decide +kernel
theorem dX6_faulty_9 : decode cX6_faulty 9 = .ok (.ireturn, 1) := by decide +kernel
theorem dX6_leave_0 : decode cX6_leave 0 = .ok (.aload_n 0, 1) := by decide +kernel
theorem dX6_leave_1 : decode cX6_leave 1 = .ok (.bipush 31, 2) := by decide +kernel
theorem dX6_leave_3 : decode cX6_leave 3 = .ok (.aload_n 0, 1) := by decide +kernel
theorem dX6_leave_4 : decode cX6_leave 4 = .ok (.getfield 32, 3) := by decide +kernel
theorem dX6_leave_7 : decode cX6_leave 7 = .ok (.imul, 1) := by decide +kernel
theorem dX6_leave_8 : decode cX6_leave 8 = .ok (.iload_n 1, 1) := by decide +kernel
theorem dX6_leave_9 : decode cX6_leave 9 = .ok (.iadd, 1) := by decide +kernel
theorem dX6_leave_10 : decode cX6_leave 10 = .ok (.putfield 32, 3) := by decide +kernel
theorem dX6_leave_13 : decode cX6_leave 13 = .ok (.return_, 1) := by decide +kernel
theorem dX6_saintTells_0 : decode cX6_saintTells 0 = .ok (.aload_n 0, 1) := by decide +kernel
theorem dX6_saintTells_1 : decode cX6_saintTells 1 = .ok (.iconst 1, 1) := by decide +kernel
theorem dX6_saintTells_2 : decode cX6_saintTells 2 = .ok (.invokevirtual 219, 3) := by decide +kernel
theorem dX6_saintTells_5 : decode cX6_saintTells 5 = .ok (.aload_n 1, 1) := by decide +kernel
theorem dX6_saintTells_6 : decode cX6_saintTells 6 = .ok (.getfield 81, 3) := by decide +kernel
theorem dX6_saintTells_9 : decode cX6_saintTells 9 = .ok (.iconst 0, 1) := by decide +kernel
theorem dX6_saintTells_10 : decode cX6_saintTells 10 = .ok (.iaload, 1) := by decide +kernel
theorem dX6_saintTells_11 : decode cX6_saintTells 11 = .ok (.ireturn, 1) := by decide +kernel
theorem dX6_bishopTells_0 : decode cX6_bishopTells 0 = .ok (.aload_n 0, 1) := by decide +kernel
theorem dX6_bishopTells_1 : decode cX6_bishopTells 1 = .ok (.iconst 2, 1) := by decide +kernel
theorem dX6_bishopTells_2 : decode cX6_bishopTells 2 = .ok (.invokevirtual 219, 3) := by decide +kernel
theorem dX6_bishopTells_5 : decode cX6_bishopTells 5 = .ok (.aload_n 0, 1) := by decide +kernel
theorem dX6_bishopTells_6 : decode cX6_bishopTells 6 = .ok (.aload_n 1, 1) := by decide +kernel
theorem dX6_bishopTells_7 : decode cX6_bishopTells 7 = .ok (.invokevirtual 216, 3) := by decide +kernel
theorem dX6_bishopTells_10 : decode cX6_bishopTells 10 = .ok (.bipush 100, 2) := by decide +kernel
theorem dX6_bishopTells_12 : decode cX6_bishopTells 12 = .ok (.iadd, 1) := by decide +kernel
theorem dX6_bishopTells_13 : decode cX6_bishopTells 13 = .ok (.ireturn, 1) := by decide +kernel
theorem dX6_martyrTells_0 : decode cX6_martyrTells 0 = .ok (.aload_n 0, 1) := by decide +kernel
theorem dX6_martyrTells_1 : decode cX6_martyrTells 1 = .ok (.iconst 3, 1) := by decide +kernel
theorem dX6_martyrTells_2 : decode cX6_martyrTells 2 = .ok (.invokevirtual 219, 3) := by decide +kernel
theorem dX6_martyrTells_5 : decode cX6_martyrTells 5 = .ok (.aload_n 0, 1) := by decide +kernel
theorem dX6_martyrTells_6 : decode cX6_martyrTells 6 = .ok (.aload_n 1, 1) := by decide +kernel
theorem dX6_martyrTells_7 : decode cX6_martyrTells 7 = .ok (.invokevirtual 213, 3) := by decide +kernel
theorem dX6_martyrTells_10 : decode cX6_martyrTells 10 = .ok (.istore_n 2, 1) := by decide +kernel
theorem dX6_martyrTells_11 : decode cX6_martyrTells 11 = .ok (.iload_n 2, 1) := by decide +kernel
theorem dX6_martyrTells_12 : decode cX6_martyrTells 12 = .ok (.aload_n 0, 1) := by decide +kernel
theorem dX6_martyrTells_13 : decode cX6_martyrTells 13 = .ok (.aload_n 1, 1) := by decide +kernel
theorem dX6_martyrTells_14 : decode cX6_martyrTells 14 = .ok (.invokevirtual 216, 3) := by decide +kernel
theorem dX6_martyrTells_17 : decode cX6_martyrTells 17 = .ok (.iadd, 1) := by decide +kernel
theorem dX6_martyrTells_18 : decode cX6_martyrTells 18 = .ok (.ireturn, 1) := by decide +kernel
theorem dX6_commonDivisor_0 : decode cX6_commonDivisor 0 = .ok (.iload_n 0, 1) := by decide +kernel
theorem dX6_commonDivisor_1 : decode cX6_commonDivisor 1 = .ok (.istore_n 2, 1) := by decide +kernel
theorem dX6_commonDivisor_2 : decode cX6_commonDivisor 2 = .ok (.iload_n 1, 1) := by decide +kernel
theorem dX6_commonDivisor_3 : decode cX6_commonDivisor 3 = .ok (.istore_n 3, 1) := by decide +kernel
theorem dX6_commonDivisor_4 : decode cX6_commonDivisor 4 = .ok (.iconst 0, 1) := by decide +kernel
theorem dX6_commonDivisor_5 : decode cX6_commonDivisor 5 = .ok (.istore 4, 2) := by decide +kernel
theorem dX6_commonDivisor_7 : decode cX6_commonDivisor 7 = .ok (.iload 4, 2) := by decide +kernel
theorem dX6_commonDivisor_9 : decode cX6_commonDivisor 9 = .ok (.bipush 100, 2) := by decide +kernel
theorem dX6_commonDivisor_11 : decode cX6_commonDivisor 11 = .ok (.if_icmp .ge 23, 3) := by decide +kernel
theorem dX6_commonDivisor_14 : decode cX6_commonDivisor 14 = .ok (.iload_n 3, 1) := by decide +kernel
theorem dX6_commonDivisor_15 : decode cX6_commonDivisor 15 = .ok (.ifCond .eq 19, 3) := by decide +kernel
theorem dX6_commonDivisor_18 : decode cX6_commonDivisor 18 = .ok (.iload_n 2, 1) := by decide +kernel
theorem dX6_commonDivisor_19 : decode cX6_commonDivisor 19 = .ok (.iload_n 3, 1) := by decide +kernel
theorem dX6_commonDivisor_20 : decode cX6_commonDivisor 20 = .ok (.irem, 1) := by decide +kernel
theorem dX6_commonDivisor_21 : decode cX6_commonDivisor 21 = .ok (.istore 5, 2) := by decide +kernel
theorem dX6_commonDivisor_23 : decode cX6_commonDivisor 23 = .ok (.iload_n 3, 1) := by decide +kernel
theorem dX6_commonDivisor_24 : decode cX6_commonDivisor 24 = .ok (.istore_n 2, 1) := by decide +kernel
theorem dX6_commonDivisor_25 : decode cX6_commonDivisor 25 = .ok (.iload 5, 2) := by decide +kernel
theorem dX6_commonDivisor_27 : decode cX6_commonDivisor 27 = .ok (.istore_n 3, 1) := by decide +kernel
theorem dX6_commonDivisor_28 : decode cX6_commonDivisor 28 = .ok (.iinc 4 1, 3) := by decide +kernel
theorem dX6_commonDivisor_31 : decode cX6_commonDivisor 31 = .ok (.goto (-24), 3) := by decide +kernel
theorem dX6_commonDivisor_34 : decode cX6_commonDivisor 34 = .ok (.iload_n 2, 1) := by decide +kernel
theorem dX6_commonDivisor_35 : decode cX6_commonDivisor 35 = .ok (.ireturn, 1) := by decide +kernel
end
section
theorem dX7_init_0 : decode cX7_init 0 = .ok (.aload_n 0, 1) := by decide +kernel
theorem dX7_init_1 : decode cX7_init 1 = .ok (.invokespecial 1, 3) := by decide +kernel
theorem dX7_init_4 : decode cX7_init 4 = .ok (.aload_n 0, 1) := by decide +kernel
theorem dX7_init_5 : decode cX7_init 5 = .ok (.bipush 7, 2) := by decide +kernel
theorem dX7_init_7 : decode cX7_init 7 = .ok (.newarray .int, 2) := by decide +kernel
theorem dX7_init_9 : decode cX7_init 9 = .ok (.putfield 7, 3) := by decide +kernel
theorem dX7_init_12 : decode cX7_init 12 = .ok (.aload_n 0, 1) := by decide +kernel
theorem dX7_init_13 : decode cX7_init 13 = .ok (.bipush 21, 2) := by decide +kernel
theorem dX7_init_15 : decode cX7_init 15 = .ok (.newarray .int, 2) := by decide +kernel
theorem dX7_init_17 : decode cX7_init 17 = .ok (.putfield 13, 3) := by decide +kernel
theorem dX7_init_20 : decode cX7_init 20 = .ok (.aload_n 0, 1) := by decide +kernel
theorem dX7_init_21 : decode cX7_init 21 = .ok (.bipush 7, 2) := by decide +kernel
theorem dX7_init_23 : decode cX7_init 23 = .ok (.newarray .int, 2) := by decide +kernel
theorem dX7_init_25 : decode cX7_init 25 = .ok (.putfield 16, 3) := by decide +kernel
theorem dX7_init_28 : decode cX7_init 28 = .ok (.aload_n 0, 1) := by decide +kernel
theorem dX7_init_29 : decode cX7_init 29 = .ok (.bipush 7, 2) := by decide +kernel
theorem dX7_init_31 : decode cX7_init 31 = .ok (.newarray .int, 2) := by decide +kernel
theorem dX7_init_33 : decode cX7_init 33 = .ok (.putfield 19, 3) := by decide +kernel
theorem dX7_init_36 : decode cX7_init 36 = .ok (.aload_n 0, 1) := by decide +kernel
theorem dX7_init_37 : decode cX7_init 37 = .ok (.bipush 7, 2) := by decide +kernel
theorem dX7_init_39 : decode cX7_init 39 = .ok (.newarray .boolean, 2) := by decide +kernel
theorem dX7_init_41 : decode cX7_init 41 = .ok (.putfield 22, 3) := by decide +kernel
theorem dX7_init_44 : decode cX7_init 44 = .ok (.aload_n 0, 1) := by decide +kernel
theorem dX7_init_45 : decode cX7_init 45 = .ok (.bipush 7, 2) := by decide +kernel
theorem dX7_init_47 : decode cX7_init 47 = .ok (.newarray .int, 2) := by decide +kernel
theorem dX7_init_49 : decode cX7_init 49 = .ok (.putfield 26, 3) := by decide +kernel
theorem dX7_init_52 : decode cX7_init 52 = .ok (.aload_n 0, 1) := by decide +kernel
theorem dX7_init_53 : decode cX7_init 53 = .ok (.bipush 21, 2) := by decide +kernel
theorem dX7_init_55 : decode cX7_init 55 = .ok (.newarray .int, 2) := by decide +kernel
theorem dX7_init_57 : decode cX7_init 57 = .ok (.putfield 29, 3) := by decide +kernel
theorem dX7_init_60 : decode cX7_init 60 = .ok (.aload_n 0, 1) := by decide +kernel
theorem dX7_init_61 : decode cX7_init 61 = .ok (.bipush 7, 2) := by decide +kernel
theorem dX7_init_63 : decode cX7_init 63 = .ok (.newarray .int, 2) := by decide +kernel
theorem dX7_init_65 : decode cX7_init 65 = .ok (.putfield 32, 3) := by decide +kernel
theorem dX7_init_68 : decode cX7_init 68 = .ok (.aload_n 0, 1) := by decide +kernel
theorem dX7_init_69 : decode cX7_init 69 = .ok (.bipush 60, 2) := by decide +kernel
theorem dX7_init_71 : decode cX7_init 71 = .ok (.newarray .int, 2) := by decide +kernel
theorem dX7_init_73 : decode cX7_init 73 = .ok (.putfield 35, 3) := by decide +kernel
theorem dX7_init_76 : decode cX7_init 76 = .ok (.aload_n 0, 1) := by decide +kernel
theorem dX7_init_77 : decode cX7_init 77 = .ok (.bipush 60, 2) := by decide +kernel
theorem dX7_init_79 : decode cX7_init 79 = .ok (.newarray .int, 2) := by decide +kernel
theorem dX7_init_81 : decode cX7_init 81 = .ok (.putfield 38, 3) := by decide +kernel
theorem dX7_init_84 : decode cX7_init 84 = .ok (.aload_n 0, 1) := by decide +kernel
theorem dX7_init_85 : decode cX7_init 85 = .ok (.bipush 21, 2) := by decide +kernel
theorem dX7_init_87 : decode cX7_init 87 = .ok (.newarray .int, 2) := by decide +kernel
theorem dX7_init_89 : decode cX7_init 89 = .ok (.putfield 41, 3) := by decide +kernel
theorem dX7_init_92 : decode cX7_init 92 = .ok (.aload_n 0, 1) := by decide +kernel
theorem dX7_init_93 : decode cX7_init 93 = .ok (.bipush 7, 2) := by decide +kernel
theorem dX7_init_95 : decode cX7_init 95 = .ok (.newarray .int, 2) := by decide +kernel
theorem dX7_init_97 : decode cX7_init 97 = .ok (.putfield 44, 3) := by decide +kernel
theorem dX7_init_100 : decode cX7_init 100 = .ok (.aload_n 0, 1) := by decide +kernel
theorem dX7_init_101 : decode cX7_init 101 = .ok (.bipush 7, 2) := by decide +kernel
theorem dX7_init_103 : decode cX7_init 103 = .ok (.newarray .int, 2) := by decide +kernel
theorem dX7_init_105 : decode cX7_init 105 = .ok (.putfield 47, 3) := by decide +kernel
theorem dX7_init_108 : decode cX7_init 108 = .ok (.aload_n 0, 1) := by decide +kernel
theorem dX7_init_109 : decode cX7_init 109 = .ok (.bipush 7, 2) := by decide +kernel
theorem dX7_init_111 : decode cX7_init 111 = .ok (.newarray .int, 2) := by decide +kernel
theorem dX7_init_113 : decode cX7_init 113 = .ok (.putfield 50, 3) := by decide +kernel
theorem dX7_init_116 : decode cX7_init 116 = .ok (.aload_n 0, 1) := by decide +kernel
theorem dX7_init_117 : decode cX7_init 117 = .ok (.bipush 8, 2) := by decide +kernel
theorem dX7_init_119 : decode cX7_init 119 = .ok (.newarray .int, 2) := by decide +kernel
theorem dX7_init_121 : decode cX7_init 121 = .ok (.putfield 53, 3) := by decide +kernel
theorem dX7_init_124 : decode cX7_init 124 = .ok (.aload_n 0, 1) := by decide +kernel
theorem dX7_init_125 : decode cX7_init 125 = .ok (.bipush 8, 2) := by decide +kernel
theorem dX7_init_127 : decode cX7_init 127 = .ok (.newarray .int, 2) := by decide +kernel
theorem dX7_init_129 : decode cX7_init 129 = .ok (.putfield 56, 3) := by decide +kernel
theorem dX7_init_132 : decode cX7_init 132 = .ok (.aload_n 0, 1) := by decide +kernel
theorem dX7_init_133 : decode cX7_init 133 = .ok (.bipush 8, 2) := by decide +kernel
theorem dX7_init_135 : decode cX7_init 135 = .ok (.newarray .int, 2) := by decide +kernel
theorem dX7_init_137 : decode cX7_init 137 = .ok (.putfield 59, 3) := by decide +kernel
theorem dX7_init_140 : decode cX7_init 140 = .ok (.aload_n 0, 1) := by decide +kernel
theorem dX7_init_141 : decode cX7_init 141 = .ok (.bipush 8, 2) := by decide +kernel
theorem dX7_init_143 : decode cX7_init 143 = .ok (.newarray .int, 2) := by decide +kernel
theorem dX7_init_145 : decode cX7_init 145 = .ok (.putfield 62, 3) := by decide +kernel
theorem dX7_init_148 : decode cX7_init 148 = .ok (.aload_n 0, 1) := by decide +kernel
theorem dX7_init_149 : decode cX7_init 149 = .ok (.iconst 4, 1) := by decide +kernel
theorem dX7_init_150 : decode cX7_init 150 = .ok (.newarray .int, 2) := by decide +kernel
theorem dX7_init_152 : decode cX7_init 152 = .ok (.putfield 65, 3) := by decide +kernel
theorem dX7_init_155 : decode cX7_init 155 = .ok (.aload_n 0, 1) := by decide +kernel
theorem dX7_init_156 : decode cX7_init 156 = .ok (.iconst 4, 1) := by decide +kernel
theorem dX7_init_157 : decode cX7_init 157 = .ok (.newarray .int, 2) := by decide +kernel
theorem dX7_init_159 : decode cX7_init 159 = .ok (.putfield 68, 3) := by decide +kernel
theorem dX7_init_162 : decode cX7_init 162 = .ok (.aload_n 0, 1) := by decide +kernel
theorem dX7_init_163 : decode cX7_init 163 = .ok (.sipush 240, 3) := by decide +kernel
theorem dX7_init_166 : decode cX7_init 166 = .ok (.newarray .int, 2) := by decide +kernel
theorem dX7_init_168 : decode cX7_init 168 = .ok (.putfield 71, 3) := by decide +kernel
theorem dX7_init_171 : decode cX7_init 171 = .ok (.aload_n 0, 1) := by decide +kernel
theorem dX7_init_172 : decode cX7_init 172 = .ok (.bipush 60, 2) := by decide +kernel
theorem dX7_init_174 : decode cX7_init 174 = .ok (.newarray .int, 2) := by decide +kernel
theorem dX7_init_176 : decode cX7_init 176 = .ok (.putfield 74, 3) := by decide +kernel
theorem dX7_init_179 : decode cX7_init 179 = .ok (.iconst 0, 1) := by decide +kernel
theorem dX7_init_180 : decode cX7_init 180 = .ok (.istore_n 1, 1) := by decide +kernel
theorem dX7_init_181 : decode cX7_init 181 = .ok (.iload_n 1, 1) := by decide +kernel
theorem dX7_init_182 : decode cX7_init 182 = .ok (.iconst 4, 1) := by decide +kernel
theorem dX7_init_183 : decode cX7_init 183 = .ok (.if_icmp .ge 16, 3) := by decide +kernel
theorem dX7_init_186 : decode cX7_init 186 = .ok (.aload_n 0, 1) := by decide +kernel
theorem dX7_init_187 : decode cX7_init 187 = .ok (.getfield 65, 3) := by decide +kernel
theorem dX7_init_190 : decode cX7_init 190 = .ok (.iload_n 1, 1) := by decide +kernel
theorem dX7_init_191 : decode cX7_init 191 = .ok (.iconst (-1), 1) := by decide +kernel
theorem dX7_init_192 : decode cX7_init 192 = .ok (.iastore, 1) := by decide +kernel
theorem dX7_init_193 : decode cX7_init 193 = .ok (.iinc 1 1, 3) := by decide +kernel
theorem dX7_init_196 : decode cX7_init 196 = .ok (.goto (-15), 3) := by decide +kernel
theorem dX7_init_199 : decode cX7_init 199 = .ok (.return_, 1) := by decide +kernel
theorem dX7_in_0 : decode cX7_in 0 = .ok (.lload_n 0, 1) := by decide +kernel
theorem dX7_in_1 : decode cX7_in 1 = .ok (.lload_n 2, 1) := by decide +kernel
theorem dX7_in_2 : decode cX7_in 2 = .ok (.lcmp, 1) := by decide +kernel
theorem dX7_in_3 : decode cX7_in 3 = .ok (.ifCond .lt 14, 3) := by decide +kernel
theorem dX7_in_6 : decode cX7_in 6 = .ok (.lload_n 0, 1) := by decide +kernel
theorem dX7_in_7 : decode cX7_in 7 = .ok (.lload 4, 2) := by decide +kernel
theorem dX7_in_9 : decode cX7_in 9 = .ok (.lcmp, 1) := by decide +kernel
theorem dX7_in_10 : decode cX7_in 10 = .ok (.ifCond .gt 7, 3) := by decide +kernel
theorem dX7_in_13 : decode cX7_in 13 = .ok (.iconst 1, 1) := by decide +kernel
theorem dX7_in_14 : decode cX7_in 14 = .ok (.goto 4, 3) := by decide +kernel
theorem dX7_in_17 : decode cX7_in 17 = .ok (.iconst 0, 1) := by decide +kernel
theorem dX7_in_18 : decode cX7_in 18 = .ok (.ireturn, 1) := by decide +kernel
theorem dX7_nothing_0 : decode cX7_nothing 0 = .ok (.ldc2_w 77, 3) := by decide +kernel
theorem dX7_nothing_3 : decode cX7_nothing 3 = .ok (.lreturn, 1) := by decide +kernel
theorem dX7_off_0 : decode cX7_off 0 = .ok (.iload_n 0, 1) := by decide +kernel
theorem dX7_off_1 : decode cX7_off 1 = .ok (.iload_n 1, 1) := by decide +kernel
theorem dX7_off_2 : decode cX7_off 2 = .ok (.if_icmp .ge 9, 3) := by decide +kernel
theorem dX7_off_5 : decode cX7_off 5 = .ok (.iload_n 1, 1) := by decide +kernel
theorem dX7_off_6 : decode cX7_off 6 = .ok (.iload_n 0, 1) := by decide +kernel
theorem dX7_off_7 : decode cX7_off 7 = .ok (.isub, 1) := by decide +kernel
theorem dX7_off_8 : decode cX7_off 8 = .ok (.goto 6, 3) := by decide +kernel
theorem dX7_off_11 : decode cX7_off 11 = .ok (.iload_n 0, 1) := by decide +kernel
theorem dX7_off_12 : decode cX7_off 12 = .ok (.iload_n 1, 1) := by decide +kernel
theorem dX7_off_13 : decode cX7_off 13 = .ok (.isub, 1) := by decide +kernel
theorem dX7_off_14 : decode cX7_off 14 = .ok (.ireturn, 1) := by decide +kernel
theorem dX7_lesser_0 : decode cX7_lesser 0 = .ok (.iload_n 0, 1) := by decide +kernel
theorem dX7_lesser_1 : decode cX7_lesser 1 = .ok (.iload_n 1, 1) := by decide +kernel
theorem dX7_lesser_2 : decode cX7_lesser 2 = .ok (.if_icmp .ge 7, 3) := by decide +kernel
theorem dX7_lesser_5 : decode cX7_lesser 5 = .ok (.iload_n 0, 1) := by decide +kernel
theorem dX7_lesser_6 : decode cX7_lesser 6 = .ok (.goto 4, 3) := by decide +kernel
theorem dX7_lesser_9 : decode cX7_lesser 9 = .ok (.iload_n 1, 1) := by decide +kernel
theorem dX7_lesser_10 : decode cX7_lesser 10 = .ok (.ireturn, 1) := by decide +kernel
theorem dX7_told_0 : decode cX7_told 0 = .ok (.lload_n 0, 1) := by decide +kernel
theorem dX7_told_1 : decode cX7_told 1 = .ok (.lstore 5, 2) := by decide +kernel
theorem dX7_told_3 : decode cX7_told 3 = .ok (.lload_n 2, 1) := by decide +kernel
theorem dX7_told_4 : decode cX7_told 4 = .ok (.lstore 7, 2) := by decide +kernel
theorem dX7_told_6 : decode cX7_told 6 = .ok (.lload 7, 2) := by decide +kernel
theorem dX7_told_8 : decode cX7_told 8 = .ok (.lconst 0, 1) := by decide +kernel
theorem dX7_told_9 : decode cX7_told 9 = .ok (.lcmp, 1) := by decide +kernel
theorem dX7_told_10 : decode cX7_told 10 = .ok (.ifCond .eq 21, 3) := by decide +kernel
theorem dX7_told_13 : decode cX7_told 13 = .ok (.lload 5, 2) := by decide +kernel
theorem dX7_told_15 : decode cX7_told 15 = .ok (.lload 7, 2) := by decide +kernel
theorem dX7_told_17 : decode cX7_told 17 = .ok (.lrem, 1) := by decide +kernel
theorem dX7_told_18 : decode cX7_told 18 = .ok (.lstore 9, 2) := by decide +kernel
theorem dX7_told_20 : decode cX7_told 20 = .ok (.lload 7, 2) := by decide +kernel
theorem dX7_told_22 : decode cX7_told 22 = .ok (.lstore 5, 2) := by decide +kernel
theorem dX7_told_24 : decode cX7_told 24 = .ok (.lload 9, 2) := by decide +kernel
theorem dX7_told_26 : decode cX7_told 26 = .ok (.lstore 7, 2) := by decide +kernel
theorem dX7_told_28 : decode cX7_told 28 = .ok (.goto (-22), 3) := by decide +kernel
theorem dX7_told_31 : decode cX7_told 31 = .ok (.iload 4, 2) := by decide +kernel
theorem dX7_told_33 : decode cX7_told 33 = .ok (.ifCond .ne 7, 3) := by decide +kernel
theorem dX7_told_36 : decode cX7_told 36 = .ok (.lload_n 0, 1) := by decide +kernel
theorem dX7_told_37 : decode cX7_told 37 = .ok (.goto 4, 3) := by decide +kernel
theorem dX7_told_40 : decode cX7_told 40 = .ok (.lload_n 2, 1) := by decide +kernel
theorem dX7_told_41 : decode cX7_told 41 = .ok (.lload 5, 2) := by decide +kernel
theorem dX7_told_43 : decode cX7_told 43 = .ok (.ldiv, 1) := by decide +kernel
theorem dX7_told_44 : decode cX7_told 44 = .ok (.lreturn, 1) := by decide +kernel
theorem dX7_refused_0 : decode cX7_refused 0 = .ok (.aload_n 0, 1) := by decide +kernel
theorem dX7_refused_1 : decode cX7_refused 1 = .ok (.iconst 0, 1) := by decide +kernel
theorem dX7_refused_2 : decode cX7_refused 2 = .ok (.putfield 79, 3) := by decide +kernel
theorem dX7_refused_5 : decode cX7_refused 5 = .ok (.iload_n 1, 1) := by decide +kernel
theorem dX7_refused_6 : decode cX7_refused 6 = .ok (.ireturn, 1) := by decide +kernel
theorem dX7_failed_0 : decode cX7_failed 0 = .ok (.aload_n 0, 1) := by decide +kernel
theorem dX7_failed_1 : decode cX7_failed 1 = .ok (.iload_n 1, 1) := by decide +kernel
theorem dX7_failed_2 : decode cX7_failed 2 = .ok (.putfield 79, 3) := by decide +kernel
theorem dX7_failed_5 : decode cX7_failed 5 = .ok (.bipush (-10), 2) := by decide +kernel
theorem dX7_failed_7 : decode cX7_failed 7 = .ok (.iload_n 1, 1) := by decide +kernel
theorem dX7_failed_8 : decode cX7_failed 8 = .ok (.isub, 1) := by decide +kernel
theorem dX7_failed_9 : decode cX7_failed 9 = .ok (.ireturn, 1) := by decide +kernel
theorem dX7_failedLong_0 : decode cX7_failedLong 0 = .ok (.aload_n 0, 1) := by decide +kernel
theorem dX7_failedLong_1 : decode cX7_failedLong 1 = .ok (.iload_n 1, 1) := by decide +kernel
theorem dX7_failedLong_2 : decode cX7_failedLong 2 = .ok (.putfield 79, 3) := by decide +kernel
theorem dX7_failedLong_5 : decode cX7_failedLong 5 = .ok (.invokestatic 83, 3) := by decide +kernel
theorem dX7_failedLong_8 : decode cX7_failedLong 8 = .ok (.lreturn, 1) := by decide +kernel
theorem dX7_barred_0 : decode cX7_barred 0 = .ok (.iload_n 1, 1) := by decide +kernel
theorem dX7_barred_1 : decode cX7_barred 1 = .ok (.invokestatic 87, 3) := by decide +kernel
theorem dX7_barred_4 : decode cX7_barred 4 = .ok (.ifCond .eq 9, 3) := by decide +kernel
theorem dX7_barred_7 : decode cX7_barred 7 = .ok (.aload_n 0, 1) := by decide +kernel
theorem dX7_barred_8 : decode cX7_barred 8 = .ok (.iconst (-1), 1) := by decide +kernel
theorem dX7_barred_9 : decode cX7_barred 9 = .ok (.invokevirtual 91, 3) := by decide +kernel
theorem dX7_barred_12 : decode cX7_barred 12 = .ok (.ireturn, 1) := by decide +kernel
theorem dX7_barred_13 : decode cX7_barred 13 = .ok (.iload_n 2, 1) := by decide +kernel
theorem dX7_barred_14 : decode cX7_barred 14 = .ok (.i2l, 1) := by decide +kernel
theorem dX7_barred_15 : decode cX7_barred 15 = .ok (.lconst 0, 1) := by decide +kernel
theorem dX7_barred_16 : decode cX7_barred 16 = .ok (.ldc2_w 95, 3) := by decide +kernel
theorem dX7_barred_19 : decode cX7_barred 19 = .ok (.invokestatic 97, 3) := by decide +kernel
theorem dX7_barred_22 : decode cX7_barred 22 = .ok (.ifCond .eq 8, 3) := by decide +kernel
theorem dX7_barred_25 : decode cX7_barred 25 = .ok (.iload 6, 2) := by decide +kernel
theorem dX7_barred_27 : decode cX7_barred 27 = .ok (.ifCond .ne 10, 3) := by decide +kernel
theorem dX7_barred_30 : decode cX7_barred 30 = .ok (.aload_n 0, 1) := by decide +kernel
theorem dX7_barred_31 : decode cX7_barred 31 = .ok (.bipush (-2), 2) := by decide +kernel
theorem dX7_barred_33 : decode cX7_barred 33 = .ok (.invokevirtual 91, 3) := by decide +kernel
theorem dX7_barred_36 : decode cX7_barred 36 = .ok (.ireturn, 1) := by decide +kernel
theorem dX7_barred_37 : decode cX7_barred 37 = .ok (.aload_n 0, 1) := by decide +kernel
theorem dX7_barred_38 : decode cX7_barred 38 = .ok (.getfield 65, 3) := by decide +kernel
theorem dX7_barred_41 : decode cX7_barred 41 = .ok (.iload_n 1, 1) := by decide +kernel
theorem dX7_barred_42 : decode cX7_barred 42 = .ok (.iaload, 1) := by decide +kernel
theorem dX7_barred_43 : decode cX7_barred 43 = .ok (.ifCond .lt 19, 3) := by decide +kernel
theorem dX7_barred_46 : decode cX7_barred 46 = .ok (.aload_n 0, 1) := by decide +kernel
theorem dX7_barred_47 : decode cX7_barred 47 = .ok (.getfield 68, 3) := by decide +kernel
theorem dX7_barred_50 : decode cX7_barred 50 = .ok (.iload_n 1, 1) := by decide +kernel
theorem dX7_barred_51 : decode cX7_barred 51 = .ok (.iaload, 1) := by decide +kernel
theorem dX7_barred_52 : decode cX7_barred 52 = .ok (.iload_n 2, 1) := by decide +kernel
theorem dX7_barred_53 : decode cX7_barred 53 = .ok (.if_icmp .eq 9, 3) := by decide +kernel
theorem dX7_barred_56 : decode cX7_barred 56 = .ok (.aload_n 0, 1) := by decide +kernel
theorem dX7_barred_57 : decode cX7_barred 57 = .ok (.iconst 2, 1) := by decide +kernel
theorem dX7_barred_58 : decode cX7_barred 58 = .ok (.invokevirtual 101, 3) := by decide +kernel
theorem dX7_barred_61 : decode cX7_barred 61 = .ok (.ireturn, 1) := by decide +kernel
theorem dX7_barred_62 : decode cX7_barred 62 = .ok (.aload_n 0, 1) := by decide +kernel
theorem dX7_barred_63 : decode cX7_barred 63 = .ok (.getfield 65, 3) := by decide +kernel
theorem dX7_barred_66 : decode cX7_barred 66 = .ok (.iload_n 1, 1) := by decide +kernel
theorem dX7_barred_67 : decode cX7_barred 67 = .ok (.iaload, 1) := by decide +kernel
theorem dX7_barred_68 : decode cX7_barred 68 = .ok (.ifCond .ge 9, 3) := by decide +kernel
theorem dX7_barred_71 : decode cX7_barred 71 = .ok (.aload_n 0, 1) := by decide +kernel
theorem dX7_barred_72 : decode cX7_barred 72 = .ok (.iconst 1, 1) := by decide +kernel
theorem dX7_barred_73 : decode cX7_barred 73 = .ok (.invokevirtual 101, 3) := by decide +kernel
theorem dX7_barred_76 : decode cX7_barred 76 = .ok (.ireturn, 1) := by decide +kernel
theorem dX7_barred_77 : decode cX7_barred 77 = .ok (.lload 4, 2) := by decide +kernel
theorem dX7_barred_79 : decode cX7_barred 79 = .ok (.lconst 0, 1) := by decide +kernel
theorem dX7_barred_80 : decode cX7_barred 80 = .ok (.lcmp, 1) := by decide +kernel
theorem dX7_barred_81 : decode cX7_barred 81 = .ok (.ifCond .ge 9, 3) := by decide +kernel
theorem dX7_barred_84 : decode cX7_barred 84 = .ok (.aload_n 0, 1) := by decide +kernel
theorem dX7_barred_85 : decode cX7_barred 85 = .ok (.iconst 4, 1) := by decide +kernel
theorem dX7_barred_86 : decode cX7_barred 86 = .ok (.invokevirtual 101, 3) := by decide +kernel
theorem dX7_barred_89 : decode cX7_barred 89 = .ok (.ireturn, 1) := by decide +kernel
theorem dX7_barred_90 : decode cX7_barred 90 = .ok (.iload_n 3, 1) := by decide +kernel
theorem dX7_barred_91 : decode cX7_barred 91 = .ok (.lload 4, 2) := by decide +kernel
theorem dX7_barred_93 : decode cX7_barred 93 = .ok (.aload_n 0, 1) := by decide +kernel
theorem dX7_barred_94 : decode cX7_barred 94 = .ok (.getfield 65, 3) := by decide +kernel
theorem dX7_barred_97 : decode cX7_barred 97 = .ok (.iload_n 1, 1) := by decide +kernel
theorem dX7_barred_98 : decode cX7_barred 98 = .ok (.iaload, 1) := by decide +kernel
theorem dX7_barred_99 : decode cX7_barred 99 = .ok (.invokestatic 104, 3) := by decide +kernel
theorem dX7_barred_102 : decode cX7_barred 102 = .ok (.ifCond .eq 11, 3) := by decide +kernel
theorem dX7_barred_105 : decode cX7_barred 105 = .ok (.aload_n 0, 1) := by decide +kernel
theorem dX7_barred_106 : decode cX7_barred 106 = .ok (.iconst 3, 1) := by decide +kernel
theorem dX7_barred_107 : decode cX7_barred 107 = .ok (.invokevirtual 101, 3) := by decide +kernel
theorem dX7_barred_110 : decode cX7_barred 110 = .ok (.goto 4, 3) := by decide +kernel
theorem dX7_barred_113 : decode cX7_barred 113 = .ok (.iconst 0, 1) := by decide +kernel
theorem dX7_barred_114 : decode cX7_barred 114 = .ok (.ireturn, 1) := by decide +kernel
theorem dX7_noOne_0 : decode cX7_noOne 0 = .ok (.iload_n 1, 1) := by decide +kernel
theorem dX7_noOne_1 : decode cX7_noOne 1 = .ok (.i2l, 1) := by decide +kernel
theorem dX7_noOne_2 : decode cX7_noOne 2 = .ok (.lconst 0, 1) := by decide +kernel
theorem dX7_noOne_3 : decode cX7_noOne 3 = .ok (.aload_n 0, 1) := by decide +kernel
theorem dX7_noOne_4 : decode cX7_noOne 4 = .ok (.getfield 108, 3) := by decide +kernel
theorem dX7_noOne_7 : decode cX7_noOne 7 = .ok (.i2l, 1) := by decide +kernel
theorem dX7_noOne_8 : decode cX7_noOne 8 = .ok (.lconst 1, 1) := by decide +kernel
theorem dX7_noOne_9 : decode cX7_noOne 9 = .ok (.lsub, 1) := by decide +kernel
theorem dX7_noOne_10 : decode cX7_noOne 10 = .ok (.invokestatic 97, 3) := by decide +kernel
theorem dX7_noOne_13 : decode cX7_noOne 13 = .ok (.ifCond .ne 7, 3) := by decide +kernel
theorem dX7_noOne_16 : decode cX7_noOne 16 = .ok (.iconst 1, 1) := by decide +kernel
theorem dX7_noOne_17 : decode cX7_noOne 17 = .ok (.goto 4, 3) := by decide +kernel
theorem dX7_noOne_20 : decode cX7_noOne 20 = .ok (.iconst 0, 1) := by decide +kernel
theorem dX7_noOne_21 : decode cX7_noOne 21 = .ok (.ireturn, 1) := by decide +kernel
theorem dX7_isDawn_0 : decode cX7_isDawn 0 = .ok (.iload_n 0, 1) := by decide +kernel
theorem dX7_isDawn_1 : decode cX7_isDawn 1 = .ok (.i2l, 1) := by decide +kernel
theorem dX7_isDawn_2 : decode cX7_isDawn 2 = .ok (.lconst 0, 1) := by decide +kernel
theorem dX7_isDawn_3 : decode cX7_isDawn 3 = .ok (.ldc2_w 111, 3) := by decide +kernel
theorem dX7_isDawn_6 : decode cX7_isDawn 6 = .ok (.invokestatic 97, 3) := by decide +kernel
theorem dX7_isDawn_9 : decode cX7_isDawn 9 = .ok (.ireturn, 1) := by decide +kernel
theorem dX7_codeAt_0 : decode cX7_codeAt 0 = .ok (.aload_n 0, 1) := by decide +kernel
theorem dX7_codeAt_1 : decode cX7_codeAt 1 = .ok (.getfield 113, 3) := by decide +kernel
theorem dX7_codeAt_4 : decode cX7_codeAt 4 = .ok (.iload_n 2, 1) := by decide +kernel
theorem dX7_codeAt_5 : decode cX7_codeAt 5 = .ok (.if_icmp .ge 17, 3) := by decide +kernel
theorem dX7_codeAt_8 : decode cX7_codeAt 8 = .ok (.aload_n 0, 1) := by decide +kernel
theorem dX7_codeAt_9 : decode cX7_codeAt 9 = .ok (.getfield 71, 3) := by decide +kernel
theorem dX7_codeAt_12 : decode cX7_codeAt 12 = .ok (.iload_n 1, 1) := by decide +kernel
theorem dX7_codeAt_13 : decode cX7_codeAt 13 = .ok (.aload_n 0, 1) := by decide +kernel
theorem dX7_codeAt_14 : decode cX7_codeAt 14 = .ok (.getfield 113, 3) := by decide +kernel
theorem dX7_codeAt_17 : decode cX7_codeAt 17 = .ok (.iadd, 1) := by decide +kernel
theorem dX7_codeAt_18 : decode cX7_codeAt 18 = .ok (.iaload, 1) := by decide +kernel
theorem dX7_codeAt_19 : decode cX7_codeAt 19 = .ok (.goto 5, 3) := by decide +kernel
theorem dX7_codeAt_22 : decode cX7_codeAt 22 = .ok (.bipush (-9), 2) := by decide +kernel
theorem dX7_codeAt_24 : decode cX7_codeAt 24 = .ok (.ireturn, 1) := by decide +kernel
theorem dX7_figure_0 : decode cX7_figure 0 = .ok (.aload_n 0, 1) := by decide +kernel
theorem dX7_figure_1 : decode cX7_figure 1 = .ok (.iload_n 1, 1) := by decide +kernel
theorem dX7_figure_2 : decode cX7_figure 2 = .ok (.iload_n 2, 1) := by decide +kernel
theorem dX7_figure_3 : decode cX7_figure 3 = .ok (.invokevirtual 116, 3) := by decide +kernel
theorem dX7_figure_6 : decode cX7_figure 6 = .ok (.bipush 48, 2) := by decide +kernel
theorem dX7_figure_8 : decode cX7_figure 8 = .ok (.isub, 1) := by decide +kernel
theorem dX7_figure_9 : decode cX7_figure 9 = .ok (.istore 5, 2) := by decide +kernel
theorem dX7_figure_11 : decode cX7_figure 11 = .ok (.iload 5, 2) := by decide +kernel
theorem dX7_figure_13 : decode cX7_figure 13 = .ok (.i2l, 1) := by decide +kernel
theorem dX7_figure_14 : decode cX7_figure 14 = .ok (.iload_n 3, 1) := by decide +kernel
theorem dX7_figure_15 : decode cX7_figure 15 = .ok (.i2l, 1) := by decide +kernel
theorem dX7_figure_16 : decode cX7_figure 16 = .ok (.iload 4, 2) := by decide +kernel
theorem dX7_figure_18 : decode cX7_figure 18 = .ok (.i2l, 1) := by decide +kernel
theorem dX7_figure_19 : decode cX7_figure 19 = .ok (.invokestatic 97, 3) := by decide +kernel
theorem dX7_figure_22 : decode cX7_figure 22 = .ok (.istore 6, 2) := by decide +kernel
theorem dX7_figure_24 : decode cX7_figure 24 = .ok (.aload_n 0, 1) := by decide +kernel
theorem dX7_figure_25 : decode cX7_figure 25 = .ok (.dup, 1) := by decide +kernel
theorem dX7_figure_26 : decode cX7_figure 26 = .ok (.getfield 113, 3) := by decide +kernel
theorem dX7_figure_29 : decode cX7_figure 29 = .ok (.iload 6, 2) := by decide +kernel
theorem dX7_figure_31 : decode cX7_figure 31 = .ok (.ifCond .eq 7, 3) := by decide +kernel
theorem dX7_figure_34 : decode cX7_figure 34 = .ok (.iconst 1, 1) := by decide +kernel
theorem dX7_figure_35 : decode cX7_figure 35 = .ok (.goto 4, 3) := by decide +kernel
theorem dX7_figure_38 : decode cX7_figure 38 = .ok (.iconst 0, 1) := by decide +kernel
theorem dX7_figure_39 : decode cX7_figure 39 = .ok (.iadd, 1) := by decide +kernel
theorem dX7_figure_40 : decode cX7_figure 40 = .ok (.putfield 113, 3) := by decide +kernel
theorem dX7_figure_43 : decode cX7_figure 43 = .ok (.iload 6, 2) := by decide +kernel
theorem dX7_figure_45 : decode cX7_figure 45 = .ok (.ifCond .eq 8, 3) := by decide +kernel
theorem dX7_figure_48 : decode cX7_figure 48 = .ok (.iload 5, 2) := by decide +kernel
theorem dX7_figure_50 : decode cX7_figure 50 = .ok (.goto 5, 3) := by decide +kernel
theorem dX7_figure_53 : decode cX7_figure 53 = .ok (.bipush (-9), 2) := by decide +kernel
theorem dX7_figure_55 : decode cX7_figure 55 = .ok (.ireturn, 1) := by decide +kernel
theorem dX7_readsOne_0 : decode cX7_readsOne 0 = .ok (.aload_n 0, 1) := by decide +kernel
theorem dX7_readsOne_1 : decode cX7_readsOne 1 = .ok (.getfield 120, 3) := by decide +kernel
theorem dX7_readsOne_4 : decode cX7_readsOne 4 = .ok (.ifCond .le 35, 3) := by decide +kernel
theorem dX7_readsOne_7 : decode cX7_readsOne 7 = .ok (.aload_n 0, 1) := by decide +kernel
theorem dX7_readsOne_8 : decode cX7_readsOne 8 = .ok (.getfield 120, 3) := by decide +kernel
theorem dX7_readsOne_11 : decode cX7_readsOne 11 = .ok (.bipush 7, 2) := by decide +kernel
theorem dX7_readsOne_13 : decode cX7_readsOne 13 = .ok (.if_icmp .eq 14, 3) := by decide +kernel
theorem dX7_readsOne_16 : decode cX7_readsOne 16 = .ok (.aload_n 0, 1) := by decide +kernel
theorem dX7_readsOne_17 : decode cX7_readsOne 17 = .ok (.iload_n 1, 1) := by decide +kernel
theorem dX7_readsOne_18 : decode cX7_readsOne 18 = .ok (.iload_n 2, 1) := by decide +kernel
theorem dX7_readsOne_19 : decode cX7_readsOne 19 = .ok (.invokevirtual 116, 3) := by decide +kernel
theorem dX7_readsOne_22 : decode cX7_readsOne 22 = .ok (.bipush 59, 2) := by decide +kernel
theorem dX7_readsOne_24 : decode cX7_readsOne 24 = .ok (.if_icmp .eq 5, 3) := by decide +kernel
theorem dX7_readsOne_27 : decode cX7_readsOne 27 = .ok (.iconst 0, 1) := by decide +kernel
theorem dX7_readsOne_28 : decode cX7_readsOne 28 = .ok (.ireturn, 1) := by decide +kernel
theorem dX7_readsOne_29 : decode cX7_readsOne 29 = .ok (.aload_n 0, 1) := by decide +kernel
theorem dX7_readsOne_30 : decode cX7_readsOne 30 = .ok (.dup, 1) := by decide +kernel
theorem dX7_readsOne_31 : decode cX7_readsOne 31 = .ok (.getfield 113, 3) := by decide +kernel
theorem dX7_readsOne_34 : decode cX7_readsOne 34 = .ok (.iconst 1, 1) := by decide +kernel
theorem dX7_readsOne_35 : decode cX7_readsOne 35 = .ok (.iadd, 1) := by decide +kernel
theorem dX7_readsOne_36 : decode cX7_readsOne 36 = .ok (.putfield 113, 3) := by decide +kernel
theorem dX7_readsOne_39 : decode cX7_readsOne 39 = .ok (.aload_n 0, 1) := by decide +kernel
theorem dX7_readsOne_40 : decode cX7_readsOne 40 = .ok (.iload_n 1, 1) := by decide +kernel
theorem dX7_readsOne_41 : decode cX7_readsOne 41 = .ok (.iload_n 2, 1) := by decide +kernel
theorem dX7_readsOne_42 : decode cX7_readsOne 42 = .ok (.invokevirtual 116, 3) := by decide +kernel
theorem dX7_readsOne_45 : decode cX7_readsOne 45 = .ok (.istore_n 3, 1) := by decide +kernel
theorem dX7_readsOne_46 : decode cX7_readsOne 46 = .ok (.iload_n 3, 1) := by decide +kernel
theorem dX7_readsOne_47 : decode cX7_readsOne 47 = .ok (.bipush 115, 2) := by decide +kernel
theorem dX7_readsOne_49 : decode cX7_readsOne 49 = .ok (.if_icmp .eq 17, 3) := by decide +kernel
theorem dX7_readsOne_52 : decode cX7_readsOne 52 = .ok (.iload_n 3, 1) := by decide +kernel
theorem dX7_readsOne_53 : decode cX7_readsOne 53 = .ok (.bipush 98, 2) := by decide +kernel
theorem dX7_readsOne_55 : decode cX7_readsOne 55 = .ok (.if_icmp .eq 11, 3) := by decide +kernel
theorem dX7_readsOne_58 : decode cX7_readsOne 58 = .ok (.iload_n 3, 1) := by decide +kernel
theorem dX7_readsOne_59 : decode cX7_readsOne 59 = .ok (.bipush 109, 2) := by decide +kernel
theorem dX7_readsOne_61 : decode cX7_readsOne 61 = .ok (.if_icmp .eq 5, 3) := by decide +kernel
theorem dX7_readsOne_64 : decode cX7_readsOne 64 = .ok (.iconst 0, 1) := by decide +kernel
theorem dX7_readsOne_65 : decode cX7_readsOne 65 = .ok (.ireturn, 1) := by decide +kernel
theorem dX7_readsOne_66 : decode cX7_readsOne 66 = .ok (.aload_n 0, 1) := by decide +kernel
theorem dX7_readsOne_67 : decode cX7_readsOne 67 = .ok (.dup, 1) := by decide +kernel
theorem dX7_readsOne_68 : decode cX7_readsOne 68 = .ok (.getfield 113, 3) := by decide +kernel
theorem dX7_readsOne_71 : decode cX7_readsOne 71 = .ok (.iconst 1, 1) := by decide +kernel
theorem dX7_readsOne_72 : decode cX7_readsOne 72 = .ok (.iadd, 1) := by decide +kernel
theorem dX7_readsOne_73 : decode cX7_readsOne 73 = .ok (.putfield 113, 3) := by decide +kernel
theorem dX7_readsOne_76 : decode cX7_readsOne 76 = .ok (.iconst 0, 1) := by decide +kernel
theorem dX7_readsOne_77 : decode cX7_readsOne 77 = .ok (.istore 4, 2) := by decide +kernel
theorem dX7_readsOne_79 : decode cX7_readsOne 79 = .ok (.iload 4, 2) := by decide +kernel
theorem dX7_readsOne_81 : decode cX7_readsOne 81 = .ok (.iconst 3, 1) := by decide +kernel
theorem dX7_readsOne_82 : decode cX7_readsOne 82 = .ok (.if_icmp .ge 46, 3) := by decide +kernel
theorem dX7_readsOne_85 : decode cX7_readsOne 85 = .ok (.aload_n 0, 1) := by decide +kernel
theorem dX7_readsOne_86 : decode cX7_readsOne 86 = .ok (.iload_n 1, 1) := by decide +kernel
theorem dX7_readsOne_87 : decode cX7_readsOne 87 = .ok (.iload_n 2, 1) := by decide +kernel
theorem dX7_readsOne_88 : decode cX7_readsOne 88 = .ok (.iconst 1, 1) := by decide +kernel
theorem dX7_readsOne_89 : decode cX7_readsOne 89 = .ok (.bipush 9, 2) := by decide +kernel
theorem dX7_readsOne_91 : decode cX7_readsOne 91 = .ok (.invokevirtual 123, 3) := by decide +kernel
theorem dX7_readsOne_94 : decode cX7_readsOne 94 = .ok (.istore 5, 2) := by decide +kernel
theorem dX7_readsOne_96 : decode cX7_readsOne 96 = .ok (.iload 5, 2) := by decide +kernel
theorem dX7_readsOne_98 : decode cX7_readsOne 98 = .ok (.ifCond .ge 5, 3) := by decide +kernel
theorem dX7_readsOne_101 : decode cX7_readsOne 101 = .ok (.iconst 0, 1) := by decide +kernel
theorem dX7_readsOne_102 : decode cX7_readsOne 102 = .ok (.ireturn, 1) := by decide +kernel
theorem dX7_readsOne_103 : decode cX7_readsOne 103 = .ok (.aload_n 0, 1) := by decide +kernel
theorem dX7_readsOne_104 : decode cX7_readsOne 104 = .ok (.getfield 29, 3) := by decide +kernel
theorem dX7_readsOne_107 : decode cX7_readsOne 107 = .ok (.iconst 3, 1) := by decide +kernel
theorem dX7_readsOne_108 : decode cX7_readsOne 108 = .ok (.aload_n 0, 1) := by decide +kernel
theorem dX7_readsOne_109 : decode cX7_readsOne 109 = .ok (.getfield 120, 3) := by decide +kernel
theorem dX7_readsOne_112 : decode cX7_readsOne 112 = .ok (.imul, 1) := by decide +kernel
theorem dX7_readsOne_113 : decode cX7_readsOne 113 = .ok (.iload 4, 2) := by decide +kernel
theorem dX7_readsOne_115 : decode cX7_readsOne 115 = .ok (.iadd, 1) := by decide +kernel
theorem dX7_readsOne_116 : decode cX7_readsOne 116 = .ok (.bipush 10, 2) := by decide +kernel
theorem dX7_readsOne_118 : decode cX7_readsOne 118 = .ok (.iload 5, 2) := by decide +kernel
theorem dX7_readsOne_120 : decode cX7_readsOne 120 = .ok (.imul, 1) := by decide +kernel
theorem dX7_readsOne_121 : decode cX7_readsOne 121 = .ok (.iastore, 1) := by decide +kernel
theorem dX7_readsOne_122 : decode cX7_readsOne 122 = .ok (.iinc 4 1, 3) := by decide +kernel
theorem dX7_readsOne_125 : decode cX7_readsOne 125 = .ok (.goto (-46), 3) := by decide +kernel
theorem dX7_readsOne_128 : decode cX7_readsOne 128 = .ok (.aload_n 0, 1) := by decide +kernel
theorem dX7_readsOne_129 : decode cX7_readsOne 129 = .ok (.iload_n 1, 1) := by decide +kernel
theorem dX7_readsOne_130 : decode cX7_readsOne 130 = .ok (.iload_n 2, 1) := by decide +kernel
theorem dX7_readsOne_131 : decode cX7_readsOne 131 = .ok (.iconst 0, 1) := by decide +kernel
theorem dX7_readsOne_132 : decode cX7_readsOne 132 = .ok (.iconst 3, 1) := by decide +kernel
theorem dX7_readsOne_133 : decode cX7_readsOne 133 = .ok (.invokevirtual 123, 3) := by decide +kernel
theorem dX7_readsOne_136 : decode cX7_readsOne 136 = .ok (.istore 4, 2) := by decide +kernel
theorem dX7_readsOne_138 : decode cX7_readsOne 138 = .ok (.iload 4, 2) := by decide +kernel
theorem dX7_readsOne_140 : decode cX7_readsOne 140 = .ok (.ifCond .ge 5, 3) := by decide +kernel
theorem dX7_readsOne_143 : decode cX7_readsOne 143 = .ok (.iconst 0, 1) := by decide +kernel
theorem dX7_readsOne_144 : decode cX7_readsOne 144 = .ok (.ireturn, 1) := by decide +kernel
theorem dX7_readsOne_145 : decode cX7_readsOne 145 = .ok (.aload_n 0, 1) := by decide +kernel
theorem dX7_readsOne_146 : decode cX7_readsOne 146 = .ok (.getfield 32, 3) := by decide +kernel
theorem dX7_readsOne_149 : decode cX7_readsOne 149 = .ok (.aload_n 0, 1) := by decide +kernel
theorem dX7_readsOne_150 : decode cX7_readsOne 150 = .ok (.getfield 120, 3) := by decide +kernel
theorem dX7_readsOne_153 : decode cX7_readsOne 153 = .ok (.iload 4, 2) := by decide +kernel
theorem dX7_readsOne_155 : decode cX7_readsOne 155 = .ok (.iastore, 1) := by decide +kernel
theorem dX7_readsOne_156 : decode cX7_readsOne 156 = .ok (.aload_n 0, 1) := by decide +kernel
theorem dX7_readsOne_157 : decode cX7_readsOne 157 = .ok (.getfield 26, 3) := by decide +kernel
theorem dX7_readsOne_160 : decode cX7_readsOne 160 = .ok (.aload_n 0, 1) := by decide +kernel
theorem dX7_readsOne_161 : decode cX7_readsOne 161 = .ok (.getfield 120, 3) := by decide +kernel
theorem dX7_readsOne_164 : decode cX7_readsOne 164 = .ok (.iload_n 3, 1) := by decide +kernel
theorem dX7_readsOne_165 : decode cX7_readsOne 165 = .ok (.bipush 115, 2) := by decide +kernel
theorem dX7_readsOne_167 : decode cX7_readsOne 167 = .ok (.if_icmp .ne 7, 3) := by decide +kernel
theorem dX7_readsOne_170 : decode cX7_readsOne 170 = .ok (.iconst 0, 1) := by decide +kernel
theorem dX7_readsOne_171 : decode cX7_readsOne 171 = .ok (.goto 14, 3) := by decide +kernel
theorem dX7_readsOne_174 : decode cX7_readsOne 174 = .ok (.iload_n 3, 1) := by decide +kernel
theorem dX7_readsOne_175 : decode cX7_readsOne 175 = .ok (.bipush 98, 2) := by decide +kernel
theorem dX7_readsOne_177 : decode cX7_readsOne 177 = .ok (.if_icmp .ne 7, 3) := by decide +kernel
theorem dX7_readsOne_180 : decode cX7_readsOne 180 = .ok (.iconst 1, 1) := by decide +kernel
theorem dX7_readsOne_181 : decode cX7_readsOne 181 = .ok (.goto 4, 3) := by decide +kernel
theorem dX7_readsOne_184 : decode cX7_readsOne 184 = .ok (.iconst 2, 1) := by decide +kernel
theorem dX7_readsOne_185 : decode cX7_readsOne 185 = .ok (.iastore, 1) := by decide +kernel
theorem dX7_readsOne_186 : decode cX7_readsOne 186 = .ok (.aload_n 0, 1) := by decide +kernel
theorem dX7_readsOne_187 : decode cX7_readsOne 187 = .ok (.dup, 1) := by decide +kernel
theorem dX7_readsOne_188 : decode cX7_readsOne 188 = .ok (.getfield 120, 3) := by decide +kernel
theorem dX7_readsOne_191 : decode cX7_readsOne 191 = .ok (.iconst 1, 1) := by decide +kernel
theorem dX7_readsOne_192 : decode cX7_readsOne 192 = .ok (.iadd, 1) := by decide +kernel
theorem dX7_readsOne_193 : decode cX7_readsOne 193 = .ok (.putfield 120, 3) := by decide +kernel
theorem dX7_readsOne_196 : decode cX7_readsOne 196 = .ok (.iconst 1, 1) := by decide +kernel
theorem dX7_readsOne_197 : decode cX7_readsOne 197 = .ok (.ireturn, 1) := by decide +kernel
theorem dX7_readsAll_0 : decode cX7_readsAll 0 = .ok (.aload_n 0, 1) := by decide +kernel
theorem dX7_readsAll_1 : decode cX7_readsAll 1 = .ok (.iconst 0, 1) := by decide +kernel
theorem dX7_readsAll_2 : decode cX7_readsAll 2 = .ok (.putfield 113, 3) := by decide +kernel
theorem dX7_readsAll_5 : decode cX7_readsAll 5 = .ok (.aload_n 0, 1) := by decide +kernel
theorem dX7_readsAll_6 : decode cX7_readsAll 6 = .ok (.iconst 0, 1) := by decide +kernel
theorem dX7_readsAll_7 : decode cX7_readsAll 7 = .ok (.putfield 120, 3) := by decide +kernel
theorem dX7_readsAll_10 : decode cX7_readsAll 10 = .ok (.aload_n 0, 1) := by decide +kernel
theorem dX7_readsAll_11 : decode cX7_readsAll 11 = .ok (.iload_n 1, 1) := by decide +kernel
theorem dX7_readsAll_12 : decode cX7_readsAll 12 = .ok (.iload_n 2, 1) := by decide +kernel
theorem dX7_readsAll_13 : decode cX7_readsAll 13 = .ok (.invokevirtual 127, 3) := by decide +kernel
theorem dX7_readsAll_16 : decode cX7_readsAll 16 = .ok (.istore_n 3, 1) := by decide +kernel
theorem dX7_readsAll_17 : decode cX7_readsAll 17 = .ok (.iload_n 3, 1) := by decide +kernel
theorem dX7_readsAll_18 : decode cX7_readsAll 18 = .ok (.ifCond .eq 21, 3) := by decide +kernel
theorem dX7_readsAll_21 : decode cX7_readsAll 21 = .ok (.aload_n 0, 1) := by decide +kernel
theorem dX7_readsAll_22 : decode cX7_readsAll 22 = .ok (.getfield 113, 3) := by decide +kernel
theorem dX7_readsAll_25 : decode cX7_readsAll 25 = .ok (.iload_n 2, 1) := by decide +kernel
theorem dX7_readsAll_26 : decode cX7_readsAll 26 = .ok (.if_icmp .ge 13, 3) := by decide +kernel
theorem dX7_readsAll_29 : decode cX7_readsAll 29 = .ok (.aload_n 0, 1) := by decide +kernel
theorem dX7_readsAll_30 : decode cX7_readsAll 30 = .ok (.iload_n 1, 1) := by decide +kernel
theorem dX7_readsAll_31 : decode cX7_readsAll 31 = .ok (.iload_n 2, 1) := by decide +kernel
theorem dX7_readsAll_32 : decode cX7_readsAll 32 = .ok (.invokevirtual 127, 3) := by decide +kernel
theorem dX7_readsAll_35 : decode cX7_readsAll 35 = .ok (.istore_n 3, 1) := by decide +kernel
theorem dX7_readsAll_36 : decode cX7_readsAll 36 = .ok (.goto (-19), 3) := by decide +kernel
theorem dX7_readsAll_39 : decode cX7_readsAll 39 = .ok (.iload_n 3, 1) := by decide +kernel
theorem dX7_readsAll_40 : decode cX7_readsAll 40 = .ok (.ireturn, 1) := by decide +kernel
theorem dX7_statues_0 : decode cX7_statues 0 = .ok (.aload_n 0, 1) := by decide +kernel
theorem dX7_statues_1 : decode cX7_statues 1 = .ok (.iload_n 1, 1) := by decide +kernel
theorem dX7_statues_2 : decode cX7_statues 2 = .ok (.iload_n 2, 1) := by decide +kernel
theorem dX7_statues_3 : decode cX7_statues 3 = .ok (.iload_n 3, 1) := by decide +kernel
theorem dX7_statues_4 : decode cX7_statues 4 = .ok (.iload 4, 2) := by decide +kernel
theorem dX7_statues_6 : decode cX7_statues 6 = .ok (.i2l, 1) := by decide +kernel
theorem dX7_statues_7 : decode cX7_statues 7 = .ok (.iconst 1, 1) := by decide +kernel
theorem dX7_statues_8 : decode cX7_statues 8 = .ok (.invokevirtual 131, 3) := by decide +kernel
theorem dX7_statues_11 : decode cX7_statues 11 = .ok (.istore 5, 2) := by decide +kernel
theorem dX7_statues_13 : decode cX7_statues 13 = .ok (.iload 5, 2) := by decide +kernel
theorem dX7_statues_15 : decode cX7_statues 15 = .ok (.ifCond .ge 6, 3) := by decide +kernel
theorem dX7_statues_18 : decode cX7_statues 18 = .ok (.iload 5, 2) := by decide +kernel
theorem dX7_statues_20 : decode cX7_statues 20 = .ok (.ireturn, 1) := by decide +kernel
theorem dX7_statues_21 : decode cX7_statues 21 = .ok (.aload_n 0, 1) := by decide +kernel
theorem dX7_statues_22 : decode cX7_statues 22 = .ok (.bipush 60, 2) := by decide +kernel
theorem dX7_statues_24 : decode cX7_statues 24 = .ok (.iload_n 1, 1) := by decide +kernel
theorem dX7_statues_25 : decode cX7_statues 25 = .ok (.imul, 1) := by decide +kernel
theorem dX7_statues_26 : decode cX7_statues 26 = .ok (.iload_n 3, 1) := by decide +kernel
theorem dX7_statues_27 : decode cX7_statues 27 = .ok (.iadd, 1) := by decide +kernel
theorem dX7_statues_28 : decode cX7_statues 28 = .ok (.iload 4, 2) := by decide +kernel
theorem dX7_statues_30 : decode cX7_statues 30 = .ok (.invokevirtual 135, 3) := by decide +kernel
theorem dX7_statues_33 : decode cX7_statues 33 = .ok (.ifCond .ne 15, 3) := by decide +kernel
theorem dX7_statues_36 : decode cX7_statues 36 = .ok (.aload_n 0, 1) := by decide +kernel
theorem dX7_statues_37 : decode cX7_statues 37 = .ok (.bipush (-100), 2) := by decide +kernel
theorem dX7_statues_39 : decode cX7_statues 39 = .ok (.aload_n 0, 1) := by decide +kernel
theorem dX7_statues_40 : decode cX7_statues 40 = .ok (.getfield 113, 3) := by decide +kernel
theorem dX7_statues_43 : decode cX7_statues 43 = .ok (.isub, 1) := by decide +kernel
theorem dX7_statues_44 : decode cX7_statues 44 = .ok (.invokevirtual 91, 3) := by decide +kernel
theorem dX7_statues_47 : decode cX7_statues 47 = .ok (.ireturn, 1) := by decide +kernel
theorem dX7_statues_48 : decode cX7_statues 48 = .ok (.aload_n 0, 1) := by decide +kernel
theorem dX7_statues_49 : decode cX7_statues 49 = .ok (.aload_n 0, 1) := by decide +kernel
theorem dX7_statues_50 : decode cX7_statues 50 = .ok (.getfield 120, 3) := by decide +kernel
theorem dX7_statues_53 : decode cX7_statues 53 = .ok (.putfield 108, 3) := by decide +kernel
theorem dX7_statues_56 : decode cX7_statues 56 = .ok (.iconst 0, 1) := by decide +kernel
theorem dX7_statues_57 : decode cX7_statues 57 = .ok (.istore 6, 2) := by decide +kernel
theorem dX7_statues_59 : decode cX7_statues 59 = .ok (.iload 6, 2) := by decide +kernel
theorem dX7_statues_61 : decode cX7_statues 61 = .ok (.bipush 7, 2) := by decide +kernel
theorem dX7_statues_63 : decode cX7_statues 63 = .ok (.if_icmp .ge 92, 3) := by decide +kernel
theorem dX7_statues_66 : decode cX7_statues 66 = .ok (.aload_n 0, 1) := by decide +kernel
theorem dX7_statues_67 : decode cX7_statues 67 = .ok (.getfield 7, 3) := by decide +kernel
theorem dX7_statues_70 : decode cX7_statues 70 = .ok (.iload 6, 2) := by decide +kernel
theorem dX7_statues_72 : decode cX7_statues 72 = .ok (.aload_n 0, 1) := by decide +kernel
theorem dX7_statues_73 : decode cX7_statues 73 = .ok (.getfield 26, 3) := by decide +kernel
theorem dX7_statues_76 : decode cX7_statues 76 = .ok (.iload 6, 2) := by decide +kernel
theorem dX7_statues_78 : decode cX7_statues 78 = .ok (.iaload, 1) := by decide +kernel
theorem dX7_statues_79 : decode cX7_statues 79 = .ok (.iastore, 1) := by decide +kernel
theorem dX7_statues_80 : decode cX7_statues 80 = .ok (.aload_n 0, 1) := by decide +kernel
theorem dX7_statues_81 : decode cX7_statues 81 = .ok (.getfield 16, 3) := by decide +kernel
theorem dX7_statues_84 : decode cX7_statues 84 = .ok (.iload 6, 2) := by decide +kernel
theorem dX7_statues_86 : decode cX7_statues 86 = .ok (.aload_n 0, 1) := by decide +kernel
theorem dX7_statues_87 : decode cX7_statues 87 = .ok (.getfield 32, 3) := by decide +kernel
theorem dX7_statues_90 : decode cX7_statues 90 = .ok (.iload 6, 2) := by decide +kernel
theorem dX7_statues_92 : decode cX7_statues 92 = .ok (.iaload, 1) := by decide +kernel
theorem dX7_statues_93 : decode cX7_statues 93 = .ok (.iastore, 1) := by decide +kernel
theorem dX7_statues_94 : decode cX7_statues 94 = .ok (.aload_n 0, 1) := by decide +kernel
theorem dX7_statues_95 : decode cX7_statues 95 = .ok (.getfield 19, 3) := by decide +kernel
theorem dX7_statues_98 : decode cX7_statues 98 = .ok (.iload 6, 2) := by decide +kernel
theorem dX7_statues_100 : decode cX7_statues 100 = .ok (.iconst 0, 1) := by decide +kernel
theorem dX7_statues_101 : decode cX7_statues 101 = .ok (.iastore, 1) := by decide +kernel
theorem dX7_statues_102 : decode cX7_statues 102 = .ok (.aload_n 0, 1) := by decide +kernel
theorem dX7_statues_103 : decode cX7_statues 103 = .ok (.getfield 22, 3) := by decide +kernel
theorem dX7_statues_106 : decode cX7_statues 106 = .ok (.iload 6, 2) := by decide +kernel
theorem dX7_statues_108 : decode cX7_statues 108 = .ok (.iconst 0, 1) := by decide +kernel
theorem dX7_statues_109 : decode cX7_statues 109 = .ok (.bastore, 1) := by decide +kernel
theorem dX7_statues_110 : decode cX7_statues 110 = .ok (.iconst 0, 1) := by decide +kernel
theorem dX7_statues_111 : decode cX7_statues 111 = .ok (.istore 7, 2) := by decide +kernel
theorem dX7_statues_113 : decode cX7_statues 113 = .ok (.iload 7, 2) := by decide +kernel
theorem dX7_statues_115 : decode cX7_statues 115 = .ok (.iconst 3, 1) := by decide +kernel
theorem dX7_statues_116 : decode cX7_statues 116 = .ok (.if_icmp .ge 33, 3) := by decide +kernel
theorem dX7_statues_119 : decode cX7_statues 119 = .ok (.aload_n 0, 1) := by decide +kernel
theorem dX7_statues_120 : decode cX7_statues 120 = .ok (.getfield 13, 3) := by decide +kernel
theorem dX7_statues_123 : decode cX7_statues 123 = .ok (.iconst 3, 1) := by decide +kernel
theorem dX7_statues_124 : decode cX7_statues 124 = .ok (.iload 6, 2) := by decide +kernel
theorem dX7_statues_126 : decode cX7_statues 126 = .ok (.imul, 1) := by decide +kernel
theorem dX7_statues_127 : decode cX7_statues 127 = .ok (.iload 7, 2) := by decide +kernel
theorem dX7_statues_129 : decode cX7_statues 129 = .ok (.iadd, 1) := by decide +kernel
theorem dX7_statues_130 : decode cX7_statues 130 = .ok (.aload_n 0, 1) := by decide +kernel
theorem dX7_statues_131 : decode cX7_statues 131 = .ok (.getfield 29, 3) := by decide +kernel
theorem dX7_statues_134 : decode cX7_statues 134 = .ok (.iconst 3, 1) := by decide +kernel
theorem dX7_statues_135 : decode cX7_statues 135 = .ok (.iload 6, 2) := by decide +kernel
theorem dX7_statues_137 : decode cX7_statues 137 = .ok (.imul, 1) := by decide +kernel
theorem dX7_statues_138 : decode cX7_statues 138 = .ok (.iload 7, 2) := by decide +kernel
theorem dX7_statues_140 : decode cX7_statues 140 = .ok (.iadd, 1) := by decide +kernel
theorem dX7_statues_141 : decode cX7_statues 141 = .ok (.iaload, 1) := by decide +kernel
theorem dX7_statues_142 : decode cX7_statues 142 = .ok (.iastore, 1) := by decide +kernel
theorem dX7_statues_143 : decode cX7_statues 143 = .ok (.iinc 7 1, 3) := by decide +kernel
theorem dX7_statues_146 : decode cX7_statues 146 = .ok (.goto (-33), 3) := by decide +kernel
theorem dX7_statues_149 : decode cX7_statues 149 = .ok (.iinc 6 1, 3) := by decide +kernel
theorem dX7_statues_152 : decode cX7_statues 152 = .ok (.goto (-93), 3) := by decide +kernel
theorem dX7_statues_155 : decode cX7_statues 155 = .ok (.iconst 0, 1) := by decide +kernel
theorem dX7_statues_156 : decode cX7_statues 156 = .ok (.istore 6, 2) := by decide +kernel
theorem dX7_statues_158 : decode cX7_statues 158 = .ok (.iload 6, 2) := by decide +kernel
theorem dX7_statues_160 : decode cX7_statues 160 = .ok (.bipush 60, 2) := by decide +kernel
theorem dX7_statues_162 : decode cX7_statues 162 = .ok (.if_icmp .ge 25, 3) := by decide +kernel
theorem dX7_statues_165 : decode cX7_statues 165 = .ok (.aload_n 0, 1) := by decide +kernel
theorem dX7_statues_166 : decode cX7_statues 166 = .ok (.getfield 35, 3) := by decide +kernel
theorem dX7_statues_169 : decode cX7_statues 169 = .ok (.iload 6, 2) := by decide +kernel
theorem dX7_statues_171 : decode cX7_statues 171 = .ok (.iconst 0, 1) := by decide +kernel
theorem dX7_statues_172 : decode cX7_statues 172 = .ok (.iastore, 1) := by decide +kernel
theorem dX7_statues_173 : decode cX7_statues 173 = .ok (.aload_n 0, 1) := by decide +kernel
theorem dX7_statues_174 : decode cX7_statues 174 = .ok (.getfield 38, 3) := by decide +kernel
theorem dX7_statues_177 : decode cX7_statues 177 = .ok (.iload 6, 2) := by decide +kernel
theorem dX7_statues_179 : decode cX7_statues 179 = .ok (.iconst 0, 1) := by decide +kernel
theorem dX7_statues_180 : decode cX7_statues 180 = .ok (.iastore, 1) := by decide +kernel
theorem dX7_statues_181 : decode cX7_statues 181 = .ok (.iinc 6 1, 3) := by decide +kernel
theorem dX7_statues_184 : decode cX7_statues 184 = .ok (.goto (-26), 3) := by decide +kernel
theorem dX7_statues_187 : decode cX7_statues 187 = .ok (.aload_n 0, 1) := by decide +kernel
theorem dX7_statues_188 : decode cX7_statues 188 = .ok (.iconst 0, 1) := by decide +kernel
theorem dX7_statues_189 : decode cX7_statues 189 = .ok (.putfield 138, 3) := by decide +kernel
theorem dX7_statues_192 : decode cX7_statues 192 = .ok (.aload_n 0, 1) := by decide +kernel
theorem dX7_statues_193 : decode cX7_statues 193 = .ok (.iconst 0, 1) := by decide +kernel
theorem dX7_statues_194 : decode cX7_statues 194 = .ok (.putfield 141, 3) := by decide +kernel
theorem dX7_statues_197 : decode cX7_statues 197 = .ok (.aload_n 0, 1) := by decide +kernel
theorem dX7_statues_198 : decode cX7_statues 198 = .ok (.aload_n 0, 1) := by decide +kernel
theorem dX7_statues_199 : decode cX7_statues 199 = .ok (.getfield 108, 3) := by decide +kernel
theorem dX7_statues_202 : decode cX7_statues 202 = .ok (.invokevirtual 91, 3) := by decide +kernel
theorem dX7_statues_205 : decode cX7_statues 205 = .ok (.ireturn, 1) := by decide +kernel
theorem dX7_ofStatue_0 : decode cX7_ofStatue 0 = .ok (.aload_n 0, 1) := by decide +kernel
theorem dX7_ofStatue_1 : decode cX7_ofStatue 1 = .ok (.iload_n 1, 1) := by decide +kernel
theorem dX7_ofStatue_2 : decode cX7_ofStatue 2 = .ok (.invokevirtual 144, 3) := by decide +kernel
theorem dX7_ofStatue_5 : decode cX7_ofStatue 5 = .ok (.ifCond .eq 5, 3) := by decide +kernel
theorem dX7_ofStatue_8 : decode cX7_ofStatue 8 = .ok (.iconst (-1), 1) := by decide +kernel
theorem dX7_ofStatue_9 : decode cX7_ofStatue 9 = .ok (.ireturn, 1) := by decide +kernel
theorem dX7_ofStatue_10 : decode cX7_ofStatue 10 = .ok (.iload_n 2, 1) := by decide +kernel
theorem dX7_ofStatue_11 : decode cX7_ofStatue 11 = .ok (.tableswitch 88 0 6 #[41, 41, 41, 52, 59, 66, 73], 41) := by decide +kernel
theorem dX7_ofStatue_52 : decode cX7_ofStatue 52 = .ok (.aload_n 0, 1) := by decide +kernel
theorem dX7_ofStatue_53 : decode cX7_ofStatue 53 = .ok (.getfield 13, 3) := by decide +kernel
theorem dX7_ofStatue_56 : decode cX7_ofStatue 56 = .ok (.iconst 3, 1) := by decide +kernel
theorem dX7_ofStatue_57 : decode cX7_ofStatue 57 = .ok (.iload_n 1, 1) := by decide +kernel
theorem dX7_ofStatue_58 : decode cX7_ofStatue 58 = .ok (.imul, 1) := by decide +kernel
theorem dX7_ofStatue_59 : decode cX7_ofStatue 59 = .ok (.iload_n 2, 1) := by decide +kernel
theorem dX7_ofStatue_60 : decode cX7_ofStatue 60 = .ok (.iadd, 1) := by decide +kernel
theorem dX7_ofStatue_61 : decode cX7_ofStatue 61 = .ok (.iaload, 1) := by decide +kernel
theorem dX7_ofStatue_62 : decode cX7_ofStatue 62 = .ok (.ireturn, 1) := by decide +kernel
theorem dX7_ofStatue_63 : decode cX7_ofStatue 63 = .ok (.aload_n 0, 1) := by decide +kernel
theorem dX7_ofStatue_64 : decode cX7_ofStatue 64 = .ok (.getfield 7, 3) := by decide +kernel
theorem dX7_ofStatue_67 : decode cX7_ofStatue 67 = .ok (.iload_n 1, 1) := by decide +kernel
theorem dX7_ofStatue_68 : decode cX7_ofStatue 68 = .ok (.iaload, 1) := by decide +kernel
theorem dX7_ofStatue_69 : decode cX7_ofStatue 69 = .ok (.ireturn, 1) := by decide +kernel
theorem dX7_ofStatue_70 : decode cX7_ofStatue 70 = .ok (.aload_n 0, 1) := by decide +kernel
theorem dX7_ofStatue_71 : decode cX7_ofStatue 71 = .ok (.getfield 16, 3) := by decide +kernel
theorem dX7_ofStatue_74 : decode cX7_ofStatue 74 = .ok (.iload_n 1, 1) := by decide +kernel
theorem dX7_ofStatue_75 : decode cX7_ofStatue 75 = .ok (.iaload, 1) := by decide +kernel
theorem dX7_ofStatue_76 : decode cX7_ofStatue 76 = .ok (.ireturn, 1) := by decide +kernel
theorem dX7_ofStatue_77 : decode cX7_ofStatue 77 = .ok (.aload_n 0, 1) := by decide +kernel
theorem dX7_ofStatue_78 : decode cX7_ofStatue 78 = .ok (.getfield 19, 3) := by decide +kernel
theorem dX7_ofStatue_81 : decode cX7_ofStatue 81 = .ok (.iload_n 1, 1) := by decide +kernel
theorem dX7_ofStatue_82 : decode cX7_ofStatue 82 = .ok (.iaload, 1) := by decide +kernel
theorem dX7_ofStatue_83 : decode cX7_ofStatue 83 = .ok (.ireturn, 1) := by decide +kernel
theorem dX7_ofStatue_84 : decode cX7_ofStatue 84 = .ok (.aload_n 0, 1) := by decide +kernel
theorem dX7_ofStatue_85 : decode cX7_ofStatue 85 = .ok (.getfield 22, 3) := by decide +kernel
theorem dX7_ofStatue_88 : decode cX7_ofStatue 88 = .ok (.iload_n 1, 1) := by decide +kernel
theorem dX7_ofStatue_89 : decode cX7_ofStatue 89 = .ok (.baload, 1) := by decide +kernel
theorem dX7_ofStatue_90 : decode cX7_ofStatue 90 = .ok (.ifCond .eq 7, 3) := by decide +kernel
theorem dX7_ofStatue_93 : decode cX7_ofStatue 93 = .ok (.iconst 1, 1) := by decide +kernel
theorem dX7_ofStatue_94 : decode cX7_ofStatue 94 = .ok (.goto 4, 3) := by decide +kernel
theorem dX7_ofStatue_97 : decode cX7_ofStatue 97 = .ok (.iconst 0, 1) := by decide +kernel
theorem dX7_ofStatue_98 : decode cX7_ofStatue 98 = .ok (.ireturn, 1) := by decide +kernel
theorem dX7_ofStatue_99 : decode cX7_ofStatue 99 = .ok (.bipush (-2), 2) := by decide +kernel
theorem dX7_ofStatue_101 : decode cX7_ofStatue 101 = .ok (.ireturn, 1) := by decide +kernel
theorem dX7_look_0 : decode cX7_look 0 = .ok (.aload_n 0, 1) := by decide +kernel
theorem dX7_look_1 : decode cX7_look 1 = .ok (.iload_n 1, 1) := by decide +kernel
theorem dX7_look_2 : decode cX7_look 2 = .ok (.invokevirtual 144, 3) := by decide +kernel
theorem dX7_look_5 : decode cX7_look 5 = .ok (.ifCond .eq 5, 3) := by decide +kernel
theorem dX7_look_8 : decode cX7_look 8 = .ok (.iconst (-1), 1) := by decide +kernel
theorem dX7_look_9 : decode cX7_look 9 = .ok (.ireturn, 1) := by decide +kernel
theorem dX7_look_10 : decode cX7_look 10 = .ok (.iload_n 2, 1) := by decide +kernel
theorem dX7_look_11 : decode cX7_look 11 = .ok (.i2l, 1) := by decide +kernel
theorem dX7_look_12 : decode cX7_look 12 = .ok (.lconst 0, 1) := by decide +kernel
theorem dX7_look_13 : decode cX7_look 13 = .ok (.ldc2_w 147, 3) := by decide +kernel
theorem dX7_look_16 : decode cX7_look 16 = .ok (.invokestatic 97, 3) := by decide +kernel
theorem dX7_look_19 : decode cX7_look 19 = .ok (.ifCond .ne 6, 3) := by decide +kernel
theorem dX7_look_22 : decode cX7_look 22 = .ok (.bipush (-2), 2) := by decide +kernel
theorem dX7_look_24 : decode cX7_look 24 = .ok (.ireturn, 1) := by decide +kernel
theorem dX7_look_25 : decode cX7_look 25 = .ok (.aload_n 0, 1) := by decide +kernel
theorem dX7_look_26 : decode cX7_look 26 = .ok (.getfield 16, 3) := by decide +kernel
theorem dX7_look_29 : decode cX7_look 29 = .ok (.iload_n 1, 1) := by decide +kernel
theorem dX7_look_30 : decode cX7_look 30 = .ok (.iaload, 1) := by decide +kernel
theorem dX7_look_31 : decode cX7_look 31 = .ok (.istore_n 3, 1) := by decide +kernel
theorem dX7_look_32 : decode cX7_look 32 = .ok (.aload_n 0, 1) := by decide +kernel
theorem dX7_look_33 : decode cX7_look 33 = .ok (.getfield 16, 3) := by decide +kernel
theorem dX7_look_36 : decode cX7_look 36 = .ok (.iload_n 1, 1) := by decide +kernel
theorem dX7_look_37 : decode cX7_look 37 = .ok (.iload_n 2, 1) := by decide +kernel
theorem dX7_look_38 : decode cX7_look 38 = .ok (.iastore, 1) := by decide +kernel
theorem dX7_look_39 : decode cX7_look 39 = .ok (.iload_n 3, 1) := by decide +kernel
theorem dX7_look_40 : decode cX7_look 40 = .ok (.ireturn, 1) := by decide +kernel
theorem dX7_over_0 : decode cX7_over 0 = .ok (.aload_n 0, 1) := by decide +kernel
theorem dX7_over_1 : decode cX7_over 1 = .ok (.iload_n 1, 1) := by decide +kernel
theorem dX7_over_2 : decode cX7_over 2 = .ok (.invokevirtual 144, 3) := by decide +kernel
theorem dX7_over_5 : decode cX7_over 5 = .ok (.ifCond .eq 5, 3) := by decide +kernel
theorem dX7_over_8 : decode cX7_over 8 = .ok (.iconst (-1), 1) := by decide +kernel
theorem dX7_over_9 : decode cX7_over 9 = .ok (.ireturn, 1) := by decide +kernel
theorem dX7_over_10 : decode cX7_over 10 = .ok (.iload_n 2, 1) := by decide +kernel
theorem dX7_over_11 : decode cX7_over 11 = .ok (.i2l, 1) := by decide +kernel
theorem dX7_over_12 : decode cX7_over 12 = .ok (.lconst 0, 1) := by decide +kernel
theorem dX7_over_13 : decode cX7_over 13 = .ok (.ldc2_w 95, 3) := by decide +kernel
theorem dX7_over_16 : decode cX7_over 16 = .ok (.invokestatic 97, 3) := by decide +kernel
theorem dX7_over_19 : decode cX7_over 19 = .ok (.ifCond .ne 6, 3) := by decide +kernel
theorem dX7_over_22 : decode cX7_over 22 = .ok (.bipush (-2), 2) := by decide +kernel
theorem dX7_over_24 : decode cX7_over 24 = .ok (.ireturn, 1) := by decide +kernel
theorem dX7_over_25 : decode cX7_over 25 = .ok (.aload_n 0, 1) := by decide +kernel
theorem dX7_over_26 : decode cX7_over 26 = .ok (.getfield 19, 3) := by decide +kernel
theorem dX7_over_29 : decode cX7_over 29 = .ok (.iload_n 1, 1) := by decide +kernel
theorem dX7_over_30 : decode cX7_over 30 = .ok (.iaload, 1) := by decide +kernel
theorem dX7_over_31 : decode cX7_over 31 = .ok (.istore_n 3, 1) := by decide +kernel
theorem dX7_over_32 : decode cX7_over 32 = .ok (.aload_n 0, 1) := by decide +kernel
theorem dX7_over_33 : decode cX7_over 33 = .ok (.getfield 19, 3) := by decide +kernel
theorem dX7_over_36 : decode cX7_over 36 = .ok (.iload_n 1, 1) := by decide +kernel
theorem dX7_over_37 : decode cX7_over 37 = .ok (.iload_n 2, 1) := by decide +kernel
theorem dX7_over_38 : decode cX7_over 38 = .ok (.iastore, 1) := by decide +kernel
theorem dX7_over_39 : decode cX7_over 39 = .ok (.iload_n 3, 1) := by decide +kernel
theorem dX7_over_40 : decode cX7_over 40 = .ok (.ireturn, 1) := by decide +kernel
theorem dX7_fence_0 : decode cX7_fence 0 = .ok (.aload_n 0, 1) := by decide +kernel
theorem dX7_fence_1 : decode cX7_fence 1 = .ok (.iload_n 1, 1) := by decide +kernel
theorem dX7_fence_2 : decode cX7_fence 2 = .ok (.invokevirtual 144, 3) := by decide +kernel
theorem dX7_fence_5 : decode cX7_fence 5 = .ok (.ifCond .eq 5, 3) := by decide +kernel
theorem dX7_fence_8 : decode cX7_fence 8 = .ok (.iconst (-1), 1) := by decide +kernel
theorem dX7_fence_9 : decode cX7_fence 9 = .ok (.ireturn, 1) := by decide +kernel
theorem dX7_fence_10 : decode cX7_fence 10 = .ok (.aload_n 0, 1) := by decide +kernel
theorem dX7_fence_11 : decode cX7_fence 11 = .ok (.getfield 22, 3) := by decide +kernel
theorem dX7_fence_14 : decode cX7_fence 14 = .ok (.iload_n 1, 1) := by decide +kernel
theorem dX7_fence_15 : decode cX7_fence 15 = .ok (.baload, 1) := by decide +kernel
theorem dX7_fence_16 : decode cX7_fence 16 = .ok (.istore_n 3, 1) := by decide +kernel
theorem dX7_fence_17 : decode cX7_fence 17 = .ok (.aload_n 0, 1) := by decide +kernel
theorem dX7_fence_18 : decode cX7_fence 18 = .ok (.getfield 22, 3) := by decide +kernel
theorem dX7_fence_21 : decode cX7_fence 21 = .ok (.iload_n 1, 1) := by decide +kernel
theorem dX7_fence_22 : decode cX7_fence 22 = .ok (.iload_n 2, 1) := by decide +kernel
theorem dX7_fence_23 : decode cX7_fence 23 = .ok (.bastore, 1) := by decide +kernel
theorem dX7_fence_24 : decode cX7_fence 24 = .ok (.iload_n 3, 1) := by decide +kernel
theorem dX7_fence_25 : decode cX7_fence 25 = .ok (.iload_n 2, 1) := by decide +kernel
theorem dX7_fence_26 : decode cX7_fence 26 = .ok (.if_icmp .ne 7, 3) := by decide +kernel
theorem dX7_fence_29 : decode cX7_fence 29 = .ok (.iconst 0, 1) := by decide +kernel
theorem dX7_fence_30 : decode cX7_fence 30 = .ok (.goto 4, 3) := by decide +kernel
theorem dX7_fence_33 : decode cX7_fence 33 = .ok (.iconst 1, 1) := by decide +kernel
theorem dX7_fence_34 : decode cX7_fence 34 = .ok (.ireturn, 1) := by decide +kernel
theorem dX7_rain_0 : decode cX7_rain 0 = .ok (.iload_n 1, 1) := by decide +kernel
theorem dX7_rain_1 : decode cX7_rain 1 = .ok (.i2l, 1) := by decide +kernel
theorem dX7_rain_2 : decode cX7_rain 2 = .ok (.lconst 0, 1) := by decide +kernel
theorem dX7_rain_3 : decode cX7_rain 3 = .ok (.ldc2_w 149, 3) := by decide +kernel
theorem dX7_rain_6 : decode cX7_rain 6 = .ok (.invokestatic 97, 3) := by decide +kernel
theorem dX7_rain_9 : decode cX7_rain 9 = .ok (.ifCond .eq 27, 3) := by decide +kernel
theorem dX7_rain_12 : decode cX7_rain 12 = .ok (.iload_n 2, 1) := by decide +kernel
theorem dX7_rain_13 : decode cX7_rain 13 = .ok (.i2l, 1) := by decide +kernel
theorem dX7_rain_14 : decode cX7_rain 14 = .ok (.lconst 0, 1) := by decide +kernel
theorem dX7_rain_15 : decode cX7_rain 15 = .ok (.ldc2_w 151, 3) := by decide +kernel
theorem dX7_rain_18 : decode cX7_rain 18 = .ok (.invokestatic 97, 3) := by decide +kernel
theorem dX7_rain_21 : decode cX7_rain 21 = .ok (.ifCond .eq 15, 3) := by decide +kernel
theorem dX7_rain_24 : decode cX7_rain 24 = .ok (.iload_n 3, 1) := by decide +kernel
theorem dX7_rain_25 : decode cX7_rain 25 = .ok (.i2l, 1) := by decide +kernel
theorem dX7_rain_26 : decode cX7_rain 26 = .ok (.lconst 0, 1) := by decide +kernel
theorem dX7_rain_27 : decode cX7_rain 27 = .ok (.ldc2_w 147, 3) := by decide +kernel
theorem dX7_rain_30 : decode cX7_rain 30 = .ok (.invokestatic 97, 3) := by decide +kernel
theorem dX7_rain_33 : decode cX7_rain 33 = .ok (.ifCond .ne 6, 3) := by decide +kernel
theorem dX7_rain_36 : decode cX7_rain 36 = .ok (.bipush (-2), 2) := by decide +kernel
theorem dX7_rain_38 : decode cX7_rain 38 = .ok (.ireturn, 1) := by decide +kernel
theorem dX7_rain_39 : decode cX7_rain 39 = .ok (.aload_n 0, 1) := by decide +kernel
theorem dX7_rain_40 : decode cX7_rain 40 = .ok (.getfield 108, 3) := by decide +kernel
theorem dX7_rain_43 : decode cX7_rain 43 = .ok (.ifCond .ne 6, 3) := by decide +kernel
theorem dX7_rain_46 : decode cX7_rain 46 = .ok (.bipush (-3), 2) := by decide +kernel
theorem dX7_rain_48 : decode cX7_rain 48 = .ok (.ireturn, 1) := by decide +kernel
theorem dX7_rain_49 : decode cX7_rain 49 = .ok (.bipush 10, 2) := by decide +kernel
theorem dX7_rain_51 : decode cX7_rain 51 = .ok (.aload_n 0, 1) := by decide +kernel
theorem dX7_rain_52 : decode cX7_rain 52 = .ok (.getfield 35, 3) := by decide +kernel
theorem dX7_rain_55 : decode cX7_rain 55 = .ok (.iload_n 1, 1) := by decide +kernel
theorem dX7_rain_56 : decode cX7_rain 56 = .ok (.iaload, 1) := by decide +kernel
theorem dX7_rain_57 : decode cX7_rain 57 = .ok (.imul, 1) := by decide +kernel
theorem dX7_rain_58 : decode cX7_rain 58 = .ok (.aload_n 0, 1) := by decide +kernel
theorem dX7_rain_59 : decode cX7_rain 59 = .ok (.getfield 38, 3) := by decide +kernel
theorem dX7_rain_62 : decode cX7_rain 62 = .ok (.iload_n 1, 1) := by decide +kernel
theorem dX7_rain_63 : decode cX7_rain 63 = .ok (.iaload, 1) := by decide +kernel
theorem dX7_rain_64 : decode cX7_rain 64 = .ok (.iadd, 1) := by decide +kernel
theorem dX7_rain_65 : decode cX7_rain 65 = .ok (.istore 4, 2) := by decide +kernel
theorem dX7_rain_67 : decode cX7_rain 67 = .ok (.aload_n 0, 1) := by decide +kernel
theorem dX7_rain_68 : decode cX7_rain 68 = .ok (.getfield 35, 3) := by decide +kernel
theorem dX7_rain_71 : decode cX7_rain 71 = .ok (.iload_n 1, 1) := by decide +kernel
theorem dX7_rain_72 : decode cX7_rain 72 = .ok (.iload_n 2, 1) := by decide +kernel
theorem dX7_rain_73 : decode cX7_rain 73 = .ok (.iastore, 1) := by decide +kernel
theorem dX7_rain_74 : decode cX7_rain 74 = .ok (.aload_n 0, 1) := by decide +kernel
theorem dX7_rain_75 : decode cX7_rain 75 = .ok (.getfield 38, 3) := by decide +kernel
theorem dX7_rain_78 : decode cX7_rain 78 = .ok (.iload_n 1, 1) := by decide +kernel
theorem dX7_rain_79 : decode cX7_rain 79 = .ok (.iload_n 3, 1) := by decide +kernel
theorem dX7_rain_80 : decode cX7_rain 80 = .ok (.iastore, 1) := by decide +kernel
theorem dX7_rain_81 : decode cX7_rain 81 = .ok (.iload 4, 2) := by decide +kernel
theorem dX7_rain_83 : decode cX7_rain 83 = .ok (.ireturn, 1) := by decide +kernel
theorem dX7_deer_0 : decode cX7_deer 0 = .ok (.iload_n 1, 1) := by decide +kernel
theorem dX7_deer_1 : decode cX7_deer 1 = .ok (.i2l, 1) := by decide +kernel
theorem dX7_deer_2 : decode cX7_deer 2 = .ok (.lconst 0, 1) := by decide +kernel
theorem dX7_deer_3 : decode cX7_deer 3 = .ok (.ldc2_w 151, 3) := by decide +kernel
theorem dX7_deer_6 : decode cX7_deer 6 = .ok (.invokestatic 97, 3) := by decide +kernel
theorem dX7_deer_9 : decode cX7_deer 9 = .ok (.ifCond .ne 6, 3) := by decide +kernel
theorem dX7_deer_12 : decode cX7_deer 12 = .ok (.bipush (-2), 2) := by decide +kernel
theorem dX7_deer_14 : decode cX7_deer 14 = .ok (.ireturn, 1) := by decide +kernel
theorem dX7_deer_15 : decode cX7_deer 15 = .ok (.aload_n 0, 1) := by decide +kernel
theorem dX7_deer_16 : decode cX7_deer 16 = .ok (.getfield 108, 3) := by decide +kernel
theorem dX7_deer_19 : decode cX7_deer 19 = .ok (.ifCond .ne 6, 3) := by decide +kernel
theorem dX7_deer_22 : decode cX7_deer 22 = .ok (.bipush (-3), 2) := by decide +kernel
theorem dX7_deer_24 : decode cX7_deer 24 = .ok (.ireturn, 1) := by decide +kernel
theorem dX7_deer_25 : decode cX7_deer 25 = .ok (.aload_n 0, 1) := by decide +kernel
theorem dX7_deer_26 : decode cX7_deer 26 = .ok (.getfield 138, 3) := by decide +kernel
theorem dX7_deer_29 : decode cX7_deer 29 = .ok (.istore_n 2, 1) := by decide +kernel
theorem dX7_deer_30 : decode cX7_deer 30 = .ok (.aload_n 0, 1) := by decide +kernel
theorem dX7_deer_31 : decode cX7_deer 31 = .ok (.iload_n 1, 1) := by decide +kernel
theorem dX7_deer_32 : decode cX7_deer 32 = .ok (.putfield 138, 3) := by decide +kernel
theorem dX7_deer_35 : decode cX7_deer 35 = .ok (.iload_n 2, 1) := by decide +kernel
theorem dX7_deer_36 : decode cX7_deer 36 = .ok (.ireturn, 1) := by decide +kernel
theorem dX7_begin_0 : decode cX7_begin 0 = .ok (.iconst 0, 1) := by decide +kernel
theorem dX7_begin_1 : decode cX7_begin 1 = .ok (.istore_n 1, 1) := by decide +kernel
theorem dX7_begin_2 : decode cX7_begin 2 = .ok (.iload_n 1, 1) := by decide +kernel
theorem dX7_begin_3 : decode cX7_begin 3 = .ok (.bipush 21, 2) := by decide +kernel
theorem dX7_begin_5 : decode cX7_begin 5 = .ok (.if_icmp .ge 21, 3) := by decide +kernel
theorem dX7_begin_8 : decode cX7_begin 8 = .ok (.aload_n 0, 1) := by decide +kernel
theorem dX7_begin_9 : decode cX7_begin 9 = .ok (.getfield 41, 3) := by decide +kernel
theorem dX7_begin_12 : decode cX7_begin 12 = .ok (.iload_n 1, 1) := by decide +kernel
theorem dX7_begin_13 : decode cX7_begin 13 = .ok (.aload_n 0, 1) := by decide +kernel
theorem dX7_begin_14 : decode cX7_begin 14 = .ok (.getfield 13, 3) := by decide +kernel
theorem dX7_begin_17 : decode cX7_begin 17 = .ok (.iload_n 1, 1) := by decide +kernel
theorem dX7_begin_18 : decode cX7_begin 18 = .ok (.iaload, 1) := by decide +kernel
theorem dX7_begin_19 : decode cX7_begin 19 = .ok (.iastore, 1) := by decide +kernel
theorem dX7_begin_20 : decode cX7_begin 20 = .ok (.iinc 1 1, 3) := by decide +kernel
theorem dX7_begin_23 : decode cX7_begin 23 = .ok (.goto (-21), 3) := by decide +kernel
theorem dX7_begin_26 : decode cX7_begin 26 = .ok (.iconst 0, 1) := by decide +kernel
theorem dX7_begin_27 : decode cX7_begin 27 = .ok (.istore_n 1, 1) := by decide +kernel
theorem dX7_begin_28 : decode cX7_begin 28 = .ok (.iload_n 1, 1) := by decide +kernel
theorem dX7_begin_29 : decode cX7_begin 29 = .ok (.bipush 7, 2) := by decide +kernel
theorem dX7_begin_31 : decode cX7_begin 31 = .ok (.if_icmp .ge 23, 3) := by decide +kernel
theorem dX7_begin_34 : decode cX7_begin 34 = .ok (.aload_n 0, 1) := by decide +kernel
theorem dX7_begin_35 : decode cX7_begin 35 = .ok (.getfield 44, 3) := by decide +kernel
theorem dX7_begin_38 : decode cX7_begin 38 = .ok (.iload_n 1, 1) := by decide +kernel
theorem dX7_begin_39 : decode cX7_begin 39 = .ok (.iconst 0, 1) := by decide +kernel
theorem dX7_begin_40 : decode cX7_begin 40 = .ok (.iastore, 1) := by decide +kernel
theorem dX7_begin_41 : decode cX7_begin 41 = .ok (.aload_n 0, 1) := by decide +kernel
theorem dX7_begin_42 : decode cX7_begin 42 = .ok (.getfield 47, 3) := by decide +kernel
theorem dX7_begin_45 : decode cX7_begin 45 = .ok (.iload_n 1, 1) := by decide +kernel
theorem dX7_begin_46 : decode cX7_begin 46 = .ok (.iconst 0, 1) := by decide +kernel
theorem dX7_begin_47 : decode cX7_begin 47 = .ok (.iastore, 1) := by decide +kernel
theorem dX7_begin_48 : decode cX7_begin 48 = .ok (.iinc 1 1, 3) := by decide +kernel
theorem dX7_begin_51 : decode cX7_begin 51 = .ok (.goto (-23), 3) := by decide +kernel
theorem dX7_begin_54 : decode cX7_begin 54 = .ok (.return_, 1) := by decide +kernel
theorem dX7_losesBy_0 : decode cX7_losesBy 0 = .ok (.aload_n 0, 1) := by decide +kernel
theorem dX7_losesBy_1 : decode cX7_losesBy 1 = .ok (.getfield 35, 3) := by decide +kernel
theorem dX7_losesBy_4 : decode cX7_losesBy 4 = .ok (.iload_n 3, 1) := by decide +kernel
theorem dX7_losesBy_5 : decode cX7_losesBy 5 = .ok (.iaload, 1) := by decide +kernel
theorem dX7_losesBy_6 : decode cX7_losesBy 6 = .ok (.istore 4, 2) := by decide +kernel
theorem dX7_losesBy_8 : decode cX7_losesBy 8 = .ok (.iload_n 2, 1) := by decide +kernel
theorem dX7_losesBy_9 : decode cX7_losesBy 9 = .ok (.ifCond .ne 24, 3) := by decide +kernel
theorem dX7_losesBy_12 : decode cX7_losesBy 12 = .ok (.aload_n 0, 1) := by decide +kernel
theorem dX7_losesBy_13 : decode cX7_losesBy 13 = .ok (.getfield 38, 3) := by decide +kernel
theorem dX7_losesBy_16 : decode cX7_losesBy 16 = .ok (.iload_n 3, 1) := by decide +kernel
theorem dX7_losesBy_17 : decode cX7_losesBy 17 = .ok (.iaload, 1) := by decide +kernel
theorem dX7_losesBy_18 : decode cX7_losesBy 18 = .ok (.aload_n 0, 1) := by decide +kernel
theorem dX7_losesBy_19 : decode cX7_losesBy 19 = .ok (.getfield 16, 3) := by decide +kernel
theorem dX7_losesBy_22 : decode cX7_losesBy 22 = .ok (.iload_n 1, 1) := by decide +kernel
theorem dX7_losesBy_23 : decode cX7_losesBy 23 = .ok (.iaload, 1) := by decide +kernel
theorem dX7_losesBy_24 : decode cX7_losesBy 24 = .ok (.if_icmp .ne 9, 3) := by decide +kernel
theorem dX7_losesBy_27 : decode cX7_losesBy 27 = .ok (.iconst 3, 1) := by decide +kernel
theorem dX7_losesBy_28 : decode cX7_losesBy 28 = .ok (.iload 4, 2) := by decide +kernel
theorem dX7_losesBy_30 : decode cX7_losesBy 30 = .ok (.imul, 1) := by decide +kernel
theorem dX7_losesBy_31 : decode cX7_losesBy 31 = .ok (.istore 4, 2) := by decide +kernel
theorem dX7_losesBy_33 : decode cX7_losesBy 33 = .ok (.iload_n 2, 1) := by decide +kernel
theorem dX7_losesBy_34 : decode cX7_losesBy 34 = .ok (.iconst 1, 1) := by decide +kernel
theorem dX7_losesBy_35 : decode cX7_losesBy 35 = .ok (.if_icmp .ne 9, 3) := by decide +kernel
theorem dX7_losesBy_38 : decode cX7_losesBy 38 = .ok (.iconst 2, 1) := by decide +kernel
theorem dX7_losesBy_39 : decode cX7_losesBy 39 = .ok (.iload 4, 2) := by decide +kernel
theorem dX7_losesBy_41 : decode cX7_losesBy 41 = .ok (.imul, 1) := by decide +kernel
theorem dX7_losesBy_42 : decode cX7_losesBy 42 = .ok (.istore 4, 2) := by decide +kernel
theorem dX7_losesBy_44 : decode cX7_losesBy 44 = .ok (.aload_n 0, 1) := by decide +kernel
theorem dX7_losesBy_45 : decode cX7_losesBy 45 = .ok (.getfield 7, 3) := by decide +kernel
theorem dX7_losesBy_48 : decode cX7_losesBy 48 = .ok (.iload_n 1, 1) := by decide +kernel
theorem dX7_losesBy_49 : decode cX7_losesBy 49 = .ok (.iaload, 1) := by decide +kernel
theorem dX7_losesBy_50 : decode cX7_losesBy 50 = .ok (.iconst 2, 1) := by decide +kernel
theorem dX7_losesBy_51 : decode cX7_losesBy 51 = .ok (.if_icmp .ne 9, 3) := by decide +kernel
theorem dX7_losesBy_54 : decode cX7_losesBy 54 = .ok (.iload 4, 2) := by decide +kernel
theorem dX7_losesBy_56 : decode cX7_losesBy 56 = .ok (.iconst 2, 1) := by decide +kernel
theorem dX7_losesBy_57 : decode cX7_losesBy 57 = .ok (.idiv, 1) := by decide +kernel
theorem dX7_losesBy_58 : decode cX7_losesBy 58 = .ok (.istore 4, 2) := by decide +kernel
theorem dX7_losesBy_60 : decode cX7_losesBy 60 = .ok (.aload_n 0, 1) := by decide +kernel
theorem dX7_losesBy_61 : decode cX7_losesBy 61 = .ok (.getfield 19, 3) := by decide +kernel
theorem dX7_losesBy_64 : decode cX7_losesBy 64 = .ok (.iload_n 1, 1) := by decide +kernel
theorem dX7_losesBy_65 : decode cX7_losesBy 65 = .ok (.iaload, 1) := by decide +kernel
theorem dX7_losesBy_66 : decode cX7_losesBy 66 = .ok (.iconst 2, 1) := by decide +kernel
theorem dX7_losesBy_67 : decode cX7_losesBy 67 = .ok (.if_icmp .ne 7, 3) := by decide +kernel
theorem dX7_losesBy_70 : decode cX7_losesBy 70 = .ok (.iconst 0, 1) := by decide +kernel
theorem dX7_losesBy_71 : decode cX7_losesBy 71 = .ok (.goto 22, 3) := by decide +kernel
theorem dX7_losesBy_74 : decode cX7_losesBy 74 = .ok (.aload_n 0, 1) := by decide +kernel
theorem dX7_losesBy_75 : decode cX7_losesBy 75 = .ok (.getfield 19, 3) := by decide +kernel
theorem dX7_losesBy_78 : decode cX7_losesBy 78 = .ok (.iload_n 1, 1) := by decide +kernel
theorem dX7_losesBy_79 : decode cX7_losesBy 79 = .ok (.iaload, 1) := by decide +kernel
theorem dX7_losesBy_80 : decode cX7_losesBy 80 = .ok (.iconst 1, 1) := by decide +kernel
theorem dX7_losesBy_81 : decode cX7_losesBy 81 = .ok (.if_icmp .ne 10, 3) := by decide +kernel
theorem dX7_losesBy_84 : decode cX7_losesBy 84 = .ok (.iload 4, 2) := by decide +kernel
theorem dX7_losesBy_86 : decode cX7_losesBy 86 = .ok (.iconst 2, 1) := by decide +kernel
theorem dX7_losesBy_87 : decode cX7_losesBy 87 = .ok (.idiv, 1) := by decide +kernel
theorem dX7_losesBy_88 : decode cX7_losesBy 88 = .ok (.goto 5, 3) := by decide +kernel
theorem dX7_losesBy_91 : decode cX7_losesBy 91 = .ok (.iload 4, 2) := by decide +kernel
theorem dX7_losesBy_93 : decode cX7_losesBy 93 = .ok (.ireturn, 1) := by decide +kernel
theorem dX7_rainOn_0 : decode cX7_rainOn 0 = .ok (.iconst 0, 1) := by decide +kernel
theorem dX7_rainOn_1 : decode cX7_rainOn 1 = .ok (.istore_n 2, 1) := by decide +kernel
theorem dX7_rainOn_2 : decode cX7_rainOn 2 = .ok (.iload_n 2, 1) := by decide +kernel
theorem dX7_rainOn_3 : decode cX7_rainOn 3 = .ok (.aload_n 0, 1) := by decide +kernel
theorem dX7_rainOn_4 : decode cX7_rainOn 4 = .ok (.getfield 108, 3) := by decide +kernel
theorem dX7_rainOn_7 : decode cX7_rainOn 7 = .ok (.if_icmp .ge 70, 3) := by decide +kernel
theorem dX7_rainOn_10 : decode cX7_rainOn 10 = .ok (.iconst 0, 1) := by decide +kernel
theorem dX7_rainOn_11 : decode cX7_rainOn 11 = .ok (.istore_n 3, 1) := by decide +kernel
theorem dX7_rainOn_12 : decode cX7_rainOn 12 = .ok (.iload_n 3, 1) := by decide +kernel
theorem dX7_rainOn_13 : decode cX7_rainOn 13 = .ok (.iconst 3, 1) := by decide +kernel
theorem dX7_rainOn_14 : decode cX7_rainOn 14 = .ok (.if_icmp .ge 57, 3) := by decide +kernel
theorem dX7_rainOn_17 : decode cX7_rainOn 17 = .ok (.aload_n 0, 1) := by decide +kernel
theorem dX7_rainOn_18 : decode cX7_rainOn 18 = .ok (.getfield 41, 3) := by decide +kernel
theorem dX7_rainOn_21 : decode cX7_rainOn 21 = .ok (.iconst 3, 1) := by decide +kernel
theorem dX7_rainOn_22 : decode cX7_rainOn 22 = .ok (.iload_n 2, 1) := by decide +kernel
theorem dX7_rainOn_23 : decode cX7_rainOn 23 = .ok (.imul, 1) := by decide +kernel
theorem dX7_rainOn_24 : decode cX7_rainOn 24 = .ok (.iload_n 3, 1) := by decide +kernel
theorem dX7_rainOn_25 : decode cX7_rainOn 25 = .ok (.iadd, 1) := by decide +kernel
theorem dX7_rainOn_26 : decode cX7_rainOn 26 = .ok (.iaload, 1) := by decide +kernel
theorem dX7_rainOn_27 : decode cX7_rainOn 27 = .ok (.aload_n 0, 1) := by decide +kernel
theorem dX7_rainOn_28 : decode cX7_rainOn 28 = .ok (.iload_n 2, 1) := by decide +kernel
theorem dX7_rainOn_29 : decode cX7_rainOn 29 = .ok (.iload_n 3, 1) := by decide +kernel
theorem dX7_rainOn_30 : decode cX7_rainOn 30 = .ok (.iload_n 1, 1) := by decide +kernel
theorem dX7_rainOn_31 : decode cX7_rainOn 31 = .ok (.invokevirtual 153, 3) := by decide +kernel
theorem dX7_rainOn_34 : decode cX7_rainOn 34 = .ok (.invokestatic 157, 3) := by decide +kernel
theorem dX7_rainOn_37 : decode cX7_rainOn 37 = .ok (.istore 4, 2) := by decide +kernel
theorem dX7_rainOn_39 : decode cX7_rainOn 39 = .ok (.aload_n 0, 1) := by decide +kernel
theorem dX7_rainOn_40 : decode cX7_rainOn 40 = .ok (.getfield 41, 3) := by decide +kernel
theorem dX7_rainOn_43 : decode cX7_rainOn 43 = .ok (.iconst 3, 1) := by decide +kernel
theorem dX7_rainOn_44 : decode cX7_rainOn 44 = .ok (.iload_n 2, 1) := by decide +kernel
theorem dX7_rainOn_45 : decode cX7_rainOn 45 = .ok (.imul, 1) := by decide +kernel
theorem dX7_rainOn_46 : decode cX7_rainOn 46 = .ok (.iload_n 3, 1) := by decide +kernel
theorem dX7_rainOn_47 : decode cX7_rainOn 47 = .ok (.iadd, 1) := by decide +kernel
theorem dX7_rainOn_48 : decode cX7_rainOn 48 = .ok (.dup2, 1) := by decide +kernel
theorem dX7_rainOn_49 : decode cX7_rainOn 49 = .ok (.iaload, 1) := by decide +kernel
theorem dX7_rainOn_50 : decode cX7_rainOn 50 = .ok (.iload 4, 2) := by decide +kernel
theorem dX7_rainOn_52 : decode cX7_rainOn 52 = .ok (.isub, 1) := by decide +kernel
theorem dX7_rainOn_53 : decode cX7_rainOn 53 = .ok (.iastore, 1) := by decide +kernel
theorem dX7_rainOn_54 : decode cX7_rainOn 54 = .ok (.aload_n 0, 1) := by decide +kernel
theorem dX7_rainOn_55 : decode cX7_rainOn 55 = .ok (.getfield 44, 3) := by decide +kernel
theorem dX7_rainOn_58 : decode cX7_rainOn 58 = .ok (.iload_n 2, 1) := by decide +kernel
theorem dX7_rainOn_59 : decode cX7_rainOn 59 = .ok (.dup2, 1) := by decide +kernel
theorem dX7_rainOn_60 : decode cX7_rainOn 60 = .ok (.iaload, 1) := by decide +kernel
theorem dX7_rainOn_61 : decode cX7_rainOn 61 = .ok (.iload 4, 2) := by decide +kernel
theorem dX7_rainOn_63 : decode cX7_rainOn 63 = .ok (.iadd, 1) := by decide +kernel
theorem dX7_rainOn_64 : decode cX7_rainOn 64 = .ok (.iastore, 1) := by decide +kernel
theorem dX7_rainOn_65 : decode cX7_rainOn 65 = .ok (.iinc 3 1, 3) := by decide +kernel
theorem dX7_rainOn_68 : decode cX7_rainOn 68 = .ok (.goto (-56), 3) := by decide +kernel
theorem dX7_rainOn_71 : decode cX7_rainOn 71 = .ok (.iinc 2 1, 3) := by decide +kernel
theorem dX7_rainOn_74 : decode cX7_rainOn 74 = .ok (.goto (-72), 3) := by decide +kernel
theorem dX7_rainOn_77 : decode cX7_rainOn 77 = .ok (.return_, 1) := by decide +kernel
theorem dX7_canLick_0 : decode cX7_canLick 0 = .ok (.aload_n 0, 1) := by decide +kernel
theorem dX7_canLick_1 : decode cX7_canLick 1 = .ok (.getfield 41, 3) := by decide +kernel
theorem dX7_canLick_4 : decode cX7_canLick 4 = .ok (.iconst 3, 1) := by decide +kernel
theorem dX7_canLick_5 : decode cX7_canLick 5 = .ok (.iload_n 1, 1) := by decide +kernel
theorem dX7_canLick_6 : decode cX7_canLick 6 = .ok (.imul, 1) := by decide +kernel
theorem dX7_canLick_7 : decode cX7_canLick 7 = .ok (.iconst 2, 1) := by decide +kernel
theorem dX7_canLick_8 : decode cX7_canLick 8 = .ok (.iadd, 1) := by decide +kernel
theorem dX7_canLick_9 : decode cX7_canLick 9 = .ok (.iaload, 1) := by decide +kernel
theorem dX7_canLick_10 : decode cX7_canLick 10 = .ok (.istore_n 2, 1) := by decide +kernel
theorem dX7_canLick_11 : decode cX7_canLick 11 = .ok (.aload_n 0, 1) := by decide +kernel
theorem dX7_canLick_12 : decode cX7_canLick 12 = .ok (.getfield 22, 3) := by decide +kernel
theorem dX7_canLick_15 : decode cX7_canLick 15 = .ok (.iload_n 1, 1) := by decide +kernel
theorem dX7_canLick_16 : decode cX7_canLick 16 = .ok (.baload, 1) := by decide +kernel
theorem dX7_canLick_17 : decode cX7_canLick 17 = .ok (.ifCond .ne 39, 3) := by decide +kernel
theorem dX7_canLick_20 : decode cX7_canLick 20 = .ok (.aload_n 0, 1) := by decide +kernel
theorem dX7_canLick_21 : decode cX7_canLick 21 = .ok (.getfield 7, 3) := by decide +kernel
theorem dX7_canLick_24 : decode cX7_canLick 24 = .ok (.iload_n 1, 1) := by decide +kernel
theorem dX7_canLick_25 : decode cX7_canLick 25 = .ok (.iaload, 1) := by decide +kernel
theorem dX7_canLick_26 : decode cX7_canLick 26 = .ok (.ifCond .ne 10, 3) := by decide +kernel
theorem dX7_canLick_29 : decode cX7_canLick 29 = .ok (.iload_n 2, 1) := by decide +kernel
theorem dX7_canLick_30 : decode cX7_canLick 30 = .ok (.ifCond .le 26, 3) := by decide +kernel
theorem dX7_canLick_33 : decode cX7_canLick 33 = .ok (.goto 19, 3) := by decide +kernel
theorem dX7_canLick_36 : decode cX7_canLick 36 = .ok (.iconst 2, 1) := by decide +kernel
theorem dX7_canLick_37 : decode cX7_canLick 37 = .ok (.iload_n 2, 1) := by decide +kernel
theorem dX7_canLick_38 : decode cX7_canLick 38 = .ok (.imul, 1) := by decide +kernel
theorem dX7_canLick_39 : decode cX7_canLick 39 = .ok (.aload_n 0, 1) := by decide +kernel
theorem dX7_canLick_40 : decode cX7_canLick 40 = .ok (.getfield 13, 3) := by decide +kernel
theorem dX7_canLick_43 : decode cX7_canLick 43 = .ok (.iconst 3, 1) := by decide +kernel
theorem dX7_canLick_44 : decode cX7_canLick 44 = .ok (.iload_n 1, 1) := by decide +kernel
theorem dX7_canLick_45 : decode cX7_canLick 45 = .ok (.imul, 1) := by decide +kernel
theorem dX7_canLick_46 : decode cX7_canLick 46 = .ok (.iconst 2, 1) := by decide +kernel
theorem dX7_canLick_47 : decode cX7_canLick 47 = .ok (.iadd, 1) := by decide +kernel
theorem dX7_canLick_48 : decode cX7_canLick 48 = .ok (.iaload, 1) := by decide +kernel
theorem dX7_canLick_49 : decode cX7_canLick 49 = .ok (.if_icmp .le 7, 3) := by decide +kernel
theorem dX7_canLick_52 : decode cX7_canLick 52 = .ok (.iconst 1, 1) := by decide +kernel
theorem dX7_canLick_53 : decode cX7_canLick 53 = .ok (.goto 4, 3) := by decide +kernel
theorem dX7_canLick_56 : decode cX7_canLick 56 = .ok (.iconst 0, 1) := by decide +kernel
theorem dX7_canLick_57 : decode cX7_canLick 57 = .ok (.ireturn, 1) := by decide +kernel
theorem dX7_likedNow_0 : decode cX7_likedNow 0 = .ok (.bipush (-9), 2) := by decide +kernel
theorem dX7_likedNow_2 : decode cX7_likedNow 2 = .ok (.istore_n 1, 1) := by decide +kernel
theorem dX7_likedNow_3 : decode cX7_likedNow 3 = .ok (.iconst 0, 1) := by decide +kernel
theorem dX7_likedNow_4 : decode cX7_likedNow 4 = .ok (.istore_n 2, 1) := by decide +kernel
theorem dX7_likedNow_5 : decode cX7_likedNow 5 = .ok (.iload_n 2, 1) := by decide +kernel
theorem dX7_likedNow_6 : decode cX7_likedNow 6 = .ok (.aload_n 0, 1) := by decide +kernel
theorem dX7_likedNow_7 : decode cX7_likedNow 7 = .ok (.getfield 108, 3) := by decide +kernel
theorem dX7_likedNow_10 : decode cX7_likedNow 10 = .ok (.if_icmp .ge 46, 3) := by decide +kernel
theorem dX7_likedNow_13 : decode cX7_likedNow 13 = .ok (.aload_n 0, 1) := by decide +kernel
theorem dX7_likedNow_14 : decode cX7_likedNow 14 = .ok (.iload_n 2, 1) := by decide +kernel
theorem dX7_likedNow_15 : decode cX7_likedNow 15 = .ok (.invokevirtual 160, 3) := by decide +kernel
theorem dX7_likedNow_18 : decode cX7_likedNow 18 = .ok (.ifCond .eq 32, 3) := by decide +kernel
theorem dX7_likedNow_21 : decode cX7_likedNow 21 = .ok (.iload_n 1, 1) := by decide +kernel
theorem dX7_likedNow_22 : decode cX7_likedNow 22 = .ok (.ifCond .lt 26, 3) := by decide +kernel
theorem dX7_likedNow_25 : decode cX7_likedNow 25 = .ok (.aload_n 0, 1) := by decide +kernel
theorem dX7_likedNow_26 : decode cX7_likedNow 26 = .ok (.getfield 41, 3) := by decide +kernel
theorem dX7_likedNow_29 : decode cX7_likedNow 29 = .ok (.iconst 3, 1) := by decide +kernel
theorem dX7_likedNow_30 : decode cX7_likedNow 30 = .ok (.iload_n 2, 1) := by decide +kernel
theorem dX7_likedNow_31 : decode cX7_likedNow 31 = .ok (.imul, 1) := by decide +kernel
theorem dX7_likedNow_32 : decode cX7_likedNow 32 = .ok (.iconst 2, 1) := by decide +kernel
theorem dX7_likedNow_33 : decode cX7_likedNow 33 = .ok (.iadd, 1) := by decide +kernel
theorem dX7_likedNow_34 : decode cX7_likedNow 34 = .ok (.iaload, 1) := by decide +kernel
theorem dX7_likedNow_35 : decode cX7_likedNow 35 = .ok (.aload_n 0, 1) := by decide +kernel
theorem dX7_likedNow_36 : decode cX7_likedNow 36 = .ok (.getfield 41, 3) := by decide +kernel
theorem dX7_likedNow_39 : decode cX7_likedNow 39 = .ok (.iconst 3, 1) := by decide +kernel
theorem dX7_likedNow_40 : decode cX7_likedNow 40 = .ok (.iload_n 1, 1) := by decide +kernel
theorem dX7_likedNow_41 : decode cX7_likedNow 41 = .ok (.imul, 1) := by decide +kernel
theorem dX7_likedNow_42 : decode cX7_likedNow 42 = .ok (.iconst 2, 1) := by decide +kernel
theorem dX7_likedNow_43 : decode cX7_likedNow 43 = .ok (.iadd, 1) := by decide +kernel
theorem dX7_likedNow_44 : decode cX7_likedNow 44 = .ok (.iaload, 1) := by decide +kernel
theorem dX7_likedNow_45 : decode cX7_likedNow 45 = .ok (.if_icmp .le 5, 3) := by decide +kernel
theorem dX7_likedNow_48 : decode cX7_likedNow 48 = .ok (.iload_n 2, 1) := by decide +kernel
theorem dX7_likedNow_49 : decode cX7_likedNow 49 = .ok (.istore_n 1, 1) := by decide +kernel
theorem dX7_likedNow_50 : decode cX7_likedNow 50 = .ok (.iinc 2 1, 3) := by decide +kernel
theorem dX7_likedNow_53 : decode cX7_likedNow 53 = .ok (.goto (-48), 3) := by decide +kernel
theorem dX7_likedNow_56 : decode cX7_likedNow 56 = .ok (.iload_n 1, 1) := by decide +kernel
theorem dX7_likedNow_57 : decode cX7_likedNow 57 = .ok (.ireturn, 1) := by decide +kernel
theorem dX7_goDay_0 : decode cX7_goDay 0 = .ok (.aload_n 0, 1) := by decide +kernel
theorem dX7_goDay_1 : decode cX7_goDay 1 = .ok (.iload_n 1, 1) := by decide +kernel
theorem dX7_goDay_2 : decode cX7_goDay 2 = .ok (.invokevirtual 163, 3) := by decide +kernel
theorem dX7_goDay_5 : decode cX7_goDay 5 = .ok (.iconst 0, 1) := by decide +kernel
theorem dX7_goDay_6 : decode cX7_goDay 6 = .ok (.istore_n 2, 1) := by decide +kernel
theorem dX7_goDay_7 : decode cX7_goDay 7 = .ok (.iload_n 2, 1) := by decide +kernel
theorem dX7_goDay_8 : decode cX7_goDay 8 = .ok (.aload_n 0, 1) := by decide +kernel
theorem dX7_goDay_9 : decode cX7_goDay 9 = .ok (.getfield 138, 3) := by decide +kernel
theorem dX7_goDay_12 : decode cX7_goDay 12 = .ok (.if_icmp .ge 60, 3) := by decide +kernel
theorem dX7_goDay_15 : decode cX7_goDay 15 = .ok (.aload_n 0, 1) := by decide +kernel
theorem dX7_goDay_16 : decode cX7_goDay 16 = .ok (.invokevirtual 167, 3) := by decide +kernel
theorem dX7_goDay_19 : decode cX7_goDay 19 = .ok (.istore_n 3, 1) := by decide +kernel
theorem dX7_goDay_20 : decode cX7_goDay 20 = .ok (.iload_n 3, 1) := by decide +kernel
theorem dX7_goDay_21 : decode cX7_goDay 21 = .ok (.ifCond .lt 45, 3) := by decide +kernel
theorem dX7_goDay_24 : decode cX7_goDay 24 = .ok (.iconst 2, 1) := by decide +kernel
theorem dX7_goDay_25 : decode cX7_goDay 25 = .ok (.aload_n 0, 1) := by decide +kernel
theorem dX7_goDay_26 : decode cX7_goDay 26 = .ok (.getfield 41, 3) := by decide +kernel
theorem dX7_goDay_29 : decode cX7_goDay 29 = .ok (.iconst 3, 1) := by decide +kernel
theorem dX7_goDay_30 : decode cX7_goDay 30 = .ok (.iload_n 3, 1) := by decide +kernel
theorem dX7_goDay_31 : decode cX7_goDay 31 = .ok (.imul, 1) := by decide +kernel
theorem dX7_goDay_32 : decode cX7_goDay 32 = .ok (.iconst 2, 1) := by decide +kernel
theorem dX7_goDay_33 : decode cX7_goDay 33 = .ok (.iadd, 1) := by decide +kernel
theorem dX7_goDay_34 : decode cX7_goDay 34 = .ok (.iaload, 1) := by decide +kernel
theorem dX7_goDay_35 : decode cX7_goDay 35 = .ok (.invokestatic 157, 3) := by decide +kernel
theorem dX7_goDay_38 : decode cX7_goDay 38 = .ok (.istore 4, 2) := by decide +kernel
theorem dX7_goDay_40 : decode cX7_goDay 40 = .ok (.aload_n 0, 1) := by decide +kernel
theorem dX7_goDay_41 : decode cX7_goDay 41 = .ok (.getfield 41, 3) := by decide +kernel
theorem dX7_goDay_44 : decode cX7_goDay 44 = .ok (.iconst 3, 1) := by decide +kernel
theorem dX7_goDay_45 : decode cX7_goDay 45 = .ok (.iload_n 3, 1) := by decide +kernel
theorem dX7_goDay_46 : decode cX7_goDay 46 = .ok (.imul, 1) := by decide +kernel
theorem dX7_goDay_47 : decode cX7_goDay 47 = .ok (.iconst 2, 1) := by decide +kernel
theorem dX7_goDay_48 : decode cX7_goDay 48 = .ok (.iadd, 1) := by decide +kernel
theorem dX7_goDay_49 : decode cX7_goDay 49 = .ok (.dup2, 1) := by decide +kernel
theorem dX7_goDay_50 : decode cX7_goDay 50 = .ok (.iaload, 1) := by decide +kernel
theorem dX7_goDay_51 : decode cX7_goDay 51 = .ok (.iload 4, 2) := by decide +kernel
theorem dX7_goDay_53 : decode cX7_goDay 53 = .ok (.isub, 1) := by decide +kernel
theorem dX7_goDay_54 : decode cX7_goDay 54 = .ok (.iastore, 1) := by decide +kernel
theorem dX7_goDay_55 : decode cX7_goDay 55 = .ok (.aload_n 0, 1) := by decide +kernel
theorem dX7_goDay_56 : decode cX7_goDay 56 = .ok (.getfield 47, 3) := by decide +kernel
theorem dX7_goDay_59 : decode cX7_goDay 59 = .ok (.iload_n 3, 1) := by decide +kernel
theorem dX7_goDay_60 : decode cX7_goDay 60 = .ok (.dup2, 1) := by decide +kernel
theorem dX7_goDay_61 : decode cX7_goDay 61 = .ok (.iaload, 1) := by decide +kernel
theorem dX7_goDay_62 : decode cX7_goDay 62 = .ok (.iload 4, 2) := by decide +kernel
theorem dX7_goDay_64 : decode cX7_goDay 64 = .ok (.iadd, 1) := by decide +kernel
theorem dX7_goDay_65 : decode cX7_goDay 65 = .ok (.iastore, 1) := by decide +kernel
theorem dX7_goDay_66 : decode cX7_goDay 66 = .ok (.iinc 2 1, 3) := by decide +kernel
theorem dX7_goDay_69 : decode cX7_goDay 69 = .ok (.goto (-62), 3) := by decide +kernel
theorem dX7_goDay_72 : decode cX7_goDay 72 = .ok (.return_, 1) := by decide +kernel
theorem dX7_goTo_0 : decode cX7_goTo 0 = .ok (.aload_n 0, 1) := by decide +kernel
theorem dX7_goTo_1 : decode cX7_goTo 1 = .ok (.invokevirtual 171, 3) := by decide +kernel
theorem dX7_goTo_4 : decode cX7_goTo 4 = .ok (.iconst 0, 1) := by decide +kernel
theorem dX7_goTo_5 : decode cX7_goTo 5 = .ok (.istore_n 2, 1) := by decide +kernel
theorem dX7_goTo_6 : decode cX7_goTo 6 = .ok (.iload_n 2, 1) := by decide +kernel
theorem dX7_goTo_7 : decode cX7_goTo 7 = .ok (.iload_n 1, 1) := by decide +kernel
theorem dX7_goTo_8 : decode cX7_goTo 8 = .ok (.if_icmp .ge 14, 3) := by decide +kernel
theorem dX7_goTo_11 : decode cX7_goTo 11 = .ok (.aload_n 0, 1) := by decide +kernel
theorem dX7_goTo_12 : decode cX7_goTo 12 = .ok (.iload_n 2, 1) := by decide +kernel
theorem dX7_goTo_13 : decode cX7_goTo 13 = .ok (.invokevirtual 174, 3) := by decide +kernel
theorem dX7_goTo_16 : decode cX7_goTo 16 = .ok (.iinc 2 1, 3) := by decide +kernel
theorem dX7_goTo_19 : decode cX7_goTo 19 = .ok (.goto (-13), 3) := by decide +kernel
theorem dX7_goTo_22 : decode cX7_goTo 22 = .ok (.return_, 1) := by decide +kernel
theorem dX7_noPart_0 : decode cX7_noPart 0 = .ok (.iload_n 0, 1) := by decide +kernel
theorem dX7_noPart_1 : decode cX7_noPart 1 = .ok (.i2l, 1) := by decide +kernel
theorem dX7_noPart_2 : decode cX7_noPart 2 = .ok (.lconst 0, 1) := by decide +kernel
theorem dX7_noPart_3 : decode cX7_noPart 3 = .ok (.ldc2_w 95, 3) := by decide +kernel
theorem dX7_noPart_6 : decode cX7_noPart 6 = .ok (.invokestatic 97, 3) := by decide +kernel
theorem dX7_noPart_9 : decode cX7_noPart 9 = .ok (.ifCond .ne 7, 3) := by decide +kernel
theorem dX7_noPart_12 : decode cX7_noPart 12 = .ok (.iconst 1, 1) := by decide +kernel
theorem dX7_noPart_13 : decode cX7_noPart 13 = .ok (.goto 4, 3) := by decide +kernel
theorem dX7_noPart_16 : decode cX7_noPart 16 = .ok (.iconst 0, 1) := by decide +kernel
theorem dX7_noPart_17 : decode cX7_noPart 17 = .ok (.ireturn, 1) := by decide +kernel
theorem dX7_grains_0 : decode cX7_grains 0 = .ok (.aload_n 0, 1) := by decide +kernel
theorem dX7_grains_1 : decode cX7_grains 1 = .ok (.iload_n 1, 1) := by decide +kernel
theorem dX7_grains_2 : decode cX7_grains 2 = .ok (.invokevirtual 144, 3) := by decide +kernel
theorem dX7_grains_5 : decode cX7_grains 5 = .ok (.ifCond .ne 10, 3) := by decide +kernel
theorem dX7_grains_8 : decode cX7_grains 8 = .ok (.iload_n 2, 1) := by decide +kernel
theorem dX7_grains_9 : decode cX7_grains 9 = .ok (.invokestatic 177, 3) := by decide +kernel
theorem dX7_grains_12 : decode cX7_grains 12 = .ok (.ifCond .eq 5, 3) := by decide +kernel
theorem dX7_grains_15 : decode cX7_grains 15 = .ok (.iconst (-1), 1) := by decide +kernel
theorem dX7_grains_16 : decode cX7_grains 16 = .ok (.ireturn, 1) := by decide +kernel
theorem dX7_grains_17 : decode cX7_grains 17 = .ok (.iload_n 3, 1) := by decide +kernel
theorem dX7_grains_18 : decode cX7_grains 18 = .ok (.invokestatic 180, 3) := by decide +kernel
theorem dX7_grains_21 : decode cX7_grains 21 = .ok (.ifCond .ne 6, 3) := by decide +kernel
theorem dX7_grains_24 : decode cX7_grains 24 = .ok (.bipush (-2), 2) := by decide +kernel
theorem dX7_grains_26 : decode cX7_grains 26 = .ok (.ireturn, 1) := by decide +kernel
theorem dX7_grains_27 : decode cX7_grains 27 = .ok (.aload_n 0, 1) := by decide +kernel
theorem dX7_grains_28 : decode cX7_grains 28 = .ok (.iload_n 3, 1) := by decide +kernel
theorem dX7_grains_29 : decode cX7_grains 29 = .ok (.invokevirtual 183, 3) := by decide +kernel
theorem dX7_grains_32 : decode cX7_grains 32 = .ok (.aload_n 0, 1) := by decide +kernel
theorem dX7_grains_33 : decode cX7_grains 33 = .ok (.getfield 41, 3) := by decide +kernel
theorem dX7_grains_36 : decode cX7_grains 36 = .ok (.iconst 3, 1) := by decide +kernel
theorem dX7_grains_37 : decode cX7_grains 37 = .ok (.iload_n 1, 1) := by decide +kernel
theorem dX7_grains_38 : decode cX7_grains 38 = .ok (.imul, 1) := by decide +kernel
theorem dX7_grains_39 : decode cX7_grains 39 = .ok (.iload_n 2, 1) := by decide +kernel
theorem dX7_grains_40 : decode cX7_grains 40 = .ok (.iadd, 1) := by decide +kernel
theorem dX7_grains_41 : decode cX7_grains 41 = .ok (.iaload, 1) := by decide +kernel
theorem dX7_grains_42 : decode cX7_grains 42 = .ok (.ireturn, 1) := by decide +kernel
theorem dX7_lost_0 : decode cX7_lost 0 = .ok (.aload_n 0, 1) := by decide +kernel
theorem dX7_lost_1 : decode cX7_lost 1 = .ok (.iload_n 1, 1) := by decide +kernel
theorem dX7_lost_2 : decode cX7_lost 2 = .ok (.invokevirtual 144, 3) := by decide +kernel
theorem dX7_lost_5 : decode cX7_lost 5 = .ok (.ifCond .eq 5, 3) := by decide +kernel
theorem dX7_lost_8 : decode cX7_lost 8 = .ok (.iconst (-1), 1) := by decide +kernel
theorem dX7_lost_9 : decode cX7_lost 9 = .ok (.ireturn, 1) := by decide +kernel
theorem dX7_lost_10 : decode cX7_lost 10 = .ok (.iload_n 2, 1) := by decide +kernel
theorem dX7_lost_11 : decode cX7_lost 11 = .ok (.invokestatic 180, 3) := by decide +kernel
theorem dX7_lost_14 : decode cX7_lost 14 = .ok (.ifCond .eq 13, 3) := by decide +kernel
theorem dX7_lost_17 : decode cX7_lost 17 = .ok (.iload_n 3, 1) := by decide +kernel
theorem dX7_lost_18 : decode cX7_lost 18 = .ok (.i2l, 1) := by decide +kernel
theorem dX7_lost_19 : decode cX7_lost 19 = .ok (.lconst 0, 1) := by decide +kernel
theorem dX7_lost_20 : decode cX7_lost 20 = .ok (.lconst 1, 1) := by decide +kernel
theorem dX7_lost_21 : decode cX7_lost 21 = .ok (.invokestatic 97, 3) := by decide +kernel
theorem dX7_lost_24 : decode cX7_lost 24 = .ok (.ifCond .ne 6, 3) := by decide +kernel
theorem dX7_lost_27 : decode cX7_lost 27 = .ok (.bipush (-2), 2) := by decide +kernel
theorem dX7_lost_29 : decode cX7_lost 29 = .ok (.ireturn, 1) := by decide +kernel
theorem dX7_lost_30 : decode cX7_lost 30 = .ok (.aload_n 0, 1) := by decide +kernel
theorem dX7_lost_31 : decode cX7_lost 31 = .ok (.iload_n 2, 1) := by decide +kernel
theorem dX7_lost_32 : decode cX7_lost 32 = .ok (.invokevirtual 183, 3) := by decide +kernel
theorem dX7_lost_35 : decode cX7_lost 35 = .ok (.iload_n 3, 1) := by decide +kernel
theorem dX7_lost_36 : decode cX7_lost 36 = .ok (.ifCond .ne 12, 3) := by decide +kernel
theorem dX7_lost_39 : decode cX7_lost 39 = .ok (.aload_n 0, 1) := by decide +kernel
theorem dX7_lost_40 : decode cX7_lost 40 = .ok (.getfield 44, 3) := by decide +kernel
theorem dX7_lost_43 : decode cX7_lost 43 = .ok (.iload_n 1, 1) := by decide +kernel
theorem dX7_lost_44 : decode cX7_lost 44 = .ok (.iaload, 1) := by decide +kernel
theorem dX7_lost_45 : decode cX7_lost 45 = .ok (.goto 9, 3) := by decide +kernel
theorem dX7_lost_48 : decode cX7_lost 48 = .ok (.aload_n 0, 1) := by decide +kernel
theorem dX7_lost_49 : decode cX7_lost 49 = .ok (.getfield 47, 3) := by decide +kernel
theorem dX7_lost_52 : decode cX7_lost 52 = .ok (.iload_n 1, 1) := by decide +kernel
theorem dX7_lost_53 : decode cX7_lost 53 = .ok (.iaload, 1) := by decide +kernel
theorem dX7_lost_54 : decode cX7_lost 54 = .ok (.ireturn, 1) := by decide +kernel
theorem dX7_isGoneNow_0 : decode cX7_isGoneNow 0 = .ok (.iload_n 2, 1) := by decide +kernel
theorem dX7_isGoneNow_1 : decode cX7_isGoneNow 1 = .ok (.iconst 3, 1) := by decide +kernel
theorem dX7_isGoneNow_2 : decode cX7_isGoneNow 2 = .ok (.if_icmp .ge 24, 3) := by decide +kernel
theorem dX7_isGoneNow_5 : decode cX7_isGoneNow 5 = .ok (.aload_n 0, 1) := by decide +kernel
theorem dX7_isGoneNow_6 : decode cX7_isGoneNow 6 = .ok (.getfield 41, 3) := by decide +kernel
theorem dX7_isGoneNow_9 : decode cX7_isGoneNow 9 = .ok (.iconst 3, 1) := by decide +kernel
theorem dX7_isGoneNow_10 : decode cX7_isGoneNow 10 = .ok (.iload_n 1, 1) := by decide +kernel
theorem dX7_isGoneNow_11 : decode cX7_isGoneNow 11 = .ok (.imul, 1) := by decide +kernel
theorem dX7_isGoneNow_12 : decode cX7_isGoneNow 12 = .ok (.iload_n 2, 1) := by decide +kernel
theorem dX7_isGoneNow_13 : decode cX7_isGoneNow 13 = .ok (.iadd, 1) := by decide +kernel
theorem dX7_isGoneNow_14 : decode cX7_isGoneNow 14 = .ok (.iaload, 1) := by decide +kernel
theorem dX7_isGoneNow_15 : decode cX7_isGoneNow 15 = .ok (.ifCond .ne 7, 3) := by decide +kernel
theorem dX7_isGoneNow_18 : decode cX7_isGoneNow 18 = .ok (.iconst 1, 1) := by decide +kernel
theorem dX7_isGoneNow_19 : decode cX7_isGoneNow 19 = .ok (.goto 45, 3) := by decide +kernel
theorem dX7_isGoneNow_22 : decode cX7_isGoneNow 22 = .ok (.iconst 0, 1) := by decide +kernel
theorem dX7_isGoneNow_23 : decode cX7_isGoneNow 23 = .ok (.goto 41, 3) := by decide +kernel
theorem dX7_isGoneNow_26 : decode cX7_isGoneNow 26 = .ok (.aload_n 0, 1) := by decide +kernel
theorem dX7_isGoneNow_27 : decode cX7_isGoneNow 27 = .ok (.getfield 41, 3) := by decide +kernel
theorem dX7_isGoneNow_30 : decode cX7_isGoneNow 30 = .ok (.iconst 3, 1) := by decide +kernel
theorem dX7_isGoneNow_31 : decode cX7_isGoneNow 31 = .ok (.iload_n 1, 1) := by decide +kernel
theorem dX7_isGoneNow_32 : decode cX7_isGoneNow 32 = .ok (.imul, 1) := by decide +kernel
theorem dX7_isGoneNow_33 : decode cX7_isGoneNow 33 = .ok (.iaload, 1) := by decide +kernel
theorem dX7_isGoneNow_34 : decode cX7_isGoneNow 34 = .ok (.aload_n 0, 1) := by decide +kernel
theorem dX7_isGoneNow_35 : decode cX7_isGoneNow 35 = .ok (.getfield 41, 3) := by decide +kernel
theorem dX7_isGoneNow_38 : decode cX7_isGoneNow 38 = .ok (.iconst 3, 1) := by decide +kernel
theorem dX7_isGoneNow_39 : decode cX7_isGoneNow 39 = .ok (.iload_n 1, 1) := by decide +kernel
theorem dX7_isGoneNow_40 : decode cX7_isGoneNow 40 = .ok (.imul, 1) := by decide +kernel
theorem dX7_isGoneNow_41 : decode cX7_isGoneNow 41 = .ok (.iconst 1, 1) := by decide +kernel
theorem dX7_isGoneNow_42 : decode cX7_isGoneNow 42 = .ok (.iadd, 1) := by decide +kernel
theorem dX7_isGoneNow_43 : decode cX7_isGoneNow 43 = .ok (.iaload, 1) := by decide +kernel
theorem dX7_isGoneNow_44 : decode cX7_isGoneNow 44 = .ok (.iadd, 1) := by decide +kernel
theorem dX7_isGoneNow_45 : decode cX7_isGoneNow 45 = .ok (.aload_n 0, 1) := by decide +kernel
theorem dX7_isGoneNow_46 : decode cX7_isGoneNow 46 = .ok (.getfield 41, 3) := by decide +kernel
theorem dX7_isGoneNow_49 : decode cX7_isGoneNow 49 = .ok (.iconst 3, 1) := by decide +kernel
theorem dX7_isGoneNow_50 : decode cX7_isGoneNow 50 = .ok (.iload_n 1, 1) := by decide +kernel
theorem dX7_isGoneNow_51 : decode cX7_isGoneNow 51 = .ok (.imul, 1) := by decide +kernel
theorem dX7_isGoneNow_52 : decode cX7_isGoneNow 52 = .ok (.iconst 2, 1) := by decide +kernel
theorem dX7_isGoneNow_53 : decode cX7_isGoneNow 53 = .ok (.iadd, 1) := by decide +kernel
theorem dX7_isGoneNow_54 : decode cX7_isGoneNow 54 = .ok (.iaload, 1) := by decide +kernel
theorem dX7_isGoneNow_55 : decode cX7_isGoneNow 55 = .ok (.iadd, 1) := by decide +kernel
theorem dX7_isGoneNow_56 : decode cX7_isGoneNow 56 = .ok (.ifCond .ne 7, 3) := by decide +kernel
theorem dX7_isGoneNow_59 : decode cX7_isGoneNow 59 = .ok (.iconst 1, 1) := by decide +kernel
theorem dX7_isGoneNow_60 : decode cX7_isGoneNow 60 = .ok (.goto 4, 3) := by decide +kernel
theorem dX7_isGoneNow_63 : decode cX7_isGoneNow 63 = .ok (.iconst 0, 1) := by decide +kernel
theorem dX7_isGoneNow_64 : decode cX7_isGoneNow 64 = .ok (.ireturn, 1) := by decide +kernel
theorem dX7_goneAt_0 : decode cX7_goneAt 0 = .ok (.aload_n 0, 1) := by decide +kernel
theorem dX7_goneAt_1 : decode cX7_goneAt 1 = .ok (.invokevirtual 171, 3) := by decide +kernel
theorem dX7_goneAt_4 : decode cX7_goneAt 4 = .ok (.iconst 0, 1) := by decide +kernel
theorem dX7_goneAt_5 : decode cX7_goneAt 5 = .ok (.istore_n 3, 1) := by decide +kernel
theorem dX7_goneAt_6 : decode cX7_goneAt 6 = .ok (.iload_n 3, 1) := by decide +kernel
theorem dX7_goneAt_7 : decode cX7_goneAt 7 = .ok (.bipush 60, 2) := by decide +kernel
theorem dX7_goneAt_9 : decode cX7_goneAt 9 = .ok (.if_icmp .ge 27, 3) := by decide +kernel
theorem dX7_goneAt_12 : decode cX7_goneAt 12 = .ok (.aload_n 0, 1) := by decide +kernel
theorem dX7_goneAt_13 : decode cX7_goneAt 13 = .ok (.iload_n 3, 1) := by decide +kernel
theorem dX7_goneAt_14 : decode cX7_goneAt 14 = .ok (.invokevirtual 174, 3) := by decide +kernel
theorem dX7_goneAt_17 : decode cX7_goneAt 17 = .ok (.aload_n 0, 1) := by decide +kernel
theorem dX7_goneAt_18 : decode cX7_goneAt 18 = .ok (.iload_n 1, 1) := by decide +kernel
theorem dX7_goneAt_19 : decode cX7_goneAt 19 = .ok (.iload_n 2, 1) := by decide +kernel
theorem dX7_goneAt_20 : decode cX7_goneAt 20 = .ok (.invokevirtual 186, 3) := by decide +kernel
theorem dX7_goneAt_23 : decode cX7_goneAt 23 = .ok (.ifCond .eq 7, 3) := by decide +kernel
theorem dX7_goneAt_26 : decode cX7_goneAt 26 = .ok (.iload_n 3, 1) := by decide +kernel
theorem dX7_goneAt_27 : decode cX7_goneAt 27 = .ok (.iconst 1, 1) := by decide +kernel
theorem dX7_goneAt_28 : decode cX7_goneAt 28 = .ok (.iadd, 1) := by decide +kernel
theorem dX7_goneAt_29 : decode cX7_goneAt 29 = .ok (.ireturn, 1) := by decide +kernel
theorem dX7_goneAt_30 : decode cX7_goneAt 30 = .ok (.iinc 3 1, 3) := by decide +kernel
theorem dX7_goneAt_33 : decode cX7_goneAt 33 = .ok (.goto (-27), 3) := by decide +kernel
theorem dX7_goneAt_36 : decode cX7_goneAt 36 = .ok (.bipush (-9), 2) := by decide +kernel
theorem dX7_goneAt_38 : decode cX7_goneAt 38 = .ok (.ireturn, 1) := by decide +kernel
theorem dX7_gone_0 : decode cX7_gone 0 = .ok (.aload_n 0, 1) := by decide +kernel
theorem dX7_gone_1 : decode cX7_gone 1 = .ok (.iload_n 1, 1) := by decide +kernel
theorem dX7_gone_2 : decode cX7_gone 2 = .ok (.invokevirtual 144, 3) := by decide +kernel
theorem dX7_gone_5 : decode cX7_gone 5 = .ok (.ifCond .ne 15, 3) := by decide +kernel
theorem dX7_gone_8 : decode cX7_gone 8 = .ok (.iload_n 2, 1) := by decide +kernel
theorem dX7_gone_9 : decode cX7_gone 9 = .ok (.i2l, 1) := by decide +kernel
theorem dX7_gone_10 : decode cX7_gone 10 = .ok (.lconst 0, 1) := by decide +kernel
theorem dX7_gone_11 : decode cX7_gone 11 = .ok (.ldc2_w 147, 3) := by decide +kernel
theorem dX7_gone_14 : decode cX7_gone 14 = .ok (.invokestatic 97, 3) := by decide +kernel
theorem dX7_gone_17 : decode cX7_gone 17 = .ok (.ifCond .ne 7, 3) := by decide +kernel
theorem dX7_gone_20 : decode cX7_gone 20 = .ok (.iconst (-1), 1) := by decide +kernel
theorem dX7_gone_21 : decode cX7_gone 21 = .ok (.goto 9, 3) := by decide +kernel
theorem dX7_gone_24 : decode cX7_gone 24 = .ok (.aload_n 0, 1) := by decide +kernel
theorem dX7_gone_25 : decode cX7_gone 25 = .ok (.iload_n 1, 1) := by decide +kernel
theorem dX7_gone_26 : decode cX7_gone 26 = .ok (.iload_n 2, 1) := by decide +kernel
theorem dX7_gone_27 : decode cX7_gone 27 = .ok (.invokevirtual 189, 3) := by decide +kernel
theorem dX7_gone_30 : decode cX7_gone 30 = .ok (.ireturn, 1) := by decide +kernel
theorem dX7_liked_0 : decode cX7_liked 0 = .ok (.iload_n 1, 1) := by decide +kernel
theorem dX7_liked_1 : decode cX7_liked 1 = .ok (.i2l, 1) := by decide +kernel
theorem dX7_liked_2 : decode cX7_liked 2 = .ok (.lconst 0, 1) := by decide +kernel
theorem dX7_liked_3 : decode cX7_liked 3 = .ok (.ldc2_w 149, 3) := by decide +kernel
theorem dX7_liked_6 : decode cX7_liked 6 = .ok (.invokestatic 97, 3) := by decide +kernel
theorem dX7_liked_9 : decode cX7_liked 9 = .ok (.ifCond .ne 6, 3) := by decide +kernel
theorem dX7_liked_12 : decode cX7_liked 12 = .ok (.bipush (-2), 2) := by decide +kernel
theorem dX7_liked_14 : decode cX7_liked 14 = .ok (.ireturn, 1) := by decide +kernel
theorem dX7_liked_15 : decode cX7_liked 15 = .ok (.aload_n 0, 1) := by decide +kernel
theorem dX7_liked_16 : decode cX7_liked 16 = .ok (.getfield 108, 3) := by decide +kernel
theorem dX7_liked_19 : decode cX7_liked 19 = .ok (.ifCond .ne 6, 3) := by decide +kernel
theorem dX7_liked_22 : decode cX7_liked 22 = .ok (.bipush (-3), 2) := by decide +kernel
theorem dX7_liked_24 : decode cX7_liked 24 = .ok (.ireturn, 1) := by decide +kernel
theorem dX7_liked_25 : decode cX7_liked 25 = .ok (.aload_n 0, 1) := by decide +kernel
theorem dX7_liked_26 : decode cX7_liked 26 = .ok (.iload_n 1, 1) := by decide +kernel
theorem dX7_liked_27 : decode cX7_liked 27 = .ok (.invokevirtual 183, 3) := by decide +kernel
theorem dX7_liked_30 : decode cX7_liked 30 = .ok (.aload_n 0, 1) := by decide +kernel
theorem dX7_liked_31 : decode cX7_liked 31 = .ok (.iload_n 1, 1) := by decide +kernel
theorem dX7_liked_32 : decode cX7_liked 32 = .ok (.invokevirtual 163, 3) := by decide +kernel
theorem dX7_liked_35 : decode cX7_liked 35 = .ok (.aload_n 0, 1) := by decide +kernel
theorem dX7_liked_36 : decode cX7_liked 36 = .ok (.getfield 138, 3) := by decide +kernel
theorem dX7_liked_39 : decode cX7_liked 39 = .ok (.ifCond .ne 8, 3) := by decide +kernel
theorem dX7_liked_42 : decode cX7_liked 42 = .ok (.bipush (-9), 2) := by decide +kernel
theorem dX7_liked_44 : decode cX7_liked 44 = .ok (.goto 7, 3) := by decide +kernel
theorem dX7_liked_47 : decode cX7_liked 47 = .ok (.aload_n 0, 1) := by decide +kernel
theorem dX7_liked_48 : decode cX7_liked 48 = .ok (.invokevirtual 167, 3) := by decide +kernel
theorem dX7_liked_51 : decode cX7_liked 51 = .ok (.ireturn, 1) := by decide +kernel
theorem dX7_lasts_0 : decode cX7_lasts 0 = .ok (.iload_n 1, 1) := by decide +kernel
theorem dX7_lasts_1 : decode cX7_lasts 1 = .ok (.i2l, 1) := by decide +kernel
theorem dX7_lasts_2 : decode cX7_lasts 2 = .ok (.lconst 0, 1) := by decide +kernel
theorem dX7_lasts_3 : decode cX7_lasts 3 = .ok (.ldc2_w 95, 3) := by decide +kernel
theorem dX7_lasts_6 : decode cX7_lasts 6 = .ok (.invokestatic 97, 3) := by decide +kernel
theorem dX7_lasts_9 : decode cX7_lasts 9 = .ok (.ifCond .eq 10, 3) := by decide +kernel
theorem dX7_lasts_12 : decode cX7_lasts 12 = .ok (.aload_n 0, 1) := by decide +kernel
theorem dX7_lasts_13 : decode cX7_lasts 13 = .ok (.getfield 108, 3) := by decide +kernel
theorem dX7_lasts_16 : decode cX7_lasts 16 = .ok (.ifCond .ne 7, 3) := by decide +kernel
theorem dX7_lasts_19 : decode cX7_lasts 19 = .ok (.invokestatic 83, 3) := by decide +kernel
theorem dX7_lasts_22 : decode cX7_lasts 22 = .ok (.lreturn, 1) := by decide +kernel
theorem dX7_lasts_23 : decode cX7_lasts 23 = .ok (.iload_n 1, 1) := by decide +kernel
theorem dX7_lasts_24 : decode cX7_lasts 24 = .ok (.ifCond .ne 63, 3) := by decide +kernel
theorem dX7_lasts_27 : decode cX7_lasts 27 = .ok (.iconst 0, 1) := by decide +kernel
theorem dX7_lasts_28 : decode cX7_lasts 28 = .ok (.istore_n 2, 1) := by decide +kernel
theorem dX7_lasts_29 : decode cX7_lasts 29 = .ok (.iconst (-1), 1) := by decide +kernel
theorem dX7_lasts_30 : decode cX7_lasts 30 = .ok (.istore_n 3, 1) := by decide +kernel
theorem dX7_lasts_31 : decode cX7_lasts 31 = .ok (.iconst 0, 1) := by decide +kernel
theorem dX7_lasts_32 : decode cX7_lasts 32 = .ok (.istore 4, 2) := by decide +kernel
theorem dX7_lasts_34 : decode cX7_lasts 34 = .ok (.iload 4, 2) := by decide +kernel
theorem dX7_lasts_36 : decode cX7_lasts 36 = .ok (.aload_n 0, 1) := by decide +kernel
theorem dX7_lasts_37 : decode cX7_lasts 37 = .ok (.getfield 108, 3) := by decide +kernel
theorem dX7_lasts_40 : decode cX7_lasts 40 = .ok (.if_icmp .ge 44, 3) := by decide +kernel
theorem dX7_lasts_43 : decode cX7_lasts 43 = .ok (.aload_n 0, 1) := by decide +kernel
theorem dX7_lasts_44 : decode cX7_lasts 44 = .ok (.iload 4, 2) := by decide +kernel
theorem dX7_lasts_46 : decode cX7_lasts 46 = .ok (.iconst 3, 1) := by decide +kernel
theorem dX7_lasts_47 : decode cX7_lasts 47 = .ok (.invokevirtual 189, 3) := by decide +kernel
theorem dX7_lasts_50 : decode cX7_lasts 50 = .ok (.istore 5, 2) := by decide +kernel
theorem dX7_lasts_52 : decode cX7_lasts 52 = .ok (.iload 5, 2) := by decide +kernel
theorem dX7_lasts_54 : decode cX7_lasts 54 = .ok (.ifCond .ge 8, 3) := by decide +kernel
theorem dX7_lasts_57 : decode cX7_lasts 57 = .ok (.bipush 61, 2) := by decide +kernel
theorem dX7_lasts_59 : decode cX7_lasts 59 = .ok (.goto 5, 3) := by decide +kernel
theorem dX7_lasts_62 : decode cX7_lasts 62 = .ok (.iload 5, 2) := by decide +kernel
theorem dX7_lasts_64 : decode cX7_lasts 64 = .ok (.istore 5, 2) := by decide +kernel
theorem dX7_lasts_66 : decode cX7_lasts 66 = .ok (.iload 5, 2) := by decide +kernel
theorem dX7_lasts_68 : decode cX7_lasts 68 = .ok (.iload_n 3, 1) := by decide +kernel
theorem dX7_lasts_69 : decode cX7_lasts 69 = .ok (.if_icmp .le 9, 3) := by decide +kernel
theorem dX7_lasts_72 : decode cX7_lasts 72 = .ok (.iload 4, 2) := by decide +kernel
theorem dX7_lasts_74 : decode cX7_lasts 74 = .ok (.istore_n 2, 1) := by decide +kernel
theorem dX7_lasts_75 : decode cX7_lasts 75 = .ok (.iload 5, 2) := by decide +kernel
theorem dX7_lasts_77 : decode cX7_lasts 77 = .ok (.istore_n 3, 1) := by decide +kernel
theorem dX7_lasts_78 : decode cX7_lasts 78 = .ok (.iinc 4 1, 3) := by decide +kernel
theorem dX7_lasts_81 : decode cX7_lasts 81 = .ok (.goto (-47), 3) := by decide +kernel
theorem dX7_lasts_84 : decode cX7_lasts 84 = .ok (.iload_n 2, 1) := by decide +kernel
theorem dX7_lasts_85 : decode cX7_lasts 85 = .ok (.i2l, 1) := by decide +kernel
theorem dX7_lasts_86 : decode cX7_lasts 86 = .ok (.lreturn, 1) := by decide +kernel
theorem dX7_lasts_87 : decode cX7_lasts 87 = .ok (.aload_n 0, 1) := by decide +kernel
theorem dX7_lasts_88 : decode cX7_lasts 88 = .ok (.bipush 60, 2) := by decide +kernel
theorem dX7_lasts_90 : decode cX7_lasts 90 = .ok (.invokevirtual 183, 3) := by decide +kernel
theorem dX7_lasts_93 : decode cX7_lasts 93 = .ok (.lconst 0, 1) := by decide +kernel
theorem dX7_lasts_94 : decode cX7_lasts 94 = .ok (.lstore_n 2, 1) := by decide +kernel
theorem dX7_lasts_95 : decode cX7_lasts 95 = .ok (.lconst 0, 1) := by decide +kernel
theorem dX7_lasts_96 : decode cX7_lasts 96 = .ok (.lstore 4, 2) := by decide +kernel
theorem dX7_lasts_98 : decode cX7_lasts 98 = .ok (.iconst 0, 1) := by decide +kernel
theorem dX7_lasts_99 : decode cX7_lasts 99 = .ok (.istore 6, 2) := by decide +kernel
theorem dX7_lasts_101 : decode cX7_lasts 101 = .ok (.iload 6, 2) := by decide +kernel
theorem dX7_lasts_103 : decode cX7_lasts 103 = .ok (.iconst 3, 1) := by decide +kernel
theorem dX7_lasts_104 : decode cX7_lasts 104 = .ok (.aload_n 0, 1) := by decide +kernel
theorem dX7_lasts_105 : decode cX7_lasts 105 = .ok (.getfield 108, 3) := by decide +kernel
theorem dX7_lasts_108 : decode cX7_lasts 108 = .ok (.imul, 1) := by decide +kernel
theorem dX7_lasts_109 : decode cX7_lasts 109 = .ok (.if_icmp .ge 33, 3) := by decide +kernel
theorem dX7_lasts_112 : decode cX7_lasts 112 = .ok (.lload_n 2, 1) := by decide +kernel
theorem dX7_lasts_113 : decode cX7_lasts 113 = .ok (.aload_n 0, 1) := by decide +kernel
theorem dX7_lasts_114 : decode cX7_lasts 114 = .ok (.getfield 41, 3) := by decide +kernel
theorem dX7_lasts_117 : decode cX7_lasts 117 = .ok (.iload 6, 2) := by decide +kernel
theorem dX7_lasts_119 : decode cX7_lasts 119 = .ok (.iaload, 1) := by decide +kernel
theorem dX7_lasts_120 : decode cX7_lasts 120 = .ok (.i2l, 1) := by decide +kernel
theorem dX7_lasts_121 : decode cX7_lasts 121 = .ok (.ladd, 1) := by decide +kernel
theorem dX7_lasts_122 : decode cX7_lasts 122 = .ok (.lstore_n 2, 1) := by decide +kernel
theorem dX7_lasts_123 : decode cX7_lasts 123 = .ok (.lload 4, 2) := by decide +kernel
theorem dX7_lasts_125 : decode cX7_lasts 125 = .ok (.aload_n 0, 1) := by decide +kernel
theorem dX7_lasts_126 : decode cX7_lasts 126 = .ok (.getfield 13, 3) := by decide +kernel
theorem dX7_lasts_129 : decode cX7_lasts 129 = .ok (.iload 6, 2) := by decide +kernel
theorem dX7_lasts_131 : decode cX7_lasts 131 = .ok (.iaload, 1) := by decide +kernel
theorem dX7_lasts_132 : decode cX7_lasts 132 = .ok (.i2l, 1) := by decide +kernel
theorem dX7_lasts_133 : decode cX7_lasts 133 = .ok (.ladd, 1) := by decide +kernel
theorem dX7_lasts_134 : decode cX7_lasts 134 = .ok (.lstore 4, 2) := by decide +kernel
theorem dX7_lasts_136 : decode cX7_lasts 136 = .ok (.iinc 6 1, 3) := by decide +kernel
theorem dX7_lasts_139 : decode cX7_lasts 139 = .ok (.goto (-38), 3) := by decide +kernel
theorem dX7_lasts_142 : decode cX7_lasts 142 = .ok (.lload_n 2, 1) := by decide +kernel
theorem dX7_lasts_143 : decode cX7_lasts 143 = .ok (.lload 4, 2) := by decide +kernel
theorem dX7_lasts_145 : decode cX7_lasts 145 = .ok (.iload_n 1, 1) := by decide +kernel
theorem dX7_lasts_146 : decode cX7_lasts 146 = .ok (.iconst 1, 1) := by decide +kernel
theorem dX7_lasts_147 : decode cX7_lasts 147 = .ok (.isub, 1) := by decide +kernel
theorem dX7_lasts_148 : decode cX7_lasts 148 = .ok (.invokestatic 192, 3) := by decide +kernel
theorem dX7_lasts_151 : decode cX7_lasts 151 = .ok (.lreturn, 1) := by decide +kernel
theorem dX7_keepOver_0 : decode cX7_keepOver 0 = .ok (.iconst 0, 1) := by decide +kernel
theorem dX7_keepOver_1 : decode cX7_keepOver 1 = .ok (.istore_n 1, 1) := by decide +kernel
theorem dX7_keepOver_2 : decode cX7_keepOver 2 = .ok (.iload_n 1, 1) := by decide +kernel
theorem dX7_keepOver_3 : decode cX7_keepOver 3 = .ok (.bipush 7, 2) := by decide +kernel
theorem dX7_keepOver_5 : decode cX7_keepOver 5 = .ok (.if_icmp .ge 21, 3) := by decide +kernel
theorem dX7_keepOver_8 : decode cX7_keepOver 8 = .ok (.aload_n 0, 1) := by decide +kernel
theorem dX7_keepOver_9 : decode cX7_keepOver 9 = .ok (.getfield 50, 3) := by decide +kernel
theorem dX7_keepOver_12 : decode cX7_keepOver 12 = .ok (.iload_n 1, 1) := by decide +kernel
theorem dX7_keepOver_13 : decode cX7_keepOver 13 = .ok (.aload_n 0, 1) := by decide +kernel
theorem dX7_keepOver_14 : decode cX7_keepOver 14 = .ok (.getfield 19, 3) := by decide +kernel
theorem dX7_keepOver_17 : decode cX7_keepOver 17 = .ok (.iload_n 1, 1) := by decide +kernel
theorem dX7_keepOver_18 : decode cX7_keepOver 18 = .ok (.iaload, 1) := by decide +kernel
theorem dX7_keepOver_19 : decode cX7_keepOver 19 = .ok (.iastore, 1) := by decide +kernel
theorem dX7_keepOver_20 : decode cX7_keepOver 20 = .ok (.iinc 1 1, 3) := by decide +kernel
theorem dX7_keepOver_23 : decode cX7_keepOver 23 = .ok (.goto (-21), 3) := by decide +kernel
theorem dX7_keepOver_26 : decode cX7_keepOver 26 = .ok (.return_, 1) := by decide +kernel
theorem dX7_takeOver_0 : decode cX7_takeOver 0 = .ok (.iconst 0, 1) := by decide +kernel
theorem dX7_takeOver_1 : decode cX7_takeOver 1 = .ok (.istore_n 1, 1) := by decide +kernel
theorem dX7_takeOver_2 : decode cX7_takeOver 2 = .ok (.iload_n 1, 1) := by decide +kernel
theorem dX7_takeOver_3 : decode cX7_takeOver 3 = .ok (.bipush 7, 2) := by decide +kernel
theorem dX7_takeOver_5 : decode cX7_takeOver 5 = .ok (.if_icmp .ge 21, 3) := by decide +kernel
theorem dX7_takeOver_8 : decode cX7_takeOver 8 = .ok (.aload_n 0, 1) := by decide +kernel
theorem dX7_takeOver_9 : decode cX7_takeOver 9 = .ok (.getfield 19, 3) := by decide +kernel
theorem dX7_takeOver_12 : decode cX7_takeOver 12 = .ok (.iload_n 1, 1) := by decide +kernel
theorem dX7_takeOver_13 : decode cX7_takeOver 13 = .ok (.aload_n 0, 1) := by decide +kernel
theorem dX7_takeOver_14 : decode cX7_takeOver 14 = .ok (.getfield 50, 3) := by decide +kernel
theorem dX7_takeOver_17 : decode cX7_takeOver 17 = .ok (.iload_n 1, 1) := by decide +kernel
theorem dX7_takeOver_18 : decode cX7_takeOver 18 = .ok (.iaload, 1) := by decide +kernel
theorem dX7_takeOver_19 : decode cX7_takeOver 19 = .ok (.iastore, 1) := by decide +kernel
theorem dX7_takeOver_20 : decode cX7_takeOver 20 = .ok (.iinc 1 1, 3) := by decide +kernel
theorem dX7_takeOver_23 : decode cX7_takeOver 23 = .ok (.goto (-21), 3) := by decide +kernel
theorem dX7_takeOver_26 : decode cX7_takeOver 26 = .ok (.return_, 1) := by decide +kernel
theorem dX7_nosesNow_0 : decode cX7_nosesNow 0 = .ok (.iconst 0, 1) := by decide +kernel
theorem dX7_nosesNow_1 : decode cX7_nosesNow 1 = .ok (.istore_n 1, 1) := by decide +kernel
theorem dX7_nosesNow_2 : decode cX7_nosesNow 2 = .ok (.iconst 0, 1) := by decide +kernel
theorem dX7_nosesNow_3 : decode cX7_nosesNow 3 = .ok (.istore_n 2, 1) := by decide +kernel
theorem dX7_nosesNow_4 : decode cX7_nosesNow 4 = .ok (.iload_n 2, 1) := by decide +kernel
theorem dX7_nosesNow_5 : decode cX7_nosesNow 5 = .ok (.aload_n 0, 1) := by decide +kernel
theorem dX7_nosesNow_6 : decode cX7_nosesNow 6 = .ok (.getfield 108, 3) := by decide +kernel
theorem dX7_nosesNow_9 : decode cX7_nosesNow 9 = .ok (.if_icmp .ge 28, 3) := by decide +kernel
theorem dX7_nosesNow_12 : decode cX7_nosesNow 12 = .ok (.iload_n 1, 1) := by decide +kernel
theorem dX7_nosesNow_13 : decode cX7_nosesNow 13 = .ok (.aload_n 0, 1) := by decide +kernel
theorem dX7_nosesNow_14 : decode cX7_nosesNow 14 = .ok (.getfield 41, 3) := by decide +kernel
theorem dX7_nosesNow_17 : decode cX7_nosesNow 17 = .ok (.iconst 3, 1) := by decide +kernel
theorem dX7_nosesNow_18 : decode cX7_nosesNow 18 = .ok (.iload_n 2, 1) := by decide +kernel
theorem dX7_nosesNow_19 : decode cX7_nosesNow 19 = .ok (.imul, 1) := by decide +kernel
theorem dX7_nosesNow_20 : decode cX7_nosesNow 20 = .ok (.iaload, 1) := by decide +kernel
theorem dX7_nosesNow_21 : decode cX7_nosesNow 21 = .ok (.ifCond .le 7, 3) := by decide +kernel
theorem dX7_nosesNow_24 : decode cX7_nosesNow 24 = .ok (.iconst 1, 1) := by decide +kernel
theorem dX7_nosesNow_25 : decode cX7_nosesNow 25 = .ok (.goto 4, 3) := by decide +kernel
theorem dX7_nosesNow_28 : decode cX7_nosesNow 28 = .ok (.iconst 0, 1) := by decide +kernel
theorem dX7_nosesNow_29 : decode cX7_nosesNow 29 = .ok (.iadd, 1) := by decide +kernel
theorem dX7_nosesNow_30 : decode cX7_nosesNow 30 = .ok (.istore_n 1, 1) := by decide +kernel
theorem dX7_nosesNow_31 : decode cX7_nosesNow 31 = .ok (.iinc 2 1, 3) := by decide +kernel
theorem dX7_nosesNow_34 : decode cX7_nosesNow 34 = .ok (.goto (-30), 3) := by decide +kernel
theorem dX7_nosesNow_37 : decode cX7_nosesNow 37 = .ok (.iload_n 1, 1) := by decide +kernel
theorem dX7_nosesNow_38 : decode cX7_nosesNow 38 = .ok (.ireturn, 1) := by decide +kernel
theorem dX7_bits_0 : decode cX7_bits 0 = .ok (.iconst 0, 1) := by decide +kernel
theorem dX7_bits_1 : decode cX7_bits 1 = .ok (.istore_n 1, 1) := by decide +kernel
theorem dX7_bits_2 : decode cX7_bits 2 = .ok (.iload_n 0, 1) := by decide +kernel
theorem dX7_bits_3 : decode cX7_bits 3 = .ok (.istore_n 2, 1) := by decide +kernel
theorem dX7_bits_4 : decode cX7_bits 4 = .ok (.iload_n 2, 1) := by decide +kernel
theorem dX7_bits_5 : decode cX7_bits 5 = .ok (.ifCond .le 16, 3) := by decide +kernel
theorem dX7_bits_8 : decode cX7_bits 8 = .ok (.iload_n 1, 1) := by decide +kernel
theorem dX7_bits_9 : decode cX7_bits 9 = .ok (.iload_n 2, 1) := by decide +kernel
theorem dX7_bits_10 : decode cX7_bits 10 = .ok (.iconst 1, 1) := by decide +kernel
theorem dX7_bits_11 : decode cX7_bits 11 = .ok (.iand, 1) := by decide +kernel
theorem dX7_bits_12 : decode cX7_bits 12 = .ok (.iadd, 1) := by decide +kernel
theorem dX7_bits_13 : decode cX7_bits 13 = .ok (.istore_n 1, 1) := by decide +kernel
theorem dX7_bits_14 : decode cX7_bits 14 = .ok (.iload_n 2, 1) := by decide +kernel
theorem dX7_bits_15 : decode cX7_bits 15 = .ok (.iconst 1, 1) := by decide +kernel
theorem dX7_bits_16 : decode cX7_bits 16 = .ok (.ishr, 1) := by decide +kernel
theorem dX7_bits_17 : decode cX7_bits 17 = .ok (.istore_n 2, 1) := by decide +kernel
theorem dX7_bits_18 : decode cX7_bits 18 = .ok (.goto (-14), 3) := by decide +kernel
theorem dX7_bits_21 : decode cX7_bits 21 = .ok (.iload_n 1, 1) := by decide +kernel
theorem dX7_bits_22 : decode cX7_bits 22 = .ok (.ireturn, 1) := by decide +kernel
theorem dX7_umbrellas_0 : decode cX7_umbrellas 0 = .ok (.iload_n 1, 1) := by decide +kernel
theorem dX7_umbrellas_1 : decode cX7_umbrellas 1 = .ok (.i2l, 1) := by decide +kernel
theorem dX7_umbrellas_2 : decode cX7_umbrellas 2 = .ok (.lconst 0, 1) := by decide +kernel
theorem dX7_umbrellas_3 : decode cX7_umbrellas 3 = .ok (.ldc2_w 147, 3) := by decide +kernel
theorem dX7_umbrellas_6 : decode cX7_umbrellas 6 = .ok (.invokestatic 97, 3) := by decide +kernel
theorem dX7_umbrellas_9 : decode cX7_umbrellas 9 = .ok (.ifCond .eq 13, 3) := by decide +kernel
theorem dX7_umbrellas_12 : decode cX7_umbrellas 12 = .ok (.iload_n 2, 1) := by decide +kernel
theorem dX7_umbrellas_13 : decode cX7_umbrellas 13 = .ok (.i2l, 1) := by decide +kernel
theorem dX7_umbrellas_14 : decode cX7_umbrellas 14 = .ok (.lconst 0, 1) := by decide +kernel
theorem dX7_umbrellas_15 : decode cX7_umbrellas 15 = .ok (.lconst 1, 1) := by decide +kernel
theorem dX7_umbrellas_16 : decode cX7_umbrellas 16 = .ok (.invokestatic 97, 3) := by decide +kernel
theorem dX7_umbrellas_19 : decode cX7_umbrellas 19 = .ok (.ifCond .ne 6, 3) := by decide +kernel
theorem dX7_umbrellas_22 : decode cX7_umbrellas 22 = .ok (.bipush (-2), 2) := by decide +kernel
theorem dX7_umbrellas_24 : decode cX7_umbrellas 24 = .ok (.ireturn, 1) := by decide +kernel
theorem dX7_umbrellas_25 : decode cX7_umbrellas 25 = .ok (.aload_n 0, 1) := by decide +kernel
theorem dX7_umbrellas_26 : decode cX7_umbrellas 26 = .ok (.getfield 108, 3) := by decide +kernel
theorem dX7_umbrellas_29 : decode cX7_umbrellas 29 = .ok (.ifCond .ne 6, 3) := by decide +kernel
theorem dX7_umbrellas_32 : decode cX7_umbrellas 32 = .ok (.bipush (-3), 2) := by decide +kernel
theorem dX7_umbrellas_34 : decode cX7_umbrellas 34 = .ok (.ireturn, 1) := by decide +kernel
theorem dX7_umbrellas_35 : decode cX7_umbrellas 35 = .ok (.aload_n 0, 1) := by decide +kernel
theorem dX7_umbrellas_36 : decode cX7_umbrellas 36 = .ok (.invokevirtual 196, 3) := by decide +kernel
theorem dX7_umbrellas_39 : decode cX7_umbrellas 39 = .ok (.iconst (-1), 1) := by decide +kernel
theorem dX7_umbrellas_40 : decode cX7_umbrellas 40 = .ok (.istore_n 3, 1) := by decide +kernel
theorem dX7_umbrellas_41 : decode cX7_umbrellas 41 = .ok (.iconst 0, 1) := by decide +kernel
theorem dX7_umbrellas_42 : decode cX7_umbrellas 42 = .ok (.istore 4, 2) := by decide +kernel
theorem dX7_umbrellas_44 : decode cX7_umbrellas 44 = .ok (.iconst 0, 1) := by decide +kernel
theorem dX7_umbrellas_45 : decode cX7_umbrellas 45 = .ok (.istore 5, 2) := by decide +kernel
theorem dX7_umbrellas_47 : decode cX7_umbrellas 47 = .ok (.iload 5, 2) := by decide +kernel
theorem dX7_umbrellas_49 : decode cX7_umbrellas 49 = .ok (.iconst 1, 1) := by decide +kernel
theorem dX7_umbrellas_50 : decode cX7_umbrellas 50 = .ok (.aload_n 0, 1) := by decide +kernel
theorem dX7_umbrellas_51 : decode cX7_umbrellas 51 = .ok (.getfield 108, 3) := by decide +kernel
theorem dX7_umbrellas_54 : decode cX7_umbrellas 54 = .ok (.ishl, 1) := by decide +kernel
theorem dX7_umbrellas_55 : decode cX7_umbrellas 55 = .ok (.if_icmp .ge 80, 3) := by decide +kernel
theorem dX7_umbrellas_58 : decode cX7_umbrellas 58 = .ok (.iload 5, 2) := by decide +kernel
theorem dX7_umbrellas_60 : decode cX7_umbrellas 60 = .ok (.invokestatic 199, 3) := by decide +kernel
theorem dX7_umbrellas_63 : decode cX7_umbrellas 63 = .ok (.iload_n 1, 1) := by decide +kernel
theorem dX7_umbrellas_64 : decode cX7_umbrellas 64 = .ok (.aload_n 0, 1) := by decide +kernel
theorem dX7_umbrellas_65 : decode cX7_umbrellas 65 = .ok (.getfield 108, 3) := by decide +kernel
theorem dX7_umbrellas_68 : decode cX7_umbrellas 68 = .ok (.invokestatic 157, 3) := by decide +kernel
theorem dX7_umbrellas_71 : decode cX7_umbrellas 71 = .ok (.if_icmp .ne 58, 3) := by decide +kernel
theorem dX7_umbrellas_74 : decode cX7_umbrellas 74 = .ok (.iconst 0, 1) := by decide +kernel
theorem dX7_umbrellas_75 : decode cX7_umbrellas 75 = .ok (.istore 6, 2) := by decide +kernel
theorem dX7_umbrellas_77 : decode cX7_umbrellas 77 = .ok (.iload 6, 2) := by decide +kernel
theorem dX7_umbrellas_79 : decode cX7_umbrellas 79 = .ok (.aload_n 0, 1) := by decide +kernel
theorem dX7_umbrellas_80 : decode cX7_umbrellas 80 = .ok (.getfield 108, 3) := by decide +kernel
theorem dX7_umbrellas_83 : decode cX7_umbrellas 83 = .ok (.if_icmp .ge 23, 3) := by decide +kernel
theorem dX7_umbrellas_86 : decode cX7_umbrellas 86 = .ok (.aload_n 0, 1) := by decide +kernel
theorem dX7_umbrellas_87 : decode cX7_umbrellas 87 = .ok (.getfield 19, 3) := by decide +kernel
theorem dX7_umbrellas_90 : decode cX7_umbrellas 90 = .ok (.iload 6, 2) := by decide +kernel
theorem dX7_umbrellas_92 : decode cX7_umbrellas 92 = .ok (.iload 5, 2) := by decide +kernel
theorem dX7_umbrellas_94 : decode cX7_umbrellas 94 = .ok (.iload 6, 2) := by decide +kernel
theorem dX7_umbrellas_96 : decode cX7_umbrellas 96 = .ok (.ishr, 1) := by decide +kernel
theorem dX7_umbrellas_97 : decode cX7_umbrellas 97 = .ok (.iconst 1, 1) := by decide +kernel
theorem dX7_umbrellas_98 : decode cX7_umbrellas 98 = .ok (.iand, 1) := by decide +kernel
theorem dX7_umbrellas_99 : decode cX7_umbrellas 99 = .ok (.iastore, 1) := by decide +kernel
theorem dX7_umbrellas_100 : decode cX7_umbrellas 100 = .ok (.iinc 6 1, 3) := by decide +kernel
theorem dX7_umbrellas_103 : decode cX7_umbrellas 103 = .ok (.goto (-26), 3) := by decide +kernel
theorem dX7_umbrellas_106 : decode cX7_umbrellas 106 = .ok (.aload_n 0, 1) := by decide +kernel
theorem dX7_umbrellas_107 : decode cX7_umbrellas 107 = .ok (.bipush 60, 2) := by decide +kernel
theorem dX7_umbrellas_109 : decode cX7_umbrellas 109 = .ok (.invokevirtual 183, 3) := by decide +kernel
theorem dX7_umbrellas_112 : decode cX7_umbrellas 112 = .ok (.aload_n 0, 1) := by decide +kernel
theorem dX7_umbrellas_113 : decode cX7_umbrellas 113 = .ok (.invokevirtual 202, 3) := by decide +kernel
theorem dX7_umbrellas_116 : decode cX7_umbrellas 116 = .ok (.iload_n 3, 1) := by decide +kernel
theorem dX7_umbrellas_117 : decode cX7_umbrellas 117 = .ok (.if_icmp .le 12, 3) := by decide +kernel
theorem dX7_umbrellas_120 : decode cX7_umbrellas 120 = .ok (.aload_n 0, 1) := by decide +kernel
theorem dX7_umbrellas_121 : decode cX7_umbrellas 121 = .ok (.invokevirtual 202, 3) := by decide +kernel
theorem dX7_umbrellas_124 : decode cX7_umbrellas 124 = .ok (.istore_n 3, 1) := by decide +kernel
theorem dX7_umbrellas_125 : decode cX7_umbrellas 125 = .ok (.iload 5, 2) := by decide +kernel
theorem dX7_umbrellas_127 : decode cX7_umbrellas 127 = .ok (.istore 4, 2) := by decide +kernel
theorem dX7_umbrellas_129 : decode cX7_umbrellas 129 = .ok (.iinc 5 1, 3) := by decide +kernel
theorem dX7_umbrellas_132 : decode cX7_umbrellas 132 = .ok (.goto (-85), 3) := by decide +kernel
theorem dX7_umbrellas_135 : decode cX7_umbrellas 135 = .ok (.aload_n 0, 1) := by decide +kernel
theorem dX7_umbrellas_136 : decode cX7_umbrellas 136 = .ok (.invokevirtual 205, 3) := by decide +kernel
theorem dX7_umbrellas_139 : decode cX7_umbrellas 139 = .ok (.iload_n 2, 1) := by decide +kernel
theorem dX7_umbrellas_140 : decode cX7_umbrellas 140 = .ok (.ifCond .ne 8, 3) := by decide +kernel
theorem dX7_umbrellas_143 : decode cX7_umbrellas 143 = .ok (.iload 4, 2) := by decide +kernel
theorem dX7_umbrellas_145 : decode cX7_umbrellas 145 = .ok (.goto 4, 3) := by decide +kernel
theorem dX7_umbrellas_148 : decode cX7_umbrellas 148 = .ok (.iload_n 3, 1) := by decide +kernel
theorem dX7_umbrellas_149 : decode cX7_umbrellas 149 = .ok (.ireturn, 1) := by decide +kernel
theorem dX7_firstNose_0 : decode cX7_firstNose 0 = .ok (.aload_n 0, 1) := by decide +kernel
theorem dX7_firstNose_1 : decode cX7_firstNose 1 = .ok (.invokevirtual 171, 3) := by decide +kernel
theorem dX7_firstNose_4 : decode cX7_firstNose 4 = .ok (.iconst 0, 1) := by decide +kernel
theorem dX7_firstNose_5 : decode cX7_firstNose 5 = .ok (.istore_n 1, 1) := by decide +kernel
theorem dX7_firstNose_6 : decode cX7_firstNose 6 = .ok (.iload_n 1, 1) := by decide +kernel
theorem dX7_firstNose_7 : decode cX7_firstNose 7 = .ok (.bipush 60, 2) := by decide +kernel
theorem dX7_firstNose_9 : decode cX7_firstNose 9 = .ok (.if_icmp .ge 29, 3) := by decide +kernel
theorem dX7_firstNose_12 : decode cX7_firstNose 12 = .ok (.aload_n 0, 1) := by decide +kernel
theorem dX7_firstNose_13 : decode cX7_firstNose 13 = .ok (.iload_n 1, 1) := by decide +kernel
theorem dX7_firstNose_14 : decode cX7_firstNose 14 = .ok (.invokevirtual 174, 3) := by decide +kernel
theorem dX7_firstNose_17 : decode cX7_firstNose 17 = .ok (.aload_n 0, 1) := by decide +kernel
theorem dX7_firstNose_18 : decode cX7_firstNose 18 = .ok (.invokevirtual 202, 3) := by decide +kernel
theorem dX7_firstNose_21 : decode cX7_firstNose 21 = .ok (.aload_n 0, 1) := by decide +kernel
theorem dX7_firstNose_22 : decode cX7_firstNose 22 = .ok (.getfield 108, 3) := by decide +kernel
theorem dX7_firstNose_25 : decode cX7_firstNose 25 = .ok (.if_icmp .ge 7, 3) := by decide +kernel
theorem dX7_firstNose_28 : decode cX7_firstNose 28 = .ok (.iload_n 1, 1) := by decide +kernel
theorem dX7_firstNose_29 : decode cX7_firstNose 29 = .ok (.iconst 1, 1) := by decide +kernel
theorem dX7_firstNose_30 : decode cX7_firstNose 30 = .ok (.iadd, 1) := by decide +kernel
theorem dX7_firstNose_31 : decode cX7_firstNose 31 = .ok (.ireturn, 1) := by decide +kernel
theorem dX7_firstNose_32 : decode cX7_firstNose 32 = .ok (.iinc 1 1, 3) := by decide +kernel
theorem dX7_firstNose_35 : decode cX7_firstNose 35 = .ok (.goto (-29), 3) := by decide +kernel
theorem dX7_firstNose_38 : decode cX7_firstNose 38 = .ok (.bipush 61, 2) := by decide +kernel
theorem dX7_firstNose_40 : decode cX7_firstNose 40 = .ok (.ireturn, 1) := by decide +kernel
theorem dX7_turn_0 : decode cX7_turn 0 = .ok (.iload_n 1, 1) := by decide +kernel
theorem dX7_turn_1 : decode cX7_turn 1 = .ok (.i2l, 1) := by decide +kernel
theorem dX7_turn_2 : decode cX7_turn 2 = .ok (.lconst 0, 1) := by decide +kernel
theorem dX7_turn_3 : decode cX7_turn 3 = .ok (.lconst 1, 1) := by decide +kernel
theorem dX7_turn_4 : decode cX7_turn 4 = .ok (.invokestatic 97, 3) := by decide +kernel
theorem dX7_turn_7 : decode cX7_turn 7 = .ok (.ifCond .ne 6, 3) := by decide +kernel
theorem dX7_turn_10 : decode cX7_turn 10 = .ok (.bipush (-2), 2) := by decide +kernel
theorem dX7_turn_12 : decode cX7_turn 12 = .ok (.ireturn, 1) := by decide +kernel
theorem dX7_turn_13 : decode cX7_turn 13 = .ok (.aload_n 0, 1) := by decide +kernel
theorem dX7_turn_14 : decode cX7_turn 14 = .ok (.getfield 108, 3) := by decide +kernel
theorem dX7_turn_17 : decode cX7_turn 17 = .ok (.ifCond .ne 6, 3) := by decide +kernel
theorem dX7_turn_20 : decode cX7_turn 20 = .ok (.bipush (-3), 2) := by decide +kernel
theorem dX7_turn_22 : decode cX7_turn 22 = .ok (.ireturn, 1) := by decide +kernel
theorem dX7_turn_23 : decode cX7_turn 23 = .ok (.iconst 0, 1) := by decide +kernel
theorem dX7_turn_24 : decode cX7_turn 24 = .ok (.istore_n 2, 1) := by decide +kernel
theorem dX7_turn_25 : decode cX7_turn 25 = .ok (.iconst (-1), 1) := by decide +kernel
theorem dX7_turn_26 : decode cX7_turn 26 = .ok (.istore_n 3, 1) := by decide +kernel
theorem dX7_turn_27 : decode cX7_turn 27 = .ok (.iconst 0, 1) := by decide +kernel
theorem dX7_turn_28 : decode cX7_turn 28 = .ok (.istore 4, 2) := by decide +kernel
theorem dX7_turn_30 : decode cX7_turn 30 = .ok (.iload 4, 2) := by decide +kernel
theorem dX7_turn_32 : decode cX7_turn 32 = .ok (.aload_n 0, 1) := by decide +kernel
theorem dX7_turn_33 : decode cX7_turn 33 = .ok (.getfield 108, 3) := by decide +kernel
theorem dX7_turn_36 : decode cX7_turn 36 = .ok (.if_icmp .ge 75, 3) := by decide +kernel
theorem dX7_turn_39 : decode cX7_turn 39 = .ok (.aload_n 0, 1) := by decide +kernel
theorem dX7_turn_40 : decode cX7_turn 40 = .ok (.getfield 16, 3) := by decide +kernel
theorem dX7_turn_43 : decode cX7_turn 43 = .ok (.iload 4, 2) := by decide +kernel
theorem dX7_turn_45 : decode cX7_turn 45 = .ok (.iaload, 1) := by decide +kernel
theorem dX7_turn_46 : decode cX7_turn 46 = .ok (.istore 5, 2) := by decide +kernel
theorem dX7_turn_48 : decode cX7_turn 48 = .ok (.iconst 0, 1) := by decide +kernel
theorem dX7_turn_49 : decode cX7_turn 49 = .ok (.istore 6, 2) := by decide +kernel
theorem dX7_turn_51 : decode cX7_turn 51 = .ok (.iload 6, 2) := by decide +kernel
theorem dX7_turn_53 : decode cX7_turn 53 = .ok (.iconst 4, 1) := by decide +kernel
theorem dX7_turn_54 : decode cX7_turn 54 = .ok (.if_icmp .ge 42, 3) := by decide +kernel
theorem dX7_turn_57 : decode cX7_turn 57 = .ok (.aload_n 0, 1) := by decide +kernel
theorem dX7_turn_58 : decode cX7_turn 58 = .ok (.getfield 16, 3) := by decide +kernel
theorem dX7_turn_61 : decode cX7_turn 61 = .ok (.iload 4, 2) := by decide +kernel
theorem dX7_turn_63 : decode cX7_turn 63 = .ok (.iload 6, 2) := by decide +kernel
theorem dX7_turn_65 : decode cX7_turn 65 = .ok (.iastore, 1) := by decide +kernel
theorem dX7_turn_66 : decode cX7_turn 66 = .ok (.aload_n 0, 1) := by decide +kernel
theorem dX7_turn_67 : decode cX7_turn 67 = .ok (.invokevirtual 208, 3) := by decide +kernel
theorem dX7_turn_70 : decode cX7_turn 70 = .ok (.istore 7, 2) := by decide +kernel
theorem dX7_turn_72 : decode cX7_turn 72 = .ok (.iload 7, 2) := by decide +kernel
theorem dX7_turn_74 : decode cX7_turn 74 = .ok (.iload_n 3, 1) := by decide +kernel
theorem dX7_turn_75 : decode cX7_turn 75 = .ok (.if_icmp .le 15, 3) := by decide +kernel
theorem dX7_turn_78 : decode cX7_turn 78 = .ok (.bipush 10, 2) := by decide +kernel
theorem dX7_turn_80 : decode cX7_turn 80 = .ok (.iload 4, 2) := by decide +kernel
theorem dX7_turn_82 : decode cX7_turn 82 = .ok (.imul, 1) := by decide +kernel
theorem dX7_turn_83 : decode cX7_turn 83 = .ok (.iload 6, 2) := by decide +kernel
theorem dX7_turn_85 : decode cX7_turn 85 = .ok (.iadd, 1) := by decide +kernel
theorem dX7_turn_86 : decode cX7_turn 86 = .ok (.istore_n 2, 1) := by decide +kernel
theorem dX7_turn_87 : decode cX7_turn 87 = .ok (.iload 7, 2) := by decide +kernel
theorem dX7_turn_89 : decode cX7_turn 89 = .ok (.istore_n 3, 1) := by decide +kernel
theorem dX7_turn_90 : decode cX7_turn 90 = .ok (.iinc 6 1, 3) := by decide +kernel
theorem dX7_turn_93 : decode cX7_turn 93 = .ok (.goto (-42), 3) := by decide +kernel
theorem dX7_turn_96 : decode cX7_turn 96 = .ok (.aload_n 0, 1) := by decide +kernel
theorem dX7_turn_97 : decode cX7_turn 97 = .ok (.getfield 16, 3) := by decide +kernel
theorem dX7_turn_100 : decode cX7_turn 100 = .ok (.iload 4, 2) := by decide +kernel
theorem dX7_turn_102 : decode cX7_turn 102 = .ok (.iload 5, 2) := by decide +kernel
theorem dX7_turn_104 : decode cX7_turn 104 = .ok (.iastore, 1) := by decide +kernel
theorem dX7_turn_105 : decode cX7_turn 105 = .ok (.iinc 4 1, 3) := by decide +kernel
theorem dX7_turn_108 : decode cX7_turn 108 = .ok (.goto (-78), 3) := by decide +kernel
theorem dX7_turn_111 : decode cX7_turn 111 = .ok (.iload_n 1, 1) := by decide +kernel
theorem dX7_turn_112 : decode cX7_turn 112 = .ok (.ifCond .ne 7, 3) := by decide +kernel
theorem dX7_turn_115 : decode cX7_turn 115 = .ok (.iload_n 2, 1) := by decide +kernel
theorem dX7_turn_116 : decode cX7_turn 116 = .ok (.goto 4, 3) := by decide +kernel
theorem dX7_turn_119 : decode cX7_turn 119 = .ok (.iload_n 3, 1) := by decide +kernel
theorem dX7_turn_120 : decode cX7_turn 120 = .ok (.ireturn, 1) := by decide +kernel
theorem dX7_roofs_0 : decode cX7_roofs 0 = .ok (.iload_n 1, 1) := by decide +kernel
theorem dX7_roofs_1 : decode cX7_roofs 1 = .ok (.invokestatic 180, 3) := by decide +kernel
theorem dX7_roofs_4 : decode cX7_roofs 4 = .ok (.ifCond .eq 13, 3) := by decide +kernel
theorem dX7_roofs_7 : decode cX7_roofs 7 = .ok (.iload_n 2, 1) := by decide +kernel
theorem dX7_roofs_8 : decode cX7_roofs 8 = .ok (.i2l, 1) := by decide +kernel
theorem dX7_roofs_9 : decode cX7_roofs 9 = .ok (.lconst 0, 1) := by decide +kernel
theorem dX7_roofs_10 : decode cX7_roofs 10 = .ok (.lconst 1, 1) := by decide +kernel
theorem dX7_roofs_11 : decode cX7_roofs 11 = .ok (.invokestatic 97, 3) := by decide +kernel
theorem dX7_roofs_14 : decode cX7_roofs 14 = .ok (.ifCond .ne 6, 3) := by decide +kernel
theorem dX7_roofs_17 : decode cX7_roofs 17 = .ok (.bipush (-2), 2) := by decide +kernel
theorem dX7_roofs_19 : decode cX7_roofs 19 = .ok (.ireturn, 1) := by decide +kernel
theorem dX7_roofs_20 : decode cX7_roofs 20 = .ok (.aload_n 0, 1) := by decide +kernel
theorem dX7_roofs_21 : decode cX7_roofs 21 = .ok (.getfield 108, 3) := by decide +kernel
theorem dX7_roofs_24 : decode cX7_roofs 24 = .ok (.ifCond .ne 6, 3) := by decide +kernel
theorem dX7_roofs_27 : decode cX7_roofs 27 = .ok (.bipush (-3), 2) := by decide +kernel
theorem dX7_roofs_29 : decode cX7_roofs 29 = .ok (.ireturn, 1) := by decide +kernel
theorem dX7_roofs_30 : decode cX7_roofs 30 = .ok (.aload_n 0, 1) := by decide +kernel
theorem dX7_roofs_31 : decode cX7_roofs 31 = .ok (.invokevirtual 196, 3) := by decide +kernel
theorem dX7_roofs_34 : decode cX7_roofs 34 = .ok (.bipush (-9), 2) := by decide +kernel
theorem dX7_roofs_36 : decode cX7_roofs 36 = .ok (.istore_n 3, 1) := by decide +kernel
theorem dX7_roofs_37 : decode cX7_roofs 37 = .ok (.iconst 0, 1) := by decide +kernel
theorem dX7_roofs_38 : decode cX7_roofs 38 = .ok (.istore 4, 2) := by decide +kernel
theorem dX7_roofs_40 : decode cX7_roofs 40 = .ok (.iload 4, 2) := by decide +kernel
theorem dX7_roofs_42 : decode cX7_roofs 42 = .ok (.iconst 1, 1) := by decide +kernel
theorem dX7_roofs_43 : decode cX7_roofs 43 = .ok (.aload_n 0, 1) := by decide +kernel
theorem dX7_roofs_44 : decode cX7_roofs 44 = .ok (.getfield 108, 3) := by decide +kernel
theorem dX7_roofs_47 : decode cX7_roofs 47 = .ok (.ishl, 1) := by decide +kernel
theorem dX7_roofs_48 : decode cX7_roofs 48 = .ok (.if_icmp .ge 95, 3) := by decide +kernel
theorem dX7_roofs_51 : decode cX7_roofs 51 = .ok (.iload_n 3, 1) := by decide +kernel
theorem dX7_roofs_52 : decode cX7_roofs 52 = .ok (.ifCond .lt 15, 3) := by decide +kernel
theorem dX7_roofs_55 : decode cX7_roofs 55 = .ok (.iload 4, 2) := by decide +kernel
theorem dX7_roofs_57 : decode cX7_roofs 57 = .ok (.invokestatic 199, 3) := by decide +kernel
theorem dX7_roofs_60 : decode cX7_roofs 60 = .ok (.iload_n 3, 1) := by decide +kernel
theorem dX7_roofs_61 : decode cX7_roofs 61 = .ok (.invokestatic 199, 3) := by decide +kernel
theorem dX7_roofs_64 : decode cX7_roofs 64 = .ok (.if_icmp .ge 73, 3) := by decide +kernel
theorem dX7_roofs_67 : decode cX7_roofs 67 = .ok (.iconst 0, 1) := by decide +kernel
theorem dX7_roofs_68 : decode cX7_roofs 68 = .ok (.istore 5, 2) := by decide +kernel
theorem dX7_roofs_70 : decode cX7_roofs 70 = .ok (.iload 5, 2) := by decide +kernel
theorem dX7_roofs_72 : decode cX7_roofs 72 = .ok (.aload_n 0, 1) := by decide +kernel
theorem dX7_roofs_73 : decode cX7_roofs 73 = .ok (.getfield 108, 3) := by decide +kernel
theorem dX7_roofs_76 : decode cX7_roofs 76 = .ok (.if_icmp .ge 38, 3) := by decide +kernel
theorem dX7_roofs_79 : decode cX7_roofs 79 = .ok (.aload_n 0, 1) := by decide +kernel
theorem dX7_roofs_80 : decode cX7_roofs 80 = .ok (.getfield 19, 3) := by decide +kernel
theorem dX7_roofs_83 : decode cX7_roofs 83 = .ok (.iload 5, 2) := by decide +kernel
theorem dX7_roofs_85 : decode cX7_roofs 85 = .ok (.iload 4, 2) := by decide +kernel
theorem dX7_roofs_87 : decode cX7_roofs 87 = .ok (.iload 5, 2) := by decide +kernel
theorem dX7_roofs_89 : decode cX7_roofs 89 = .ok (.ishr, 1) := by decide +kernel
theorem dX7_roofs_90 : decode cX7_roofs 90 = .ok (.iconst 1, 1) := by decide +kernel
theorem dX7_roofs_91 : decode cX7_roofs 91 = .ok (.iand, 1) := by decide +kernel
theorem dX7_roofs_92 : decode cX7_roofs 92 = .ok (.iconst 1, 1) := by decide +kernel
theorem dX7_roofs_93 : decode cX7_roofs 93 = .ok (.if_icmp .ne 7, 3) := by decide +kernel
theorem dX7_roofs_96 : decode cX7_roofs 96 = .ok (.iconst 2, 1) := by decide +kernel
theorem dX7_roofs_97 : decode cX7_roofs 97 = .ok (.goto 10, 3) := by decide +kernel
theorem dX7_roofs_100 : decode cX7_roofs 100 = .ok (.aload_n 0, 1) := by decide +kernel
theorem dX7_roofs_101 : decode cX7_roofs 101 = .ok (.getfield 50, 3) := by decide +kernel
theorem dX7_roofs_104 : decode cX7_roofs 104 = .ok (.iload 5, 2) := by decide +kernel
theorem dX7_roofs_106 : decode cX7_roofs 106 = .ok (.iaload, 1) := by decide +kernel
theorem dX7_roofs_107 : decode cX7_roofs 107 = .ok (.iastore, 1) := by decide +kernel
theorem dX7_roofs_108 : decode cX7_roofs 108 = .ok (.iinc 5 1, 3) := by decide +kernel
theorem dX7_roofs_111 : decode cX7_roofs 111 = .ok (.goto (-41), 3) := by decide +kernel
theorem dX7_roofs_114 : decode cX7_roofs 114 = .ok (.aload_n 0, 1) := by decide +kernel
theorem dX7_roofs_115 : decode cX7_roofs 115 = .ok (.iload_n 1, 1) := by decide +kernel
theorem dX7_roofs_116 : decode cX7_roofs 116 = .ok (.invokevirtual 183, 3) := by decide +kernel
theorem dX7_roofs_119 : decode cX7_roofs 119 = .ok (.aload_n 0, 1) := by decide +kernel
theorem dX7_roofs_120 : decode cX7_roofs 120 = .ok (.invokevirtual 202, 3) := by decide +kernel
theorem dX7_roofs_123 : decode cX7_roofs 123 = .ok (.aload_n 0, 1) := by decide +kernel
theorem dX7_roofs_124 : decode cX7_roofs 124 = .ok (.getfield 108, 3) := by decide +kernel
theorem dX7_roofs_127 : decode cX7_roofs 127 = .ok (.if_icmp .ne 8, 3) := by decide +kernel
theorem dX7_roofs_130 : decode cX7_roofs 130 = .ok (.iload 4, 2) := by decide +kernel
theorem dX7_roofs_132 : decode cX7_roofs 132 = .ok (.goto 4, 3) := by decide +kernel
theorem dX7_roofs_135 : decode cX7_roofs 135 = .ok (.iload_n 3, 1) := by decide +kernel
theorem dX7_roofs_136 : decode cX7_roofs 136 = .ok (.istore_n 3, 1) := by decide +kernel
theorem dX7_roofs_137 : decode cX7_roofs 137 = .ok (.iinc 4 1, 3) := by decide +kernel
theorem dX7_roofs_140 : decode cX7_roofs 140 = .ok (.goto (-100), 3) := by decide +kernel
theorem dX7_roofs_143 : decode cX7_roofs 143 = .ok (.aload_n 0, 1) := by decide +kernel
theorem dX7_roofs_144 : decode cX7_roofs 144 = .ok (.invokevirtual 205, 3) := by decide +kernel
theorem dX7_roofs_147 : decode cX7_roofs 147 = .ok (.iload_n 3, 1) := by decide +kernel
theorem dX7_roofs_148 : decode cX7_roofs 148 = .ok (.ifCond .lt 7, 3) := by decide +kernel
theorem dX7_roofs_151 : decode cX7_roofs 151 = .ok (.iload_n 2, 1) := by decide +kernel
theorem dX7_roofs_152 : decode cX7_roofs 152 = .ok (.ifCond .ne 7, 3) := by decide +kernel
theorem dX7_roofs_155 : decode cX7_roofs 155 = .ok (.iload_n 3, 1) := by decide +kernel
theorem dX7_roofs_156 : decode cX7_roofs 156 = .ok (.goto 7, 3) := by decide +kernel
theorem dX7_roofs_159 : decode cX7_roofs 159 = .ok (.iload_n 3, 1) := by decide +kernel
theorem dX7_roofs_160 : decode cX7_roofs 160 = .ok (.invokestatic 199, 3) := by decide +kernel
theorem dX7_roofs_163 : decode cX7_roofs 163 = .ok (.ireturn, 1) := by decide +kernel
theorem dX7_takenFor_0 : decode cX7_takenFor 0 = .ok (.aload_n 0, 1) := by decide +kernel
theorem dX7_takenFor_1 : decode cX7_takenFor 1 = .ok (.iload_n 2, 1) := by decide +kernel
theorem dX7_takenFor_2 : decode cX7_takenFor 2 = .ok (.iload_n 3, 1) := by decide +kernel
theorem dX7_takenFor_3 : decode cX7_takenFor 3 = .ok (.iload 4, 2) := by decide +kernel
theorem dX7_takenFor_5 : decode cX7_takenFor 5 = .ok (.ldc2_w 147, 3) := by decide +kernel
theorem dX7_takenFor_8 : decode cX7_takenFor 8 = .ok (.iload_n 1, 1) := by decide +kernel
theorem dX7_takenFor_9 : decode cX7_takenFor 9 = .ok (.invokestatic 180, 3) := by decide +kernel
theorem dX7_takenFor_12 : decode cX7_takenFor 12 = .ok (.ifCond .eq 18, 3) := by decide +kernel
theorem dX7_takenFor_15 : decode cX7_takenFor 15 = .ok (.iload 5, 2) := by decide +kernel
theorem dX7_takenFor_17 : decode cX7_takenFor 17 = .ok (.i2l, 1) := by decide +kernel
theorem dX7_takenFor_18 : decode cX7_takenFor 18 = .ok (.lconst 0, 1) := by decide +kernel
theorem dX7_takenFor_19 : decode cX7_takenFor 19 = .ok (.lconst 1, 1) := by decide +kernel
theorem dX7_takenFor_20 : decode cX7_takenFor 20 = .ok (.invokestatic 97, 3) := by decide +kernel
theorem dX7_takenFor_23 : decode cX7_takenFor 23 = .ok (.ifCond .eq 7, 3) := by decide +kernel
theorem dX7_takenFor_26 : decode cX7_takenFor 26 = .ok (.iconst 1, 1) := by decide +kernel
theorem dX7_takenFor_27 : decode cX7_takenFor 27 = .ok (.goto 4, 3) := by decide +kernel
theorem dX7_takenFor_30 : decode cX7_takenFor 30 = .ok (.iconst 0, 1) := by decide +kernel
theorem dX7_takenFor_31 : decode cX7_takenFor 31 = .ok (.invokevirtual 131, 3) := by decide +kernel
theorem dX7_takenFor_34 : decode cX7_takenFor 34 = .ok (.istore 6, 2) := by decide +kernel
theorem dX7_takenFor_36 : decode cX7_takenFor 36 = .ok (.iload 6, 2) := by decide +kernel
theorem dX7_takenFor_38 : decode cX7_takenFor 38 = .ok (.ifCond .ge 6, 3) := by decide +kernel
theorem dX7_takenFor_41 : decode cX7_takenFor 41 = .ok (.iload 6, 2) := by decide +kernel
theorem dX7_takenFor_43 : decode cX7_takenFor 43 = .ok (.ireturn, 1) := by decide +kernel
theorem dX7_takenFor_44 : decode cX7_takenFor 44 = .ok (.aload_n 0, 1) := by decide +kernel
theorem dX7_takenFor_45 : decode cX7_takenFor 45 = .ok (.getfield 108, 3) := by decide +kernel
theorem dX7_takenFor_48 : decode cX7_takenFor 48 = .ok (.ifCond .ne 10, 3) := by decide +kernel
theorem dX7_takenFor_51 : decode cX7_takenFor 51 = .ok (.aload_n 0, 1) := by decide +kernel
theorem dX7_takenFor_52 : decode cX7_takenFor 52 = .ok (.bipush (-3), 2) := by decide +kernel
theorem dX7_takenFor_54 : decode cX7_takenFor 54 = .ok (.invokevirtual 91, 3) := by decide +kernel
theorem dX7_takenFor_57 : decode cX7_takenFor 57 = .ok (.ireturn, 1) := by decide +kernel
theorem dX7_takenFor_58 : decode cX7_takenFor 58 = .ok (.bipush 60, 2) := by decide +kernel
theorem dX7_takenFor_60 : decode cX7_takenFor 60 = .ok (.iload_n 2, 1) := by decide +kernel
theorem dX7_takenFor_61 : decode cX7_takenFor 61 = .ok (.imul, 1) := by decide +kernel
theorem dX7_takenFor_62 : decode cX7_takenFor 62 = .ok (.iload 4, 2) := by decide +kernel
theorem dX7_takenFor_64 : decode cX7_takenFor 64 = .ok (.iadd, 1) := by decide +kernel
theorem dX7_takenFor_65 : decode cX7_takenFor 65 = .ok (.istore 7, 2) := by decide +kernel
theorem dX7_takenFor_67 : decode cX7_takenFor 67 = .ok (.iconst 0, 1) := by decide +kernel
theorem dX7_takenFor_68 : decode cX7_takenFor 68 = .ok (.istore 8, 2) := by decide +kernel
theorem dX7_takenFor_70 : decode cX7_takenFor 70 = .ok (.iload 8, 2) := by decide +kernel
theorem dX7_takenFor_72 : decode cX7_takenFor 72 = .ok (.iconst 3, 1) := by decide +kernel
theorem dX7_takenFor_73 : decode cX7_takenFor 73 = .ok (.if_icmp .ge 37, 3) := by decide +kernel
theorem dX7_takenFor_76 : decode cX7_takenFor 76 = .ok (.aload_n 0, 1) := by decide +kernel
theorem dX7_takenFor_77 : decode cX7_takenFor 77 = .ok (.getfield 71, 3) := by decide +kernel
theorem dX7_takenFor_80 : decode cX7_takenFor 80 = .ok (.iload 7, 2) := by decide +kernel
theorem dX7_takenFor_82 : decode cX7_takenFor 82 = .ok (.iload 8, 2) := by decide +kernel
theorem dX7_takenFor_84 : decode cX7_takenFor 84 = .ok (.iadd, 1) := by decide +kernel
theorem dX7_takenFor_85 : decode cX7_takenFor 85 = .ok (.iaload, 1) := by decide +kernel
theorem dX7_takenFor_86 : decode cX7_takenFor 86 = .ok (.i2l, 1) := by decide +kernel
theorem dX7_takenFor_87 : decode cX7_takenFor 87 = .ok (.lconst 0, 1) := by decide +kernel
theorem dX7_takenFor_88 : decode cX7_takenFor 88 = .ok (.ldc2_w 211, 3) := by decide +kernel
theorem dX7_takenFor_91 : decode cX7_takenFor 91 = .ok (.invokestatic 97, 3) := by decide +kernel
theorem dX7_takenFor_94 : decode cX7_takenFor 94 = .ok (.ifCond .ne 10, 3) := by decide +kernel
theorem dX7_takenFor_97 : decode cX7_takenFor 97 = .ok (.aload_n 0, 1) := by decide +kernel
theorem dX7_takenFor_98 : decode cX7_takenFor 98 = .ok (.bipush (-2), 2) := by decide +kernel
theorem dX7_takenFor_100 : decode cX7_takenFor 100 = .ok (.invokevirtual 91, 3) := by decide +kernel
theorem dX7_takenFor_103 : decode cX7_takenFor 103 = .ok (.ireturn, 1) := by decide +kernel
theorem dX7_takenFor_104 : decode cX7_takenFor 104 = .ok (.iinc 8 1, 3) := by decide +kernel
theorem dX7_takenFor_107 : decode cX7_takenFor 107 = .ok (.goto (-37), 3) := by decide +kernel
theorem dX7_takenFor_110 : decode cX7_takenFor 110 = .ok (.aload_n 0, 1) := by decide +kernel
theorem dX7_takenFor_111 : decode cX7_takenFor 111 = .ok (.iload_n 1, 1) := by decide +kernel
theorem dX7_takenFor_112 : decode cX7_takenFor 112 = .ok (.invokevirtual 183, 3) := by decide +kernel
theorem dX7_takenFor_115 : decode cX7_takenFor 115 = .ok (.bipush (-9), 2) := by decide +kernel
theorem dX7_takenFor_117 : decode cX7_takenFor 117 = .ok (.istore 8, 2) := by decide +kernel
theorem dX7_takenFor_119 : decode cX7_takenFor 119 = .ok (.iconst 0, 1) := by decide +kernel
theorem dX7_takenFor_120 : decode cX7_takenFor 120 = .ok (.istore 9, 2) := by decide +kernel
theorem dX7_takenFor_122 : decode cX7_takenFor 122 = .ok (.iconst 0, 1) := by decide +kernel
theorem dX7_takenFor_123 : decode cX7_takenFor 123 = .ok (.istore 10, 2) := by decide +kernel
theorem dX7_takenFor_125 : decode cX7_takenFor 125 = .ok (.iload 10, 2) := by decide +kernel
theorem dX7_takenFor_127 : decode cX7_takenFor 127 = .ok (.aload_n 0, 1) := by decide +kernel
theorem dX7_takenFor_128 : decode cX7_takenFor 128 = .ok (.getfield 108, 3) := by decide +kernel
theorem dX7_takenFor_131 : decode cX7_takenFor 131 = .ok (.if_icmp .ge 77, 3) := by decide +kernel
theorem dX7_takenFor_134 : decode cX7_takenFor 134 = .ok (.iconst 0, 1) := by decide +kernel
theorem dX7_takenFor_135 : decode cX7_takenFor 135 = .ok (.istore 11, 2) := by decide +kernel
theorem dX7_takenFor_137 : decode cX7_takenFor 137 = .ok (.iconst 0, 1) := by decide +kernel
theorem dX7_takenFor_138 : decode cX7_takenFor 138 = .ok (.istore 12, 2) := by decide +kernel
theorem dX7_takenFor_140 : decode cX7_takenFor 140 = .ok (.iload 12, 2) := by decide +kernel
theorem dX7_takenFor_142 : decode cX7_takenFor 142 = .ok (.iconst 3, 1) := by decide +kernel
theorem dX7_takenFor_143 : decode cX7_takenFor 143 = .ok (.if_icmp .ge 39, 3) := by decide +kernel
theorem dX7_takenFor_146 : decode cX7_takenFor 146 = .ok (.iload 11, 2) := by decide +kernel
theorem dX7_takenFor_148 : decode cX7_takenFor 148 = .ok (.aload_n 0, 1) := by decide +kernel
theorem dX7_takenFor_149 : decode cX7_takenFor 149 = .ok (.getfield 41, 3) := by decide +kernel
theorem dX7_takenFor_152 : decode cX7_takenFor 152 = .ok (.iconst 3, 1) := by decide +kernel
theorem dX7_takenFor_153 : decode cX7_takenFor 153 = .ok (.iload 10, 2) := by decide +kernel
theorem dX7_takenFor_155 : decode cX7_takenFor 155 = .ok (.imul, 1) := by decide +kernel
theorem dX7_takenFor_156 : decode cX7_takenFor 156 = .ok (.iload 12, 2) := by decide +kernel
theorem dX7_takenFor_158 : decode cX7_takenFor 158 = .ok (.iadd, 1) := by decide +kernel
theorem dX7_takenFor_159 : decode cX7_takenFor 159 = .ok (.iaload, 1) := by decide +kernel
theorem dX7_takenFor_160 : decode cX7_takenFor 160 = .ok (.aload_n 0, 1) := by decide +kernel
theorem dX7_takenFor_161 : decode cX7_takenFor 161 = .ok (.getfield 71, 3) := by decide +kernel
theorem dX7_takenFor_164 : decode cX7_takenFor 164 = .ok (.iload 7, 2) := by decide +kernel
theorem dX7_takenFor_166 : decode cX7_takenFor 166 = .ok (.iload 12, 2) := by decide +kernel
theorem dX7_takenFor_168 : decode cX7_takenFor 168 = .ok (.iadd, 1) := by decide +kernel
theorem dX7_takenFor_169 : decode cX7_takenFor 169 = .ok (.iaload, 1) := by decide +kernel
theorem dX7_takenFor_170 : decode cX7_takenFor 170 = .ok (.invokestatic 213, 3) := by decide +kernel
theorem dX7_takenFor_173 : decode cX7_takenFor 173 = .ok (.iadd, 1) := by decide +kernel
theorem dX7_takenFor_174 : decode cX7_takenFor 174 = .ok (.istore 11, 2) := by decide +kernel
theorem dX7_takenFor_176 : decode cX7_takenFor 176 = .ok (.iinc 12 1, 3) := by decide +kernel
theorem dX7_takenFor_179 : decode cX7_takenFor 179 = .ok (.goto (-39), 3) := by decide +kernel
theorem dX7_takenFor_182 : decode cX7_takenFor 182 = .ok (.iload 8, 2) := by decide +kernel
theorem dX7_takenFor_184 : decode cX7_takenFor 184 = .ok (.ifCond .lt 10, 3) := by decide +kernel
theorem dX7_takenFor_187 : decode cX7_takenFor 187 = .ok (.iload 11, 2) := by decide +kernel
theorem dX7_takenFor_189 : decode cX7_takenFor 189 = .ok (.iload 9, 2) := by decide +kernel
theorem dX7_takenFor_191 : decode cX7_takenFor 191 = .ok (.if_icmp .ge 11, 3) := by decide +kernel
theorem dX7_takenFor_194 : decode cX7_takenFor 194 = .ok (.iload 10, 2) := by decide +kernel
theorem dX7_takenFor_196 : decode cX7_takenFor 196 = .ok (.istore 8, 2) := by decide +kernel
theorem dX7_takenFor_198 : decode cX7_takenFor 198 = .ok (.iload 11, 2) := by decide +kernel
theorem dX7_takenFor_200 : decode cX7_takenFor 200 = .ok (.istore 9, 2) := by decide +kernel
theorem dX7_takenFor_202 : decode cX7_takenFor 202 = .ok (.iinc 10 1, 3) := by decide +kernel
theorem dX7_takenFor_205 : decode cX7_takenFor 205 = .ok (.goto (-80), 3) := by decide +kernel
theorem dX7_takenFor_208 : decode cX7_takenFor 208 = .ok (.aload_n 0, 1) := by decide +kernel
theorem dX7_takenFor_209 : decode cX7_takenFor 209 = .ok (.iload 5, 2) := by decide +kernel
theorem dX7_takenFor_211 : decode cX7_takenFor 211 = .ok (.ifCond .ne 8, 3) := by decide +kernel
theorem dX7_takenFor_214 : decode cX7_takenFor 214 = .ok (.iload 8, 2) := by decide +kernel
theorem dX7_takenFor_216 : decode cX7_takenFor 216 = .ok (.goto 5, 3) := by decide +kernel
theorem dX7_takenFor_219 : decode cX7_takenFor 219 = .ok (.iload 9, 2) := by decide +kernel
theorem dX7_takenFor_221 : decode cX7_takenFor 221 = .ok (.invokevirtual 91, 3) := by decide +kernel
theorem dX7_takenFor_224 : decode cX7_takenFor 224 = .ok (.ireturn, 1) := by decide +kernel
theorem dX7_whose_0 : decode cX7_whose 0 = .ok (.iload_n 2, 1) := by decide +kernel
theorem dX7_whose_1 : decode cX7_whose 1 = .ok (.invokestatic 180, 3) := by decide +kernel
theorem dX7_whose_4 : decode cX7_whose 4 = .ok (.ifCond .ne 6, 3) := by decide +kernel
theorem dX7_whose_7 : decode cX7_whose 7 = .ok (.bipush (-2), 2) := by decide +kernel
theorem dX7_whose_9 : decode cX7_whose 9 = .ok (.ireturn, 1) := by decide +kernel
theorem dX7_whose_10 : decode cX7_whose 10 = .ok (.aload_n 0, 1) := by decide +kernel
theorem dX7_whose_11 : decode cX7_whose 11 = .ok (.iload_n 2, 1) := by decide +kernel
theorem dX7_whose_12 : decode cX7_whose 12 = .ok (.invokevirtual 183, 3) := by decide +kernel
theorem dX7_whose_15 : decode cX7_whose 15 = .ok (.iconst 0, 1) := by decide +kernel
theorem dX7_whose_16 : decode cX7_whose 16 = .ok (.istore_n 3, 1) := by decide +kernel
theorem dX7_whose_17 : decode cX7_whose 17 = .ok (.iconst 0, 1) := by decide +kernel
theorem dX7_whose_18 : decode cX7_whose 18 = .ok (.istore 4, 2) := by decide +kernel
theorem dX7_whose_20 : decode cX7_whose 20 = .ok (.iload 4, 2) := by decide +kernel
theorem dX7_whose_22 : decode cX7_whose 22 = .ok (.aload_n 0, 1) := by decide +kernel
theorem dX7_whose_23 : decode cX7_whose 23 = .ok (.getfield 108, 3) := by decide +kernel
theorem dX7_whose_26 : decode cX7_whose 26 = .ok (.if_icmp .ge 31, 3) := by decide +kernel
theorem dX7_whose_29 : decode cX7_whose 29 = .ok (.iload_n 3, 1) := by decide +kernel
theorem dX7_whose_30 : decode cX7_whose 30 = .ok (.aload_n 0, 1) := by decide +kernel
theorem dX7_whose_31 : decode cX7_whose 31 = .ok (.getfield 44, 3) := by decide +kernel
theorem dX7_whose_34 : decode cX7_whose 34 = .ok (.iload 4, 2) := by decide +kernel
theorem dX7_whose_36 : decode cX7_whose 36 = .ok (.iaload, 1) := by decide +kernel
theorem dX7_whose_37 : decode cX7_whose 37 = .ok (.iload_n 1, 1) := by decide +kernel
theorem dX7_whose_38 : decode cX7_whose 38 = .ok (.if_icmp .ne 10, 3) := by decide +kernel
theorem dX7_whose_41 : decode cX7_whose 41 = .ok (.iconst 1, 1) := by decide +kernel
theorem dX7_whose_42 : decode cX7_whose 42 = .ok (.iload 4, 2) := by decide +kernel
theorem dX7_whose_44 : decode cX7_whose 44 = .ok (.ishl, 1) := by decide +kernel
theorem dX7_whose_45 : decode cX7_whose 45 = .ok (.goto 4, 3) := by decide +kernel
theorem dX7_whose_48 : decode cX7_whose 48 = .ok (.iconst 0, 1) := by decide +kernel
theorem dX7_whose_49 : decode cX7_whose 49 = .ok (.ior, 1) := by decide +kernel
theorem dX7_whose_50 : decode cX7_whose 50 = .ok (.istore_n 3, 1) := by decide +kernel
theorem dX7_whose_51 : decode cX7_whose 51 = .ok (.iinc 4 1, 3) := by decide +kernel
theorem dX7_whose_54 : decode cX7_whose 54 = .ok (.goto (-34), 3) := by decide +kernel
theorem dX7_whose_57 : decode cX7_whose 57 = .ok (.iload_n 3, 1) := by decide +kernel
theorem dX7_whose_58 : decode cX7_whose 58 = .ok (.ireturn, 1) := by decide +kernel
theorem dX7_reading_0 : decode cX7_reading 0 = .ok (.aload_n 0, 1) := by decide +kernel
theorem dX7_reading_1 : decode cX7_reading 1 = .ok (.iload_n 1, 1) := by decide +kernel
theorem dX7_reading_2 : decode cX7_reading 2 = .ok (.invokevirtual 144, 3) := by decide +kernel
theorem dX7_reading_5 : decode cX7_reading 5 = .ok (.ifCond .ne 10, 3) := by decide +kernel
theorem dX7_reading_8 : decode cX7_reading 8 = .ok (.iload_n 2, 1) := by decide +kernel
theorem dX7_reading_9 : decode cX7_reading 9 = .ok (.invokestatic 177, 3) := by decide +kernel
theorem dX7_reading_12 : decode cX7_reading 12 = .ok (.ifCond .eq 5, 3) := by decide +kernel
theorem dX7_reading_15 : decode cX7_reading 15 = .ok (.iconst (-1), 1) := by decide +kernel
theorem dX7_reading_16 : decode cX7_reading 16 = .ok (.ireturn, 1) := by decide +kernel
theorem dX7_reading_17 : decode cX7_reading 17 = .ok (.iload_n 3, 1) := by decide +kernel
theorem dX7_reading_18 : decode cX7_reading 18 = .ok (.invokestatic 180, 3) := by decide +kernel
theorem dX7_reading_21 : decode cX7_reading 21 = .ok (.ifCond .eq 16, 3) := by decide +kernel
theorem dX7_reading_24 : decode cX7_reading 24 = .ok (.iload 4, 2) := by decide +kernel
theorem dX7_reading_26 : decode cX7_reading 26 = .ok (.i2l, 1) := by decide +kernel
theorem dX7_reading_27 : decode cX7_reading 27 = .ok (.lconst 0, 1) := by decide +kernel
theorem dX7_reading_28 : decode cX7_reading 28 = .ok (.ldc2_w 216, 3) := by decide +kernel
theorem dX7_reading_31 : decode cX7_reading 31 = .ok (.invokestatic 97, 3) := by decide +kernel
theorem dX7_reading_34 : decode cX7_reading 34 = .ok (.ifCond .ne 6, 3) := by decide +kernel
theorem dX7_reading_37 : decode cX7_reading 37 = .ok (.bipush (-2), 2) := by decide +kernel
theorem dX7_reading_39 : decode cX7_reading 39 = .ok (.ireturn, 1) := by decide +kernel
theorem dX7_reading_40 : decode cX7_reading 40 = .ok (.aload_n 0, 1) := by decide +kernel
theorem dX7_reading_41 : decode cX7_reading 41 = .ok (.getfield 141, 3) := by decide +kernel
theorem dX7_reading_44 : decode cX7_reading 44 = .ok (.bipush 8, 2) := by decide +kernel
theorem dX7_reading_46 : decode cX7_reading 46 = .ok (.if_icmp .ne 6, 3) := by decide +kernel
theorem dX7_reading_49 : decode cX7_reading 49 = .ok (.bipush (-4), 2) := by decide +kernel
theorem dX7_reading_51 : decode cX7_reading 51 = .ok (.ireturn, 1) := by decide +kernel
theorem dX7_reading_52 : decode cX7_reading 52 = .ok (.aload_n 0, 1) := by decide +kernel
theorem dX7_reading_53 : decode cX7_reading 53 = .ok (.getfield 53, 3) := by decide +kernel
theorem dX7_reading_56 : decode cX7_reading 56 = .ok (.aload_n 0, 1) := by decide +kernel
theorem dX7_reading_57 : decode cX7_reading 57 = .ok (.getfield 141, 3) := by decide +kernel
theorem dX7_reading_60 : decode cX7_reading 60 = .ok (.iload_n 1, 1) := by decide +kernel
theorem dX7_reading_61 : decode cX7_reading 61 = .ok (.iastore, 1) := by decide +kernel
theorem dX7_reading_62 : decode cX7_reading 62 = .ok (.aload_n 0, 1) := by decide +kernel
theorem dX7_reading_63 : decode cX7_reading 63 = .ok (.getfield 56, 3) := by decide +kernel
theorem dX7_reading_66 : decode cX7_reading 66 = .ok (.aload_n 0, 1) := by decide +kernel
theorem dX7_reading_67 : decode cX7_reading 67 = .ok (.getfield 141, 3) := by decide +kernel
theorem dX7_reading_70 : decode cX7_reading 70 = .ok (.iload_n 2, 1) := by decide +kernel
theorem dX7_reading_71 : decode cX7_reading 71 = .ok (.iastore, 1) := by decide +kernel
theorem dX7_reading_72 : decode cX7_reading 72 = .ok (.aload_n 0, 1) := by decide +kernel
theorem dX7_reading_73 : decode cX7_reading 73 = .ok (.getfield 59, 3) := by decide +kernel
theorem dX7_reading_76 : decode cX7_reading 76 = .ok (.aload_n 0, 1) := by decide +kernel
theorem dX7_reading_77 : decode cX7_reading 77 = .ok (.getfield 141, 3) := by decide +kernel
theorem dX7_reading_80 : decode cX7_reading 80 = .ok (.iload_n 3, 1) := by decide +kernel
theorem dX7_reading_81 : decode cX7_reading 81 = .ok (.iastore, 1) := by decide +kernel
theorem dX7_reading_82 : decode cX7_reading 82 = .ok (.aload_n 0, 1) := by decide +kernel
theorem dX7_reading_83 : decode cX7_reading 83 = .ok (.getfield 62, 3) := by decide +kernel
theorem dX7_reading_86 : decode cX7_reading 86 = .ok (.aload_n 0, 1) := by decide +kernel
theorem dX7_reading_87 : decode cX7_reading 87 = .ok (.getfield 141, 3) := by decide +kernel
theorem dX7_reading_90 : decode cX7_reading 90 = .ok (.iload 4, 2) := by decide +kernel
theorem dX7_reading_92 : decode cX7_reading 92 = .ok (.iastore, 1) := by decide +kernel
theorem dX7_reading_93 : decode cX7_reading 93 = .ok (.aload_n 0, 1) := by decide +kernel
theorem dX7_reading_94 : decode cX7_reading 94 = .ok (.dup, 1) := by decide +kernel
theorem dX7_reading_95 : decode cX7_reading 95 = .ok (.getfield 141, 3) := by decide +kernel
theorem dX7_reading_98 : decode cX7_reading 98 = .ok (.iconst 1, 1) := by decide +kernel
theorem dX7_reading_99 : decode cX7_reading 99 = .ok (.iadd, 1) := by decide +kernel
theorem dX7_reading_100 : decode cX7_reading 100 = .ok (.putfield 141, 3) := by decide +kernel
theorem dX7_reading_103 : decode cX7_reading 103 = .ok (.aload_n 0, 1) := by decide +kernel
theorem dX7_reading_104 : decode cX7_reading 104 = .ok (.getfield 141, 3) := by decide +kernel
theorem dX7_reading_107 : decode cX7_reading 107 = .ok (.iconst 1, 1) := by decide +kernel
theorem dX7_reading_108 : decode cX7_reading 108 = .ok (.isub, 1) := by decide +kernel
theorem dX7_reading_109 : decode cX7_reading 109 = .ok (.ireturn, 1) := by decide +kernel
theorem dX7_back_0 : decode cX7_back 0 = .ok (.iload_n 1, 1) := by decide +kernel
theorem dX7_back_1 : decode cX7_back 1 = .ok (.i2l, 1) := by decide +kernel
theorem dX7_back_2 : decode cX7_back 2 = .ok (.lconst 0, 1) := by decide +kernel
theorem dX7_back_3 : decode cX7_back 3 = .ok (.aload_n 0, 1) := by decide +kernel
theorem dX7_back_4 : decode cX7_back 4 = .ok (.getfield 141, 3) := by decide +kernel
theorem dX7_back_7 : decode cX7_back 7 = .ok (.i2l, 1) := by decide +kernel
theorem dX7_back_8 : decode cX7_back 8 = .ok (.invokestatic 97, 3) := by decide +kernel
theorem dX7_back_11 : decode cX7_back 11 = .ok (.ifCond .ne 6, 3) := by decide +kernel
theorem dX7_back_14 : decode cX7_back 14 = .ok (.bipush (-2), 2) := by decide +kernel
theorem dX7_back_16 : decode cX7_back 16 = .ok (.ireturn, 1) := by decide +kernel
theorem dX7_back_17 : decode cX7_back 17 = .ok (.aload_n 0, 1) := by decide +kernel
theorem dX7_back_18 : decode cX7_back 18 = .ok (.dup, 1) := by decide +kernel
theorem dX7_back_19 : decode cX7_back 19 = .ok (.getfield 141, 3) := by decide +kernel
theorem dX7_back_22 : decode cX7_back 22 = .ok (.iload_n 1, 1) := by decide +kernel
theorem dX7_back_23 : decode cX7_back 23 = .ok (.isub, 1) := by decide +kernel
theorem dX7_back_24 : decode cX7_back 24 = .ok (.putfield 141, 3) := by decide +kernel
theorem dX7_back_27 : decode cX7_back 27 = .ok (.aload_n 0, 1) := by decide +kernel
theorem dX7_back_28 : decode cX7_back 28 = .ok (.getfield 141, 3) := by decide +kernel
theorem dX7_back_31 : decode cX7_back 31 = .ok (.ireturn, 1) := by decide +kernel
theorem dX7_areSo_0 : decode cX7_areSo 0 = .ok (.aload_n 0, 1) := by decide +kernel
theorem dX7_areSo_1 : decode cX7_areSo 1 = .ok (.invokevirtual 171, 3) := by decide +kernel
theorem dX7_areSo_4 : decode cX7_areSo 4 = .ok (.iconst 1, 1) := by decide +kernel
theorem dX7_areSo_5 : decode cX7_areSo 5 = .ok (.istore_n 1, 1) := by decide +kernel
theorem dX7_areSo_6 : decode cX7_areSo 6 = .ok (.iconst 0, 1) := by decide +kernel
theorem dX7_areSo_7 : decode cX7_areSo 7 = .ok (.istore_n 2, 1) := by decide +kernel
theorem dX7_areSo_8 : decode cX7_areSo 8 = .ok (.iload_n 2, 1) := by decide +kernel
theorem dX7_areSo_9 : decode cX7_areSo 9 = .ok (.bipush 60, 2) := by decide +kernel
theorem dX7_areSo_11 : decode cX7_areSo 11 = .ok (.if_icmp .gt 85, 3) := by decide +kernel
theorem dX7_areSo_14 : decode cX7_areSo 14 = .ok (.iconst 0, 1) := by decide +kernel
theorem dX7_areSo_15 : decode cX7_areSo 15 = .ok (.istore_n 3, 1) := by decide +kernel
theorem dX7_areSo_16 : decode cX7_areSo 16 = .ok (.iload_n 3, 1) := by decide +kernel
theorem dX7_areSo_17 : decode cX7_areSo 17 = .ok (.aload_n 0, 1) := by decide +kernel
theorem dX7_areSo_18 : decode cX7_areSo 18 = .ok (.getfield 141, 3) := by decide +kernel
theorem dX7_areSo_21 : decode cX7_areSo 21 = .ok (.if_icmp .ge 58, 3) := by decide +kernel
theorem dX7_areSo_24 : decode cX7_areSo 24 = .ok (.iload_n 1, 1) := by decide +kernel
theorem dX7_areSo_25 : decode cX7_areSo 25 = .ok (.ifCond .eq 46, 3) := by decide +kernel
theorem dX7_areSo_28 : decode cX7_areSo 28 = .ok (.aload_n 0, 1) := by decide +kernel
theorem dX7_areSo_29 : decode cX7_areSo 29 = .ok (.getfield 59, 3) := by decide +kernel
theorem dX7_areSo_32 : decode cX7_areSo 32 = .ok (.iload_n 3, 1) := by decide +kernel
theorem dX7_areSo_33 : decode cX7_areSo 33 = .ok (.iaload, 1) := by decide +kernel
theorem dX7_areSo_34 : decode cX7_areSo 34 = .ok (.iload_n 2, 1) := by decide +kernel
theorem dX7_areSo_35 : decode cX7_areSo 35 = .ok (.if_icmp .ne 32, 3) := by decide +kernel
theorem dX7_areSo_38 : decode cX7_areSo 38 = .ok (.aload_n 0, 1) := by decide +kernel
theorem dX7_areSo_39 : decode cX7_areSo 39 = .ok (.getfield 41, 3) := by decide +kernel
theorem dX7_areSo_42 : decode cX7_areSo 42 = .ok (.iconst 3, 1) := by decide +kernel
theorem dX7_areSo_43 : decode cX7_areSo 43 = .ok (.aload_n 0, 1) := by decide +kernel
theorem dX7_areSo_44 : decode cX7_areSo 44 = .ok (.getfield 53, 3) := by decide +kernel
theorem dX7_areSo_47 : decode cX7_areSo 47 = .ok (.iload_n 3, 1) := by decide +kernel
theorem dX7_areSo_48 : decode cX7_areSo 48 = .ok (.iaload, 1) := by decide +kernel
theorem dX7_areSo_49 : decode cX7_areSo 49 = .ok (.imul, 1) := by decide +kernel
theorem dX7_areSo_50 : decode cX7_areSo 50 = .ok (.aload_n 0, 1) := by decide +kernel
theorem dX7_areSo_51 : decode cX7_areSo 51 = .ok (.getfield 56, 3) := by decide +kernel
theorem dX7_areSo_54 : decode cX7_areSo 54 = .ok (.iload_n 3, 1) := by decide +kernel
theorem dX7_areSo_55 : decode cX7_areSo 55 = .ok (.iaload, 1) := by decide +kernel
theorem dX7_areSo_56 : decode cX7_areSo 56 = .ok (.iadd, 1) := by decide +kernel
theorem dX7_areSo_57 : decode cX7_areSo 57 = .ok (.iaload, 1) := by decide +kernel
theorem dX7_areSo_58 : decode cX7_areSo 58 = .ok (.aload_n 0, 1) := by decide +kernel
theorem dX7_areSo_59 : decode cX7_areSo 59 = .ok (.getfield 62, 3) := by decide +kernel
theorem dX7_areSo_62 : decode cX7_areSo 62 = .ok (.iload_n 3, 1) := by decide +kernel
theorem dX7_areSo_63 : decode cX7_areSo 63 = .ok (.iaload, 1) := by decide +kernel
theorem dX7_areSo_64 : decode cX7_areSo 64 = .ok (.if_icmp .ne 7, 3) := by decide +kernel
theorem dX7_areSo_67 : decode cX7_areSo 67 = .ok (.iconst 1, 1) := by decide +kernel
theorem dX7_areSo_68 : decode cX7_areSo 68 = .ok (.goto 4, 3) := by decide +kernel
theorem dX7_areSo_71 : decode cX7_areSo 71 = .ok (.iconst 0, 1) := by decide +kernel
theorem dX7_areSo_72 : decode cX7_areSo 72 = .ok (.istore_n 1, 1) := by decide +kernel
theorem dX7_areSo_73 : decode cX7_areSo 73 = .ok (.iinc 3 1, 3) := by decide +kernel
theorem dX7_areSo_76 : decode cX7_areSo 76 = .ok (.goto (-60), 3) := by decide +kernel
theorem dX7_areSo_79 : decode cX7_areSo 79 = .ok (.iload_n 2, 1) := by decide +kernel
theorem dX7_areSo_80 : decode cX7_areSo 80 = .ok (.bipush 60, 2) := by decide +kernel
theorem dX7_areSo_82 : decode cX7_areSo 82 = .ok (.if_icmp .ge 8, 3) := by decide +kernel
theorem dX7_areSo_85 : decode cX7_areSo 85 = .ok (.aload_n 0, 1) := by decide +kernel
theorem dX7_areSo_86 : decode cX7_areSo 86 = .ok (.iload_n 2, 1) := by decide +kernel
theorem dX7_areSo_87 : decode cX7_areSo 87 = .ok (.invokevirtual 174, 3) := by decide +kernel
theorem dX7_areSo_90 : decode cX7_areSo 90 = .ok (.iinc 2 1, 3) := by decide +kernel
theorem dX7_areSo_93 : decode cX7_areSo 93 = .ok (.goto (-85), 3) := by decide +kernel
theorem dX7_areSo_96 : decode cX7_areSo 96 = .ok (.iload_n 1, 1) := by decide +kernel
theorem dX7_areSo_97 : decode cX7_areSo 97 = .ok (.ireturn, 1) := by decide +kernel
theorem dX7_rains_0 : decode cX7_rains 0 = .ok (.iload_n 1, 1) := by decide +kernel
theorem dX7_rains_1 : decode cX7_rains 1 = .ok (.i2l, 1) := by decide +kernel
theorem dX7_rains_2 : decode cX7_rains 2 = .ok (.lconst 0, 1) := by decide +kernel
theorem dX7_rains_3 : decode cX7_rains 3 = .ok (.ldc2_w 149, 3) := by decide +kernel
theorem dX7_rains_6 : decode cX7_rains 6 = .ok (.invokestatic 97, 3) := by decide +kernel
theorem dX7_rains_9 : decode cX7_rains 9 = .ok (.ifCond .ne 6, 3) := by decide +kernel
theorem dX7_rains_12 : decode cX7_rains 12 = .ok (.bipush (-2), 2) := by decide +kernel
theorem dX7_rains_14 : decode cX7_rains 14 = .ok (.ireturn, 1) := by decide +kernel
theorem dX7_rains_15 : decode cX7_rains 15 = .ok (.aload_n 0, 1) := by decide +kernel
theorem dX7_rains_16 : decode cX7_rains 16 = .ok (.getfield 108, 3) := by decide +kernel
theorem dX7_rains_19 : decode cX7_rains 19 = .ok (.ifCond .ne 6, 3) := by decide +kernel
theorem dX7_rains_22 : decode cX7_rains 22 = .ok (.bipush (-3), 2) := by decide +kernel
theorem dX7_rains_24 : decode cX7_rains 24 = .ok (.ireturn, 1) := by decide +kernel
theorem dX7_rains_25 : decode cX7_rains 25 = .ok (.aload_n 0, 1) := by decide +kernel
theorem dX7_rains_26 : decode cX7_rains 26 = .ok (.getfield 35, 3) := by decide +kernel
theorem dX7_rains_29 : decode cX7_rains 29 = .ok (.iload_n 1, 1) := by decide +kernel
theorem dX7_rains_30 : decode cX7_rains 30 = .ok (.iaload, 1) := by decide +kernel
theorem dX7_rains_31 : decode cX7_rains 31 = .ok (.istore_n 2, 1) := by decide +kernel
theorem dX7_rains_32 : decode cX7_rains 32 = .ok (.iconst 0, 1) := by decide +kernel
theorem dX7_rains_33 : decode cX7_rains 33 = .ok (.istore_n 3, 1) := by decide +kernel
theorem dX7_rains_34 : decode cX7_rains 34 = .ok (.iconst 0, 1) := by decide +kernel
theorem dX7_rains_35 : decode cX7_rains 35 = .ok (.istore 4, 2) := by decide +kernel
theorem dX7_rains_37 : decode cX7_rains 37 = .ok (.iload 4, 2) := by decide +kernel
theorem dX7_rains_39 : decode cX7_rains 39 = .ok (.bipush 10, 2) := by decide +kernel
theorem dX7_rains_41 : decode cX7_rains 41 = .ok (.if_icmp .ge 35, 3) := by decide +kernel
theorem dX7_rains_44 : decode cX7_rains 44 = .ok (.aload_n 0, 1) := by decide +kernel
theorem dX7_rains_45 : decode cX7_rains 45 = .ok (.getfield 35, 3) := by decide +kernel
theorem dX7_rains_48 : decode cX7_rains 48 = .ok (.iload_n 1, 1) := by decide +kernel
theorem dX7_rains_49 : decode cX7_rains 49 = .ok (.iload 4, 2) := by decide +kernel
theorem dX7_rains_51 : decode cX7_rains 51 = .ok (.iastore, 1) := by decide +kernel
theorem dX7_rains_52 : decode cX7_rains 52 = .ok (.iload_n 3, 1) := by decide +kernel
theorem dX7_rains_53 : decode cX7_rains 53 = .ok (.aload_n 0, 1) := by decide +kernel
theorem dX7_rains_54 : decode cX7_rains 54 = .ok (.invokevirtual 218, 3) := by decide +kernel
theorem dX7_rains_57 : decode cX7_rains 57 = .ok (.ifCond .eq 10, 3) := by decide +kernel
theorem dX7_rains_60 : decode cX7_rains 60 = .ok (.iconst 1, 1) := by decide +kernel
theorem dX7_rains_61 : decode cX7_rains 61 = .ok (.iload 4, 2) := by decide +kernel
theorem dX7_rains_63 : decode cX7_rains 63 = .ok (.ishl, 1) := by decide +kernel
theorem dX7_rains_64 : decode cX7_rains 64 = .ok (.goto 4, 3) := by decide +kernel
theorem dX7_rains_67 : decode cX7_rains 67 = .ok (.iconst 0, 1) := by decide +kernel
theorem dX7_rains_68 : decode cX7_rains 68 = .ok (.ior, 1) := by decide +kernel
theorem dX7_rains_69 : decode cX7_rains 69 = .ok (.istore_n 3, 1) := by decide +kernel
theorem dX7_rains_70 : decode cX7_rains 70 = .ok (.iinc 4 1, 3) := by decide +kernel
theorem dX7_rains_73 : decode cX7_rains 73 = .ok (.goto (-36), 3) := by decide +kernel
theorem dX7_rains_76 : decode cX7_rains 76 = .ok (.aload_n 0, 1) := by decide +kernel
theorem dX7_rains_77 : decode cX7_rains 77 = .ok (.getfield 35, 3) := by decide +kernel
theorem dX7_rains_80 : decode cX7_rains 80 = .ok (.iload_n 1, 1) := by decide +kernel
theorem dX7_rains_81 : decode cX7_rains 81 = .ok (.iload_n 2, 1) := by decide +kernel
theorem dX7_rains_82 : decode cX7_rains 82 = .ok (.iastore, 1) := by decide +kernel
theorem dX7_rains_83 : decode cX7_rains 83 = .ok (.iload_n 3, 1) := by decide +kernel
theorem dX7_rains_84 : decode cX7_rains 84 = .ok (.ireturn, 1) := by decide +kernel
theorem dX7_cast_0 : decode cX7_cast 0 = .ok (.iload_n 1, 1) := by decide +kernel
theorem dX7_cast_1 : decode cX7_cast 1 = .ok (.invokestatic 180, 3) := by decide +kernel
theorem dX7_cast_4 : decode cX7_cast 4 = .ok (.ifCond .eq 15, 3) := by decide +kernel
theorem dX7_cast_7 : decode cX7_cast 7 = .ok (.iload_n 2, 1) := by decide +kernel
theorem dX7_cast_8 : decode cX7_cast 8 = .ok (.i2l, 1) := by decide +kernel
theorem dX7_cast_9 : decode cX7_cast 9 = .ok (.lconst 1, 1) := by decide +kernel
theorem dX7_cast_10 : decode cX7_cast 10 = .ok (.ldc2_w 211, 3) := by decide +kernel
theorem dX7_cast_13 : decode cX7_cast 13 = .ok (.invokestatic 97, 3) := by decide +kernel
theorem dX7_cast_16 : decode cX7_cast 16 = .ok (.ifCond .ne 6, 3) := by decide +kernel
theorem dX7_cast_19 : decode cX7_cast 19 = .ok (.bipush (-2), 2) := by decide +kernel
theorem dX7_cast_21 : decode cX7_cast 21 = .ok (.ireturn, 1) := by decide +kernel
theorem dX7_cast_22 : decode cX7_cast 22 = .ok (.aload_n 0, 1) := by decide +kernel
theorem dX7_cast_23 : decode cX7_cast 23 = .ok (.iload_n 1, 1) := by decide +kernel
theorem dX7_cast_24 : decode cX7_cast 24 = .ok (.invokevirtual 183, 3) := by decide +kernel
theorem dX7_cast_27 : decode cX7_cast 27 = .ok (.iconst 0, 1) := by decide +kernel
theorem dX7_cast_28 : decode cX7_cast 28 = .ok (.istore_n 3, 1) := by decide +kernel
theorem dX7_cast_29 : decode cX7_cast 29 = .ok (.iconst 0, 1) := by decide +kernel
theorem dX7_cast_30 : decode cX7_cast 30 = .ok (.istore 4, 2) := by decide +kernel
theorem dX7_cast_32 : decode cX7_cast 32 = .ok (.iload 4, 2) := by decide +kernel
theorem dX7_cast_34 : decode cX7_cast 34 = .ok (.aload_n 0, 1) := by decide +kernel
theorem dX7_cast_35 : decode cX7_cast 35 = .ok (.getfield 108, 3) := by decide +kernel
theorem dX7_cast_38 : decode cX7_cast 38 = .ok (.if_icmp .ge 19, 3) := by decide +kernel
theorem dX7_cast_41 : decode cX7_cast 41 = .ok (.iload_n 3, 1) := by decide +kernel
theorem dX7_cast_42 : decode cX7_cast 42 = .ok (.aload_n 0, 1) := by decide +kernel
theorem dX7_cast_43 : decode cX7_cast 43 = .ok (.getfield 44, 3) := by decide +kernel
theorem dX7_cast_46 : decode cX7_cast 46 = .ok (.iload 4, 2) := by decide +kernel
theorem dX7_cast_48 : decode cX7_cast 48 = .ok (.iaload, 1) := by decide +kernel
theorem dX7_cast_49 : decode cX7_cast 49 = .ok (.iadd, 1) := by decide +kernel
theorem dX7_cast_50 : decode cX7_cast 50 = .ok (.istore_n 3, 1) := by decide +kernel
theorem dX7_cast_51 : decode cX7_cast 51 = .ok (.iinc 4 1, 3) := by decide +kernel
theorem dX7_cast_54 : decode cX7_cast 54 = .ok (.goto (-22), 3) := by decide +kernel
theorem dX7_cast_57 : decode cX7_cast 57 = .ok (.bipush 9, 2) := by decide +kernel
theorem dX7_cast_59 : decode cX7_cast 59 = .ok (.iload_n 3, 1) := by decide +kernel
theorem dX7_cast_60 : decode cX7_cast 60 = .ok (.imul, 1) := by decide +kernel
theorem dX7_cast_61 : decode cX7_cast 61 = .ok (.bipush 10, 2) := by decide +kernel
theorem dX7_cast_63 : decode cX7_cast 63 = .ok (.idiv, 1) := by decide +kernel
theorem dX7_cast_64 : decode cX7_cast 64 = .ok (.iload_n 2, 1) := by decide +kernel
theorem dX7_cast_65 : decode cX7_cast 65 = .ok (.idiv, 1) := by decide +kernel
theorem dX7_cast_66 : decode cX7_cast 66 = .ok (.ireturn, 1) := by decide +kernel
theorem dX7_noSheet_0 : decode cX7_noSheet 0 = .ok (.iload_n 0, 1) := by decide +kernel
theorem dX7_noSheet_1 : decode cX7_noSheet 1 = .ok (.i2l, 1) := by decide +kernel
theorem dX7_noSheet_2 : decode cX7_noSheet 2 = .ok (.lconst 0, 1) := by decide +kernel
theorem dX7_noSheet_3 : decode cX7_noSheet 3 = .ok (.ldc2_w 147, 3) := by decide +kernel
theorem dX7_noSheet_6 : decode cX7_noSheet 6 = .ok (.invokestatic 97, 3) := by decide +kernel
theorem dX7_noSheet_9 : decode cX7_noSheet 9 = .ok (.ifCond .ne 7, 3) := by decide +kernel
theorem dX7_noSheet_12 : decode cX7_noSheet 12 = .ok (.iconst 1, 1) := by decide +kernel
theorem dX7_noSheet_13 : decode cX7_noSheet 13 = .ok (.goto 4, 3) := by decide +kernel
theorem dX7_noSheet_16 : decode cX7_noSheet 16 = .ok (.iconst 0, 1) := by decide +kernel
theorem dX7_noSheet_17 : decode cX7_noSheet 17 = .ok (.ireturn, 1) := by decide +kernel
theorem dX7_sheet_0 : decode cX7_sheet 0 = .ok (.iload_n 1, 1) := by decide +kernel
theorem dX7_sheet_1 : decode cX7_sheet 1 = .ok (.invokestatic 87, 3) := by decide +kernel
theorem dX7_sheet_4 : decode cX7_sheet 4 = .ok (.ifCond .eq 9, 3) := by decide +kernel
theorem dX7_sheet_7 : decode cX7_sheet 7 = .ok (.aload_n 0, 1) := by decide +kernel
theorem dX7_sheet_8 : decode cX7_sheet 8 = .ok (.iconst (-1), 1) := by decide +kernel
theorem dX7_sheet_9 : decode cX7_sheet 9 = .ok (.invokevirtual 91, 3) := by decide +kernel
theorem dX7_sheet_12 : decode cX7_sheet 12 = .ok (.ireturn, 1) := by decide +kernel
theorem dX7_sheet_13 : decode cX7_sheet 13 = .ok (.iload_n 2, 1) := by decide +kernel
theorem dX7_sheet_14 : decode cX7_sheet 14 = .ok (.i2l, 1) := by decide +kernel
theorem dX7_sheet_15 : decode cX7_sheet 15 = .ok (.lconst 0, 1) := by decide +kernel
theorem dX7_sheet_16 : decode cX7_sheet 16 = .ok (.ldc2_w 95, 3) := by decide +kernel
theorem dX7_sheet_19 : decode cX7_sheet 19 = .ok (.invokestatic 97, 3) := by decide +kernel
theorem dX7_sheet_22 : decode cX7_sheet 22 = .ok (.ifCond .eq 9, 3) := by decide +kernel
theorem dX7_sheet_25 : decode cX7_sheet 25 = .ok (.iload_n 3, 1) := by decide +kernel
theorem dX7_sheet_26 : decode cX7_sheet 26 = .ok (.bipush 60, 2) := by decide +kernel
theorem dX7_sheet_28 : decode cX7_sheet 28 = .ok (.if_icmp .le 10, 3) := by decide +kernel
theorem dX7_sheet_31 : decode cX7_sheet 31 = .ok (.aload_n 0, 1) := by decide +kernel
theorem dX7_sheet_32 : decode cX7_sheet 32 = .ok (.bipush (-2), 2) := by decide +kernel
theorem dX7_sheet_34 : decode cX7_sheet 34 = .ok (.invokevirtual 91, 3) := by decide +kernel
theorem dX7_sheet_37 : decode cX7_sheet 37 = .ok (.ireturn, 1) := by decide +kernel
theorem dX7_sheet_38 : decode cX7_sheet 38 = .ok (.iload_n 3, 1) := by decide +kernel
theorem dX7_sheet_39 : decode cX7_sheet 39 = .ok (.ifCond .ge 9, 3) := by decide +kernel
theorem dX7_sheet_42 : decode cX7_sheet 42 = .ok (.aload_n 0, 1) := by decide +kernel
theorem dX7_sheet_43 : decode cX7_sheet 43 = .ok (.iconst 4, 1) := by decide +kernel
theorem dX7_sheet_44 : decode cX7_sheet 44 = .ok (.invokevirtual 101, 3) := by decide +kernel
theorem dX7_sheet_47 : decode cX7_sheet 47 = .ok (.ireturn, 1) := by decide +kernel
theorem dX7_sheet_48 : decode cX7_sheet 48 = .ok (.aload_n 0, 1) := by decide +kernel
theorem dX7_sheet_49 : decode cX7_sheet 49 = .ok (.getfield 65, 3) := by decide +kernel
theorem dX7_sheet_52 : decode cX7_sheet 52 = .ok (.iload_n 1, 1) := by decide +kernel
theorem dX7_sheet_53 : decode cX7_sheet 53 = .ok (.iload_n 3, 1) := by decide +kernel
theorem dX7_sheet_54 : decode cX7_sheet 54 = .ok (.iastore, 1) := by decide +kernel
theorem dX7_sheet_55 : decode cX7_sheet 55 = .ok (.aload_n 0, 1) := by decide +kernel
theorem dX7_sheet_56 : decode cX7_sheet 56 = .ok (.getfield 68, 3) := by decide +kernel
theorem dX7_sheet_59 : decode cX7_sheet 59 = .ok (.iload_n 1, 1) := by decide +kernel
theorem dX7_sheet_60 : decode cX7_sheet 60 = .ok (.iload_n 2, 1) := by decide +kernel
theorem dX7_sheet_61 : decode cX7_sheet 61 = .ok (.iastore, 1) := by decide +kernel
theorem dX7_sheet_62 : decode cX7_sheet 62 = .ok (.iconst 0, 1) := by decide +kernel
theorem dX7_sheet_63 : decode cX7_sheet 63 = .ok (.istore 4, 2) := by decide +kernel
theorem dX7_sheet_65 : decode cX7_sheet 65 = .ok (.iload 4, 2) := by decide +kernel
theorem dX7_sheet_67 : decode cX7_sheet 67 = .ok (.iload_n 3, 1) := by decide +kernel
theorem dX7_sheet_68 : decode cX7_sheet 68 = .ok (.if_icmp .ge 22, 3) := by decide +kernel
theorem dX7_sheet_71 : decode cX7_sheet 71 = .ok (.aload_n 0, 1) := by decide +kernel
theorem dX7_sheet_72 : decode cX7_sheet 72 = .ok (.getfield 71, 3) := by decide +kernel
theorem dX7_sheet_75 : decode cX7_sheet 75 = .ok (.bipush 60, 2) := by decide +kernel
theorem dX7_sheet_77 : decode cX7_sheet 77 = .ok (.iload_n 1, 1) := by decide +kernel
theorem dX7_sheet_78 : decode cX7_sheet 78 = .ok (.imul, 1) := by decide +kernel
theorem dX7_sheet_79 : decode cX7_sheet 79 = .ok (.iload 4, 2) := by decide +kernel
theorem dX7_sheet_81 : decode cX7_sheet 81 = .ok (.iadd, 1) := by decide +kernel
theorem dX7_sheet_82 : decode cX7_sheet 82 = .ok (.iconst 0, 1) := by decide +kernel
theorem dX7_sheet_83 : decode cX7_sheet 83 = .ok (.iastore, 1) := by decide +kernel
theorem dX7_sheet_84 : decode cX7_sheet 84 = .ok (.iinc 4 1, 3) := by decide +kernel
theorem dX7_sheet_87 : decode cX7_sheet 87 = .ok (.goto (-22), 3) := by decide +kernel
theorem dX7_sheet_90 : decode cX7_sheet 90 = .ok (.aload_n 0, 1) := by decide +kernel
theorem dX7_sheet_91 : decode cX7_sheet 91 = .ok (.iconst 1, 1) := by decide +kernel
theorem dX7_sheet_92 : decode cX7_sheet 92 = .ok (.invokevirtual 91, 3) := by decide +kernel
theorem dX7_sheet_95 : decode cX7_sheet 95 = .ok (.ireturn, 1) := by decide +kernel
theorem dX7_lose_0 : decode cX7_lose 0 = .ok (.iload_n 1, 1) := by decide +kernel
theorem dX7_lose_1 : decode cX7_lose 1 = .ok (.invokestatic 87, 3) := by decide +kernel
theorem dX7_lose_4 : decode cX7_lose 4 = .ok (.ifCond .eq 5, 3) := by decide +kernel
theorem dX7_lose_7 : decode cX7_lose 7 = .ok (.iconst (-1), 1) := by decide +kernel
theorem dX7_lose_8 : decode cX7_lose 8 = .ok (.ireturn, 1) := by decide +kernel
theorem dX7_lose_9 : decode cX7_lose 9 = .ok (.aload_n 0, 1) := by decide +kernel
theorem dX7_lose_10 : decode cX7_lose 10 = .ok (.getfield 65, 3) := by decide +kernel
theorem dX7_lose_13 : decode cX7_lose 13 = .ok (.iload_n 1, 1) := by decide +kernel
theorem dX7_lose_14 : decode cX7_lose 14 = .ok (.iaload, 1) := by decide +kernel
theorem dX7_lose_15 : decode cX7_lose 15 = .ok (.ifCond .ge 7, 3) := by decide +kernel
theorem dX7_lose_18 : decode cX7_lose 18 = .ok (.iconst 0, 1) := by decide +kernel
theorem dX7_lose_19 : decode cX7_lose 19 = .ok (.goto 4, 3) := by decide +kernel
theorem dX7_lose_22 : decode cX7_lose 22 = .ok (.iconst 1, 1) := by decide +kernel
theorem dX7_lose_23 : decode cX7_lose 23 = .ok (.istore_n 2, 1) := by decide +kernel
theorem dX7_lose_24 : decode cX7_lose 24 = .ok (.aload_n 0, 1) := by decide +kernel
theorem dX7_lose_25 : decode cX7_lose 25 = .ok (.getfield 65, 3) := by decide +kernel
theorem dX7_lose_28 : decode cX7_lose 28 = .ok (.iload_n 1, 1) := by decide +kernel
theorem dX7_lose_29 : decode cX7_lose 29 = .ok (.iconst (-1), 1) := by decide +kernel
theorem dX7_lose_30 : decode cX7_lose 30 = .ok (.iastore, 1) := by decide +kernel
theorem dX7_lose_31 : decode cX7_lose 31 = .ok (.iload_n 2, 1) := by decide +kernel
theorem dX7_lose_32 : decode cX7_lose 32 = .ok (.ireturn, 1) := by decide +kernel
theorem dX7_noCell_0 : decode cX7_noCell 0 = .ok (.aload_n 0, 1) := by decide +kernel
theorem dX7_noCell_1 : decode cX7_noCell 1 = .ok (.getfield 65, 3) := by decide +kernel
theorem dX7_noCell_4 : decode cX7_noCell 4 = .ok (.iload_n 1, 1) := by decide +kernel
theorem dX7_noCell_5 : decode cX7_noCell 5 = .ok (.iaload, 1) := by decide +kernel
theorem dX7_noCell_6 : decode cX7_noCell 6 = .ok (.ifCond .ge 7, 3) := by decide +kernel
theorem dX7_noCell_9 : decode cX7_noCell 9 = .ok (.iconst 1, 1) := by decide +kernel
theorem dX7_noCell_10 : decode cX7_noCell 10 = .ok (.goto 26, 3) := by decide +kernel
theorem dX7_noCell_13 : decode cX7_noCell 13 = .ok (.iload_n 2, 1) := by decide +kernel
theorem dX7_noCell_14 : decode cX7_noCell 14 = .ok (.i2l, 1) := by decide +kernel
theorem dX7_noCell_15 : decode cX7_noCell 15 = .ok (.lconst 0, 1) := by decide +kernel
theorem dX7_noCell_16 : decode cX7_noCell 16 = .ok (.aload_n 0, 1) := by decide +kernel
theorem dX7_noCell_17 : decode cX7_noCell 17 = .ok (.getfield 65, 3) := by decide +kernel
theorem dX7_noCell_20 : decode cX7_noCell 20 = .ok (.iload_n 1, 1) := by decide +kernel
theorem dX7_noCell_21 : decode cX7_noCell 21 = .ok (.iaload, 1) := by decide +kernel
theorem dX7_noCell_22 : decode cX7_noCell 22 = .ok (.i2l, 1) := by decide +kernel
theorem dX7_noCell_23 : decode cX7_noCell 23 = .ok (.lconst 1, 1) := by decide +kernel
theorem dX7_noCell_24 : decode cX7_noCell 24 = .ok (.lsub, 1) := by decide +kernel
theorem dX7_noCell_25 : decode cX7_noCell 25 = .ok (.invokestatic 97, 3) := by decide +kernel
theorem dX7_noCell_28 : decode cX7_noCell 28 = .ok (.ifCond .eq 7, 3) := by decide +kernel
theorem dX7_noCell_31 : decode cX7_noCell 31 = .ok (.iconst 0, 1) := by decide +kernel
theorem dX7_noCell_32 : decode cX7_noCell 32 = .ok (.goto 4, 3) := by decide +kernel
theorem dX7_noCell_35 : decode cX7_noCell 35 = .ok (.iconst 3, 1) := by decide +kernel
theorem dX7_noCell_36 : decode cX7_noCell 36 = .ok (.ireturn, 1) := by decide +kernel
theorem dX7_put_0 : decode cX7_put 0 = .ok (.iload_n 1, 1) := by decide +kernel
theorem dX7_put_1 : decode cX7_put 1 = .ok (.invokestatic 87, 3) := by decide +kernel
theorem dX7_put_4 : decode cX7_put 4 = .ok (.ifCond .eq 9, 3) := by decide +kernel
theorem dX7_put_7 : decode cX7_put 7 = .ok (.aload_n 0, 1) := by decide +kernel
theorem dX7_put_8 : decode cX7_put 8 = .ok (.iconst (-1), 1) := by decide +kernel
theorem dX7_put_9 : decode cX7_put 9 = .ok (.invokevirtual 91, 3) := by decide +kernel
theorem dX7_put_12 : decode cX7_put 12 = .ok (.ireturn, 1) := by decide +kernel
theorem dX7_put_13 : decode cX7_put 13 = .ok (.aload_n 0, 1) := by decide +kernel
theorem dX7_put_14 : decode cX7_put 14 = .ok (.iload_n 1, 1) := by decide +kernel
theorem dX7_put_15 : decode cX7_put 15 = .ok (.iload_n 2, 1) := by decide +kernel
theorem dX7_put_16 : decode cX7_put 16 = .ok (.invokevirtual 222, 3) := by decide +kernel
theorem dX7_put_19 : decode cX7_put 19 = .ok (.ifCond .le 14, 3) := by decide +kernel
theorem dX7_put_22 : decode cX7_put 22 = .ok (.aload_n 0, 1) := by decide +kernel
theorem dX7_put_23 : decode cX7_put 23 = .ok (.aload_n 0, 1) := by decide +kernel
theorem dX7_put_24 : decode cX7_put 24 = .ok (.iload_n 1, 1) := by decide +kernel
theorem dX7_put_25 : decode cX7_put 25 = .ok (.iload_n 2, 1) := by decide +kernel
theorem dX7_put_26 : decode cX7_put 26 = .ok (.invokevirtual 222, 3) := by decide +kernel
theorem dX7_put_29 : decode cX7_put 29 = .ok (.invokevirtual 101, 3) := by decide +kernel
theorem dX7_put_32 : decode cX7_put 32 = .ok (.ireturn, 1) := by decide +kernel
theorem dX7_put_33 : decode cX7_put 33 = .ok (.aload_n 0, 1) := by decide +kernel
theorem dX7_put_34 : decode cX7_put 34 = .ok (.getfield 71, 3) := by decide +kernel
theorem dX7_put_37 : decode cX7_put 37 = .ok (.bipush 60, 2) := by decide +kernel
theorem dX7_put_39 : decode cX7_put 39 = .ok (.iload_n 1, 1) := by decide +kernel
theorem dX7_put_40 : decode cX7_put 40 = .ok (.imul, 1) := by decide +kernel
theorem dX7_put_41 : decode cX7_put 41 = .ok (.iload_n 2, 1) := by decide +kernel
theorem dX7_put_42 : decode cX7_put 42 = .ok (.iadd, 1) := by decide +kernel
theorem dX7_put_43 : decode cX7_put 43 = .ok (.aload_n 0, 1) := by decide +kernel
theorem dX7_put_44 : decode cX7_put 44 = .ok (.getfield 68, 3) := by decide +kernel
theorem dX7_put_47 : decode cX7_put 47 = .ok (.iload_n 1, 1) := by decide +kernel
theorem dX7_put_48 : decode cX7_put 48 = .ok (.iaload, 1) := by decide +kernel
theorem dX7_put_49 : decode cX7_put 49 = .ok (.ifCond .ne 8, 3) := by decide +kernel
theorem dX7_put_52 : decode cX7_put 52 = .ok (.iload_n 3, 1) := by decide +kernel
theorem dX7_put_53 : decode cX7_put 53 = .ok (.i2b, 1) := by decide +kernel
theorem dX7_put_54 : decode cX7_put 54 = .ok (.goto 19, 3) := by decide +kernel
theorem dX7_put_57 : decode cX7_put 57 = .ok (.aload_n 0, 1) := by decide +kernel
theorem dX7_put_58 : decode cX7_put 58 = .ok (.getfield 68, 3) := by decide +kernel
theorem dX7_put_61 : decode cX7_put 61 = .ok (.iload_n 1, 1) := by decide +kernel
theorem dX7_put_62 : decode cX7_put 62 = .ok (.iaload, 1) := by decide +kernel
theorem dX7_put_63 : decode cX7_put 63 = .ok (.iconst 1, 1) := by decide +kernel
theorem dX7_put_64 : decode cX7_put 64 = .ok (.if_icmp .ne 8, 3) := by decide +kernel
theorem dX7_put_67 : decode cX7_put 67 = .ok (.iload_n 3, 1) := by decide +kernel
theorem dX7_put_68 : decode cX7_put 68 = .ok (.i2s, 1) := by decide +kernel
theorem dX7_put_69 : decode cX7_put 69 = .ok (.goto 4, 3) := by decide +kernel
theorem dX7_put_72 : decode cX7_put 72 = .ok (.iload_n 3, 1) := by decide +kernel
theorem dX7_put_73 : decode cX7_put 73 = .ok (.iastore, 1) := by decide +kernel
theorem dX7_put_74 : decode cX7_put 74 = .ok (.aload_n 0, 1) := by decide +kernel
theorem dX7_put_75 : decode cX7_put 75 = .ok (.iconst 1, 1) := by decide +kernel
theorem dX7_put_76 : decode cX7_put 76 = .ok (.invokevirtual 91, 3) := by decide +kernel
theorem dX7_put_79 : decode cX7_put 79 = .ok (.ireturn, 1) := by decide +kernel
theorem dX7_cell_0 : decode cX7_cell 0 = .ok (.aload_n 0, 1) := by decide +kernel
theorem dX7_cell_1 : decode cX7_cell 1 = .ok (.iconst 0, 1) := by decide +kernel
theorem dX7_cell_2 : decode cX7_cell 2 = .ok (.putfield 79, 3) := by decide +kernel
theorem dX7_cell_5 : decode cX7_cell 5 = .ok (.iload_n 1, 1) := by decide +kernel
theorem dX7_cell_6 : decode cX7_cell 6 = .ok (.invokestatic 87, 3) := by decide +kernel
theorem dX7_cell_9 : decode cX7_cell 9 = .ok (.ifCond .ne 15, 3) := by decide +kernel
theorem dX7_cell_12 : decode cX7_cell 12 = .ok (.iload_n 3, 1) := by decide +kernel
theorem dX7_cell_13 : decode cX7_cell 13 = .ok (.i2l, 1) := by decide +kernel
theorem dX7_cell_14 : decode cX7_cell 14 = .ok (.lconst 0, 1) := by decide +kernel
theorem dX7_cell_15 : decode cX7_cell 15 = .ok (.ldc2_w 95, 3) := by decide +kernel
theorem dX7_cell_18 : decode cX7_cell 18 = .ok (.invokestatic 97, 3) := by decide +kernel
theorem dX7_cell_21 : decode cX7_cell 21 = .ok (.ifCond .ne 7, 3) := by decide +kernel
theorem dX7_cell_24 : decode cX7_cell 24 = .ok (.invokestatic 83, 3) := by decide +kernel
theorem dX7_cell_27 : decode cX7_cell 27 = .ok (.lreturn, 1) := by decide +kernel
theorem dX7_cell_28 : decode cX7_cell 28 = .ok (.aload_n 0, 1) := by decide +kernel
theorem dX7_cell_29 : decode cX7_cell 29 = .ok (.getfield 65, 3) := by decide +kernel
theorem dX7_cell_32 : decode cX7_cell 32 = .ok (.iload_n 1, 1) := by decide +kernel
theorem dX7_cell_33 : decode cX7_cell 33 = .ok (.iaload, 1) := by decide +kernel
theorem dX7_cell_34 : decode cX7_cell 34 = .ok (.ifCond .lt 19, 3) := by decide +kernel
theorem dX7_cell_37 : decode cX7_cell 37 = .ok (.aload_n 0, 1) := by decide +kernel
theorem dX7_cell_38 : decode cX7_cell 38 = .ok (.getfield 68, 3) := by decide +kernel
theorem dX7_cell_41 : decode cX7_cell 41 = .ok (.iload_n 1, 1) := by decide +kernel
theorem dX7_cell_42 : decode cX7_cell 42 = .ok (.iaload, 1) := by decide +kernel
theorem dX7_cell_43 : decode cX7_cell 43 = .ok (.iload_n 3, 1) := by decide +kernel
theorem dX7_cell_44 : decode cX7_cell 44 = .ok (.if_icmp .eq 9, 3) := by decide +kernel
theorem dX7_cell_47 : decode cX7_cell 47 = .ok (.aload_n 0, 1) := by decide +kernel
theorem dX7_cell_48 : decode cX7_cell 48 = .ok (.iconst 2, 1) := by decide +kernel
theorem dX7_cell_49 : decode cX7_cell 49 = .ok (.invokevirtual 225, 3) := by decide +kernel
theorem dX7_cell_52 : decode cX7_cell 52 = .ok (.lreturn, 1) := by decide +kernel
theorem dX7_cell_53 : decode cX7_cell 53 = .ok (.aload_n 0, 1) := by decide +kernel
theorem dX7_cell_54 : decode cX7_cell 54 = .ok (.iload_n 1, 1) := by decide +kernel
theorem dX7_cell_55 : decode cX7_cell 55 = .ok (.iload_n 2, 1) := by decide +kernel
theorem dX7_cell_56 : decode cX7_cell 56 = .ok (.invokevirtual 222, 3) := by decide +kernel
theorem dX7_cell_59 : decode cX7_cell 59 = .ok (.ifCond .le 16, 3) := by decide +kernel
theorem dX7_cell_62 : decode cX7_cell 62 = .ok (.aload_n 0, 1) := by decide +kernel
theorem dX7_cell_63 : decode cX7_cell 63 = .ok (.aload_n 0, 1) := by decide +kernel
theorem dX7_cell_64 : decode cX7_cell 64 = .ok (.iload_n 1, 1) := by decide +kernel
theorem dX7_cell_65 : decode cX7_cell 65 = .ok (.iload_n 2, 1) := by decide +kernel
theorem dX7_cell_66 : decode cX7_cell 66 = .ok (.invokevirtual 222, 3) := by decide +kernel
theorem dX7_cell_69 : decode cX7_cell 69 = .ok (.invokevirtual 225, 3) := by decide +kernel
theorem dX7_cell_72 : decode cX7_cell 72 = .ok (.goto 15, 3) := by decide +kernel
theorem dX7_cell_75 : decode cX7_cell 75 = .ok (.aload_n 0, 1) := by decide +kernel
theorem dX7_cell_76 : decode cX7_cell 76 = .ok (.getfield 71, 3) := by decide +kernel
theorem dX7_cell_79 : decode cX7_cell 79 = .ok (.bipush 60, 2) := by decide +kernel
theorem dX7_cell_81 : decode cX7_cell 81 = .ok (.iload_n 1, 1) := by decide +kernel
theorem dX7_cell_82 : decode cX7_cell 82 = .ok (.imul, 1) := by decide +kernel
theorem dX7_cell_83 : decode cX7_cell 83 = .ok (.iload_n 2, 1) := by decide +kernel
theorem dX7_cell_84 : decode cX7_cell 84 = .ok (.iadd, 1) := by decide +kernel
theorem dX7_cell_85 : decode cX7_cell 85 = .ok (.iaload, 1) := by decide +kernel
theorem dX7_cell_86 : decode cX7_cell 86 = .ok (.i2l, 1) := by decide +kernel
theorem dX7_cell_87 : decode cX7_cell 87 = .ok (.lreturn, 1) := by decide +kernel
theorem dX7_isBeyond_0 : decode cX7_isBeyond 0 = .ok (.iload_n 0, 1) := by decide +kernel
theorem dX7_isBeyond_1 : decode cX7_isBeyond 1 = .ok (.ifCond .lt 19, 3) := by decide +kernel
theorem dX7_isBeyond_4 : decode cX7_isBeyond 4 = .ok (.lload_n 1, 1) := by decide +kernel
theorem dX7_isBeyond_5 : decode cX7_isBeyond 5 = .ok (.lconst 0, 1) := by decide +kernel
theorem dX7_isBeyond_6 : decode cX7_isBeyond 6 = .ok (.lcmp, 1) := by decide +kernel
theorem dX7_isBeyond_7 : decode cX7_isBeyond 7 = .ok (.ifCond .lt 13, 3) := by decide +kernel
theorem dX7_isBeyond_10 : decode cX7_isBeyond 10 = .ok (.iload_n 0, 1) := by decide +kernel
theorem dX7_isBeyond_11 : decode cX7_isBeyond 11 = .ok (.i2l, 1) := by decide +kernel
theorem dX7_isBeyond_12 : decode cX7_isBeyond 12 = .ok (.lload_n 1, 1) := by decide +kernel
theorem dX7_isBeyond_13 : decode cX7_isBeyond 13 = .ok (.ladd, 1) := by decide +kernel
theorem dX7_isBeyond_14 : decode cX7_isBeyond 14 = .ok (.iload_n 3, 1) := by decide +kernel
theorem dX7_isBeyond_15 : decode cX7_isBeyond 15 = .ok (.i2l, 1) := by decide +kernel
theorem dX7_isBeyond_16 : decode cX7_isBeyond 16 = .ok (.lcmp, 1) := by decide +kernel
theorem dX7_isBeyond_17 : decode cX7_isBeyond 17 = .ok (.ifCond .le 7, 3) := by decide +kernel
theorem dX7_isBeyond_20 : decode cX7_isBeyond 20 = .ok (.iconst 1, 1) := by decide +kernel
theorem dX7_isBeyond_21 : decode cX7_isBeyond 21 = .ok (.goto 4, 3) := by decide +kernel
theorem dX7_isBeyond_24 : decode cX7_isBeyond 24 = .ok (.iconst 0, 1) := by decide +kernel
theorem dX7_isBeyond_25 : decode cX7_isBeyond 25 = .ok (.ireturn, 1) := by decide +kernel
theorem dX7_copy_0 : decode cX7_copy 0 = .ok (.iload_n 1, 1) := by decide +kernel
theorem dX7_copy_1 : decode cX7_copy 1 = .ok (.invokestatic 87, 3) := by decide +kernel
theorem dX7_copy_4 : decode cX7_copy 4 = .ok (.ifCond .ne 10, 3) := by decide +kernel
theorem dX7_copy_7 : decode cX7_copy 7 = .ok (.iload_n 3, 1) := by decide +kernel
theorem dX7_copy_8 : decode cX7_copy 8 = .ok (.invokestatic 87, 3) := by decide +kernel
theorem dX7_copy_11 : decode cX7_copy 11 = .ok (.ifCond .eq 9, 3) := by decide +kernel
theorem dX7_copy_14 : decode cX7_copy 14 = .ok (.aload_n 0, 1) := by decide +kernel
theorem dX7_copy_15 : decode cX7_copy 15 = .ok (.iconst (-1), 1) := by decide +kernel
theorem dX7_copy_16 : decode cX7_copy 16 = .ok (.invokevirtual 91, 3) := by decide +kernel
theorem dX7_copy_19 : decode cX7_copy 19 = .ok (.ireturn, 1) := by decide +kernel
theorem dX7_copy_20 : decode cX7_copy 20 = .ok (.aload_n 0, 1) := by decide +kernel
theorem dX7_copy_21 : decode cX7_copy 21 = .ok (.getfield 65, 3) := by decide +kernel
theorem dX7_copy_24 : decode cX7_copy 24 = .ok (.iload_n 1, 1) := by decide +kernel
theorem dX7_copy_25 : decode cX7_copy 25 = .ok (.iaload, 1) := by decide +kernel
theorem dX7_copy_26 : decode cX7_copy 26 = .ok (.ifCond .lt 12, 3) := by decide +kernel
theorem dX7_copy_29 : decode cX7_copy 29 = .ok (.aload_n 0, 1) := by decide +kernel
theorem dX7_copy_30 : decode cX7_copy 30 = .ok (.getfield 65, 3) := by decide +kernel
theorem dX7_copy_33 : decode cX7_copy 33 = .ok (.iload_n 3, 1) := by decide +kernel
theorem dX7_copy_34 : decode cX7_copy 34 = .ok (.iaload, 1) := by decide +kernel
theorem dX7_copy_35 : decode cX7_copy 35 = .ok (.ifCond .ge 9, 3) := by decide +kernel
theorem dX7_copy_38 : decode cX7_copy 38 = .ok (.aload_n 0, 1) := by decide +kernel
theorem dX7_copy_39 : decode cX7_copy 39 = .ok (.iconst 1, 1) := by decide +kernel
theorem dX7_copy_40 : decode cX7_copy 40 = .ok (.invokevirtual 101, 3) := by decide +kernel
theorem dX7_copy_43 : decode cX7_copy 43 = .ok (.ireturn, 1) := by decide +kernel
theorem dX7_copy_44 : decode cX7_copy 44 = .ok (.aload_n 0, 1) := by decide +kernel
theorem dX7_copy_45 : decode cX7_copy 45 = .ok (.getfield 68, 3) := by decide +kernel
theorem dX7_copy_48 : decode cX7_copy 48 = .ok (.iload_n 1, 1) := by decide +kernel
theorem dX7_copy_49 : decode cX7_copy 49 = .ok (.iaload, 1) := by decide +kernel
theorem dX7_copy_50 : decode cX7_copy 50 = .ok (.aload_n 0, 1) := by decide +kernel
theorem dX7_copy_51 : decode cX7_copy 51 = .ok (.getfield 68, 3) := by decide +kernel
theorem dX7_copy_54 : decode cX7_copy 54 = .ok (.iload_n 3, 1) := by decide +kernel
theorem dX7_copy_55 : decode cX7_copy 55 = .ok (.iaload, 1) := by decide +kernel
theorem dX7_copy_56 : decode cX7_copy 56 = .ok (.if_icmp .eq 9, 3) := by decide +kernel
theorem dX7_copy_59 : decode cX7_copy 59 = .ok (.aload_n 0, 1) := by decide +kernel
theorem dX7_copy_60 : decode cX7_copy 60 = .ok (.iconst 2, 1) := by decide +kernel
theorem dX7_copy_61 : decode cX7_copy 61 = .ok (.invokevirtual 101, 3) := by decide +kernel
theorem dX7_copy_64 : decode cX7_copy 64 = .ok (.ireturn, 1) := by decide +kernel
theorem dX7_copy_65 : decode cX7_copy 65 = .ok (.iload_n 2, 1) := by decide +kernel
theorem dX7_copy_66 : decode cX7_copy 66 = .ok (.iload 5, 2) := by decide +kernel
theorem dX7_copy_68 : decode cX7_copy 68 = .ok (.i2l, 1) := by decide +kernel
theorem dX7_copy_69 : decode cX7_copy 69 = .ok (.aload_n 0, 1) := by decide +kernel
theorem dX7_copy_70 : decode cX7_copy 70 = .ok (.getfield 65, 3) := by decide +kernel
theorem dX7_copy_73 : decode cX7_copy 73 = .ok (.iload_n 1, 1) := by decide +kernel
theorem dX7_copy_74 : decode cX7_copy 74 = .ok (.iaload, 1) := by decide +kernel
theorem dX7_copy_75 : decode cX7_copy 75 = .ok (.invokestatic 104, 3) := by decide +kernel
theorem dX7_copy_78 : decode cX7_copy 78 = .ok (.ifCond .ne 20, 3) := by decide +kernel
theorem dX7_copy_81 : decode cX7_copy 81 = .ok (.iload 4, 2) := by decide +kernel
theorem dX7_copy_83 : decode cX7_copy 83 = .ok (.iload 5, 2) := by decide +kernel
theorem dX7_copy_85 : decode cX7_copy 85 = .ok (.i2l, 1) := by decide +kernel
theorem dX7_copy_86 : decode cX7_copy 86 = .ok (.aload_n 0, 1) := by decide +kernel
theorem dX7_copy_87 : decode cX7_copy 87 = .ok (.getfield 65, 3) := by decide +kernel
theorem dX7_copy_90 : decode cX7_copy 90 = .ok (.iload_n 3, 1) := by decide +kernel
theorem dX7_copy_91 : decode cX7_copy 91 = .ok (.iaload, 1) := by decide +kernel
theorem dX7_copy_92 : decode cX7_copy 92 = .ok (.invokestatic 104, 3) := by decide +kernel
theorem dX7_copy_95 : decode cX7_copy 95 = .ok (.ifCond .eq 9, 3) := by decide +kernel
theorem dX7_copy_98 : decode cX7_copy 98 = .ok (.aload_n 0, 1) := by decide +kernel
theorem dX7_copy_99 : decode cX7_copy 99 = .ok (.iconst 3, 1) := by decide +kernel
theorem dX7_copy_100 : decode cX7_copy 100 = .ok (.invokevirtual 101, 3) := by decide +kernel
theorem dX7_copy_103 : decode cX7_copy 103 = .ok (.ireturn, 1) := by decide +kernel
theorem dX7_copy_104 : decode cX7_copy 104 = .ok (.iconst 0, 1) := by decide +kernel
theorem dX7_copy_105 : decode cX7_copy 105 = .ok (.istore 6, 2) := by decide +kernel
theorem dX7_copy_107 : decode cX7_copy 107 = .ok (.iload 6, 2) := by decide +kernel
theorem dX7_copy_109 : decode cX7_copy 109 = .ok (.iload 5, 2) := by decide +kernel
theorem dX7_copy_111 : decode cX7_copy 111 = .ok (.if_icmp .ge 30, 3) := by decide +kernel
theorem dX7_copy_114 : decode cX7_copy 114 = .ok (.aload_n 0, 1) := by decide +kernel
theorem dX7_copy_115 : decode cX7_copy 115 = .ok (.getfield 74, 3) := by decide +kernel
theorem dX7_copy_118 : decode cX7_copy 118 = .ok (.iload 6, 2) := by decide +kernel
theorem dX7_copy_120 : decode cX7_copy 120 = .ok (.aload_n 0, 1) := by decide +kernel
theorem dX7_copy_121 : decode cX7_copy 121 = .ok (.getfield 71, 3) := by decide +kernel
theorem dX7_copy_124 : decode cX7_copy 124 = .ok (.bipush 60, 2) := by decide +kernel
theorem dX7_copy_126 : decode cX7_copy 126 = .ok (.iload_n 1, 1) := by decide +kernel
theorem dX7_copy_127 : decode cX7_copy 127 = .ok (.imul, 1) := by decide +kernel
theorem dX7_copy_128 : decode cX7_copy 128 = .ok (.iload_n 2, 1) := by decide +kernel
theorem dX7_copy_129 : decode cX7_copy 129 = .ok (.iadd, 1) := by decide +kernel
theorem dX7_copy_130 : decode cX7_copy 130 = .ok (.iload 6, 2) := by decide +kernel
theorem dX7_copy_132 : decode cX7_copy 132 = .ok (.iadd, 1) := by decide +kernel
theorem dX7_copy_133 : decode cX7_copy 133 = .ok (.iaload, 1) := by decide +kernel
theorem dX7_copy_134 : decode cX7_copy 134 = .ok (.iastore, 1) := by decide +kernel
theorem dX7_copy_135 : decode cX7_copy 135 = .ok (.iinc 6 1, 3) := by decide +kernel
theorem dX7_copy_138 : decode cX7_copy 138 = .ok (.goto (-31), 3) := by decide +kernel
theorem dX7_copy_141 : decode cX7_copy 141 = .ok (.iconst 0, 1) := by decide +kernel
theorem dX7_copy_142 : decode cX7_copy 142 = .ok (.istore 6, 2) := by decide +kernel
theorem dX7_copy_144 : decode cX7_copy 144 = .ok (.iload 6, 2) := by decide +kernel
theorem dX7_copy_146 : decode cX7_copy 146 = .ok (.iload 5, 2) := by decide +kernel
theorem dX7_copy_148 : decode cX7_copy 148 = .ok (.if_icmp .ge 31, 3) := by decide +kernel
theorem dX7_copy_151 : decode cX7_copy 151 = .ok (.aload_n 0, 1) := by decide +kernel
theorem dX7_copy_152 : decode cX7_copy 152 = .ok (.getfield 71, 3) := by decide +kernel
theorem dX7_copy_155 : decode cX7_copy 155 = .ok (.bipush 60, 2) := by decide +kernel
theorem dX7_copy_157 : decode cX7_copy 157 = .ok (.iload_n 3, 1) := by decide +kernel
theorem dX7_copy_158 : decode cX7_copy 158 = .ok (.imul, 1) := by decide +kernel
theorem dX7_copy_159 : decode cX7_copy 159 = .ok (.iload 4, 2) := by decide +kernel
theorem dX7_copy_161 : decode cX7_copy 161 = .ok (.iadd, 1) := by decide +kernel
theorem dX7_copy_162 : decode cX7_copy 162 = .ok (.iload 6, 2) := by decide +kernel
theorem dX7_copy_164 : decode cX7_copy 164 = .ok (.iadd, 1) := by decide +kernel
theorem dX7_copy_165 : decode cX7_copy 165 = .ok (.aload_n 0, 1) := by decide +kernel
theorem dX7_copy_166 : decode cX7_copy 166 = .ok (.getfield 74, 3) := by decide +kernel
theorem dX7_copy_169 : decode cX7_copy 169 = .ok (.iload 6, 2) := by decide +kernel
theorem dX7_copy_171 : decode cX7_copy 171 = .ok (.iaload, 1) := by decide +kernel
theorem dX7_copy_172 : decode cX7_copy 172 = .ok (.iastore, 1) := by decide +kernel
theorem dX7_copy_173 : decode cX7_copy 173 = .ok (.iinc 6 1, 3) := by decide +kernel
theorem dX7_copy_176 : decode cX7_copy 176 = .ok (.goto (-32), 3) := by decide +kernel
theorem dX7_copy_179 : decode cX7_copy 179 = .ok (.aload_n 0, 1) := by decide +kernel
theorem dX7_copy_180 : decode cX7_copy 180 = .ok (.iload 5, 2) := by decide +kernel
theorem dX7_copy_182 : decode cX7_copy 182 = .ok (.invokevirtual 91, 3) := by decide +kernel
theorem dX7_copy_185 : decode cX7_copy 185 = .ok (.ireturn, 1) := by decide +kernel
theorem dX7_traced_0 : decode cX7_traced 0 = .ok (.aload_n 0, 1) := by decide +kernel
theorem dX7_traced_1 : decode cX7_traced 1 = .ok (.bipush 31, 2) := by decide +kernel
theorem dX7_traced_3 : decode cX7_traced 3 = .ok (.aload_n 0, 1) := by decide +kernel
theorem dX7_traced_4 : decode cX7_traced 4 = .ok (.getfield 229, 3) := by decide +kernel
theorem dX7_traced_7 : decode cX7_traced 7 = .ok (.imul, 1) := by decide +kernel
theorem dX7_traced_8 : decode cX7_traced 8 = .ok (.iload_n 1, 1) := by decide +kernel
theorem dX7_traced_9 : decode cX7_traced 9 = .ok (.iadd, 1) := by decide +kernel
theorem dX7_traced_10 : decode cX7_traced 10 = .ok (.putfield 229, 3) := by decide +kernel
theorem dX7_traced_13 : decode cX7_traced 13 = .ok (.return_, 1) := by decide +kernel
theorem dX7_tell_0 : decode cX7_tell 0 = .ok (.aload_n 0, 1) := by decide +kernel
theorem dX7_tell_1 : decode cX7_tell 1 = .ok (.iload_n 1, 1) := by decide +kernel
theorem dX7_tell_2 : decode cX7_tell 2 = .ok (.invokevirtual 144, 3) := by decide +kernel
theorem dX7_tell_5 : decode cX7_tell 5 = .ok (.ifCond .eq 5, 3) := by decide +kernel
theorem dX7_tell_8 : decode cX7_tell 8 = .ok (.iconst (-1), 1) := by decide +kernel
theorem dX7_tell_9 : decode cX7_tell 9 = .ok (.ireturn, 1) := by decide +kernel
theorem dX7_tell_10 : decode cX7_tell 10 = .ok (.aload_n 0, 1) := by decide +kernel
theorem dX7_tell_11 : decode cX7_tell 11 = .ok (.getfield 7, 3) := by decide +kernel
theorem dX7_tell_14 : decode cX7_tell 14 = .ok (.iload_n 1, 1) := by decide +kernel
theorem dX7_tell_15 : decode cX7_tell 15 = .ok (.iaload, 1) := by decide +kernel
theorem dX7_tell_16 : decode cX7_tell 16 = .ok (.istore_n 2, 1) := by decide +kernel
theorem dX7_tell_17 : decode cX7_tell 17 = .ok (.iload_n 2, 1) := by decide +kernel
theorem dX7_tell_18 : decode cX7_tell 18 = .ok (.iconst 2, 1) := by decide +kernel
theorem dX7_tell_19 : decode cX7_tell 19 = .ok (.if_icmp .ne 8, 3) := by decide +kernel
theorem dX7_tell_22 : decode cX7_tell 22 = .ok (.aload_n 0, 1) := by decide +kernel
theorem dX7_tell_23 : decode cX7_tell 23 = .ok (.iconst 3, 1) := by decide +kernel
theorem dX7_tell_24 : decode cX7_tell 24 = .ok (.invokevirtual 232, 3) := by decide +kernel
theorem dX7_tell_27 : decode cX7_tell 27 = .ok (.iload_n 2, 1) := by decide +kernel
theorem dX7_tell_28 : decode cX7_tell 28 = .ok (.ifCond .le 8, 3) := by decide +kernel
theorem dX7_tell_31 : decode cX7_tell 31 = .ok (.aload_n 0, 1) := by decide +kernel
theorem dX7_tell_32 : decode cX7_tell 32 = .ok (.iconst 2, 1) := by decide +kernel
theorem dX7_tell_33 : decode cX7_tell 33 = .ok (.invokevirtual 232, 3) := by decide +kernel
theorem dX7_tell_36 : decode cX7_tell 36 = .ok (.aload_n 0, 1) := by decide +kernel
theorem dX7_tell_37 : decode cX7_tell 37 = .ok (.iconst 1, 1) := by decide +kernel
theorem dX7_tell_38 : decode cX7_tell 38 = .ok (.invokevirtual 232, 3) := by decide +kernel
theorem dX7_tell_41 : decode cX7_tell 41 = .ok (.iload_n 2, 1) := by decide +kernel
theorem dX7_tell_42 : decode cX7_tell 42 = .ok (.iconst 2, 1) := by decide +kernel
theorem dX7_tell_43 : decode cX7_tell 43 = .ok (.if_icmp .ne 8, 3) := by decide +kernel
theorem dX7_tell_46 : decode cX7_tell 46 = .ok (.aload_n 0, 1) := by decide +kernel
theorem dX7_tell_47 : decode cX7_tell 47 = .ok (.iconst 1, 1) := by decide +kernel
theorem dX7_tell_48 : decode cX7_tell 48 = .ok (.invokevirtual 232, 3) := by decide +kernel
theorem dX7_tell_51 : decode cX7_tell 51 = .ok (.aload_n 0, 1) := by decide +kernel
theorem dX7_tell_52 : decode cX7_tell 52 = .ok (.getfield 13, 3) := by decide +kernel
theorem dX7_tell_55 : decode cX7_tell 55 = .ok (.iconst 3, 1) := by decide +kernel
theorem dX7_tell_56 : decode cX7_tell 56 = .ok (.iload_n 1, 1) := by decide +kernel
theorem dX7_tell_57 : decode cX7_tell 57 = .ok (.imul, 1) := by decide +kernel
theorem dX7_tell_58 : decode cX7_tell 58 = .ok (.iaload, 1) := by decide +kernel
theorem dX7_tell_59 : decode cX7_tell 59 = .ok (.istore_n 3, 1) := by decide +kernel
theorem dX7_tell_60 : decode cX7_tell 60 = .ok (.iload_n 2, 1) := by decide +kernel
theorem dX7_tell_61 : decode cX7_tell 61 = .ok (.ifCond .ne 7, 3) := by decide +kernel
theorem dX7_tell_64 : decode cX7_tell 64 = .ok (.iload_n 3, 1) := by decide +kernel
theorem dX7_tell_65 : decode cX7_tell 65 = .ok (.goto 21, 3) := by decide +kernel
theorem dX7_tell_68 : decode cX7_tell 68 = .ok (.iload_n 2, 1) := by decide +kernel
theorem dX7_tell_69 : decode cX7_tell 69 = .ok (.iconst 1, 1) := by decide +kernel
theorem dX7_tell_70 : decode cX7_tell 70 = .ok (.if_icmp .ne 10, 3) := by decide +kernel
theorem dX7_tell_73 : decode cX7_tell 73 = .ok (.iload_n 3, 1) := by decide +kernel
theorem dX7_tell_74 : decode cX7_tell 74 = .ok (.bipush 100, 2) := by decide +kernel
theorem dX7_tell_76 : decode cX7_tell 76 = .ok (.iadd, 1) := by decide +kernel
theorem dX7_tell_77 : decode cX7_tell 77 = .ok (.goto 9, 3) := by decide +kernel
theorem dX7_tell_80 : decode cX7_tell 80 = .ok (.iconst 2, 1) := by decide +kernel
theorem dX7_tell_81 : decode cX7_tell 81 = .ok (.iload_n 3, 1) := by decide +kernel
theorem dX7_tell_82 : decode cX7_tell 82 = .ok (.imul, 1) := by decide +kernel
theorem dX7_tell_83 : decode cX7_tell 83 = .ok (.bipush 100, 2) := by decide +kernel
theorem dX7_tell_85 : decode cX7_tell 85 = .ok (.iadd, 1) := by decide +kernel
theorem dX7_tell_86 : decode cX7_tell 86 = .ok (.ireturn, 1) := by decide +kernel
theorem dX7_bow_0 : decode cX7_bow 0 = .ok (.aload_n 0, 1) := by decide +kernel
theorem dX7_bow_1 : decode cX7_bow 1 = .ok (.iload_n 1, 1) := by decide +kernel
theorem dX7_bow_2 : decode cX7_bow 2 = .ok (.invokevirtual 144, 3) := by decide +kernel
theorem dX7_bow_5 : decode cX7_bow 5 = .ok (.ifCond .eq 5, 3) := by decide +kernel
theorem dX7_bow_8 : decode cX7_bow 8 = .ok (.iconst (-1), 1) := by decide +kernel
theorem dX7_bow_9 : decode cX7_bow 9 = .ok (.ireturn, 1) := by decide +kernel
theorem dX7_bow_10 : decode cX7_bow 10 = .ok (.aload_n 0, 1) := by decide +kernel
theorem dX7_bow_11 : decode cX7_bow 11 = .ok (.aload_n 0, 1) := by decide +kernel
theorem dX7_bow_12 : decode cX7_bow 12 = .ok (.getfield 7, 3) := by decide +kernel
theorem dX7_bow_15 : decode cX7_bow 15 = .ok (.iload_n 1, 1) := by decide +kernel
theorem dX7_bow_16 : decode cX7_bow 16 = .ok (.iaload, 1) := by decide +kernel
theorem dX7_bow_17 : decode cX7_bow 17 = .ok (.iconst 2, 1) := by decide +kernel
theorem dX7_bow_18 : decode cX7_bow 18 = .ok (.if_icmp .ne 7, 3) := by decide +kernel
theorem dX7_bow_21 : decode cX7_bow 21 = .ok (.iconst 5, 1) := by decide +kernel
theorem dX7_bow_22 : decode cX7_bow 22 = .ok (.goto 4, 3) := by decide +kernel
theorem dX7_bow_25 : decode cX7_bow 25 = .ok (.iconst 4, 1) := by decide +kernel
theorem dX7_bow_26 : decode cX7_bow 26 = .ok (.invokevirtual 232, 3) := by decide +kernel
theorem dX7_bow_29 : decode cX7_bow 29 = .ok (.aload_n 0, 1) := by decide +kernel
theorem dX7_bow_30 : decode cX7_bow 30 = .ok (.getfield 7, 3) := by decide +kernel
theorem dX7_bow_33 : decode cX7_bow 33 = .ok (.iload_n 1, 1) := by decide +kernel
theorem dX7_bow_34 : decode cX7_bow 34 = .ok (.iaload, 1) := by decide +kernel
theorem dX7_bow_35 : decode cX7_bow 35 = .ok (.iconst 2, 1) := by decide +kernel
theorem dX7_bow_36 : decode cX7_bow 36 = .ok (.if_icmp .ne 8, 3) := by decide +kernel
theorem dX7_bow_39 : decode cX7_bow 39 = .ok (.bipush 70, 2) := by decide +kernel
theorem dX7_bow_41 : decode cX7_bow 41 = .ok (.goto 4, 3) := by decide +kernel
theorem dX7_bow_44 : decode cX7_bow 44 = .ok (.iload_n 1, 1) := by decide +kernel
theorem dX7_bow_45 : decode cX7_bow 45 = .ok (.ireturn, 1) := by decide +kernel
theorem dX7_as_0 : decode cX7_as 0 = .ok (.aload_n 0, 1) := by decide +kernel
theorem dX7_as_1 : decode cX7_as 1 = .ok (.iload_n 1, 1) := by decide +kernel
theorem dX7_as_2 : decode cX7_as 2 = .ok (.invokevirtual 144, 3) := by decide +kernel
theorem dX7_as_5 : decode cX7_as 5 = .ok (.ifCond .eq 9, 3) := by decide +kernel
theorem dX7_as_8 : decode cX7_as 8 = .ok (.aload_n 0, 1) := by decide +kernel
theorem dX7_as_9 : decode cX7_as 9 = .ok (.iconst (-1), 1) := by decide +kernel
theorem dX7_as_10 : decode cX7_as 10 = .ok (.invokevirtual 91, 3) := by decide +kernel
theorem dX7_as_13 : decode cX7_as 13 = .ok (.ireturn, 1) := by decide +kernel
theorem dX7_as_14 : decode cX7_as 14 = .ok (.iload_n 2, 1) := by decide +kernel
theorem dX7_as_15 : decode cX7_as 15 = .ok (.i2l, 1) := by decide +kernel
theorem dX7_as_16 : decode cX7_as 16 = .ok (.lconst 0, 1) := by decide +kernel
theorem dX7_as_17 : decode cX7_as 17 = .ok (.ldc2_w 95, 3) := by decide +kernel
theorem dX7_as_20 : decode cX7_as 20 = .ok (.invokestatic 97, 3) := by decide +kernel
theorem dX7_as_23 : decode cX7_as 23 = .ok (.ifCond .ne 10, 3) := by decide +kernel
theorem dX7_as_26 : decode cX7_as 26 = .ok (.aload_n 0, 1) := by decide +kernel
theorem dX7_as_27 : decode cX7_as 27 = .ok (.bipush (-2), 2) := by decide +kernel
theorem dX7_as_29 : decode cX7_as 29 = .ok (.invokevirtual 91, 3) := by decide +kernel
theorem dX7_as_32 : decode cX7_as 32 = .ok (.ireturn, 1) := by decide +kernel
theorem dX7_as_33 : decode cX7_as 33 = .ok (.aload_n 0, 1) := by decide +kernel
theorem dX7_as_34 : decode cX7_as 34 = .ok (.getfield 7, 3) := by decide +kernel
theorem dX7_as_37 : decode cX7_as 37 = .ok (.iload_n 1, 1) := by decide +kernel
theorem dX7_as_38 : decode cX7_as 38 = .ok (.iaload, 1) := by decide +kernel
theorem dX7_as_39 : decode cX7_as 39 = .ok (.iload_n 2, 1) := by decide +kernel
theorem dX7_as_40 : decode cX7_as 40 = .ok (.if_icmp .lt 11, 3) := by decide +kernel
theorem dX7_as_43 : decode cX7_as 43 = .ok (.aload_n 0, 1) := by decide +kernel
theorem dX7_as_44 : decode cX7_as 44 = .ok (.iconst 1, 1) := by decide +kernel
theorem dX7_as_45 : decode cX7_as 45 = .ok (.invokevirtual 91, 3) := by decide +kernel
theorem dX7_as_48 : decode cX7_as 48 = .ok (.goto 8, 3) := by decide +kernel
theorem dX7_as_51 : decode cX7_as 51 = .ok (.aload_n 0, 1) := by decide +kernel
theorem dX7_as_52 : decode cX7_as 52 = .ok (.iconst 2, 1) := by decide +kernel
theorem dX7_as_53 : decode cX7_as 53 = .ok (.invokevirtual 101, 3) := by decide +kernel
theorem dX7_as_56 : decode cX7_as 56 = .ok (.ireturn, 1) := by decide +kernel
theorem dX7_trace_0 : decode cX7_trace 0 = .ok (.aload_n 0, 1) := by decide +kernel
theorem dX7_trace_1 : decode cX7_trace 1 = .ok (.getfield 229, 3) := by decide +kernel
theorem dX7_trace_4 : decode cX7_trace 4 = .ok (.ireturn, 1) := by decide +kernel
theorem dX7_fault_0 : decode cX7_fault 0 = .ok (.aload_n 0, 1) := by decide +kernel
theorem dX7_fault_1 : decode cX7_fault 1 = .ok (.getfield 79, 3) := by decide +kernel
theorem dX7_fault_4 : decode cX7_fault 4 = .ok (.ireturn, 1) := by decide +kernel
theorem dX7_many_0 : decode cX7_many 0 = .ok (.iload_n 1, 1) := by decide +kernel
theorem dX7_many_1 : decode cX7_many 1 = .ok (.tableswitch 42 0 2 #[27, 32, 37], 27) := by decide +kernel
theorem dX7_many_28 : decode cX7_many 28 = .ok (.aload_n 0, 1) := by decide +kernel
theorem dX7_many_29 : decode cX7_many 29 = .ok (.getfield 108, 3) := by decide +kernel
theorem dX7_many_32 : decode cX7_many 32 = .ok (.ireturn, 1) := by decide +kernel
theorem dX7_many_33 : decode cX7_many 33 = .ok (.aload_n 0, 1) := by decide +kernel
theorem dX7_many_34 : decode cX7_many 34 = .ok (.getfield 138, 3) := by decide +kernel
theorem dX7_many_37 : decode cX7_many 37 = .ok (.ireturn, 1) := by decide +kernel
theorem dX7_many_38 : decode cX7_many 38 = .ok (.aload_n 0, 1) := by decide +kernel
theorem dX7_many_39 : decode cX7_many 39 = .ok (.getfield 141, 3) := by decide +kernel
theorem dX7_many_42 : decode cX7_many 42 = .ok (.ireturn, 1) := by decide +kernel
theorem dX7_many_43 : decode cX7_many 43 = .ok (.bipush (-2), 2) := by decide +kernel
theorem dX7_many_45 : decode cX7_many 45 = .ok (.ireturn, 1) := by decide +kernel
end
section
/-! ===== CORE: a world as a memory of ints: regions, rows of the machine over it, calls, ends ===== -/
abbrev xM : Type := Nat → Nat → Int32
def xu (μ : xM) (k j : Nat) (v : Int32) : xM := fun a => if a = k then upd (μ a) j v else μ a
theorem xu_at (μ : xM) (k j : Nat) (v : Int32) : xu μ k j v k = upd (μ k) j v := by simp [xu]
theorem xu_ne {μ : xM} {k j a : Nat} {v : Int32} (h : a ≠ k) : xu μ k j v a = μ a := by simp [xu, h]
def xcp (μ : xM) (k0 k1 sp dp n : Nat) : xM := fun a => if a = k1 then va_cpy (μ k0) (μ k1) sp dp n else μ a
abbrev xG : Type := va_G × (Nat → ClassId)
abbrev xQ : Type := (Nat × Nat) ⊕ ((Nat × Nat × (Nat → Nat)) ⊕ (Nat × Nat × (Nat → Option Nat)))
abbrev xH : Type := Nat → xQ
def xf (ptr : Nat → Option Nat) (ad : Nat → Nat) (r : Nat → Int32) (j : Nat) : Value := match ptr j with
  | some k => .ref (ad k)
  | none => .int (r j)
def xfs (ptr : Nat → Option Nat) (ad : Nat → Nat) (r : Nat → Int32) (n : Nat) : List Value := (List.range n).map (xf ptr ad r)
def xe (S : xH) (G : xG) (ad : Nat → Nat) (μ : xM) (k : Nat) : va_E := match S k with
  | .inl a => .inl (G.2 a.1, a.2, .inl (μ k))
  | .inr (.inl a) => .inl (G.2 a.1, a.2.1, .inr (.inr (.inr (.inr (fun i => some (ad (a.2.2 i)))))))
  | .inr (.inr a) => .inr (a.1, xfs a.2.2 ad (μ k) a.2.1)
def xW (S : xH) (N : Nat) (G : xG) (ad : Nat → Nat) (μ : xM) : va_W := (List.range N).map fun k => (ad k, xe S G ad μ k)
theorem xW_get {S : xH} {N : Nat} {G : xG} {ad : Nat → Nat} {μ : xM} {k : Nat} (hk : k < N) : (xW S N G ad μ)[k]? = some (ad k, xe S G ad μ k) := by
  simp [xW, hk]
theorem xe_same {S : xH} {G : xG} {ad : Nat → Nat} {μ μ' : xM} {k : Nat} (h : μ k = μ' k) : xe S G ad μ k = xe S G ad μ' k := by
  unfold xe
  rw [h]
theorem xW_set {S : xH} {N : Nat} {G : xG} {ad : Nat → Nat} {μ μ' : xM} {k : Nat} {e : va_E} (hk : k < N) (he : xe S G ad μ' k = e) (ho : ∀ a, a ≠ k → μ' a = μ a) : (xW S N G ad μ).set k (ad k, e) = xW S N G ad μ' := by
  apply List.ext_getElem?
  intro i
  rw [List.getElem?_set]
  by_cases hi : k = i
  · subst hi
    rw [if_pos rfl, xW_get hk, he, if_pos (by simp [xW, hk])]
  · rw [if_neg hi]
    by_cases h2 : i < N
    · rw [xW_get h2, xW_get h2, xe_same (ho i (fun q => hi q.symm)).symm]
    · rw [List.getElem?_eq_none (by simp [xW]; omega), List.getElem?_eq_none (by simp [xW]; omega)]
theorem xf_i {ptr : Nat → Option Nat} {ad : Nat → Nat} {r : Nat → Int32} {j : Nat} (h : ptr j = none) : xf ptr ad r j = .int (r j) := by
  unfold xf
  rw [h]
theorem xf_r {ptr : Nat → Option Nat} {ad : Nat → Nat} {r : Nat → Int32} {j k : Nat} (h : ptr j = some k) : xf ptr ad r j = .ref (ad k) := by
  unfold xf
  rw [h]
theorem xfs_get {ptr : Nat → Option Nat} {ad : Nat → Nat} {r : Nat → Int32} {n j : Nat} (h : j < n) : (xfs ptr ad r n)[j]? = some (xf ptr ad r j) := by
  simp [xfs, h]
theorem xfs_set {ptr : Nat → Option Nat} {ad : Nat → Nat} {r : Nat → Int32} {n j : Nat} {v : Int32} (h : ptr j = none) : (xfs ptr ad r n).set j (.int v) = xfs ptr ad (upd r j v) n := by
  apply List.ext_getElem?
  intro i
  rw [List.getElem?_set]
  by_cases hi : j = i
  · subst hi
    rw [if_pos rfl]
    by_cases h2 : j < n
    · rw [if_pos (by simp [xfs, h2]), xfs_get h2, xf_i h]
      simp [upd]
    · rw [if_neg (by simp [xfs]; omega), List.getElem?_eq_none (by simp [xfs]; omega)]
  · rw [if_neg hi]
    by_cases h2 : i < n
    · rw [xfs_get h2, xfs_get h2]
      unfold xf
      cases ptr i with
      | some k => rfl
      | none =>
        show some (Value.int (r i)) = some (Value.int (upd r j v i))
        unfold upd
        rw [if_neg (fun q => hi (Eq.symm q))]
    · rw [List.getElem?_eq_none (by simp [xfs]; omega), List.getElem?_eq_none (by simp [xfs]; omega)]
def xR (N : Nat) (ad : Nat → Nat) : Nat → Prop := fun q => ∃ k, k < N ∧ ad k = q
def xI (N : Nat) (ad : Nat → Nat) : Prop := ∀ i j, i < N → j < N → ad i = ad j → i = j
theorem xW_lt {S : xH} {N : Nat} {G : xG} {ad : Nat → Nat} {μ : xM} {i : Nat} {q : Nat × va_E} (h : (xW S N G ad μ)[i]? = some q) : i < N ∧ q.1 = ad i := by
  have h1 : i < N := by
    have := (List.getElem?_eq_some_iff.mp h).1
    simpa [xW] using this
  rw [xW_get h1] at h
  exact ⟨h1, by rw [← Option.some.inj h]⟩
theorem xW_D {S : xH} {N : Nat} {G : xG} {ad : Nat → Nat} {μ : xM} (h : xI N ad) : va_D (xR N ad) (xW S N G ad μ) := by
  refine ⟨fun i j p q hi hj e => ?_, fun k q hk => ?_⟩
  · obtain ⟨h1, e1⟩ := xW_lt hi
    obtain ⟨h2, e2⟩ := xW_lt hj
    exact h i j h1 h2 (by rw [← e1, ← e2, e])
  · obtain ⟨h1, e1⟩ := xW_lt hk
    exact ⟨k, h1, e1.symm⟩
def xT (G : xG) : List (ClassId × FieldType) := [(G.2 0, .int), (G.2 1, .boolean), (G.2 2, .object RX2), (G.2 3, .object RX3)]
/-- what holds of the machine all through a method's body -/
def xC (S : xH) (N : Nat) (G : xG) (ad : Nat → Nat) (own : String) (cc : ByteArray) (nL : Nat) (p : Program) (m : MethodId) (c : Code) (s : State) (args : Array Value) : Prop :=
  CallFix p m c cc nL s args xw_all own ∧ va_K G.1 vwCl (xT G) s ∧ xw_NW s ∧ xI N ad
/-- what the heap holds -/
def xS (S : xH) (N : Nat) (G : xG) (ad : Nat → Nat) (s : State) (μ : xM) (H : Heap) (locs : List Loc) : Prop :=
  va_P G.1 vwCl (xW S N G ad μ) H ∧ va_S (xR N ad) s.heap H locs
def xfd (own : String) (index ci n j : Nat) : Prop := ∃ (C : String) (T : u_T), vwCl[ci]? = some (C, T, n) ∧ (∀ w ∈ u_ws C T n, w ∈ xw_all) ∧ j < n ∧ (T j).1 = C ∧ (Cond.fieldLink own index C (T j).2.1 (T j).2.2.1 ∈ xw_all ∨ ∃ host, Cond.fieldLinkNest own index C (T j).2.1 (T j).2.2.1 host ∈ xw_nest)
def xfp (own : String) (index ci n j : Nat) (ty : FieldType) : Prop := ∃ (C : String) (T : u_T) (ty0 : Nat → FieldType), vwCl[ci]? = some (C, T, n) ∧ (∀ w ∈ u_ws C T n, w ∈ xw_all) ∧ j < n ∧ (T j).1 = C ∧ (Cond.fieldLink own index C (T j).2.1 (T j).2.2.1 ∈ xw_all ∨ ∃ host, Cond.fieldLinkNest own index C (T j).2.1 (T j).2.2.1 host ∈ xw_nest) ∧
  (∀ k, k < n → parseFieldDescriptor (T k).2.2.1 = some (ty0 k)) ∧ (∀ a, a < n → ∀ b, b < n → a ≠ b → (T a).2.1 ≠ (T b).2.1) ∧ (T j).2.2.2 = false ∧ parseFieldDescriptor (T j).2.2.1 = some ty
def xb (v : Int32) : Prop := v = 0 ∨ v = 1
theorem xb_0 : xb 0 := Or.inl rfl
theorem xb_1 : xb 1 := Or.inr rfl
theorem xb_n {v : Int32} (h : xb v) : narrow .boolean (.int v) = .int v := by
  rcases h with rfl | rfl <;> decide
theorem xb_f {v : Int32} (h : xb v) : fits .boolean (.int v) = true := by
  rcases h with rfl | rfl <;> decide
theorem xb_v {v : Int32} (h : xb v) : vp_nar .boolean v = v := by
  unfold vp_nar
  rw [xb_n h]
theorem vp_lt {i : Int32} {n : Nat} (h : vp_in i n) : i.toNatClampNeg < n := by
  unfold vp_in at h
  rcases Nat.lt_or_ge i.toNatClampNeg n with q | q
  · exact q
  · exact absurd (Or.inr q) h
def rmo (f lo : Nat) : Room := { frames := f, cells := 0, slots := 0, locals := lo }
def xPre (S : xH) (N : Nat) (G : xG) (ad : Nat → Nat) (μ : xM) : State → Prop := fun U => va_P G.1 vwCl (xW S N G ad μ) U.heap ∧ va_K G.1 vwCl (xT G) U ∧ xw_NW U
def xB (S : xH) (N : Nat) (G : xG) (ad : Nat → Nat) (u : xM) (t : State) : Prop := va_P G.1 vwCl (xW S N G ad u) t.heap
def xQi (S : xH) (N : Nat) (G : xG) (ad : Nat → Nat) (K : Int32 → xM → Prop) : Array Value → State → Outcome → State → Prop := va_Qi K (xB S N G ad) (xR N ad)
def xQl (S : xH) (N : Nat) (G : xG) (ad : Nat → Nat) (K : Int64 → xM → Prop) : Array Value → State → Outcome → State → Prop := va_Ql K (xB S N G ad) (xR N ad)
def xQv (S : xH) (N : Nat) (G : xG) (ad : Nat → Nat) (K : xM → Prop) : Array Value → State → Outcome → State → Prop := va_Qv K (xB S N G ad) (xR N ad)
theorem xw_NW.same {u U : State} (h : u.vm = U.vm) (hN : xw_NW u) : xw_NW U := by
  intro w hw
  have h1 := hN w hw
  have h2 := (List.mem_filter.mp hw).2
  cases w <;> first
    | exact va_Nw.same rfl h h1
    | (exfalso; revert h2; simp [xw_isN]; done)
theorem xPre_blind {S : xH} {N : Nat} {G : xG} {ad : Nat → Nat} {μ : xM} {av : List Value} : FrameBlind (va_Pc av (xPre S N G ad μ)) := by
  intro a U g mk h
  obtain ⟨h1, hP, hK, hN⟩ := h
  exact ⟨h1, hP, va_K.moved (u := U) (U := U.calling g mk a) (Vm.Alike.refl U.vm) hK, hN.same (u := U) (U := U.calling g mk a) rfl⟩
section XR
variable {p : Program} {l : Launch} {e : Env} {R : Room} {s : State} {m : MethodId} {args : Array Value} {below : List Frame} {meth : Method} {c : Code} {H : Heap} {locs : List Loc} {cells slots : Nat} {Q : State → Prop}
variable {cc : ByteArray} {pc : Nat} {ls : Array Slot} {rest : List Value} {S : xH} {N : Nat} {G : xG} {ad : Nat → Nat} {μ : xM} {own : String} {nL : Nat}
theorem x_obj {k ci n : Nat} {ptr : Nat → Option Nat} (hs : k < N ∧ S k = .inr (.inr (ci, n, ptr))) : (xW S N G ad μ)[k]? = some (ad k, .inr (ci, xfs ptr ad (μ k) n)) := by
  rw [xW_get hs.1]
  unfold xe
  rw [hs.2]
theorem x_arr {k t n : Nat} (hs : k < N ∧ S k = .inl (t, n)) : (xW S N G ad μ)[k]? = some (ad k, .inl (G.2 t, n, .inl (μ k))) := by
  rw [xW_get hs.1]
  unfold xe
  rw [hs.2]
theorem x_refs {k t n : Nat} {f : Nat → Nat} (hs : k < N ∧ S k = .inr (.inl (t, n, f))) : (xW S N G ad μ)[k]? = some (ad k, .inl (G.2 t, n, .inr (.inr (.inr (.inr (fun i => some (ad (f i)))))))) := by
  rw [xW_get hs.1]
  unfold xe
  rw [hs.2]
theorem x_get (X : xC S N G ad own cc nL p m c s args) (M : xS S N G ad s μ H locs) {k ci n : Nat} {ptr : Nat → Option Nat} (hs : k < N ∧ S k = .inr (.inr (ci, n, ptr))) {index j : Nat} (hf : xfd own index ci n j) (hdg : decode cc pc = .ok (.getfield index, 3))
    (kk : W p l e R s m args below meth c H locs cells slots Q (F0 m (pc + 3) ls (xf ptr ad (μ k) j :: rest))) : W p l e R s m args below meth c H locs cells slots Q (F0 m pc ls (.ref (ad k) :: rest)) := by
  obtain ⟨C, T, h1, hin, hj, hT, hl⟩ := hf
  rcases hl with hl | ⟨host, hl⟩
  · exact va_get X.1.1 X.1.2.1 X.1.2.2.2.2 hin X.1.2.2.2.1 X.2.1 M.1 k (x_obj hs) h1 j hj (X.1.2.2.2.2 _ hl) (fun x h9 => by rw [← hT]; rw [hT] at h9 ⊢; exact h9) (xfs_get hj) hdg kk
  · exact va_getN X.1.1 X.1.2.1 X.1.2.2.2.2 hin X.1.2.2.2.1 X.2.1 M.1 k (x_obj hs) h1 j hj (va_Nw.use rfl (X.2.2.1 _ hl)) (fun x h9 => by rw [← hT]; rw [hT] at h9 ⊢; exact h9) (xfs_get hj) hdg kk
theorem x_getI (X : xC S N G ad own cc nL p m c s args) (M : xS S N G ad s μ H locs) {k ci n : Nat} {ptr : Nat → Option Nat} (hs : k < N ∧ S k = .inr (.inr (ci, n, ptr))) {index j : Nat} (hf : xfd own index ci n j) (hp : ptr j = none) (hdg : decode cc pc = .ok (.getfield index, 3))
    (kk : W p l e R s m args below meth c H locs cells slots Q (F0 m (pc + 3) ls (.int (μ k j) :: rest))) : W p l e R s m args below meth c H locs cells slots Q (F0 m pc ls (.ref (ad k) :: rest)) :=
  x_get X M hs hf hdg (by rw [xf_i hp]; exact kk)
theorem x_getR (X : xC S N G ad own cc nL p m c s args) (M : xS S N G ad s μ H locs) {k ci n : Nat} {ptr : Nat → Option Nat} (hs : k < N ∧ S k = .inr (.inr (ci, n, ptr))) {index j r : Nat} (hf : xfd own index ci n j) (hp : ptr j = some r) (hdg : decode cc pc = .ok (.getfield index, 3))
    (kk : W p l e R s m args below meth c H locs cells slots Q (F0 m (pc + 3) ls (.ref (ad r) :: rest))) : W p l e R s m args below meth c H locs cells slots Q (F0 m pc ls (.ref (ad k) :: rest)) :=
  x_get X M hs hf hdg (by rw [xf_r hp]; exact kk)
theorem x_put (X : xC S N G ad own cc nL p m c s args) (M : xS S N G ad s μ H locs) {k ci n : Nat} {ptr : Nat → Option Nat} (hs : k < N ∧ S k = .inr (.inr (ci, n, ptr))) {index j : Nat} {ty : FieldType} (hf : xfp own index ci n j ty) (hp : ptr j = none) {v : Int32} (hn : narrow ty (.int v) = .int v) (hfit : fits ty (.int v) = true) (hdg : decode cc pc = .ok (.putfield index, 3))
    (kk : ∀ (u : xM) (H1 : Heap) (locs1 : List Loc), u = xu μ k j v → xS S N G ad s u H1 locs1 → W p l e R s m args below meth c H1 locs1 cells slots Q (F0 m (pc + 3) ls rest)) : W p l e R s m args below meth c H locs cells slots Q (F0 m pc ls (.int v :: .ref (ad k) :: rest)) := by
  obtain ⟨C, T, ty0, h1, hin, hj, hT, hl, hty, hnm, hfin, hd⟩ := hf
  have hlen : j < (xfs ptr ad (μ k) n).length := by simpa [xfs] using hj
  have hW : (xW S N G ad μ).set k (ad k, .inr (ci, (xfs ptr ad (μ k) n).set j (.int v))) = xW S N G ad (xu μ k j v) := by
    refine xW_set hs.1 ?_ (fun a ha => xu_ne ha)
    unfold xe
    rw [hs.2, xfs_set hp, xu_at]
  rcases hl with hl | ⟨host, hl⟩
  · refine va_put X.1.1 X.1.2.1 X.1.2.2.2.2 hin ty0 hty hnm X.1.2.2.2.1 X.2.1 M.1 (xW_D X.2.2.2) M.2 k (x_obj hs) h1 j hj (X.1.2.2.2.2 _ hl) (fun x h9 => by rw [hT] at h9; exact h9) hfin hd hn hfit hlen hdg (fun H1 locs1 hP hD hS => ?_)
    rw [hW] at hP
    exact kk _ H1 locs1 rfl ⟨hP, hS⟩
  · refine va_putN X.1.1 X.1.2.1 X.1.2.2.2.2 hin ty0 hty hnm X.1.2.2.2.1 X.2.1 M.1 (xW_D X.2.2.2) M.2 k (x_obj hs) h1 j hj (va_Nw.use rfl (X.2.2.1 _ hl)) (fun x h9 => by rw [hT] at h9; exact h9) hfin hd hn hfit hlen hdg (fun H1 locs1 hP hD hS => ?_)
    rw [hW] at hP
    exact kk _ H1 locs1 rfl ⟨hP, hS⟩
theorem x_putI (X : xC S N G ad own cc nL p m c s args) (M : xS S N G ad s μ H locs) {k ci n : Nat} {ptr : Nat → Option Nat} (hs : k < N ∧ S k = .inr (.inr (ci, n, ptr))) {index j : Nat} (hf : xfp own index ci n j .int) (hp : ptr j = none) {v : Int32} (hdg : decode cc pc = .ok (.putfield index, 3))
    (kk : ∀ (u : xM) (H1 : Heap) (locs1 : List Loc), u = xu μ k j v → xS S N G ad s u H1 locs1 → W p l e R s m args below meth c H1 locs1 cells slots Q (F0 m (pc + 3) ls rest)) : W p l e R s m args below meth c H locs cells slots Q (F0 m pc ls (.int v :: .ref (ad k) :: rest)) :=
  x_put X M hs hf hp rfl rfl hdg kk
theorem x_putZ (X : xC S N G ad own cc nL p m c s args) (M : xS S N G ad s μ H locs) {k ci n : Nat} {ptr : Nat → Option Nat} (hs : k < N ∧ S k = .inr (.inr (ci, n, ptr))) {index j : Nat} (hf : xfp own index ci n j .boolean) (hp : ptr j = none) {v : Int32} (hv : xb v) (hdg : decode cc pc = .ok (.putfield index, 3))
    (kk : ∀ (u : xM) (H1 : Heap) (locs1 : List Loc), u = xu μ k j v → xS S N G ad s u H1 locs1 → W p l e R s m args below meth c H1 locs1 cells slots Q (F0 m (pc + 3) ls rest)) : W p l e R s m args below meth c H locs cells slots Q (F0 m pc ls (.int v :: .ref (ad k) :: rest)) :=
  x_put X M hs hf hp (xb_n hv) (xb_f hv) hdg kk
theorem x_ild (X : xC S N G ad own cc nL p m c s args) (M : xS S N G ad s μ H locs) {k n : Nat} (hs : k < N ∧ S k = .inl (0, n)) {i : Int32} (hi : vp_in i n) (hdg : decode cc pc = .ok (.iaload, 1))
    (kk : W p l e R s m args below meth c H locs cells slots Q (F0 m (pc + 1) ls (.int (μ k i.toNatClampNeg) :: rest))) : W p l e R s m args below meth c H locs cells slots Q (F0 m pc ls (.int i :: .ref (ad k) :: rest)) :=
  va_iald X.1.1 X.1.2.1 X.2.1 M.1 k 0 (x_arr hs) rfl hi hdg kk
theorem x_zld (X : xC S N G ad own cc nL p m c s args) (M : xS S N G ad s μ H locs) {k n : Nat} (hs : k < N ∧ S k = .inl (1, n)) {i : Int32} (hi : vp_in i n) (hdg : decode cc pc = .ok (.baload, 1))
    (kk : W p l e R s m args below meth c H locs cells slots Q (F0 m (pc + 1) ls (.int (μ k i.toNatClampNeg) :: rest))) : W p l e R s m args below meth c H locs cells slots Q (F0 m pc ls (.int i :: .ref (ad k) :: rest)) :=
  va_zald X.1.1 X.1.2.1 X.2.1 M.1 k 1 (x_arr hs) rfl hi hdg kk
theorem x_aset {k t n j : Nat} {v : Int32} (hs : k < N ∧ S k = .inl (t, n)) : (xW S N G ad μ).set k (ad k, .inl (G.2 t, n, .inl (upd (μ k) j v))) = xW S N G ad (xu μ k j v) := by
  refine xW_set hs.1 ?_ (fun a ha => xu_ne ha)
  unfold xe
  rw [hs.2, xu_at]
theorem x_ist (X : xC S N G ad own cc nL p m c s args) (M : xS S N G ad s μ H locs) {k n : Nat} (hs : k < N ∧ S k = .inl (0, n)) {i v : Int32} (hi : vp_in i n) (hdg : decode cc pc = .ok (.iastore, 1))
    (kk : ∀ (u : xM) (H1 : Heap) (locs1 : List Loc), u = xu μ k i.toNatClampNeg v → xS S N G ad s u H1 locs1 → W p l e R s m args below meth c H1 locs1 cells slots Q (F0 m (pc + 1) ls rest)) : W p l e R s m args below meth c H locs cells slots Q (F0 m pc ls (.int v :: .int i :: .ref (ad k) :: rest)) := by
  refine va_iast X.1.1 X.1.2.1 X.2.1 M.1 (xW_D X.2.2.2) M.2 k 0 (x_arr hs) rfl hi hdg (fun H1 locs1 hP hD hS => ?_)
  rw [x_aset hs] at hP
  exact kk _ H1 locs1 rfl ⟨hP, hS⟩
theorem x_zst (X : xC S N G ad own cc nL p m c s args) (M : xS S N G ad s μ H locs) {k n : Nat} (hs : k < N ∧ S k = .inl (1, n)) {i v : Int32} (hi : vp_in i n) (hv : xb v) (hdg : decode cc pc = .ok (.bastore, 1))
    (kk : ∀ (u : xM) (H1 : Heap) (locs1 : List Loc), u = xu μ k i.toNatClampNeg v → xS S N G ad s u H1 locs1 → W p l e R s m args below meth c H1 locs1 cells slots Q (F0 m (pc + 1) ls rest)) : W p l e R s m args below meth c H locs cells slots Q (F0 m pc ls (.int v :: .int i :: .ref (ad k) :: rest)) := by
  refine va_zast X.1.1 X.1.2.1 X.2.1 M.1 (xW_D X.2.2.2) M.2 k 1 (x_arr hs) rfl hi hdg (fun H1 locs1 hP hD hS => ?_)
  rw [xb_v hv, x_aset hs] at hP
  exact kk _ H1 locs1 rfl ⟨hP, hS⟩
theorem x_ald (X : xC S N G ad own cc nL p m c s args) (M : xS S N G ad s μ H locs) {k t n : Nat} {f : Nat → Nat} {C : String} (hs : k < N ∧ S k = .inr (.inl (t, n, f))) (ht : (xT G)[t]? = some (G.2 t, .object C)) {i : Int32} (hi : vp_in i n) (hdg : decode cc pc = .ok (.aaload, 1))
    (kk : W p l e R s m args below meth c H locs cells slots Q (F0 m (pc + 1) ls (.ref (ad (f i.toNatClampNeg)) :: rest))) : W p l e R s m args below meth c H locs cells slots Q (F0 m pc ls (.int i :: .ref (ad k) :: rest)) :=
  va_aldq X.1.1 X.1.2.1 X.2.1 M.1 k t (x_refs hs) ht hi hdg kk
def xcy : Prop := Cond.native arraycopyName ∈ xw_all ∧ Cond.static arraycopyName ∈ xw_all ∧ Cond.initialized "java/lang/System" ∈ xw_all
theorem x_cpy {lv : List (Nat × Value)} (X : xC S N G ad own cc nL p m c s args) (M : xS S N G ad s μ H locs) (hl : lv_has ls nL lv) {index k0 k1 n0 n1 : Nat} (hlink : Cond.methodLink own index arraycopyName ∈ xw_all) (hcy : xcy) (hs0 : k0 < N ∧ S k0 = .inl (0, n0)) (hs1 : k1 < N ∧ S k1 = .inl (0, n1))
    {sp dp n : Int32} (h1 : ¬ sp < 0) (h2 : ¬ dp < 0) (h3 : ¬ n < 0) (h4 : sp.toNatClampNeg + n.toNatClampNeg ≤ n0) (h5 : dp.toNatClampNeg + n.toNatClampNeg ≤ n1)
    (hframes : 1 ≤ R.frames) (hlocals : (rest.map fun v => v.category).sum + (nativeFrameWords "java/lang/System" "arraycopy" 5 + 11) ≤ R.locals) (hdg : decode cc pc = .ok (.invokestatic index, 3))
    (kk : ∀ (u : xM) (H1 : Heap) (locs1 : List Loc), u = xcp μ k0 k1 sp.toNatClampNeg dp.toNatClampNeg n.toNatClampNeg → xS S N G ad s u H1 locs1 → W p l e R s m args below meth c H1 locs1 cells slots Q (F0 m (pc + 3) ls rest)) : W p l e R s m args below meth c H locs cells slots Q (F0 m pc ls (.int n :: .int dp :: .ref (ad k1) :: .int sp :: .ref (ad k0) :: rest)) := by
  refine va_copyi X.1.1 X.1.2.1 (X.1.2.2.1.trans hl.1.symm) X.1.2.2.2.1 (X.1.2.2.2.2 _ hlink) (X.1.2.2.2.2 _ hcy.1) (X.1.2.2.2.2 _ hcy.2.1) (X.1.2.2.2.2 _ hcy.2.2) X.2.1 M.1 (xW_D X.2.2.2) M.2 k0 k1 0 0 (x_arr hs0) (x_arr hs1) rfl rfl rfl h1 h2 h3 h4 h5 (fun i _ => rfl) hframes hlocals hdg (fun H1 locs1 hP hD hS => ?_)
  have hW : (xW S N G ad μ).set k1 (ad k1, .inl (G.2 0, n1, .inl (va_cpy (μ k0) (μ k1) sp.toNatClampNeg dp.toNatClampNeg n.toNatClampNeg))) = xW S N G ad (xcp μ k0 k1 sp.toNatClampNeg dp.toNatClampNeg n.toNatClampNeg) := by
    refine xW_set hs1.1 ?_ (fun a ha => by simp [xcp, ha])
    unfold xe
    rw [hs1.2]
    simp [xcp]
  rw [hW] at hP
  exact kk _ H1 locs1 rfl ⟨hP, hS⟩
/-! calls -/
def xcc (y : MethodName) (bytes : ByteArray) (maxL : Nat) (ret : Option FieldType) : Prop := Cond.code y bytes maxL ret ∈ xw_all ∧ Cond.initialized y.cls ∈ xw_all ∧ (y.cls ≠ "java/lang/invoke/MethodHandle" ∧ y.cls ≠ "java/lang/invoke/VarHandle")
def xcn (y : MethodName) (n : Nat) : Prop := (parseMethodDescriptor y.desc).map (fun d => d.parameters.length) = some n
def xcv (y : MethodName) : Prop := Cond.instanceMethod y ∈ xw_all ∧ Cond.selects y.cls y y ∈ xw_all
def xcl (own : String) (index : Nat) (y : MethodName) : Prop := Cond.methodLink own index y ∈ xw_all
def xcN (own : String) (index : Nat) (y : MethodName) : Prop := ∃ host, Cond.methodLinkNest own index y host ∈ xw_nest
theorem x_gw {y : MethodName} {bytes : ByteArray} {maxL : Nat} {ret : Option FieldType} (h : xcc y bytes maxL ret) : GoodIn xw_all (Cond.code y bytes maxL ret :: xw_all) :=
  xw_good [Cond.code y bytes maxL ret] rfl (fun w hw => by rw [List.mem_singleton.mp hw]; exact h.1)
theorem x_pre (X : xC S N G ad own cc nL p m c s args) (M : xS S N G ad s μ H locs) (av : List Value) : PreS s H (va_Pc av (xPre S N G ad μ)) av :=
  ⟨xPre_blind, fun U hU hW => ⟨rfl, by rw [hU]; exact M.1, va_K.moved hW.alike X.2.1, X.2.2.1.warm hW⟩⟩
theorem x_preV (X : xC S N G ad own cc nL p m c s args) (M : xS S N G ad s μ H locs) {k ci n : Nat} {ptr : Nat → Option Nat} {C : String} {T : u_T} (hs : k < N ∧ S k = .inr (.inr (ci, n, ptr))) (hc : vwCl[ci]? = some (C, T, n)) (As : List Value) : PreV s H C (ad k) (va_Pc (.ref (ad k) :: As) (xPre S N G ad μ)) As :=
  ⟨xPre_blind, va_recv X.2.1 M.1 hc (x_obj hs), fun U hU hW => ⟨rfl, by rw [hU]; exact M.1, va_K.moved hW.alike X.2.1, X.2.2.1.warm hW⟩⟩
variable {y : MethodName} {bytes : ByteArray} {maxL index n0 fr lo : Nat} {ret : Option FieldType} {Qc : Array Value → State → Outcome → State → Prop} {free : Addr → Prop} {As st : List Value} {lv : List (Nat × Value)}
/-- a nest mate's method of an object -/
theorem x_rVN (X : xC S N G ad own cc nL p m c s args) (M : xS S N G ad s μ H locs) {k ci n : Nat} {ptr : Nat → Option Nat} {T : u_T} (hM : Met l y (Cond.code y bytes maxL ret :: xw_all) (rmo fr lo) (va_Pc (.ref (ad k) :: As) (xPre S N G ad μ)) Qc 0 0 free) (hk : xcc y bytes maxL ret) (hv : xcv y) (hl : xcN own index y) (hn : xcn y n0)
    (hs : k < N ∧ S k = .inr (.inr (ci, n, ptr))) (hc : vwCl[ci]? = some (y.cls, T, n)) (hL : lv_has ls nL lv) (hR : (fr + 1 ≤ R.frames ∧ 8 + (maxL + 11) + lo ≤ R.locals) ∧ As.length = n0 ∧ (rest.map fun v => v.category).sum ≤ 8 ∧ cells ≤ R.cells ∧ slots ≤ R.slots) (hst : st = As.reverse ++ .ref (ad k) :: rest) (hdg : decode cc pc = .ok (.invokevirtual index, 3)) :
    va_Run p l e R s m args below meth c H locs cells slots 0 0 (F0 m pc ls st) rest (Qc (Value.ref (ad k) :: As).toArray) free := by
  obtain ⟨host, hl⟩ := hl
  exact va_runVN X.1 hM ⟨va_cnB n0 X.1.2.2.2.2 (x_gw hk) rfl rfl rfl (X.2.2.1 _ hl) (X.1.2.2.2.2 _ hk.2.1) ⟨hk.2.2.1, hk.2.2.2, hn⟩ hR.1, X.1.2.2.2.2 _ hv.1, X.1.2.2.2.2 _ hv.2⟩ (x_preV X M hs hc As) rfl hR.2.1 hL.1 hst (lv_room hR.2.2.1) hdg hR.2.2.2
/-- a method of an object of the own class, or a public one -/
theorem x_rV (X : xC S N G ad own cc nL p m c s args) (M : xS S N G ad s μ H locs) {k ci n : Nat} {ptr : Nat → Option Nat} {T : u_T} (hM : Met l y (Cond.code y bytes maxL ret :: xw_all) (rmo fr lo) (va_Pc (.ref (ad k) :: As) (xPre S N G ad μ)) Qc 0 0 free) (hk : xcc y bytes maxL ret) (hv : xcv y) (hl : xcl own index y) (hn : xcn y n0)
    (hs : k < N ∧ S k = .inr (.inr (ci, n, ptr))) (hc : vwCl[ci]? = some (y.cls, T, n)) (hL : lv_has ls nL lv) (hR : (fr + 1 ≤ R.frames ∧ 8 + (maxL + 11) + lo ≤ R.locals) ∧ As.length = n0 ∧ (rest.map fun v => v.category).sum ≤ 8 ∧ cells ≤ R.cells ∧ slots ≤ R.slots) (hst : st = As.reverse ++ .ref (ad k) :: rest) (hdg : decode cc pc = .ok (.invokevirtual index, 3)) :
    va_Run p l e R s m args below meth c H locs cells slots 0 0 (F0 m pc ls st) rest (Qc (Value.ref (ad k) :: As).toArray) free :=
  va_runV X.1 hM ⟨callB_of n0 X.1.2.2.2.2 (x_gw hk) rfl rfl rfl (X.1.2.2.2.2 _ hk.2.1) (X.1.2.2.2.2 _ hl) ⟨hk.2.2.1, hk.2.2.2, hn⟩ hR.1, X.1.2.2.2.2 _ hv.1, X.1.2.2.2.2 _ hv.2⟩ (x_preV X M hs hc As) rfl hR.2.1 hL.1 hst (lv_room hR.2.2.1) hdg hR.2.2.2
theorem x_rSN (X : xC S N G ad own cc nL p m c s args) (M : xS S N G ad s μ H locs) (hM : Met l y (Cond.code y bytes maxL ret :: xw_all) (rmo fr lo) (va_Pc As (xPre S N G ad μ)) Qc 0 0 free) (hk : xcc y bytes maxL ret) (hv : Cond.static y ∈ xw_all) (hl : xcN own index y) (hn : xcn y n0)
    (hL : lv_has ls nL lv) (hR : (fr + 1 ≤ R.frames ∧ 8 + (maxL + 11) + lo ≤ R.locals) ∧ As.length = n0 ∧ (rest.map fun v => v.category).sum ≤ 8 ∧ cells ≤ R.cells ∧ slots ≤ R.slots) (hst : st = As.reverse ++ rest) (hdg : decode cc pc = .ok (.invokestatic index, 3)) :
    va_Run p l e R s m args below meth c H locs cells slots 0 0 (F0 m pc ls st) rest (Qc As.toArray) free := by
  obtain ⟨host, hl⟩ := hl
  exact va_runSN X.1 hM ⟨va_cnB n0 X.1.2.2.2.2 (x_gw hk) rfl rfl rfl (X.2.2.1 _ hl) (X.1.2.2.2.2 _ hk.2.1) ⟨hk.2.2.1, hk.2.2.2, hn⟩ hR.1, X.1.2.2.2.2 _ hv, trivial⟩ (x_pre X M As) rfl hR.2.1 hL.1 hst (lv_room hR.2.2.1) hdg hR.2.2.2
theorem x_rS (X : xC S N G ad own cc nL p m c s args) (M : xS S N G ad s μ H locs) (hM : Met l y (Cond.code y bytes maxL ret :: xw_all) (rmo fr lo) (va_Pc As (xPre S N G ad μ)) Qc 0 0 free) (hk : xcc y bytes maxL ret) (hv : Cond.static y ∈ xw_all) (hl : xcl own index y) (hn : xcn y n0)
    (hL : lv_has ls nL lv) (hR : (fr + 1 ≤ R.frames ∧ 8 + (maxL + 11) + lo ≤ R.locals) ∧ As.length = n0 ∧ (rest.map fun v => v.category).sum ≤ 8 ∧ cells ≤ R.cells ∧ slots ≤ R.slots) (hst : st = As.reverse ++ rest) (hdg : decode cc pc = .ok (.invokestatic index, 3)) :
    va_Run p l e R s m args below meth c H locs cells slots 0 0 (F0 m pc ls st) rest (Qc As.toArray) free :=
  va_runS X.1 hM ⟨callB_of n0 X.1.2.2.2.2 (x_gw hk) rfl rfl rfl (X.1.2.2.2.2 _ hk.2.1) (X.1.2.2.2.2 _ hl) ⟨hk.2.2.1, hk.2.2.2, hn⟩ hR.1, X.1.2.2.2.2 _ hv⟩ (x_pre X M As) rfl hR.2.1 hL.1 hst (lv_room hR.2.2.1) hdg hR.2.2.2
variable {a : Array Value}
theorem x_ci {K : Int32 → xM → Prop} (hr : va_Run p l e R s m args below meth c H locs cells slots 0 0 (F0 m pc ls st) rest (xQi S N G ad K a) (xR N ad)) (M : xS S N G ad s μ H locs)
    (kk : ∀ (r : Int32) (u : xM) (H1 : Heap) (locs1 : List Loc), K r u → xS S N G ad s u H1 locs1 → W p l e R s m args below meth c H1 locs1 cells slots Q (F0 m (pc + 3) ls (.int r :: rest))) : W p l e R s m args below meth c H locs cells slots Q (F0 m pc ls st) :=
  va_calli hr M.2 (fun _ _ h => h) (fun _ h => h) (fun r u t H1 locs1 ht _ hw hB _ _ hS => kk r u H1 locs1 hw ⟨by rw [← ht]; exact hB, hS⟩)
theorem x_ciP {K : Int32 → Prop} (hr : va_Run p l e R s m args below meth c H locs cells slots 0 0 (F0 m pc ls st) rest (xQi S N G ad (fun r u => K r ∧ u = μ) a) (xR N ad)) (M : xS S N G ad s μ H locs)
    (kk : ∀ (r : Int32) (H1 : Heap) (locs1 : List Loc), K r → xS S N G ad s μ H1 locs1 → W p l e R s m args below meth c H1 locs1 cells slots Q (F0 m (pc + 3) ls (.int r :: rest))) : W p l e R s m args below meth c H locs cells slots Q (F0 m pc ls st) :=
  x_ci hr M (fun r u H1 locs1 h hM => kk r H1 locs1 h.1 (by rw [← h.2]; exact hM))
theorem x_cl {K : Int64 → xM → Prop} (hr : va_Run p l e R s m args below meth c H locs cells slots 0 0 (F0 m pc ls st) rest (xQl S N G ad K a) (xR N ad)) (M : xS S N G ad s μ H locs)
    (kk : ∀ (r : Int64) (u : xM) (H1 : Heap) (locs1 : List Loc), K r u → xS S N G ad s u H1 locs1 → W p l e R s m args below meth c H1 locs1 cells slots Q (F0 m (pc + 3) ls (.long r :: rest))) : W p l e R s m args below meth c H locs cells slots Q (F0 m pc ls st) :=
  va_calll hr M.2 (fun _ _ h => h) (fun _ h => h) (fun r u t H1 locs1 ht _ hw hB _ _ hS => kk r u H1 locs1 hw ⟨by rw [← ht]; exact hB, hS⟩)
theorem x_clP {K : Int64 → Prop} (hr : va_Run p l e R s m args below meth c H locs cells slots 0 0 (F0 m pc ls st) rest (xQl S N G ad (fun r u => K r ∧ u = μ) a) (xR N ad)) (M : xS S N G ad s μ H locs)
    (kk : ∀ (r : Int64) (H1 : Heap) (locs1 : List Loc), K r → xS S N G ad s μ H1 locs1 → W p l e R s m args below meth c H1 locs1 cells slots Q (F0 m (pc + 3) ls (.long r :: rest))) : W p l e R s m args below meth c H locs cells slots Q (F0 m pc ls st) :=
  x_cl hr M (fun r u H1 locs1 h hM => kk r H1 locs1 h.1 (by rw [← h.2]; exact hM))
theorem x_cv {K : xM → Prop} (hr : va_Run p l e R s m args below meth c H locs cells slots 0 0 (F0 m pc ls st) rest (xQv S N G ad K a) (xR N ad)) (M : xS S N G ad s μ H locs)
    (kk : ∀ (u : xM) (H1 : Heap) (locs1 : List Loc), K u → xS S N G ad s u H1 locs1 → W p l e R s m args below meth c H1 locs1 cells slots Q (F0 m (pc + 3) ls rest)) : W p l e R s m args below meth c H locs cells slots Q (F0 m pc ls st) :=
  va_callv hr M.2 (fun _ _ h => h) (fun _ h => h) (fun u t H1 locs1 ht _ hw hB _ _ hS => kk u H1 locs1 hw ⟨by rw [← ht]; exact hB, hS⟩)
/-! ends -/
theorem x_iret {K : Int32 → xM → Prop} (X : xC S N G ad own cc nL p m c s args) (M : xS S N G ad s μ H locs) (hr : meth.sig.returnType = some .int) (hlk : meth.locks = false) {v : Int32} (hdg : decode cc pc = .ok (.ireturn, 1)) (hq : K v μ) :
    W p l e R s m args below meth c H locs cells slots (MQ below (xQi S N G ad K) args s cells slots (xR N ad)) (F0 m pc ls [.int v]) :=
  W.iret X.1.1 X.1.2.1 hr (fun t ht _ => ⟨⟨v, μ, rfl, hq, by show va_P _ _ _ t.heap; rw [ht]; exact M.1⟩, M.2.F ht⟩) M.2.2.2 hdg hlk
theorem x_zret {K : Int32 → xM → Prop} (X : xC S N G ad own cc nL p m c s args) (M : xS S N G ad s μ H locs) (hr : meth.sig.returnType = some .boolean) (hlk : meth.locks = false) {v : Int32} (hv : xb v) (hdg : decode cc pc = .ok (.ireturn, 1)) (hq : K v μ) :
    W p l e R s m args below meth c H locs cells slots (MQ below (xQi S N G ad K) args s cells slots (xR N ad)) (F0 m pc ls [.int v]) :=
  W.zret X.1.1 X.1.2.1 hr (xb_n hv) (fun t ht _ => ⟨⟨v, μ, rfl, hq, by show va_P _ _ _ t.heap; rw [ht]; exact M.1⟩, M.2.F ht⟩) M.2.2.2 hdg hlk
theorem x_lret {K : Int64 → xM → Prop} (X : xC S N G ad own cc nL p m c s args) (M : xS S N G ad s μ H locs) (hr : meth.sig.returnType = some .long) (hlk : meth.locks = false) {v : Int64} (hdg : decode cc pc = .ok (.lreturn, 1)) (hq : K v μ) :
    W p l e R s m args below meth c H locs cells slots (MQ below (xQl S N G ad K) args s cells slots (xR N ad)) (F0 m pc ls [.long v]) :=
  W.lret X.1.1 X.1.2.1 hr (fun t ht _ => ⟨⟨v, μ, rfl, hq, by show va_P _ _ _ t.heap; rw [ht]; exact M.1⟩, M.2.F ht⟩) M.2.2.2 hdg hlk
theorem x_vret {K : xM → Prop} (X : xC S N G ad own cc nL p m c s args) (M : xS S N G ad s μ H locs) (hr : meth.sig.returnType = none) (hlk : meth.locks = false) (hdg : decode cc pc = .ok (.return_, 1)) (hq : K μ) :
    W p l e R s m args below meth c H locs cells slots (MQ below (xQv S N G ad K) args s cells slots (xR N ad)) (F0 m pc ls []) :=
  W.vret X.1.1 X.1.2.1 hr (fun t ht _ => ⟨⟨μ, rfl, hq, by show va_P _ _ _ t.heap; rw [ht]; exact M.1⟩, M.2.F ht⟩) M.2.2.2 hdg hlk
end XR
/-! a method's beginning -/
theorem x_ent {l : Launch} {S : xH} {N : Nat} {G : xG} {ad : Nat → Nat} {μ : xM} {y : MethodName} {own : String} {cc : ByteArray} {nL fr lo : Nat} {ret : Option FieldType} {av : List Value} {Qc : Array Value → State → Outcome → State → Prop} (hy : plainName y.cls = true) (ho : y.cls = own) (hI : xI N ad) (hlen : (lg_sl av).length ≤ nL)
    (body : ∀ (p : Program) (e : Env) (s : State) (m : MethodId) (args : Array Value) (below : List Frame) (meth : Method) (c : Code) (H : Heap) (locs : List Loc) (ls : Array Slot) (Q : State → Prop), xC S N G ad own cc nL p m c s args → meth.sig.returnType = ret → meth.locks = false → Q = MQ below Qc args s 0 0 (xR N ad) → xS S N G ad s μ H locs → lv_has ls nL (lv_args 0 av) → W p l e (rmo fr lo) s m args below meth c H locs 0 0 Q (F0 m 0 ls [])) :
    Met l y (Cond.code y cc nL ret :: xw_all) (rmo fr lo) (va_Pc av (xPre S N G ad μ)) Qc 0 0 (xR N ad) := by
  refine Met.ofW (cc := cc) (maxL := nL) (ret := ret) hy rfl ?_
  intro p e s m args below meth c s₁ B hml hv
  obtain ⟨rfl, hP, hK, hN⟩ := hv
  have hts := atoms_spec (ws := Cond.code y cc nL ret :: xw_all) B.pre
  have hown : s.vm.findClass own = some m.cls := by rw [← ho]; exact findClass_of_methodNamed B.named
  rw [lg_entry_eq]
  exact body p e s m _ below meth c s.heap [] _ _ ⟨⟨B.exec, B.bytes, hml, hown, fun w h => hts w (List.mem_cons_of_mem _ h)⟩, hK, hN, hI⟩ B.returns B.notSynchronized rfl ⟨hP, va_S.rf⟩ (lv_entry av hlen)
/-! loops and joints in the wp's own words -/
def xlp {σ : Type} (F : (σ → Prop) → σ → Prop) : Nat → σ → Prop
  | 0 => fun _ => False
  | n + 1 => F (xlp F n)
theorem xlp_w {σ : Type} {F : (σ → Prop) → σ → Prop} {n : Nat} {s : σ} (hf : xlp F n s) (P : σ → Prop) (h : ∀ again : σ → Prop, (∀ s, again s → P s) → ∀ s, F again s → P s) : P s := by
  have : ∀ n s, xlp F n s → P s := by
    intro n
    induction n with
    | zero => intro s h; exact h.elim
    | succ n ih => intro s hs; exact h _ ih s hs
  exact this n s hf
def xjn {α : Type} (J : α → Prop) (B : (α → Prop) → Prop) : Prop := B J
theorem xjn_w {α : Type} {J : α → Prop} {B : (α → Prop) → Prop} {goal : Prop} (hf : xjn J B) (P : α → Prop) (h1 : ∀ a, J a → P a) (h2 : ∀ J : α → Prop, (∀ a, J a → P a) → B J → goal) : goal := h2 J h1 hf
/-- a loop's law for the reckoning: d falls at each turn -/
theorem xlp_i {σ : Type} {F : (σ → Prop) → σ → Prop} (I : Nat → σ → Prop) (h : ∀ (d : Nat) (s : σ) (again : σ → Prop), I d s → (∀ (d' : Nat) (s' : σ), d' < d → I d' s' → again s') → F again s) : ∀ {n d : Nat} {s : σ}, I d s → d < n → xlp F n s := by
  intro n
  induction n with
  | zero => intro d s _ h2; exact absurd h2 (Nat.not_lt_zero _)
  | succ n ih =>
    intro d s h1 h2
    exact h d s _ h1 (fun d' s' hd hI => ih hI (by omega))
theorem xjn_i {α : Type} {J : α → Prop} {B : (α → Prop) → Prop} (P : α → Prop) (h1 : ∀ a, P a → J a) (h2 : ∀ J : α → Prop, (∀ a, P a → J a) → B J) : xjn J B := h2 J h1
end
section
theorem in_X1 : ∀ w ∈ u_ws RX1 TX1 5, w ∈ xw_all := by
  have h1 : ∀ w ∈ u_ws RX1 TX1 5, w ∈ lw_tbl := by decide +kernel
  have h2 : (u_ws RX1 TX1 5).all goodWord = true := by decide +kernel
  exact fun w hw => xw_of (h1 w hw) (List.all_eq_true.mp h2 w hw)
theorem in_X2 : ∀ w ∈ u_ws RX2 TX2 4, w ∈ xw_all := by
  have h1 : ∀ w ∈ u_ws RX2 TX2 4, w ∈ lw_tbl := by decide +kernel
  have h2 : (u_ws RX2 TX2 4).all goodWord = true := by decide +kernel
  exact fun w hw => xw_of (h1 w hw) (List.all_eq_true.mp h2 w hw)
theorem in_X3 : ∀ w ∈ u_ws RX3 TX3 5, w ∈ xw_all := by
  have h1 : ∀ w ∈ u_ws RX3 TX3 5, w ∈ lw_tbl := by decide +kernel
  have h2 : (u_ws RX3 TX3 5).all goodWord = true := by decide +kernel
  exact fun w hw => xw_of (h1 w hw) (List.all_eq_true.mp h2 w hw)
theorem in_X5 : ∀ w ∈ u_ws RX5 TX5 9, w ∈ xw_all := by
  have h1 : ∀ w ∈ u_ws RX5 TX5 9, w ∈ lw_tbl := by decide +kernel
  have h2 : (u_ws RX5 TX5 9).all goodWord = true := by decide +kernel
  exact fun w hw => xw_of (h1 w hw) (List.all_eq_true.mp h2 w hw)
theorem in_X6 : ∀ w ∈ u_ws RX6 TX6 5, w ∈ xw_all := by
  have h1 : ∀ w ∈ u_ws RX6 TX6 5, w ∈ lw_tbl := by decide +kernel
  have h2 : (u_ws RX6 TX6 5).all goodWord = true := by decide +kernel
  exact fun w hw => xw_of (h1 w hw) (List.all_eq_true.mp h2 w hw)
theorem in_X7 : ∀ w ∈ u_ws RX7 TX7 29, w ∈ xw_all := by
  have h1 : ∀ w ∈ u_ws RX7 TX7 29, w ∈ lw_tbl := by decide +kernel
  have h2 : (u_ws RX7 TX7 29).all goodWord = true := by decide +kernel
  exact fun w hw => xw_of (h1 w hw) (List.all_eq_true.mp h2 w hw)
theorem fd_X0_15 : xfd RX0 15 3 9 6 := ⟨RX5, TX5, rfl, in_X5, by decide, rfl, Or.inr ⟨"SaltSaints", xw_nof (xw_1 (List.mem_of_getElem? (i := 100) (by decide +kernel))) rfl⟩⟩
theorem fd_X0_33 : xfd RX0 33 3 9 0 := ⟨RX5, TX5, rfl, in_X5, by decide, rfl, Or.inr ⟨"SaltSaints", xw_nof (xw_1 (List.mem_of_getElem? (i := 89) (by decide +kernel))) rfl⟩⟩
theorem fd_X0_37 : xfd RX0 37 2 5 2 := ⟨RX3, TX3, rfl, in_X3, by decide, rfl, Or.inr ⟨"SaltSaints", xw_nof (xw_1 (List.mem_of_getElem? (i := 67) (by decide +kernel))) rfl⟩⟩
theorem fd_X0_49 : xfd RX0 49 2 5 3 := ⟨RX3, TX3, rfl, in_X3, by decide, rfl, Or.inr ⟨"SaltSaints", xw_nof (xw_1 (List.mem_of_getElem? (i := 72) (by decide +kernel))) rfl⟩⟩
theorem fd_X0_52 : xfd RX0 52 2 5 0 := ⟨RX3, TX3, rfl, in_X3, by decide, rfl, Or.inr ⟨"SaltSaints", xw_nof (xw_1 (List.mem_of_getElem? (i := 63) (by decide +kernel))) rfl⟩⟩
theorem fd_X0_56 : xfd RX0 56 3 9 1 := ⟨RX5, TX5, rfl, in_X5, by decide, rfl, Or.inr ⟨"SaltSaints", xw_nof (xw_1 (List.mem_of_getElem? (i := 91) (by decide +kernel))) rfl⟩⟩
theorem fd_X0_59 : xfd RX0 59 3 9 2 := ⟨RX5, TX5, rfl, in_X5, by decide, rfl, Or.inr ⟨"SaltSaints", xw_nof (xw_1 (List.mem_of_getElem? (i := 94) (by decide +kernel))) rfl⟩⟩
theorem fp_X1_24 : xfp RX1 24 0 5 4 .int := ⟨RX1, TX1, tyX1, rfl, in_X1, by decide, rfl, Or.inl (xw_of (xw_1 (List.mem_of_getElem? (i := 134) (by decide +kernel))) rfl), tyX1_ok, nmX1, rfl, tyX1_ok 4 (by decide)⟩
theorem fd_X1_24 : xfd RX1 24 0 5 4 := ⟨RX1, TX1, rfl, in_X1, by decide, rfl, Or.inl (xw_of (xw_1 (List.mem_of_getElem? (i := 134) (by decide +kernel))) rfl)⟩
theorem fd_X1_9 : xfd RX1 9 0 5 0 := ⟨RX1, TX1, rfl, in_X1, by decide, rfl, Or.inl (xw_of (xw_1 (List.mem_of_getElem? (i := 130) (by decide +kernel))) rfl)⟩
theorem fd_X1_15 : xfd RX1 15 0 5 1 := ⟨RX1, TX1, rfl, in_X1, by decide, rfl, Or.inl (xw_of (xw_1 (List.mem_of_getElem? (i := 131) (by decide +kernel))) rfl)⟩
theorem fd_X1_18 : xfd RX1 18 0 5 2 := ⟨RX1, TX1, rfl, in_X1, by decide, rfl, Or.inl (xw_of (xw_1 (List.mem_of_getElem? (i := 132) (by decide +kernel))) rfl)⟩
theorem fd_X1_21 : xfd RX1 21 0 5 3 := ⟨RX1, TX1, rfl, in_X1, by decide, rfl, Or.inl (xw_of (xw_1 (List.mem_of_getElem? (i := 133) (by decide +kernel))) rfl)⟩
theorem fp_X2_15 : xfp RX2 15 1 4 1 .boolean := ⟨RX2, TX2, tyX2, rfl, in_X2, by decide, rfl, Or.inl (xw_of (xw_1 (List.mem_of_getElem? (i := 32) (by decide +kernel))) rfl), tyX2_ok, nmX2, rfl, tyX2_ok 1 (by decide)⟩
theorem fp_X2_19 : xfp RX2 19 1 4 2 .int := ⟨RX2, TX2, tyX2, rfl, in_X2, by decide, rfl, Or.inl (xw_of (xw_1 (List.mem_of_getElem? (i := 34) (by decide +kernel))) rfl), tyX2_ok, nmX2, rfl, tyX2_ok 2 (by decide)⟩
theorem fp_X2_23 : xfp RX2 23 1 4 3 .int := ⟨RX2, TX2, tyX2, rfl, in_X2, by decide, rfl, Or.inl (xw_of (xw_1 (List.mem_of_getElem? (i := 36) (by decide +kernel))) rfl), tyX2_ok, nmX2, rfl, tyX2_ok 3 (by decide)⟩
theorem fd_X2_9 : xfd RX2 9 1 4 0 := ⟨RX2, TX2, rfl, in_X2, by decide, rfl, Or.inl (xw_of (xw_1 (List.mem_of_getElem? (i := 27) (by decide +kernel))) rfl)⟩
theorem fd_X2_15 : xfd RX2 15 1 4 1 := ⟨RX2, TX2, rfl, in_X2, by decide, rfl, Or.inl (xw_of (xw_1 (List.mem_of_getElem? (i := 32) (by decide +kernel))) rfl)⟩
theorem fd_X2_19 : xfd RX2 19 1 4 2 := ⟨RX2, TX2, rfl, in_X2, by decide, rfl, Or.inl (xw_of (xw_1 (List.mem_of_getElem? (i := 34) (by decide +kernel))) rfl)⟩
theorem fd_X2_23 : xfd RX2 23 1 4 3 := ⟨RX2, TX2, rfl, in_X2, by decide, rfl, Or.inl (xw_of (xw_1 (List.mem_of_getElem? (i := 36) (by decide +kernel))) rfl)⟩
theorem fp_X3_15 : xfp RX3 15 2 5 1 .int := ⟨RX3, TX3, tyX3, rfl, in_X3, by decide, rfl, Or.inl (xw_of (xw_1 (List.mem_of_getElem? (i := 64) (by decide +kernel))) rfl), tyX3_ok, nmX3, rfl, tyX3_ok 1 (by decide)⟩
theorem fp_X3_19 : xfp RX3 19 2 5 2 .int := ⟨RX3, TX3, tyX3, rfl, in_X3, by decide, rfl, Or.inl (xw_of (xw_1 (List.mem_of_getElem? (i := 66) (by decide +kernel))) rfl), tyX3_ok, nmX3, rfl, tyX3_ok 2 (by decide)⟩
theorem fp_X3_22 : xfp RX3 22 2 5 3 .int := ⟨RX3, TX3, tyX3, rfl, in_X3, by decide, rfl, Or.inl (xw_of (xw_1 (List.mem_of_getElem? (i := 70) (by decide +kernel))) rfl), tyX3_ok, nmX3, rfl, tyX3_ok 3 (by decide)⟩
theorem fp_X3_25 : xfp RX3 25 2 5 4 .boolean := ⟨RX3, TX3, tyX3, rfl, in_X3, by decide, rfl, Or.inl (xw_of (xw_1 (List.mem_of_getElem? (i := 74) (by decide +kernel))) rfl), tyX3_ok, nmX3, rfl, tyX3_ok 4 (by decide)⟩
theorem fd_X3_29 : xfd RX3 29 1 4 0 := ⟨RX2, TX2, rfl, in_X2, by decide, rfl, Or.inr ⟨"SaltSaints", xw_nof (xw_1 (List.mem_of_getElem? (i := 28) (by decide +kernel))) rfl⟩⟩
theorem fd_X3_9 : xfd RX3 9 2 5 0 := ⟨RX3, TX3, rfl, in_X3, by decide, rfl, Or.inl (xw_of (xw_1 (List.mem_of_getElem? (i := 60) (by decide +kernel))) rfl)⟩
theorem fd_X3_15 : xfd RX3 15 2 5 1 := ⟨RX3, TX3, rfl, in_X3, by decide, rfl, Or.inl (xw_of (xw_1 (List.mem_of_getElem? (i := 64) (by decide +kernel))) rfl)⟩
theorem fd_X3_25 : xfd RX3 25 2 5 4 := ⟨RX3, TX3, rfl, in_X3, by decide, rfl, Or.inl (xw_of (xw_1 (List.mem_of_getElem? (i := 74) (by decide +kernel))) rfl)⟩
theorem fd_X4_11 : xfd RX4 11 1 4 0 := ⟨RX2, TX2, rfl, in_X2, by decide, rfl, Or.inr ⟨"SaltSaints", xw_nof (xw_1 (List.mem_of_getElem? (i := 29) (by decide +kernel))) rfl⟩⟩
theorem fd_X5_11 : xfd RX5 11 3 9 0 := ⟨RX5, TX5, rfl, in_X5, by decide, rfl, Or.inl (xw_of (xw_1 (List.mem_of_getElem? (i := 87) (by decide +kernel))) rfl)⟩
theorem fp_X5_34 : xfp RX5 34 3 9 6 .int := ⟨RX5, TX5, tyX5, rfl, in_X5, by decide, rfl, Or.inl (xw_of (xw_1 (List.mem_of_getElem? (i := 99) (by decide +kernel))) rfl), tyX5_ok, nmX5, rfl, tyX5_ok 6 (by decide)⟩
theorem fp_X5_38 : xfp RX5 38 3 9 7 .int := ⟨RX5, TX5, tyX5, rfl, in_X5, by decide, rfl, Or.inl (xw_of (xw_1 (List.mem_of_getElem? (i := 102) (by decide +kernel))) rfl), tyX5_ok, nmX5, rfl, tyX5_ok 7 (by decide)⟩
theorem fp_X5_41 : xfp RX5 41 3 9 8 .int := ⟨RX5, TX5, tyX5, rfl, in_X5, by decide, rfl, Or.inl (xw_of (xw_1 (List.mem_of_getElem? (i := 104) (by decide +kernel))) rfl), tyX5_ok, nmX5, rfl, tyX5_ok 8 (by decide)⟩
theorem fd_X5_34 : xfd RX5 34 3 9 6 := ⟨RX5, TX5, rfl, in_X5, by decide, rfl, Or.inl (xw_of (xw_1 (List.mem_of_getElem? (i := 99) (by decide +kernel))) rfl)⟩
theorem fd_X5_50 : xfd RX5 50 2 5 0 := ⟨RX3, TX3, rfl, in_X3, by decide, rfl, Or.inr ⟨"SaltSaints", xw_nof (xw_1 (List.mem_of_getElem? (i := 61) (by decide +kernel))) rfl⟩⟩
theorem fd_X5_25 : xfd RX5 25 3 9 3 := ⟨RX5, TX5, rfl, in_X5, by decide, rfl, Or.inl (xw_of (xw_1 (List.mem_of_getElem? (i := 96) (by decide +kernel))) rfl)⟩
theorem fd_X5_18 : xfd RX5 18 3 9 1 := ⟨RX5, TX5, rfl, in_X5, by decide, rfl, Or.inl (xw_of (xw_1 (List.mem_of_getElem? (i := 90) (by decide +kernel))) rfl)⟩
theorem fd_X5_22 : xfd RX5 22 3 9 2 := ⟨RX5, TX5, rfl, in_X5, by decide, rfl, Or.inl (xw_of (xw_1 (List.mem_of_getElem? (i := 93) (by decide +kernel))) rfl)⟩
theorem fd_X5_41 : xfd RX5 41 3 9 8 := ⟨RX5, TX5, rfl, in_X5, by decide, rfl, Or.inl (xw_of (xw_1 (List.mem_of_getElem? (i := 104) (by decide +kernel))) rfl)⟩
theorem fd_X5_28 : xfd RX5 28 3 9 4 := ⟨RX5, TX5, rfl, in_X5, by decide, rfl, Or.inl (xw_of (xw_1 (List.mem_of_getElem? (i := 97) (by decide +kernel))) rfl)⟩
theorem fd_X5_82 : xfd RX5 82 2 5 2 := ⟨RX3, TX3, rfl, in_X3, by decide, rfl, Or.inr ⟨"SaltSaints", xw_nof (xw_1 (List.mem_of_getElem? (i := 69) (by decide +kernel))) rfl⟩⟩
theorem fd_X5_85 : xfd RX5 85 2 5 3 := ⟨RX3, TX3, rfl, in_X3, by decide, rfl, Or.inr ⟨"SaltSaints", xw_nof (xw_1 (List.mem_of_getElem? (i := 73) (by decide +kernel))) rfl⟩⟩
theorem fd_X5_31 : xfd RX5 31 3 9 5 := ⟨RX5, TX5, rfl, in_X5, by decide, rfl, Or.inl (xw_of (xw_1 (List.mem_of_getElem? (i := 98) (by decide +kernel))) rfl)⟩
theorem fd_X5_38 : xfd RX5 38 3 9 7 := ⟨RX5, TX5, rfl, in_X5, by decide, rfl, Or.inl (xw_of (xw_1 (List.mem_of_getElem? (i := 102) (by decide +kernel))) rfl)⟩
theorem fd_X5_119 : xfd RX5 119 1 4 0 := ⟨RX2, TX2, rfl, in_X2, by decide, rfl, Or.inr ⟨"SaltSaints", xw_nof (xw_1 (List.mem_of_getElem? (i := 31) (by decide +kernel))) rfl⟩⟩
theorem fd_X6_13 : xfd RX6 13 4 5 0 := ⟨RX6, TX6, rfl, in_X6, by decide, rfl, Or.inl (xw_of (xw_1 (List.mem_of_getElem? (i := 147) (by decide +kernel))) rfl)⟩
theorem fp_X6_32 : xfp RX6 32 4 5 3 .int := ⟨RX6, TX6, tyX6, rfl, in_X6, by decide, rfl, Or.inl (xw_of (xw_1 (List.mem_of_getElem? (i := 150) (by decide +kernel))) rfl), tyX6_ok, nmX6, rfl, tyX6_ok 3 (by decide)⟩
theorem fp_X6_36 : xfp RX6 36 4 5 4 .int := ⟨RX6, TX6, tyX6, rfl, in_X6, by decide, rfl, Or.inl (xw_of (xw_1 (List.mem_of_getElem? (i := 151) (by decide +kernel))) rfl), tyX6_ok, nmX6, rfl, tyX6_ok 4 (by decide)⟩
theorem fd_X6_21 : xfd RX6 21 4 5 1 := ⟨RX6, TX6, rfl, in_X6, by decide, rfl, Or.inl (xw_of (xw_1 (List.mem_of_getElem? (i := 148) (by decide +kernel))) rfl)⟩
theorem fd_X6_28 : xfd RX6 28 4 5 2 := ⟨RX6, TX6, rfl, in_X6, by decide, rfl, Or.inl (xw_of (xw_1 (List.mem_of_getElem? (i := 149) (by decide +kernel))) rfl)⟩
theorem fd_X6_71 : xfd RX6 71 3 9 6 := ⟨RX5, TX5, rfl, in_X5, by decide, rfl, Or.inr ⟨"SaltSaints", xw_nof (xw_1 (List.mem_of_getElem? (i := 101) (by decide +kernel))) rfl⟩⟩
theorem fd_X6_77 : xfd RX6 77 3 9 0 := ⟨RX5, TX5, rfl, in_X5, by decide, rfl, Or.inr ⟨"SaltSaints", xw_nof (xw_1 (List.mem_of_getElem? (i := 88) (by decide +kernel))) rfl⟩⟩
theorem fd_X6_81 : xfd RX6 81 2 5 0 := ⟨RX3, TX3, rfl, in_X3, by decide, rfl, Or.inr ⟨"SaltSaints", xw_nof (xw_1 (List.mem_of_getElem? (i := 62) (by decide +kernel))) rfl⟩⟩
theorem fd_X6_87 : xfd RX6 87 2 5 1 := ⟨RX3, TX3, rfl, in_X3, by decide, rfl, Or.inr ⟨"SaltSaints", xw_nof (xw_1 (List.mem_of_getElem? (i := 65) (by decide +kernel))) rfl⟩⟩
theorem fd_X6_90 : xfd RX6 90 2 5 2 := ⟨RX3, TX3, rfl, in_X3, by decide, rfl, Or.inr ⟨"SaltSaints", xw_nof (xw_1 (List.mem_of_getElem? (i := 68) (by decide +kernel))) rfl⟩⟩
theorem fd_X6_93 : xfd RX6 93 2 5 3 := ⟨RX3, TX3, rfl, in_X3, by decide, rfl, Or.inr ⟨"SaltSaints", xw_nof (xw_1 (List.mem_of_getElem? (i := 71) (by decide +kernel))) rfl⟩⟩
theorem fd_X6_96 : xfd RX6 96 2 5 4 := ⟨RX3, TX3, rfl, in_X3, by decide, rfl, Or.inr ⟨"SaltSaints", xw_nof (xw_1 (List.mem_of_getElem? (i := 75) (by decide +kernel))) rfl⟩⟩
theorem fp_X6_90 : xfp RX6 90 2 5 2 .int := ⟨RX3, TX3, tyX3, rfl, in_X3, by decide, rfl, Or.inr ⟨"SaltSaints", xw_nof (xw_1 (List.mem_of_getElem? (i := 68) (by decide +kernel))) rfl⟩, tyX3_ok, nmX3, rfl, tyX3_ok 2 (by decide)⟩
theorem fp_X6_93 : xfp RX6 93 2 5 3 .int := ⟨RX3, TX3, tyX3, rfl, in_X3, by decide, rfl, Or.inr ⟨"SaltSaints", xw_nof (xw_1 (List.mem_of_getElem? (i := 71) (by decide +kernel))) rfl⟩, tyX3_ok, nmX3, rfl, tyX3_ok 3 (by decide)⟩
theorem fp_X6_96 : xfp RX6 96 2 5 4 .boolean := ⟨RX3, TX3, tyX3, rfl, in_X3, by decide, rfl, Or.inr ⟨"SaltSaints", xw_nof (xw_1 (List.mem_of_getElem? (i := 75) (by decide +kernel))) rfl⟩, tyX3_ok, nmX3, rfl, tyX3_ok 4 (by decide)⟩
theorem fd_X6_106 : xfd RX6 106 3 9 1 := ⟨RX5, TX5, rfl, in_X5, by decide, rfl, Or.inr ⟨"SaltSaints", xw_nof (xw_1 (List.mem_of_getElem? (i := 92) (by decide +kernel))) rfl⟩⟩
theorem fd_X6_109 : xfd RX6 109 3 9 2 := ⟨RX5, TX5, rfl, in_X5, by decide, rfl, Or.inr ⟨"SaltSaints", xw_nof (xw_1 (List.mem_of_getElem? (i := 95) (by decide +kernel))) rfl⟩⟩
theorem fd_X6_116 : xfd RX6 116 3 9 7 := ⟨RX5, TX5, rfl, in_X5, by decide, rfl, Or.inr ⟨"SaltSaints", xw_nof (xw_1 (List.mem_of_getElem? (i := 103) (by decide +kernel))) rfl⟩⟩
theorem fp_X6_116 : xfp RX6 116 3 9 7 .int := ⟨RX5, TX5, tyX5, rfl, in_X5, by decide, rfl, Or.inr ⟨"SaltSaints", xw_nof (xw_1 (List.mem_of_getElem? (i := 103) (by decide +kernel))) rfl⟩, tyX5_ok, nmX5, rfl, tyX5_ok 7 (by decide)⟩
theorem fd_X6_172 : xfd RX6 172 1 4 0 := ⟨RX2, TX2, rfl, in_X2, by decide, rfl, Or.inr ⟨"SaltSaints", xw_nof (xw_1 (List.mem_of_getElem? (i := 30) (by decide +kernel))) rfl⟩⟩
theorem fd_X6_182 : xfd RX6 182 0 5 4 := ⟨RX1, TX1, rfl, in_X1, by decide, rfl, Or.inr ⟨"SaltSaints", xw_nof (xw_1 (List.mem_of_getElem? (i := 135) (by decide +kernel))) rfl⟩⟩
theorem fd_X6_194 : xfd RX6 194 1 4 1 := ⟨RX2, TX2, rfl, in_X2, by decide, rfl, Or.inr ⟨"SaltSaints", xw_nof (xw_1 (List.mem_of_getElem? (i := 33) (by decide +kernel))) rfl⟩⟩
theorem fp_X6_194 : xfp RX6 194 1 4 1 .boolean := ⟨RX2, TX2, tyX2, rfl, in_X2, by decide, rfl, Or.inr ⟨"SaltSaints", xw_nof (xw_1 (List.mem_of_getElem? (i := 33) (by decide +kernel))) rfl⟩, tyX2_ok, nmX2, rfl, tyX2_ok 1 (by decide)⟩
theorem fd_X6_200 : xfd RX6 200 1 4 2 := ⟨RX2, TX2, rfl, in_X2, by decide, rfl, Or.inr ⟨"SaltSaints", xw_nof (xw_1 (List.mem_of_getElem? (i := 35) (by decide +kernel))) rfl⟩⟩
theorem fd_X6_32 : xfd RX6 32 4 5 3 := ⟨RX6, TX6, rfl, in_X6, by decide, rfl, Or.inl (xw_of (xw_1 (List.mem_of_getElem? (i := 150) (by decide +kernel))) rfl)⟩
theorem fd_X6_36 : xfd RX6 36 4 5 4 := ⟨RX6, TX6, rfl, in_X6, by decide, rfl, Or.inl (xw_of (xw_1 (List.mem_of_getElem? (i := 151) (by decide +kernel))) rfl)⟩
theorem fd_X7_65 : xfd RX7 65 5 29 24 := ⟨RX7, TX7, rfl, in_X7, by decide, rfl, Or.inl (xw_of (xw_3 (List.mem_of_getElem? (i := 63) (by decide +kernel))) rfl)⟩
theorem fp_X7_79 : xfp RX7 79 5 29 0 .int := ⟨RX7, TX7, tyX7, rfl, in_X7, by decide, rfl, Or.inl (xw_of (xw_3 (List.mem_of_getElem? (i := 39) (by decide +kernel))) rfl), tyX7_ok, nmX7, rfl, tyX7_ok 0 (by decide)⟩
theorem fd_X7_68 : xfd RX7 68 5 29 25 := ⟨RX7, TX7, rfl, in_X7, by decide, rfl, Or.inl (xw_of (xw_3 (List.mem_of_getElem? (i := 64) (by decide +kernel))) rfl)⟩
theorem fd_X7_108 : xfd RX7 108 5 29 1 := ⟨RX7, TX7, rfl, in_X7, by decide, rfl, Or.inl (xw_of (xw_3 (List.mem_of_getElem? (i := 40) (by decide +kernel))) rfl)⟩
theorem fd_X7_113 : xfd RX7 113 5 29 7 := ⟨RX7, TX7, rfl, in_X7, by decide, rfl, Or.inl (xw_of (xw_3 (List.mem_of_getElem? (i := 46) (by decide +kernel))) rfl)⟩
theorem fd_X7_71 : xfd RX7 71 5 29 26 := ⟨RX7, TX7, rfl, in_X7, by decide, rfl, Or.inl (xw_of (xw_3 (List.mem_of_getElem? (i := 65) (by decide +kernel))) rfl)⟩
theorem fp_X7_113 : xfp RX7 113 5 29 7 .int := ⟨RX7, TX7, tyX7, rfl, in_X7, by decide, rfl, Or.inl (xw_of (xw_3 (List.mem_of_getElem? (i := 46) (by decide +kernel))) rfl), tyX7_ok, nmX7, rfl, tyX7_ok 7 (by decide)⟩
theorem fd_X7_120 : xfd RX7 120 5 29 8 := ⟨RX7, TX7, rfl, in_X7, by decide, rfl, Or.inl (xw_of (xw_3 (List.mem_of_getElem? (i := 47) (by decide +kernel))) rfl)⟩
theorem fd_X7_29 : xfd RX7 29 5 29 10 := ⟨RX7, TX7, rfl, in_X7, by decide, rfl, Or.inl (xw_of (xw_3 (List.mem_of_getElem? (i := 49) (by decide +kernel))) rfl)⟩
theorem fd_X7_32 : xfd RX7 32 5 29 11 := ⟨RX7, TX7, rfl, in_X7, by decide, rfl, Or.inl (xw_of (xw_3 (List.mem_of_getElem? (i := 50) (by decide +kernel))) rfl)⟩
theorem fd_X7_26 : xfd RX7 26 5 29 9 := ⟨RX7, TX7, rfl, in_X7, by decide, rfl, Or.inl (xw_of (xw_3 (List.mem_of_getElem? (i := 48) (by decide +kernel))) rfl)⟩
theorem fp_X7_120 : xfp RX7 120 5 29 8 .int := ⟨RX7, TX7, tyX7, rfl, in_X7, by decide, rfl, Or.inl (xw_of (xw_3 (List.mem_of_getElem? (i := 47) (by decide +kernel))) rfl), tyX7_ok, nmX7, rfl, tyX7_ok 8 (by decide)⟩
theorem fp_X7_108 : xfp RX7 108 5 29 1 .int := ⟨RX7, TX7, tyX7, rfl, in_X7, by decide, rfl, Or.inl (xw_of (xw_3 (List.mem_of_getElem? (i := 40) (by decide +kernel))) rfl), tyX7_ok, nmX7, rfl, tyX7_ok 1 (by decide)⟩
theorem fd_X7_7 : xfd RX7 7 5 29 2 := ⟨RX7, TX7, rfl, in_X7, by decide, rfl, Or.inl (xw_of (xw_3 (List.mem_of_getElem? (i := 41) (by decide +kernel))) rfl)⟩
theorem fd_X7_16 : xfd RX7 16 5 29 4 := ⟨RX7, TX7, rfl, in_X7, by decide, rfl, Or.inl (xw_of (xw_3 (List.mem_of_getElem? (i := 43) (by decide +kernel))) rfl)⟩
theorem fd_X7_19 : xfd RX7 19 5 29 5 := ⟨RX7, TX7, rfl, in_X7, by decide, rfl, Or.inl (xw_of (xw_3 (List.mem_of_getElem? (i := 44) (by decide +kernel))) rfl)⟩
theorem fd_X7_22 : xfd RX7 22 5 29 6 := ⟨RX7, TX7, rfl, in_X7, by decide, rfl, Or.inl (xw_of (xw_3 (List.mem_of_getElem? (i := 45) (by decide +kernel))) rfl)⟩
theorem fd_X7_13 : xfd RX7 13 5 29 3 := ⟨RX7, TX7, rfl, in_X7, by decide, rfl, Or.inl (xw_of (xw_3 (List.mem_of_getElem? (i := 42) (by decide +kernel))) rfl)⟩
theorem fd_X7_35 : xfd RX7 35 5 29 12 := ⟨RX7, TX7, rfl, in_X7, by decide, rfl, Or.inl (xw_of (xw_3 (List.mem_of_getElem? (i := 51) (by decide +kernel))) rfl)⟩
theorem fd_X7_38 : xfd RX7 38 5 29 13 := ⟨RX7, TX7, rfl, in_X7, by decide, rfl, Or.inl (xw_of (xw_3 (List.mem_of_getElem? (i := 52) (by decide +kernel))) rfl)⟩
theorem fp_X7_138 : xfp RX7 138 5 29 14 .int := ⟨RX7, TX7, tyX7, rfl, in_X7, by decide, rfl, Or.inl (xw_of (xw_3 (List.mem_of_getElem? (i := 53) (by decide +kernel))) rfl), tyX7_ok, nmX7, rfl, tyX7_ok 14 (by decide)⟩
theorem fp_X7_141 : xfp RX7 141 5 29 19 .int := ⟨RX7, TX7, tyX7, rfl, in_X7, by decide, rfl, Or.inl (xw_of (xw_3 (List.mem_of_getElem? (i := 58) (by decide +kernel))) rfl), tyX7_ok, nmX7, rfl, tyX7_ok 19 (by decide)⟩
theorem fd_X7_138 : xfd RX7 138 5 29 14 := ⟨RX7, TX7, rfl, in_X7, by decide, rfl, Or.inl (xw_of (xw_3 (List.mem_of_getElem? (i := 53) (by decide +kernel))) rfl)⟩
theorem fd_X7_41 : xfd RX7 41 5 29 15 := ⟨RX7, TX7, rfl, in_X7, by decide, rfl, Or.inl (xw_of (xw_3 (List.mem_of_getElem? (i := 54) (by decide +kernel))) rfl)⟩
theorem fd_X7_44 : xfd RX7 44 5 29 16 := ⟨RX7, TX7, rfl, in_X7, by decide, rfl, Or.inl (xw_of (xw_3 (List.mem_of_getElem? (i := 55) (by decide +kernel))) rfl)⟩
theorem fd_X7_47 : xfd RX7 47 5 29 17 := ⟨RX7, TX7, rfl, in_X7, by decide, rfl, Or.inl (xw_of (xw_3 (List.mem_of_getElem? (i := 56) (by decide +kernel))) rfl)⟩
theorem fd_X7_50 : xfd RX7 50 5 29 18 := ⟨RX7, TX7, rfl, in_X7, by decide, rfl, Or.inl (xw_of (xw_3 (List.mem_of_getElem? (i := 57) (by decide +kernel))) rfl)⟩
theorem fd_X7_141 : xfd RX7 141 5 29 19 := ⟨RX7, TX7, rfl, in_X7, by decide, rfl, Or.inl (xw_of (xw_3 (List.mem_of_getElem? (i := 58) (by decide +kernel))) rfl)⟩
theorem fd_X7_53 : xfd RX7 53 5 29 20 := ⟨RX7, TX7, rfl, in_X7, by decide, rfl, Or.inl (xw_of (xw_3 (List.mem_of_getElem? (i := 59) (by decide +kernel))) rfl)⟩
theorem fd_X7_56 : xfd RX7 56 5 29 21 := ⟨RX7, TX7, rfl, in_X7, by decide, rfl, Or.inl (xw_of (xw_3 (List.mem_of_getElem? (i := 60) (by decide +kernel))) rfl)⟩
theorem fd_X7_59 : xfd RX7 59 5 29 22 := ⟨RX7, TX7, rfl, in_X7, by decide, rfl, Or.inl (xw_of (xw_3 (List.mem_of_getElem? (i := 61) (by decide +kernel))) rfl)⟩
theorem fd_X7_62 : xfd RX7 62 5 29 23 := ⟨RX7, TX7, rfl, in_X7, by decide, rfl, Or.inl (xw_of (xw_3 (List.mem_of_getElem? (i := 62) (by decide +kernel))) rfl)⟩
theorem fd_X7_74 : xfd RX7 74 5 29 27 := ⟨RX7, TX7, rfl, in_X7, by decide, rfl, Or.inl (xw_of (xw_3 (List.mem_of_getElem? (i := 66) (by decide +kernel))) rfl)⟩
theorem fd_X7_229 : xfd RX7 229 5 29 28 := ⟨RX7, TX7, rfl, in_X7, by decide, rfl, Or.inl (xw_of (xw_3 (List.mem_of_getElem? (i := 67) (by decide +kernel))) rfl)⟩
theorem fp_X7_229 : xfp RX7 229 5 29 28 .int := ⟨RX7, TX7, tyX7, rfl, in_X7, by decide, rfl, Or.inl (xw_of (xw_3 (List.mem_of_getElem? (i := 67) (by decide +kernel))) rfl), tyX7_ok, nmX7, rfl, tyX7_ok 28 (by decide)⟩
theorem fd_X7_79 : xfd RX7 79 5 29 0 := ⟨RX7, TX7, rfl, in_X7, by decide, rfl, Or.inl (xw_of (xw_3 (List.mem_of_getElem? (i := 39) (by decide +kernel))) rfl)⟩
theorem mc_X0_giveUmbrellas : xcc yX0_giveUmbrellas cX0_giveUmbrellas 10 (some .int) := ⟨xw_of (xw_2 (List.mem_of_getElem? (i := 125) (by decide +kernel))) rfl, xw_of (xw_1 (List.mem_of_getElem? (i := 10) (by decide +kernel))) rfl, by decide, by decide⟩
theorem mn_X0_giveUmbrellas : xcn yX0_giveUmbrellas 3 := by unfold xcn; decide +kernel
theorem ms_X0_giveUmbrellas : Cond.static yX0_giveUmbrellas ∈ xw_all := xw_of (xw_2 (List.mem_of_getElem? (i := 124) (by decide +kernel))) rfl
theorem mc_X0_lastingUnder : xcc yX0_lastingUnder cX0_lastingUnder 4 (some .int) := ⟨xw_of (xw_2 (List.mem_of_getElem? (i := 128) (by decide +kernel))) rfl, xw_of (xw_1 (List.mem_of_getElem? (i := 10) (by decide +kernel))) rfl, by decide, by decide⟩
theorem mn_X0_lastingUnder : xcn yX0_lastingUnder 2 := by unfold xcn; decide +kernel
theorem ms_X0_lastingUnder : Cond.static yX0_lastingUnder ∈ xw_all := xw_of (xw_2 (List.mem_of_getElem? (i := 127) (by decide +kernel))) rfl
theorem mc_X0_turnOne : xcc yX0_turnOne cX0_turnOne 8 (some .int) := ⟨xw_of (xw_2 (List.mem_of_getElem? (i := 146) (by decide +kernel))) rfl, xw_of (xw_1 (List.mem_of_getElem? (i := 10) (by decide +kernel))) rfl, by decide, by decide⟩
theorem mn_X0_turnOne : xcn yX0_turnOne 2 := by unfold xcn; decide +kernel
theorem ms_X0_turnOne : Cond.static yX0_turnOne ∈ xw_all := xw_of (xw_2 (List.mem_of_getElem? (i := 145) (by decide +kernel))) rfl
theorem mc_X0_firstDawnOfOthers : xcc yX0_firstDawnOfOthers cX0_firstDawnOfOthers 5 (some .int) := ⟨xw_of (xw_2 (List.mem_of_getElem? (i := 149) (by decide +kernel))) rfl, xw_of (xw_1 (List.mem_of_getElem? (i := 10) (by decide +kernel))) rfl, by decide, by decide⟩
theorem mn_X0_firstDawnOfOthers : xcn yX0_firstDawnOfOthers 2 := by unfold xcn; decide +kernel
theorem ms_X0_firstDawnOfOthers : Cond.static yX0_firstDawnOfOthers ∈ xw_all := xw_of (xw_2 (List.mem_of_getElem? (i := 148) (by decide +kernel))) rfl
theorem mc_X0_dawnWithoutNose : xcc yX0_dawnWithoutNose cX0_dawnWithoutNose 7 (some .int) := ⟨xw_of (xw_2 (List.mem_of_getElem? (i := 131) (by decide +kernel))) rfl, xw_of (xw_1 (List.mem_of_getElem? (i := 10) (by decide +kernel))) rfl, by decide, by decide⟩
theorem mn_X0_dawnWithoutNose : xcn yX0_dawnWithoutNose 4 := by unfold xcn; decide +kernel
theorem ms_X0_dawnWithoutNose : Cond.static yX0_dawnWithoutNose ∈ xw_all := xw_of (xw_2 (List.mem_of_getElem? (i := 130) (by decide +kernel))) rfl
theorem mc_X0_nosesGone : xcc yX0_nosesGone cX0_nosesGone 4 (some .int) := ⟨xw_of (xw_2 (List.mem_of_getElem? (i := 156) (by decide +kernel))) rfl, xw_of (xw_1 (List.mem_of_getElem? (i := 10) (by decide +kernel))) rfl, by decide, by decide⟩
theorem mn_X0_nosesGone : xcn yX0_nosesGone 2 := by unfold xcn; decide +kernel
theorem ms_X0_nosesGone : Cond.static yX0_nosesGone ∈ xw_all := xw_of (xw_2 (List.mem_of_getElem? (i := 155) (by decide +kernel))) rfl
theorem mc_X1_init : xcc yX1_init cX1_init 1 none := ⟨xw_of (xw_1 (List.mem_of_getElem? (i := 128) (by decide +kernel))) rfl, xw_of (xw_1 (List.mem_of_getElem? (i := 5) (by decide +kernel))) rfl, by decide, by decide⟩
theorem mn_X1_init : xcn yX1_init 0 := by unfold xcn; decide +kernel
theorem mi_X1_init : Cond.instanceMethod yX1_init ∈ xw_all := xw_of (xw_1 (List.mem_of_getElem? (i := 127) (by decide +kernel))) rfl
theorem mc_X1_note : xcc yX1_note cX1_note 6 (some .int) := ⟨xw_of (xw_2 (List.mem_of_getElem? (i := 186) (by decide +kernel))) rfl, xw_of (xw_1 (List.mem_of_getElem? (i := 5) (by decide +kernel))) rfl, by decide, by decide⟩
theorem mn_X1_note : xcn yX1_note 4 := by unfold xcn; decide +kernel
theorem mv_X1_note : xcv yX1_note := ⟨xw_of (xw_2 (List.mem_of_getElem? (i := 185) (by decide +kernel))) rfl, xw_of (xw_s (List.mem_of_getElem? (i := 28) (by decide +kernel))) rfl⟩
theorem mc_X1_keep : xcc yX1_keep cX1_keep 2 none := ⟨xw_of (xw_1 (List.mem_of_getElem? (i := 215) (by decide +kernel))) rfl, xw_of (xw_1 (List.mem_of_getElem? (i := 5) (by decide +kernel))) rfl, by decide, by decide⟩
theorem mn_X1_keep : xcn yX1_keep 1 := by unfold xcn; decide +kernel
theorem mv_X1_keep : xcv yX1_keep := ⟨xw_of (xw_1 (List.mem_of_getElem? (i := 214) (by decide +kernel))) rfl, xw_of (xw_s (List.mem_of_getElem? (i := 5) (by decide +kernel))) rfl⟩
theorem mc_X1_allHold : xcc yX1_allHold cX1_allHold 3 (some .boolean) := ⟨xw_of (xw_2 (List.mem_of_getElem? (i := 198) (by decide +kernel))) rfl, xw_of (xw_1 (List.mem_of_getElem? (i := 5) (by decide +kernel))) rfl, by decide, by decide⟩
theorem mn_X1_allHold : xcn yX1_allHold 1 := by unfold xcn; decide +kernel
theorem mv_X1_allHold : xcv yX1_allHold := ⟨xw_of (xw_2 (List.mem_of_getElem? (i := 197) (by decide +kernel))) rfl, xw_of (xw_s (List.mem_of_getElem? (i := 29) (by decide +kernel))) rfl⟩
theorem mc_X2_init : xcc yX2_init cX2_init 1 none := ⟨xw_of (xw_1 (List.mem_of_getElem? (i := 25) (by decide +kernel))) rfl, xw_of (xw_1 (List.mem_of_getElem? (i := 2) (by decide +kernel))) rfl, by decide, by decide⟩
theorem mn_X2_init : xcn yX2_init 0 := by unfold xcn; decide +kernel
theorem mi_X2_init : Cond.instanceMethod yX2_init ∈ xw_all := xw_of (xw_1 (List.mem_of_getElem? (i := 24) (by decide +kernel))) rfl
theorem mc_X2_renew : xcc yX2_renew cX2_renew 4 none := ⟨xw_of (xw_2 (List.mem_of_getElem? (i := 211) (by decide +kernel))) rfl, xw_of (xw_1 (List.mem_of_getElem? (i := 2) (by decide +kernel))) rfl, by decide, by decide⟩
theorem mn_X2_renew : xcn yX2_renew 2 := by unfold xcn; decide +kernel
theorem mv_X2_renew : xcv yX2_renew := ⟨xw_of (xw_2 (List.mem_of_getElem? (i := 210) (by decide +kernel))) rfl, xw_of (xw_s (List.mem_of_getElem? (i := 30) (by decide +kernel))) rfl⟩
theorem mc_X2_faultAs : xcc yX2_faultAs cX2_faultAs 2 (some .int) := ⟨xw_of (xw_1 (List.mem_of_getElem? (i := 179) (by decide +kernel))) rfl, xw_of (xw_1 (List.mem_of_getElem? (i := 2) (by decide +kernel))) rfl, by decide, by decide⟩
theorem mn_X2_faultAs : xcn yX2_faultAs 1 := by unfold xcn; decide +kernel
theorem mv_X2_faultAs : xcv yX2_faultAs := ⟨xw_of (xw_1 (List.mem_of_getElem? (i := 178) (by decide +kernel))) rfl, xw_of (xw_s (List.mem_of_getElem? (i := 0) (by decide +kernel))) rfl⟩
theorem mc_X2_hasRun : xcc yX2_hasRun cX2_hasRun 3 (some .boolean) := ⟨xw_of (xw_1 (List.mem_of_getElem? (i := 183) (by decide +kernel))) rfl, xw_of (xw_1 (List.mem_of_getElem? (i := 2) (by decide +kernel))) rfl, by decide, by decide⟩
theorem mn_X2_hasRun : xcn yX2_hasRun 2 := by unfold xcn; decide +kernel
theorem mv_X2_hasRun : xcv yX2_hasRun := ⟨xw_of (xw_1 (List.mem_of_getElem? (i := 182) (by decide +kernel))) rfl, xw_of (xw_s (List.mem_of_getElem? (i := 1) (by decide +kernel))) rfl⟩
theorem mc_X2_cut : xcc yX2_cut cX2_cut 2 (some .int) := ⟨xw_of (xw_2 (List.mem_of_getElem? (i := 223) (by decide +kernel))) rfl, xw_of (xw_1 (List.mem_of_getElem? (i := 2) (by decide +kernel))) rfl, by decide, by decide⟩
theorem mn_X2_cut : xcn yX2_cut 1 := by unfold xcn; decide +kernel
theorem mv_X2_cut : xcv yX2_cut := ⟨xw_of (xw_2 (List.mem_of_getElem? (i := 222) (by decide +kernel))) rfl, xw_of (xw_s (List.mem_of_getElem? (i := 31) (by decide +kernel))) rfl⟩
theorem mc_X3_init : xcc yX3_init cX3_init 1 none := ⟨xw_of (xw_1 (List.mem_of_getElem? (i := 58) (by decide +kernel))) rfl, xw_of (xw_1 (List.mem_of_getElem? (i := 4) (by decide +kernel))) rfl, by decide, by decide⟩
theorem mn_X3_init : xcn yX3_init 0 := by unfold xcn; decide +kernel
theorem mi_X3_init : Cond.instanceMethod yX3_init ∈ xw_all := xw_of (xw_1 (List.mem_of_getElem? (i := 57) (by decide +kernel))) rfl
theorem mc_X3_carve : xcc yX3_carve cX3_carve 4 none := ⟨xw_of (xw_1 (List.mem_of_getElem? (i := 207) (by decide +kernel))) rfl, xw_of (xw_1 (List.mem_of_getElem? (i := 4) (by decide +kernel))) rfl, by decide, by decide⟩
theorem mn_X3_carve : xcn yX3_carve 2 := by unfold xcn; decide +kernel
theorem mv_X3_carve : xcv yX3_carve := ⟨xw_of (xw_1 (List.mem_of_getElem? (i := 206) (by decide +kernel))) rfl, xw_of (xw_s (List.mem_of_getElem? (i := 4) (by decide +kernel))) rfl⟩
theorem mc_X3_allAtFirst : xcc yX3_allAtFirst cX3_allAtFirst 1 (some .int) := ⟨xw_of (xw_2 (List.mem_of_getElem? (i := 68) (by decide +kernel))) rfl, xw_of (xw_1 (List.mem_of_getElem? (i := 4) (by decide +kernel))) rfl, by decide, by decide⟩
theorem mn_X3_allAtFirst : xcn yX3_allAtFirst 0 := by unfold xcn; decide +kernel
theorem mv_X3_allAtFirst : xcv yX3_allAtFirst := ⟨xw_of (xw_2 (List.mem_of_getElem? (i := 67) (by decide +kernel))) rfl, xw_of (xw_s (List.mem_of_getElem? (i := 17) (by decide +kernel))) rfl⟩
theorem mc_X3_washedOff : xcc yX3_washedOff cX3_washedOff 7 (some .int) := ⟨xw_of (xw_2 (List.mem_of_getElem? (i := 41) (by decide +kernel))) rfl, xw_of (xw_1 (List.mem_of_getElem? (i := 4) (by decide +kernel))) rfl, by decide, by decide⟩
theorem mn_X3_washedOff : xcn yX3_washedOff 5 := by unfold xcn; decide +kernel
theorem mv_X3_washedOff : xcv yX3_washedOff := ⟨xw_of (xw_2 (List.mem_of_getElem? (i := 40) (by decide +kernel))) rfl, xw_of (xw_s (List.mem_of_getElem? (i := 12) (by decide +kernel))) rfl⟩
theorem mc_X3_lickable : xcc yX3_lickable cX3_lickable 2 (some .boolean) := ⟨xw_of (xw_2 (List.mem_of_getElem? (i := 53) (by decide +kernel))) rfl, xw_of (xw_1 (List.mem_of_getElem? (i := 4) (by decide +kernel))) rfl, by decide, by decide⟩
theorem mn_X3_lickable : xcn yX3_lickable 1 := by unfold xcn; decide +kernel
theorem mv_X3_lickable : xcv yX3_lickable := ⟨xw_of (xw_2 (List.mem_of_getElem? (i := 52) (by decide +kernel))) rfl, xw_of (xw_s (List.mem_of_getElem? (i := 15) (by decide +kernel))) rfl⟩
theorem mc_X4_firstFault : xcc yX4_firstFault cX4_firstFault 4 (some .int) := ⟨xw_of (xw_1 (List.mem_of_getElem? (i := 190) (by decide +kernel))) rfl, xw_of (xw_1 (List.mem_of_getElem? (i := 7) (by decide +kernel))) rfl, by decide, by decide⟩
theorem mn_X4_firstFault : xcn yX4_firstFault 3 := by unfold xcn; decide +kernel
theorem ms_X4_firstFault : Cond.static yX4_firstFault ∈ xw_all := xw_of (xw_1 (List.mem_of_getElem? (i := 189) (by decide +kernel))) rfl
theorem mc_X4_goesOn : xcc yX4_goesOn cX4_goesOn 2 (some .boolean) := ⟨xw_of (xw_1 (List.mem_of_getElem? (i := 193) (by decide +kernel))) rfl, xw_of (xw_1 (List.mem_of_getElem? (i := 7) (by decide +kernel))) rfl, by decide, by decide⟩
theorem mn_X4_goesOn : xcn yX4_goesOn 2 := by unfold xcn; decide +kernel
theorem ms_X4_goesOn : Cond.static yX4_goesOn ∈ xw_all := xw_of (xw_1 (List.mem_of_getElem? (i := 192) (by decide +kernel))) rfl
theorem mc_X4_isWhole : xcc yX4_isWhole cX4_isWhole 1 (some .boolean) := ⟨xw_of (xw_1 (List.mem_of_getElem? (i := 199) (by decide +kernel))) rfl, xw_of (xw_1 (List.mem_of_getElem? (i := 7) (by decide +kernel))) rfl, by decide, by decide⟩
theorem mn_X4_isWhole : xcn yX4_isWhole 1 := by unfold xcn; decide +kernel
theorem ms_X4_isWhole : Cond.static yX4_isWhole ∈ xw_all := xw_of (xw_1 (List.mem_of_getElem? (i := 198) (by decide +kernel))) rfl
theorem mc_X4_kindOf : xcc yX4_kindOf cX4_kindOf 1 (some .int) := ⟨xw_of (xw_1 (List.mem_of_getElem? (i := 196) (by decide +kernel))) rfl, xw_of (xw_1 (List.mem_of_getElem? (i := 7) (by decide +kernel))) rfl, by decide, by decide⟩
theorem mn_X4_kindOf : xcn yX4_kindOf 1 := by unfold xcn; decide +kernel
theorem ms_X4_kindOf : Cond.static yX4_kindOf ∈ xw_all := xw_of (xw_1 (List.mem_of_getElem? (i := 195) (by decide +kernel))) rfl
theorem mc_X5_init : xcc yX5_init cX5_init 2 none := ⟨xw_of (xw_1 (List.mem_of_getElem? (i := 51) (by decide +kernel))) rfl, xw_of (xw_1 (List.mem_of_getElem? (i := 3) (by decide +kernel))) rfl, by decide, by decide⟩
theorem mn_X5_init : xcn yX5_init 0 := by unfold xcn; decide +kernel
theorem mi_X5_init : Cond.instanceMethod yX5_init ∈ xw_all := xw_of (xw_1 (List.mem_of_getElem? (i := 50) (by decide +kernel))) rfl
theorem mc_X5_settle : xcc yX5_settle cX5_settle 5 none := ⟨xw_of (xw_1 (List.mem_of_getElem? (i := 203) (by decide +kernel))) rfl, xw_of (xw_1 (List.mem_of_getElem? (i := 3) (by decide +kernel))) rfl, by decide, by decide⟩
theorem mn_X5_settle : xcn yX5_settle 3 := by unfold xcn; decide +kernel
theorem mv_X5_settle : xcv yX5_settle := ⟨xw_of (xw_1 (List.mem_of_getElem? (i := 202) (by decide +kernel))) rfl, xw_of (xw_s (List.mem_of_getElem? (i := 3) (by decide +kernel))) rfl⟩
theorem mc_X5_forgetFrom : xcc yX5_forgetFrom cX5_forgetFrom 2 none := ⟨xw_of (xw_1 (List.mem_of_getElem? (i := 231) (by decide +kernel))) rfl, xw_of (xw_1 (List.mem_of_getElem? (i := 3) (by decide +kernel))) rfl, by decide, by decide⟩
theorem mn_X5_forgetFrom : xcn yX5_forgetFrom 1 := by unfold xcn; decide +kernel
theorem mv_X5_forgetFrom : xcv yX5_forgetFrom := ⟨xw_of (xw_1 (List.mem_of_getElem? (i := 230) (by decide +kernel))) rfl, xw_of (xw_s (List.mem_of_getElem? (i := 7) (by decide +kernel))) rfl⟩
theorem mc_X5_letRain : xcc yX5_letRain cX5_letRain 3 none := ⟨xw_of (xw_2 (List.mem_of_getElem? (i := 10) (by decide +kernel))) rfl, xw_of (xw_1 (List.mem_of_getElem? (i := 3) (by decide +kernel))) rfl, by decide, by decide⟩
theorem mn_X5_letRain : xcn yX5_letRain 2 := by unfold xcn; decide +kernel
theorem mv_X5_letRain : xcv yX5_letRain := ⟨xw_of (xw_2 (List.mem_of_getElem? (i := 9) (by decide +kernel))) rfl, xw_of (xw_s (List.mem_of_getElem? (i := 8) (by decide +kernel))) rfl⟩
theorem mc_X5_workOut : xcc yX5_workOut cX5_workOut 3 none := ⟨xw_of (xw_2 (List.mem_of_getElem? (i := 30) (by decide +kernel))) rfl, xw_of (xw_1 (List.mem_of_getElem? (i := 3) (by decide +kernel))) rfl, by decide, by decide⟩
theorem mn_X5_workOut : xcn yX5_workOut 1 := by unfold xcn; decide +kernel
theorem mv_X5_workOut : xcv yX5_workOut := ⟨xw_of (xw_2 (List.mem_of_getElem? (i := 29) (by decide +kernel))) rfl, xw_of (xw_s (List.mem_of_getElem? (i := 10) (by decide +kernel))) rfl⟩
theorem mc_X5_pour : xcc yX5_pour cX5_pour 7 none := ⟨xw_of (xw_2 (List.mem_of_getElem? (i := 34) (by decide +kernel))) rfl, xw_of (xw_1 (List.mem_of_getElem? (i := 3) (by decide +kernel))) rfl, by decide, by decide⟩
theorem mn_X5_pour : xcn yX5_pour 1 := by unfold xcn; decide +kernel
theorem mv_X5_pour : xcv yX5_pour := ⟨xw_of (xw_2 (List.mem_of_getElem? (i := 33) (by decide +kernel))) rfl, xw_of (xw_s (List.mem_of_getElem? (i := 11) (by decide +kernel))) rfl⟩
theorem mc_X5_graze : xcc yX5_graze cX5_graze 6 none := ⟨xw_of (xw_2 (List.mem_of_getElem? (i := 45) (by decide +kernel))) rfl, xw_of (xw_1 (List.mem_of_getElem? (i := 3) (by decide +kernel))) rfl, by decide, by decide⟩
theorem mn_X5_graze : xcn yX5_graze 1 := by unfold xcn; decide +kernel
theorem mv_X5_graze : xcv yX5_graze := ⟨xw_of (xw_2 (List.mem_of_getElem? (i := 44) (by decide +kernel))) rfl, xw_of (xw_s (List.mem_of_getElem? (i := 13) (by decide +kernel))) rfl⟩
theorem mc_X5_likedBest : xcc yX5_likedBest cX5_likedBest 6 (some .int) := ⟨xw_of (xw_2 (List.mem_of_getElem? (i := 49) (by decide +kernel))) rfl, xw_of (xw_1 (List.mem_of_getElem? (i := 3) (by decide +kernel))) rfl, by decide, by decide⟩
theorem mn_X5_likedBest : xcn yX5_likedBest 1 := by unfold xcn; decide +kernel
theorem mv_X5_likedBest : xcv yX5_likedBest := ⟨xw_of (xw_2 (List.mem_of_getElem? (i := 48) (by decide +kernel))) rfl, xw_of (xw_s (List.mem_of_getElem? (i := 14) (by decide +kernel))) rfl⟩
theorem mc_X5_placeOf : xcc yX5_placeOf cX5_placeOf 3 (some .int) := ⟨xw_of (xw_2 (List.mem_of_getElem? (i := 37) (by decide +kernel))) rfl, xw_of (xw_1 (List.mem_of_getElem? (i := 3) (by decide +kernel))) rfl, by decide, by decide⟩
theorem mn_X5_placeOf : xcn yX5_placeOf 3 := by unfold xcn; decide +kernel
theorem ms_X5_placeOf : Cond.static yX5_placeOf ∈ xw_all := xw_of (xw_2 (List.mem_of_getElem? (i := 36) (by decide +kernel))) rfl
theorem mc_X5_leftOfPart : xcc yX5_leftOfPart cX5_leftOfPart 4 (some .int) := ⟨xw_of (xw_2 (List.mem_of_getElem? (i := 26) (by decide +kernel))) rfl, xw_of (xw_1 (List.mem_of_getElem? (i := 3) (by decide +kernel))) rfl, by decide, by decide⟩
theorem mn_X5_leftOfPart : xcn yX5_leftOfPart 3 := by unfold xcn; decide +kernel
theorem mv_X5_leftOfPart : xcv yX5_leftOfPart := ⟨xw_of (xw_2 (List.mem_of_getElem? (i := 25) (by decide +kernel))) rfl, xw_of (xw_s (List.mem_of_getElem? (i := 9) (by decide +kernel))) rfl⟩
theorem mc_X5_leftOf : xcc yX5_leftOf cX5_leftOf 3 (some .int) := ⟨xw_of (xw_2 (List.mem_of_getElem? (i := 72) (by decide +kernel))) rfl, xw_of (xw_1 (List.mem_of_getElem? (i := 3) (by decide +kernel))) rfl, by decide, by decide⟩
theorem mn_X5_leftOf : xcn yX5_leftOf 2 := by unfold xcn; decide +kernel
theorem mv_X5_leftOf : xcv yX5_leftOf := ⟨xw_of (xw_2 (List.mem_of_getElem? (i := 71) (by decide +kernel))) rfl, xw_of (xw_s (List.mem_of_getElem? (i := 18) (by decide +kernel))) rfl⟩
theorem mc_X5_sumOf : xcc yX5_sumOf cX5_sumOf 3 (some .int) := ⟨xw_of (xw_2 (List.mem_of_getElem? (i := 76) (by decide +kernel))) rfl, xw_of (xw_1 (List.mem_of_getElem? (i := 3) (by decide +kernel))) rfl, by decide, by decide⟩
theorem mn_X5_sumOf : xcn yX5_sumOf 2 := by unfold xcn; decide +kernel
theorem mv_X5_sumOf : xcv yX5_sumOf := ⟨xw_of (xw_2 (List.mem_of_getElem? (i := 75) (by decide +kernel))) rfl, xw_of (xw_s (List.mem_of_getElem? (i := 19) (by decide +kernel))) rfl⟩
theorem mc_X5_leftOfAll : xcc yX5_leftOfAll cX5_leftOfAll 4 (some .int) := ⟨xw_of (xw_2 (List.mem_of_getElem? (i := 115) (by decide +kernel))) rfl, xw_of (xw_1 (List.mem_of_getElem? (i := 3) (by decide +kernel))) rfl, by decide, by decide⟩
theorem mn_X5_leftOfAll : xcn yX5_leftOfAll 1 := by unfold xcn; decide +kernel
theorem mv_X5_leftOfAll : xcv yX5_leftOfAll := ⟨xw_of (xw_2 (List.mem_of_getElem? (i := 114) (by decide +kernel))) rfl, xw_of (xw_s (List.mem_of_getElem? (i := 25) (by decide +kernel))) rfl⟩
theorem mc_X5_lickedOff : xcc yX5_lickedOff cX5_lickedOff 3 (some .int) := ⟨xw_of (xw_2 (List.mem_of_getElem? (i := 80) (by decide +kernel))) rfl, xw_of (xw_1 (List.mem_of_getElem? (i := 3) (by decide +kernel))) rfl, by decide, by decide⟩
theorem mn_X5_lickedOff : xcn yX5_lickedOff 2 := by unfold xcn; decide +kernel
theorem mv_X5_lickedOff : xcv yX5_lickedOff := ⟨xw_of (xw_2 (List.mem_of_getElem? (i := 79) (by decide +kernel))) rfl, xw_of (xw_s (List.mem_of_getElem? (i := 20) (by decide +kernel))) rfl⟩
theorem mc_X5_inPuddle : xcc yX5_inPuddle cX5_inPuddle 3 (some .int) := ⟨xw_of (xw_2 (List.mem_of_getElem? (i := 64) (by decide +kernel))) rfl, xw_of (xw_1 (List.mem_of_getElem? (i := 3) (by decide +kernel))) rfl, by decide, by decide⟩
theorem mn_X5_inPuddle : xcn yX5_inPuddle 2 := by unfold xcn; decide +kernel
theorem mv_X5_inPuddle : xcv yX5_inPuddle := ⟨xw_of (xw_2 (List.mem_of_getElem? (i := 63) (by decide +kernel))) rfl, xw_of (xw_s (List.mem_of_getElem? (i := 16) (by decide +kernel))) rfl⟩
theorem mc_X5_dawnWithoutPart : xcc yX5_dawnWithoutPart cX5_dawnWithoutPart 4 (some .int) := ⟨xw_of (xw_2 (List.mem_of_getElem? (i := 89) (by decide +kernel))) rfl, xw_of (xw_1 (List.mem_of_getElem? (i := 3) (by decide +kernel))) rfl, by decide, by decide⟩
theorem mn_X5_dawnWithoutPart : xcn yX5_dawnWithoutPart 2 := by unfold xcn; decide +kernel
theorem mv_X5_dawnWithoutPart : xcv yX5_dawnWithoutPart := ⟨xw_of (xw_2 (List.mem_of_getElem? (i := 88) (by decide +kernel))) rfl, xw_of (xw_s (List.mem_of_getElem? (i := 21) (by decide +kernel))) rfl⟩
theorem mc_X5_dawnWithoutAny : xcc yX5_dawnWithoutAny cX5_dawnWithoutAny 3 (some .int) := ⟨xw_of (xw_2 (List.mem_of_getElem? (i := 93) (by decide +kernel))) rfl, xw_of (xw_1 (List.mem_of_getElem? (i := 3) (by decide +kernel))) rfl, by decide, by decide⟩
theorem mn_X5_dawnWithoutAny : xcn yX5_dawnWithoutAny 1 := by unfold xcn; decide +kernel
theorem mv_X5_dawnWithoutAny : xcv yX5_dawnWithoutAny := ⟨xw_of (xw_2 (List.mem_of_getElem? (i := 92) (by decide +kernel))) rfl, xw_of (xw_s (List.mem_of_getElem? (i := 22) (by decide +kernel))) rfl⟩
theorem mc_X5_likedFirst : xcc yX5_likedFirst cX5_likedFirst 2 (some .int) := ⟨xw_of (xw_2 (List.mem_of_getElem? (i := 101) (by decide +kernel))) rfl, xw_of (xw_1 (List.mem_of_getElem? (i := 3) (by decide +kernel))) rfl, by decide, by decide⟩
theorem mn_X5_likedFirst : xcn yX5_likedFirst 1 := by unfold xcn; decide +kernel
theorem mv_X5_likedFirst : xcv yX5_likedFirst := ⟨xw_of (xw_2 (List.mem_of_getElem? (i := 100) (by decide +kernel))) rfl, xw_of (xw_s (List.mem_of_getElem? (i := 23) (by decide +kernel))) rfl⟩
theorem mc_X5_longestLasting : xcc yX5_longestLasting cX5_longestLasting 5 (some .int) := ⟨xw_of (xw_2 (List.mem_of_getElem? (i := 110) (by decide +kernel))) rfl, xw_of (xw_1 (List.mem_of_getElem? (i := 3) (by decide +kernel))) rfl, by decide, by decide⟩
theorem mn_X5_longestLasting : xcn yX5_longestLasting 0 := by unfold xcn; decide +kernel
theorem mv_X5_longestLasting : xcv yX5_longestLasting := ⟨xw_of (xw_2 (List.mem_of_getElem? (i := 109) (by decide +kernel))) rfl, xw_of (xw_s (List.mem_of_getElem? (i := 24) (by decide +kernel))) rfl⟩
theorem mc_X5_apart : xcc yX5_apart cX5_apart 7 (some .int) := ⟨xw_of (xw_2 (List.mem_of_getElem? (i := 170) (by decide +kernel))) rfl, xw_of (xw_1 (List.mem_of_getElem? (i := 3) (by decide +kernel))) rfl, by decide, by decide⟩
theorem mn_X5_apart : xcn yX5_apart 4 := by unfold xcn; decide +kernel
theorem mv_X5_apart : xcv yX5_apart := ⟨xw_of (xw_2 (List.mem_of_getElem? (i := 169) (by decide +kernel))) rfl, xw_of (xw_s (List.mem_of_getElem? (i := 27) (by decide +kernel))) rfl⟩
theorem mc_X5_nearest : xcc yX5_nearest cX5_nearest 6 (some .int) := ⟨xw_of (xw_2 (List.mem_of_getElem? (i := 166) (by decide +kernel))) rfl, xw_of (xw_1 (List.mem_of_getElem? (i := 3) (by decide +kernel))) rfl, by decide, by decide⟩
theorem mn_X5_nearest : xcn yX5_nearest 3 := by unfold xcn; decide +kernel
theorem mv_X5_nearest : xcv yX5_nearest := ⟨xw_of (xw_2 (List.mem_of_getElem? (i := 165) (by decide +kernel))) rfl, xw_of (xw_s (List.mem_of_getElem? (i := 26) (by decide +kernel))) rfl⟩
theorem mc_X6_init : xcc yX6_init cX6_init 2 none := ⟨xw_of (xw_1 (List.mem_of_getElem? (i := 16) (by decide +kernel))) rfl, xw_of (xw_1 (List.mem_of_getElem? (i := 1) (by decide +kernel))) rfl, by decide, by decide⟩
theorem mn_X6_init : xcn yX6_init 0 := by unfold xcn; decide +kernel
theorem mi_X6_init : Cond.instanceMethod yX6_init ∈ xw_all := xw_of (xw_1 (List.mem_of_getElem? (i := 15) (by decide +kernel))) rfl
theorem mc_X6_statues : xcc yX6_statues cX6_statues 8 (some .int) := ⟨xw_of (xw_1 (List.mem_of_getElem? (i := 166) (by decide +kernel))) rfl, xw_of (xw_1 (List.mem_of_getElem? (i := 1) (by decide +kernel))) rfl, by decide, by decide⟩
theorem mn_X6_statues : xcn yX6_statues 4 := by unfold xcn; decide +kernel
theorem mv_X6_statues : xcv yX6_statues := ⟨xw_of (xw_1 (List.mem_of_getElem? (i := 164) (by decide +kernel))) rfl, xw_of (xw_1 (List.mem_of_getElem? (i := 165) (by decide +kernel))) rfl⟩
theorem mc_X6_ofStatue : xcc yX6_ofStatue cX6_ofStatue 4 (some .int) := ⟨xw_of (xw_1 (List.mem_of_getElem? (i := 219) (by decide +kernel))) rfl, xw_of (xw_1 (List.mem_of_getElem? (i := 1) (by decide +kernel))) rfl, by decide, by decide⟩
theorem mn_X6_ofStatue : xcn yX6_ofStatue 2 := by unfold xcn; decide +kernel
theorem mv_X6_ofStatue : xcv yX6_ofStatue := ⟨xw_of (xw_1 (List.mem_of_getElem? (i := 217) (by decide +kernel))) rfl, xw_of (xw_1 (List.mem_of_getElem? (i := 218) (by decide +kernel))) rfl⟩
theorem mc_X6_look : xcc yX6_look cX6_look 5 (some .int) := ⟨xw_of (xw_1 (List.mem_of_getElem? (i := 227) (by decide +kernel))) rfl, xw_of (xw_1 (List.mem_of_getElem? (i := 1) (by decide +kernel))) rfl, by decide, by decide⟩
theorem mn_X6_look : xcn yX6_look 2 := by unfold xcn; decide +kernel
theorem mv_X6_look : xcv yX6_look := ⟨xw_of (xw_1 (List.mem_of_getElem? (i := 225) (by decide +kernel))) rfl, xw_of (xw_1 (List.mem_of_getElem? (i := 226) (by decide +kernel))) rfl⟩
theorem mc_X6_over : xcc yX6_over cX6_over 5 (some .int) := ⟨xw_of (xw_1 (List.mem_of_getElem? (i := 238) (by decide +kernel))) rfl, xw_of (xw_1 (List.mem_of_getElem? (i := 1) (by decide +kernel))) rfl, by decide, by decide⟩
theorem mn_X6_over : xcn yX6_over 2 := by unfold xcn; decide +kernel
theorem mv_X6_over : xcv yX6_over := ⟨xw_of (xw_1 (List.mem_of_getElem? (i := 236) (by decide +kernel))) rfl, xw_of (xw_1 (List.mem_of_getElem? (i := 237) (by decide +kernel))) rfl⟩
theorem mc_X6_fence : xcc yX6_fence cX6_fence 4 (some .int) := ⟨xw_of (xw_2 (List.mem_of_getElem? (i := 2) (by decide +kernel))) rfl, xw_of (xw_1 (List.mem_of_getElem? (i := 1) (by decide +kernel))) rfl, by decide, by decide⟩
theorem mn_X6_fence : xcn yX6_fence 2 := by unfold xcn; decide +kernel
theorem mv_X6_fence : xcv yX6_fence := ⟨xw_of (xw_2 (List.mem_of_getElem? (i := 0) (by decide +kernel))) rfl, xw_of (xw_2 (List.mem_of_getElem? (i := 1) (by decide +kernel))) rfl⟩
theorem mc_X6_rain : xcc yX6_rain cX6_rain 5 (some .int) := ⟨xw_of (xw_2 (List.mem_of_getElem? (i := 6) (by decide +kernel))) rfl, xw_of (xw_1 (List.mem_of_getElem? (i := 1) (by decide +kernel))) rfl, by decide, by decide⟩
theorem mn_X6_rain : xcn yX6_rain 3 := by unfold xcn; decide +kernel
theorem mv_X6_rain : xcv yX6_rain := ⟨xw_of (xw_2 (List.mem_of_getElem? (i := 4) (by decide +kernel))) rfl, xw_of (xw_2 (List.mem_of_getElem? (i := 5) (by decide +kernel))) rfl⟩
theorem mc_X6_deer : xcc yX6_deer cX6_deer 3 (some .int) := ⟨xw_of (xw_2 (List.mem_of_getElem? (i := 15) (by decide +kernel))) rfl, xw_of (xw_1 (List.mem_of_getElem? (i := 1) (by decide +kernel))) rfl, by decide, by decide⟩
theorem mn_X6_deer : xcn yX6_deer 1 := by unfold xcn; decide +kernel
theorem mv_X6_deer : xcv yX6_deer := ⟨xw_of (xw_2 (List.mem_of_getElem? (i := 13) (by decide +kernel))) rfl, xw_of (xw_2 (List.mem_of_getElem? (i := 14) (by decide +kernel))) rfl⟩
theorem mc_X6_grains : xcc yX6_grains cX6_grains 4 (some .int) := ⟨xw_of (xw_2 (List.mem_of_getElem? (i := 19) (by decide +kernel))) rfl, xw_of (xw_1 (List.mem_of_getElem? (i := 1) (by decide +kernel))) rfl, by decide, by decide⟩
theorem mn_X6_grains : xcn yX6_grains 3 := by unfold xcn; decide +kernel
theorem mv_X6_grains : xcv yX6_grains := ⟨xw_of (xw_2 (List.mem_of_getElem? (i := 17) (by decide +kernel))) rfl, xw_of (xw_2 (List.mem_of_getElem? (i := 18) (by decide +kernel))) rfl⟩
theorem mc_X6_lost : xcc yX6_lost cX6_lost 4 (some .int) := ⟨xw_of (xw_2 (List.mem_of_getElem? (i := 60) (by decide +kernel))) rfl, xw_of (xw_1 (List.mem_of_getElem? (i := 1) (by decide +kernel))) rfl, by decide, by decide⟩
theorem mn_X6_lost : xcn yX6_lost 3 := by unfold xcn; decide +kernel
theorem mv_X6_lost : xcv yX6_lost := ⟨xw_of (xw_2 (List.mem_of_getElem? (i := 58) (by decide +kernel))) rfl, xw_of (xw_2 (List.mem_of_getElem? (i := 59) (by decide +kernel))) rfl⟩
theorem mc_X6_gone : xcc yX6_gone cX6_gone 4 (some .int) := ⟨xw_of (xw_2 (List.mem_of_getElem? (i := 85) (by decide +kernel))) rfl, xw_of (xw_1 (List.mem_of_getElem? (i := 1) (by decide +kernel))) rfl, by decide, by decide⟩
theorem mn_X6_gone : xcn yX6_gone 2 := by unfold xcn; decide +kernel
theorem mv_X6_gone : xcv yX6_gone := ⟨xw_of (xw_2 (List.mem_of_getElem? (i := 83) (by decide +kernel))) rfl, xw_of (xw_2 (List.mem_of_getElem? (i := 84) (by decide +kernel))) rfl⟩
theorem mc_X6_liked : xcc yX6_liked cX6_liked 2 (some .int) := ⟨xw_of (xw_2 (List.mem_of_getElem? (i := 97) (by decide +kernel))) rfl, xw_of (xw_1 (List.mem_of_getElem? (i := 1) (by decide +kernel))) rfl, by decide, by decide⟩
theorem mn_X6_liked : xcn yX6_liked 1 := by unfold xcn; decide +kernel
theorem mv_X6_liked : xcv yX6_liked := ⟨xw_of (xw_2 (List.mem_of_getElem? (i := 95) (by decide +kernel))) rfl, xw_of (xw_2 (List.mem_of_getElem? (i := 96) (by decide +kernel))) rfl⟩
theorem mc_X6_lasts : xcc yX6_lasts cX6_lasts 5 (some .long) := ⟨xw_of (xw_2 (List.mem_of_getElem? (i := 105) (by decide +kernel))) rfl, xw_of (xw_1 (List.mem_of_getElem? (i := 1) (by decide +kernel))) rfl, by decide, by decide⟩
theorem mn_X6_lasts : xcn yX6_lasts 1 := by unfold xcn; decide +kernel
theorem mv_X6_lasts : xcv yX6_lasts := ⟨xw_of (xw_2 (List.mem_of_getElem? (i := 103) (by decide +kernel))) rfl, xw_of (xw_2 (List.mem_of_getElem? (i := 104) (by decide +kernel))) rfl⟩
theorem mc_X6_umbrellas : xcc yX6_umbrellas cX6_umbrellas 3 (some .int) := ⟨xw_of (xw_2 (List.mem_of_getElem? (i := 122) (by decide +kernel))) rfl, xw_of (xw_1 (List.mem_of_getElem? (i := 1) (by decide +kernel))) rfl, by decide, by decide⟩
theorem mn_X6_umbrellas : xcn yX6_umbrellas 2 := by unfold xcn; decide +kernel
theorem mv_X6_umbrellas : xcv yX6_umbrellas := ⟨xw_of (xw_2 (List.mem_of_getElem? (i := 120) (by decide +kernel))) rfl, xw_of (xw_2 (List.mem_of_getElem? (i := 121) (by decide +kernel))) rfl⟩
theorem mc_X6_turn : xcc yX6_turn cX6_turn 2 (some .int) := ⟨xw_of (xw_2 (List.mem_of_getElem? (i := 143) (by decide +kernel))) rfl, xw_of (xw_1 (List.mem_of_getElem? (i := 1) (by decide +kernel))) rfl, by decide, by decide⟩
theorem mn_X6_turn : xcn yX6_turn 1 := by unfold xcn; decide +kernel
theorem mv_X6_turn : xcv yX6_turn := ⟨xw_of (xw_2 (List.mem_of_getElem? (i := 141) (by decide +kernel))) rfl, xw_of (xw_2 (List.mem_of_getElem? (i := 142) (by decide +kernel))) rfl⟩
theorem mc_X6_roofs : xcc yX6_roofs cX6_roofs 4 (some .int) := ⟨xw_of (xw_2 (List.mem_of_getElem? (i := 153) (by decide +kernel))) rfl, xw_of (xw_1 (List.mem_of_getElem? (i := 1) (by decide +kernel))) rfl, by decide, by decide⟩
theorem mn_X6_roofs : xcn yX6_roofs 2 := by unfold xcn; decide +kernel
theorem mv_X6_roofs : xcv yX6_roofs := ⟨xw_of (xw_2 (List.mem_of_getElem? (i := 151) (by decide +kernel))) rfl, xw_of (xw_2 (List.mem_of_getElem? (i := 152) (by decide +kernel))) rfl⟩
theorem mc_X6_takenFor : xcc yX6_takenFor cX6_takenFor 9 (some .int) := ⟨xw_of (xw_2 (List.mem_of_getElem? (i := 162) (by decide +kernel))) rfl, xw_of (xw_1 (List.mem_of_getElem? (i := 1) (by decide +kernel))) rfl, by decide, by decide⟩
theorem mn_X6_takenFor : xcn yX6_takenFor 5 := by unfold xcn; decide +kernel
theorem mv_X6_takenFor : xcv yX6_takenFor := ⟨xw_of (xw_2 (List.mem_of_getElem? (i := 160) (by decide +kernel))) rfl, xw_of (xw_2 (List.mem_of_getElem? (i := 161) (by decide +kernel))) rfl⟩
theorem mc_X6_whose : xcc yX6_whose cX6_whose 5 (some .int) := ⟨xw_of (xw_2 (List.mem_of_getElem? (i := 178) (by decide +kernel))) rfl, xw_of (xw_1 (List.mem_of_getElem? (i := 1) (by decide +kernel))) rfl, by decide, by decide⟩
theorem mn_X6_whose : xcn yX6_whose 2 := by unfold xcn; decide +kernel
theorem mv_X6_whose : xcv yX6_whose := ⟨xw_of (xw_2 (List.mem_of_getElem? (i := 176) (by decide +kernel))) rfl, xw_of (xw_2 (List.mem_of_getElem? (i := 177) (by decide +kernel))) rfl⟩
theorem mc_X6_reading : xcc yX6_reading cX6_reading 5 (some .int) := ⟨xw_of (xw_2 (List.mem_of_getElem? (i := 182) (by decide +kernel))) rfl, xw_of (xw_1 (List.mem_of_getElem? (i := 1) (by decide +kernel))) rfl, by decide, by decide⟩
theorem mn_X6_reading : xcn yX6_reading 4 := by unfold xcn; decide +kernel
theorem mv_X6_reading : xcv yX6_reading := ⟨xw_of (xw_2 (List.mem_of_getElem? (i := 180) (by decide +kernel))) rfl, xw_of (xw_2 (List.mem_of_getElem? (i := 181) (by decide +kernel))) rfl⟩
theorem mc_X6_back : xcc yX6_back cX6_back 2 (some .int) := ⟨xw_of (xw_2 (List.mem_of_getElem? (i := 190) (by decide +kernel))) rfl, xw_of (xw_1 (List.mem_of_getElem? (i := 1) (by decide +kernel))) rfl, by decide, by decide⟩
theorem mn_X6_back : xcn yX6_back 1 := by unfold xcn; decide +kernel
theorem mv_X6_back : xcv yX6_back := ⟨xw_of (xw_2 (List.mem_of_getElem? (i := 188) (by decide +kernel))) rfl, xw_of (xw_2 (List.mem_of_getElem? (i := 189) (by decide +kernel))) rfl⟩
theorem mc_X6_rains : xcc yX6_rains cX6_rains 5 (some .int) := ⟨xw_of (xw_2 (List.mem_of_getElem? (i := 194) (by decide +kernel))) rfl, xw_of (xw_1 (List.mem_of_getElem? (i := 1) (by decide +kernel))) rfl, by decide, by decide⟩
theorem mn_X6_rains : xcn yX6_rains 1 := by unfold xcn; decide +kernel
theorem mv_X6_rains : xcv yX6_rains := ⟨xw_of (xw_2 (List.mem_of_getElem? (i := 192) (by decide +kernel))) rfl, xw_of (xw_2 (List.mem_of_getElem? (i := 193) (by decide +kernel))) rfl⟩
theorem mc_X6_cast : xcc yX6_cast cX6_cast 5 (some .int) := ⟨xw_of (xw_2 (List.mem_of_getElem? (i := 203) (by decide +kernel))) rfl, xw_of (xw_1 (List.mem_of_getElem? (i := 1) (by decide +kernel))) rfl, by decide, by decide⟩
theorem mn_X6_cast : xcn yX6_cast 2 := by unfold xcn; decide +kernel
theorem mv_X6_cast : xcv yX6_cast := ⟨xw_of (xw_2 (List.mem_of_getElem? (i := 201) (by decide +kernel))) rfl, xw_of (xw_2 (List.mem_of_getElem? (i := 202) (by decide +kernel))) rfl⟩
theorem mc_X6_sheet : xcc yX6_sheet cX6_sheet 4 (some .int) := ⟨xw_of (xw_2 (List.mem_of_getElem? (i := 207) (by decide +kernel))) rfl, xw_of (xw_1 (List.mem_of_getElem? (i := 1) (by decide +kernel))) rfl, by decide, by decide⟩
theorem mn_X6_sheet : xcn yX6_sheet 3 := by unfold xcn; decide +kernel
theorem mv_X6_sheet : xcv yX6_sheet := ⟨xw_of (xw_2 (List.mem_of_getElem? (i := 205) (by decide +kernel))) rfl, xw_of (xw_2 (List.mem_of_getElem? (i := 206) (by decide +kernel))) rfl⟩
theorem mc_X6_lose : xcc yX6_lose cX6_lose 3 (some .int) := ⟨xw_of (xw_2 (List.mem_of_getElem? (i := 215) (by decide +kernel))) rfl, xw_of (xw_1 (List.mem_of_getElem? (i := 1) (by decide +kernel))) rfl, by decide, by decide⟩
theorem mn_X6_lose : xcn yX6_lose 1 := by unfold xcn; decide +kernel
theorem mv_X6_lose : xcv yX6_lose := ⟨xw_of (xw_2 (List.mem_of_getElem? (i := 213) (by decide +kernel))) rfl, xw_of (xw_2 (List.mem_of_getElem? (i := 214) (by decide +kernel))) rfl⟩
theorem mc_X6_put : xcc yX6_put cX6_put 5 (some .int) := ⟨xw_of (xw_2 (List.mem_of_getElem? (i := 219) (by decide +kernel))) rfl, xw_of (xw_1 (List.mem_of_getElem? (i := 1) (by decide +kernel))) rfl, by decide, by decide⟩
theorem mn_X6_put : xcn yX6_put 3 := by unfold xcn; decide +kernel
theorem mv_X6_put : xcv yX6_put := ⟨xw_of (xw_2 (List.mem_of_getElem? (i := 217) (by decide +kernel))) rfl, xw_of (xw_2 (List.mem_of_getElem? (i := 218) (by decide +kernel))) rfl⟩
theorem mc_X6_cell : xcc yX6_cell cX6_cell 6 (some .long) := ⟨xw_of (xw_2 (List.mem_of_getElem? (i := 227) (by decide +kernel))) rfl, xw_of (xw_1 (List.mem_of_getElem? (i := 1) (by decide +kernel))) rfl, by decide, by decide⟩
theorem mn_X6_cell : xcn yX6_cell 3 := by unfold xcn; decide +kernel
theorem mv_X6_cell : xcv yX6_cell := ⟨xw_of (xw_2 (List.mem_of_getElem? (i := 225) (by decide +kernel))) rfl, xw_of (xw_2 (List.mem_of_getElem? (i := 226) (by decide +kernel))) rfl⟩
theorem mc_X6_copy : xcc yX6_copy cX6_copy 8 (some .int) := ⟨xw_of (xw_2 (List.mem_of_getElem? (i := 231) (by decide +kernel))) rfl, xw_of (xw_1 (List.mem_of_getElem? (i := 1) (by decide +kernel))) rfl, by decide, by decide⟩
theorem mn_X6_copy : xcn yX6_copy 5 := by unfold xcn; decide +kernel
theorem mv_X6_copy : xcv yX6_copy := ⟨xw_of (xw_2 (List.mem_of_getElem? (i := 229) (by decide +kernel))) rfl, xw_of (xw_2 (List.mem_of_getElem? (i := 230) (by decide +kernel))) rfl⟩
theorem mc_X6_tell : xcc yX6_tell cX6_tell 3 (some .int) := ⟨xw_of (xw_2 (List.mem_of_getElem? (i := 236) (by decide +kernel))) rfl, xw_of (xw_1 (List.mem_of_getElem? (i := 1) (by decide +kernel))) rfl, by decide, by decide⟩
theorem mn_X6_tell : xcn yX6_tell 1 := by unfold xcn; decide +kernel
theorem mv_X6_tell : xcv yX6_tell := ⟨xw_of (xw_2 (List.mem_of_getElem? (i := 234) (by decide +kernel))) rfl, xw_of (xw_2 (List.mem_of_getElem? (i := 235) (by decide +kernel))) rfl⟩
theorem mc_X6_bow : xcc yX6_bow cX6_bow 2 (some .int) := ⟨xw_of (xw_3 (List.mem_of_getElem? (i := 16) (by decide +kernel))) rfl, xw_of (xw_1 (List.mem_of_getElem? (i := 1) (by decide +kernel))) rfl, by decide, by decide⟩
theorem mn_X6_bow : xcn yX6_bow 1 := by unfold xcn; decide +kernel
theorem mv_X6_bow : xcv yX6_bow := ⟨xw_of (xw_3 (List.mem_of_getElem? (i := 14) (by decide +kernel))) rfl, xw_of (xw_3 (List.mem_of_getElem? (i := 15) (by decide +kernel))) rfl⟩
theorem mc_X6_as : xcc yX6_as cX6_as 3 (some .int) := ⟨xw_of (xw_3 (List.mem_of_getElem? (i := 20) (by decide +kernel))) rfl, xw_of (xw_1 (List.mem_of_getElem? (i := 1) (by decide +kernel))) rfl, by decide, by decide⟩
theorem mn_X6_as : xcn yX6_as 2 := by unfold xcn; decide +kernel
theorem mv_X6_as : xcv yX6_as := ⟨xw_of (xw_3 (List.mem_of_getElem? (i := 18) (by decide +kernel))) rfl, xw_of (xw_3 (List.mem_of_getElem? (i := 19) (by decide +kernel))) rfl⟩
theorem mc_X6_trace : xcc yX6_trace cX6_trace 1 (some .int) := ⟨xw_of (xw_3 (List.mem_of_getElem? (i := 24) (by decide +kernel))) rfl, xw_of (xw_1 (List.mem_of_getElem? (i := 1) (by decide +kernel))) rfl, by decide, by decide⟩
theorem mn_X6_trace : xcn yX6_trace 0 := by unfold xcn; decide +kernel
theorem mv_X6_trace : xcv yX6_trace := ⟨xw_of (xw_3 (List.mem_of_getElem? (i := 22) (by decide +kernel))) rfl, xw_of (xw_3 (List.mem_of_getElem? (i := 23) (by decide +kernel))) rfl⟩
theorem mc_X6_fault : xcc yX6_fault cX6_fault 1 (some .int) := ⟨xw_of (xw_3 (List.mem_of_getElem? (i := 28) (by decide +kernel))) rfl, xw_of (xw_1 (List.mem_of_getElem? (i := 1) (by decide +kernel))) rfl, by decide, by decide⟩
theorem mn_X6_fault : xcn yX6_fault 0 := by unfold xcn; decide +kernel
theorem mv_X6_fault : xcv yX6_fault := ⟨xw_of (xw_3 (List.mem_of_getElem? (i := 26) (by decide +kernel))) rfl, xw_of (xw_3 (List.mem_of_getElem? (i := 27) (by decide +kernel))) rfl⟩
theorem mc_X6_many : xcc yX6_many cX6_many 2 (some .int) := ⟨xw_of (xw_3 (List.mem_of_getElem? (i := 32) (by decide +kernel))) rfl, xw_of (xw_1 (List.mem_of_getElem? (i := 1) (by decide +kernel))) rfl, by decide, by decide⟩
theorem mn_X6_many : xcn yX6_many 1 := by unfold xcn; decide +kernel
theorem mv_X6_many : xcv yX6_many := ⟨xw_of (xw_3 (List.mem_of_getElem? (i := 30) (by decide +kernel))) rfl, xw_of (xw_3 (List.mem_of_getElem? (i := 31) (by decide +kernel))) rfl⟩
theorem mc_X6_isBelow : xcc yX6_isBelow cX6_isBelow 2 (some .boolean) := ⟨xw_of (xw_1 (List.mem_of_getElem? (i := 172) (by decide +kernel))) rfl, xw_of (xw_1 (List.mem_of_getElem? (i := 1) (by decide +kernel))) rfl, by decide, by decide⟩
theorem mn_X6_isBelow : xcn yX6_isBelow 2 := by unfold xcn; decide +kernel
theorem ms_X6_isBelow : Cond.static yX6_isBelow ∈ xw_all := xw_of (xw_1 (List.mem_of_getElem? (i := 171) (by decide +kernel))) rfl
theorem mc_X6_isSheet : xcc yX6_isSheet cX6_isSheet 1 (some .boolean) := ⟨xw_of (xw_1 (List.mem_of_getElem? (i := 169) (by decide +kernel))) rfl, xw_of (xw_1 (List.mem_of_getElem? (i := 1) (by decide +kernel))) rfl, by decide, by decide⟩
theorem mn_X6_isSheet : xcn yX6_isSheet 1 := by unfold xcn; decide +kernel
theorem ms_X6_isSheet : Cond.static yX6_isSheet ∈ xw_all := xw_of (xw_1 (List.mem_of_getElem? (i := 168) (by decide +kernel))) rfl
theorem mc_X6_isLane : xcc yX6_isLane cX6_isLane 1 (some .boolean) := ⟨xw_of (xw_1 (List.mem_of_getElem? (i := 175) (by decide +kernel))) rfl, xw_of (xw_1 (List.mem_of_getElem? (i := 1) (by decide +kernel))) rfl, by decide, by decide⟩
theorem mn_X6_isLane : xcn yX6_isLane 1 := by unfold xcn; decide +kernel
theorem ms_X6_isLane : Cond.static yX6_isLane ∈ xw_all := xw_of (xw_1 (List.mem_of_getElem? (i := 174) (by decide +kernel))) rfl
theorem mc_X6_isDawn : xcc yX6_isDawn cX6_isDawn 1 (some .boolean) := ⟨xw_of (xw_2 (List.mem_of_getElem? (i := 22) (by decide +kernel))) rfl, xw_of (xw_1 (List.mem_of_getElem? (i := 1) (by decide +kernel))) rfl, by decide, by decide⟩
theorem mn_X6_isDawn : xcn yX6_isDawn 1 := by unfold xcn; decide +kernel
theorem ms_X6_isDawn : Cond.static yX6_isDawn ∈ xw_all := xw_of (xw_2 (List.mem_of_getElem? (i := 21) (by decide +kernel))) rfl
theorem mc_X6_isStatue : xcc yX6_isStatue cX6_isStatue 2 (some .boolean) := ⟨xw_of (xw_1 (List.mem_of_getElem? (i := 223) (by decide +kernel))) rfl, xw_of (xw_1 (List.mem_of_getElem? (i := 1) (by decide +kernel))) rfl, by decide, by decide⟩
theorem mn_X6_isStatue : xcn yX6_isStatue 1 := by unfold xcn; decide +kernel
theorem mv_X6_isStatue : xcv yX6_isStatue := ⟨xw_of (xw_1 (List.mem_of_getElem? (i := 222) (by decide +kernel))) rfl, xw_of (xw_s (List.mem_of_getElem? (i := 6) (by decide +kernel))) rfl⟩
theorem mc_X6_faulty : xcc yX6_faulty cX6_faulty 2 (some .int) := ⟨xw_of (xw_1 (List.mem_of_getElem? (i := 187) (by decide +kernel))) rfl, xw_of (xw_1 (List.mem_of_getElem? (i := 1) (by decide +kernel))) rfl, by decide, by decide⟩
theorem mn_X6_faulty : xcn yX6_faulty 1 := by unfold xcn; decide +kernel
theorem mv_X6_faulty : xcv yX6_faulty := ⟨xw_of (xw_1 (List.mem_of_getElem? (i := 186) (by decide +kernel))) rfl, xw_of (xw_s (List.mem_of_getElem? (i := 2) (by decide +kernel))) rfl⟩
theorem mc_X6_leave : xcc yX6_leave cX6_leave 2 none := ⟨xw_of (xw_3 (List.mem_of_getElem? (i := 4) (by decide +kernel))) rfl, xw_of (xw_1 (List.mem_of_getElem? (i := 1) (by decide +kernel))) rfl, by decide, by decide⟩
theorem mn_X6_leave : xcn yX6_leave 1 := by unfold xcn; decide +kernel
theorem mv_X6_leave : xcv yX6_leave := ⟨xw_of (xw_3 (List.mem_of_getElem? (i := 3) (by decide +kernel))) rfl, xw_of (xw_s (List.mem_of_getElem? (i := 33) (by decide +kernel))) rfl⟩
theorem mc_X6_saintTells : xcc yX6_saintTells cX6_saintTells 2 (some .int) := ⟨xw_of (xw_3 (List.mem_of_getElem? (i := 12) (by decide +kernel))) rfl, xw_of (xw_1 (List.mem_of_getElem? (i := 1) (by decide +kernel))) rfl, by decide, by decide⟩
theorem mn_X6_saintTells : xcn yX6_saintTells 1 := by unfold xcn; decide +kernel
theorem mv_X6_saintTells : xcv yX6_saintTells := ⟨xw_of (xw_3 (List.mem_of_getElem? (i := 11) (by decide +kernel))) rfl, xw_of (xw_s (List.mem_of_getElem? (i := 35) (by decide +kernel))) rfl⟩
theorem mc_X6_bishopTells : xcc yX6_bishopTells cX6_bishopTells 2 (some .int) := ⟨xw_of (xw_3 (List.mem_of_getElem? (i := 8) (by decide +kernel))) rfl, xw_of (xw_1 (List.mem_of_getElem? (i := 1) (by decide +kernel))) rfl, by decide, by decide⟩
theorem mn_X6_bishopTells : xcn yX6_bishopTells 1 := by unfold xcn; decide +kernel
theorem mv_X6_bishopTells : xcv yX6_bishopTells := ⟨xw_of (xw_3 (List.mem_of_getElem? (i := 7) (by decide +kernel))) rfl, xw_of (xw_s (List.mem_of_getElem? (i := 34) (by decide +kernel))) rfl⟩
theorem mc_X6_martyrTells : xcc yX6_martyrTells cX6_martyrTells 3 (some .int) := ⟨xw_of (xw_3 (List.mem_of_getElem? (i := 0) (by decide +kernel))) rfl, xw_of (xw_1 (List.mem_of_getElem? (i := 1) (by decide +kernel))) rfl, by decide, by decide⟩
theorem mn_X6_martyrTells : xcn yX6_martyrTells 1 := by unfold xcn; decide +kernel
theorem mv_X6_martyrTells : xcv yX6_martyrTells := ⟨xw_of (xw_2 (List.mem_of_getElem? (i := 239) (by decide +kernel))) rfl, xw_of (xw_s (List.mem_of_getElem? (i := 32) (by decide +kernel))) rfl⟩
theorem mc_X6_commonDivisor : xcc yX6_commonDivisor cX6_commonDivisor 6 (some .int) := ⟨xw_of (xw_2 (List.mem_of_getElem? (i := 118) (by decide +kernel))) rfl, xw_of (xw_1 (List.mem_of_getElem? (i := 1) (by decide +kernel))) rfl, by decide, by decide⟩
theorem mn_X6_commonDivisor : xcn yX6_commonDivisor 2 := by unfold xcn; decide +kernel
theorem ms_X6_commonDivisor : Cond.static yX6_commonDivisor ∈ xw_all := xw_of (xw_2 (List.mem_of_getElem? (i := 117) (by decide +kernel))) rfl
theorem mc_X7_init : xcc yX7_init cX7_init 2 none := ⟨xw_of (xw_3 (List.mem_of_getElem? (i := 37) (by decide +kernel))) rfl, xw_of (xw_1 (List.mem_of_getElem? (i := 6) (by decide +kernel))) rfl, by decide, by decide⟩
theorem mn_X7_init : xcn yX7_init 0 := by unfold xcn; decide +kernel
theorem mi_X7_init : Cond.instanceMethod yX7_init ∈ xw_all := xw_of (xw_3 (List.mem_of_getElem? (i := 36) (by decide +kernel))) rfl
theorem mc_X7_in : xcc yX7_in cX7_in 6 (some .boolean) := ⟨xw_of (xw_3 (List.mem_of_getElem? (i := 142) (by decide +kernel))) rfl, xw_of (xw_1 (List.mem_of_getElem? (i := 6) (by decide +kernel))) rfl, by decide, by decide⟩
theorem mn_X7_in : xcn yX7_in 3 := by unfold xcn; decide +kernel
theorem ms_X7_in : Cond.static yX7_in ∈ xw_all := xw_of (xw_3 (List.mem_of_getElem? (i := 141) (by decide +kernel))) rfl
theorem mc_X7_nothing : xcc yX7_nothing cX7_nothing 0 (some .long) := ⟨xw_of (xw_4 (List.mem_of_getElem? (i := 29) (by decide +kernel))) rfl, xw_of (xw_1 (List.mem_of_getElem? (i := 6) (by decide +kernel))) rfl, by decide, by decide⟩
theorem mn_X7_nothing : xcn yX7_nothing 0 := by unfold xcn; decide +kernel
theorem ms_X7_nothing : Cond.static yX7_nothing ∈ xw_all := xw_of (xw_4 (List.mem_of_getElem? (i := 28) (by decide +kernel))) rfl
theorem mc_X7_off : xcc yX7_off cX7_off 2 (some .int) := ⟨xw_of (xw_4 (List.mem_of_getElem? (i := 72) (by decide +kernel))) rfl, xw_of (xw_1 (List.mem_of_getElem? (i := 6) (by decide +kernel))) rfl, by decide, by decide⟩
theorem mn_X7_off : xcn yX7_off 2 := by unfold xcn; decide +kernel
theorem ms_X7_off : Cond.static yX7_off ∈ xw_all := xw_of (xw_4 (List.mem_of_getElem? (i := 71) (by decide +kernel))) rfl
theorem mc_X7_lesser : xcc yX7_lesser cX7_lesser 2 (some .int) := ⟨xw_of (xw_3 (List.mem_of_getElem? (i := 234) (by decide +kernel))) rfl, xw_of (xw_1 (List.mem_of_getElem? (i := 6) (by decide +kernel))) rfl, by decide, by decide⟩
theorem mn_X7_lesser : xcn yX7_lesser 2 := by unfold xcn; decide +kernel
theorem ms_X7_lesser : Cond.static yX7_lesser ∈ xw_all := xw_of (xw_3 (List.mem_of_getElem? (i := 233) (by decide +kernel))) rfl
theorem mc_X7_told : xcc yX7_told cX7_told 11 (some .long) := ⟨xw_of (xw_4 (List.mem_of_getElem? (i := 33) (by decide +kernel))) rfl, xw_of (xw_1 (List.mem_of_getElem? (i := 6) (by decide +kernel))) rfl, by decide, by decide⟩
theorem mn_X7_told : xcn yX7_told 3 := by unfold xcn; decide +kernel
theorem ms_X7_told : Cond.static yX7_told ∈ xw_all := xw_of (xw_4 (List.mem_of_getElem? (i := 32) (by decide +kernel))) rfl
theorem mc_X7_refused : xcc yX7_refused cX7_refused 2 (some .int) := ⟨xw_of (xw_3 (List.mem_of_getElem? (i := 146) (by decide +kernel))) rfl, xw_of (xw_1 (List.mem_of_getElem? (i := 6) (by decide +kernel))) rfl, by decide, by decide⟩
theorem mn_X7_refused : xcn yX7_refused 1 := by unfold xcn; decide +kernel
theorem mv_X7_refused : xcv yX7_refused := ⟨xw_of (xw_3 (List.mem_of_getElem? (i := 145) (by decide +kernel))) rfl, xw_of (xw_s (List.mem_of_getElem? (i := 37) (by decide +kernel))) rfl⟩
theorem mc_X7_failed : xcc yX7_failed cX7_failed 2 (some .int) := ⟨xw_of (xw_3 (List.mem_of_getElem? (i := 151) (by decide +kernel))) rfl, xw_of (xw_1 (List.mem_of_getElem? (i := 6) (by decide +kernel))) rfl, by decide, by decide⟩
theorem mn_X7_failed : xcn yX7_failed 1 := by unfold xcn; decide +kernel
theorem mv_X7_failed : xcv yX7_failed := ⟨xw_of (xw_3 (List.mem_of_getElem? (i := 150) (by decide +kernel))) rfl, xw_of (xw_s (List.mem_of_getElem? (i := 38) (by decide +kernel))) rfl⟩
theorem mc_X7_failedLong : xcc yX7_failedLong cX7_failedLong 2 (some .long) := ⟨xw_of (xw_4 (List.mem_of_getElem? (i := 121) (by decide +kernel))) rfl, xw_of (xw_1 (List.mem_of_getElem? (i := 6) (by decide +kernel))) rfl, by decide, by decide⟩
theorem mn_X7_failedLong : xcn yX7_failedLong 1 := by unfold xcn; decide +kernel
theorem mv_X7_failedLong : xcv yX7_failedLong := ⟨xw_of (xw_4 (List.mem_of_getElem? (i := 120) (by decide +kernel))) rfl, xw_of (xw_s (List.mem_of_getElem? (i := 59) (by decide +kernel))) rfl⟩
theorem mc_X7_barred : xcc yX7_barred cX7_barred 7 (some .int) := ⟨xw_of (xw_3 (List.mem_of_getElem? (i := 135) (by decide +kernel))) rfl, xw_of (xw_1 (List.mem_of_getElem? (i := 6) (by decide +kernel))) rfl, by decide, by decide⟩
theorem mn_X7_barred : xcn yX7_barred 5 := by unfold xcn; decide +kernel
theorem mv_X7_barred : xcv yX7_barred := ⟨xw_of (xw_3 (List.mem_of_getElem? (i := 134) (by decide +kernel))) rfl, xw_of (xw_s (List.mem_of_getElem? (i := 36) (by decide +kernel))) rfl⟩
theorem mc_X7_noOne : xcc yX7_noOne cX7_noOne 2 (some .boolean) := ⟨xw_of (xw_3 (List.mem_of_getElem? (i := 178) (by decide +kernel))) rfl, xw_of (xw_1 (List.mem_of_getElem? (i := 6) (by decide +kernel))) rfl, by decide, by decide⟩
theorem mn_X7_noOne : xcn yX7_noOne 1 := by unfold xcn; decide +kernel
theorem mv_X7_noOne : xcv yX7_noOne := ⟨xw_of (xw_3 (List.mem_of_getElem? (i := 177) (by decide +kernel))) rfl, xw_of (xw_s (List.mem_of_getElem? (i := 43) (by decide +kernel))) rfl⟩
theorem mc_X7_isDawn : xcc yX7_isDawn cX7_isDawn 1 (some .boolean) := ⟨xw_of (xw_3 (List.mem_of_getElem? (i := 210) (by decide +kernel))) rfl, xw_of (xw_1 (List.mem_of_getElem? (i := 6) (by decide +kernel))) rfl, by decide, by decide⟩
theorem mn_X7_isDawn : xcn yX7_isDawn 1 := by unfold xcn; decide +kernel
theorem ms_X7_isDawn : Cond.static yX7_isDawn ∈ xw_all := xw_of (xw_3 (List.mem_of_getElem? (i := 209) (by decide +kernel))) rfl
theorem mc_X7_codeAt : xcc yX7_codeAt cX7_codeAt 3 (some .int) := ⟨xw_of (xw_3 (List.mem_of_getElem? (i := 166) (by decide +kernel))) rfl, xw_of (xw_1 (List.mem_of_getElem? (i := 6) (by decide +kernel))) rfl, by decide, by decide⟩
theorem mn_X7_codeAt : xcn yX7_codeAt 2 := by unfold xcn; decide +kernel
theorem mv_X7_codeAt : xcv yX7_codeAt := ⟨xw_of (xw_3 (List.mem_of_getElem? (i := 165) (by decide +kernel))) rfl, xw_of (xw_s (List.mem_of_getElem? (i := 41) (by decide +kernel))) rfl⟩
theorem mc_X7_figure : xcc yX7_figure cX7_figure 7 (some .int) := ⟨xw_of (xw_3 (List.mem_of_getElem? (i := 170) (by decide +kernel))) rfl, xw_of (xw_1 (List.mem_of_getElem? (i := 6) (by decide +kernel))) rfl, by decide, by decide⟩
theorem mn_X7_figure : xcn yX7_figure 4 := by unfold xcn; decide +kernel
theorem mv_X7_figure : xcv yX7_figure := ⟨xw_of (xw_3 (List.mem_of_getElem? (i := 169) (by decide +kernel))) rfl, xw_of (xw_s (List.mem_of_getElem? (i := 42) (by decide +kernel))) rfl⟩
theorem mc_X7_readsOne : xcc yX7_readsOne cX7_readsOne 6 (some .boolean) := ⟨xw_of (xw_3 (List.mem_of_getElem? (i := 162) (by decide +kernel))) rfl, xw_of (xw_1 (List.mem_of_getElem? (i := 6) (by decide +kernel))) rfl, by decide, by decide⟩
theorem mn_X7_readsOne : xcn yX7_readsOne 2 := by unfold xcn; decide +kernel
theorem mv_X7_readsOne : xcv yX7_readsOne := ⟨xw_of (xw_3 (List.mem_of_getElem? (i := 161) (by decide +kernel))) rfl, xw_of (xw_s (List.mem_of_getElem? (i := 40) (by decide +kernel))) rfl⟩
theorem mc_X7_readsAll : xcc yX7_readsAll cX7_readsAll 4 (some .boolean) := ⟨xw_of (xw_3 (List.mem_of_getElem? (i := 158) (by decide +kernel))) rfl, xw_of (xw_1 (List.mem_of_getElem? (i := 6) (by decide +kernel))) rfl, by decide, by decide⟩
theorem mn_X7_readsAll : xcn yX7_readsAll 2 := by unfold xcn; decide +kernel
theorem mv_X7_readsAll : xcv yX7_readsAll := ⟨xw_of (xw_3 (List.mem_of_getElem? (i := 157) (by decide +kernel))) rfl, xw_of (xw_s (List.mem_of_getElem? (i := 39) (by decide +kernel))) rfl⟩
theorem mc_X7_statues : xcc yX7_statues cX7_statues 8 (some .int) := ⟨xw_of (xw_3 (List.mem_of_getElem? (i := 131) (by decide +kernel))) rfl, xw_of (xw_1 (List.mem_of_getElem? (i := 6) (by decide +kernel))) rfl, by decide, by decide⟩
theorem mn_X7_statues : xcn yX7_statues 4 := by unfold xcn; decide +kernel
theorem mv_X7_statues : xcv yX7_statues := ⟨xw_of (xw_3 (List.mem_of_getElem? (i := 129) (by decide +kernel))) rfl, xw_of (xw_3 (List.mem_of_getElem? (i := 130) (by decide +kernel))) rfl⟩
theorem mc_X7_ofStatue : xcc yX7_ofStatue cX7_ofStatue 3 (some .int) := ⟨xw_of (xw_3 (List.mem_of_getElem? (i := 174) (by decide +kernel))) rfl, xw_of (xw_1 (List.mem_of_getElem? (i := 6) (by decide +kernel))) rfl, by decide, by decide⟩
theorem mn_X7_ofStatue : xcn yX7_ofStatue 2 := by unfold xcn; decide +kernel
theorem mv_X7_ofStatue : xcv yX7_ofStatue := ⟨xw_of (xw_3 (List.mem_of_getElem? (i := 172) (by decide +kernel))) rfl, xw_of (xw_3 (List.mem_of_getElem? (i := 173) (by decide +kernel))) rfl⟩
theorem mc_X7_look : xcc yX7_look cX7_look 4 (some .int) := ⟨xw_of (xw_3 (List.mem_of_getElem? (i := 182) (by decide +kernel))) rfl, xw_of (xw_1 (List.mem_of_getElem? (i := 6) (by decide +kernel))) rfl, by decide, by decide⟩
theorem mn_X7_look : xcn yX7_look 2 := by unfold xcn; decide +kernel
theorem mv_X7_look : xcv yX7_look := ⟨xw_of (xw_3 (List.mem_of_getElem? (i := 180) (by decide +kernel))) rfl, xw_of (xw_3 (List.mem_of_getElem? (i := 181) (by decide +kernel))) rfl⟩
theorem mc_X7_over : xcc yX7_over cX7_over 4 (some .int) := ⟨xw_of (xw_3 (List.mem_of_getElem? (i := 186) (by decide +kernel))) rfl, xw_of (xw_1 (List.mem_of_getElem? (i := 6) (by decide +kernel))) rfl, by decide, by decide⟩
theorem mn_X7_over : xcn yX7_over 2 := by unfold xcn; decide +kernel
theorem mv_X7_over : xcv yX7_over := ⟨xw_of (xw_3 (List.mem_of_getElem? (i := 184) (by decide +kernel))) rfl, xw_of (xw_3 (List.mem_of_getElem? (i := 185) (by decide +kernel))) rfl⟩
theorem mc_X7_fence : xcc yX7_fence cX7_fence 4 (some .int) := ⟨xw_of (xw_3 (List.mem_of_getElem? (i := 190) (by decide +kernel))) rfl, xw_of (xw_1 (List.mem_of_getElem? (i := 6) (by decide +kernel))) rfl, by decide, by decide⟩
theorem mn_X7_fence : xcn yX7_fence 2 := by unfold xcn; decide +kernel
theorem mv_X7_fence : xcv yX7_fence := ⟨xw_of (xw_3 (List.mem_of_getElem? (i := 188) (by decide +kernel))) rfl, xw_of (xw_3 (List.mem_of_getElem? (i := 189) (by decide +kernel))) rfl⟩
theorem mc_X7_rain : xcc yX7_rain cX7_rain 5 (some .int) := ⟨xw_of (xw_3 (List.mem_of_getElem? (i := 194) (by decide +kernel))) rfl, xw_of (xw_1 (List.mem_of_getElem? (i := 6) (by decide +kernel))) rfl, by decide, by decide⟩
theorem mn_X7_rain : xcn yX7_rain 3 := by unfold xcn; decide +kernel
theorem mv_X7_rain : xcv yX7_rain := ⟨xw_of (xw_3 (List.mem_of_getElem? (i := 192) (by decide +kernel))) rfl, xw_of (xw_3 (List.mem_of_getElem? (i := 193) (by decide +kernel))) rfl⟩
theorem mc_X7_deer : xcc yX7_deer cX7_deer 3 (some .int) := ⟨xw_of (xw_3 (List.mem_of_getElem? (i := 200) (by decide +kernel))) rfl, xw_of (xw_1 (List.mem_of_getElem? (i := 6) (by decide +kernel))) rfl, by decide, by decide⟩
theorem mn_X7_deer : xcn yX7_deer 1 := by unfold xcn; decide +kernel
theorem mv_X7_deer : xcv yX7_deer := ⟨xw_of (xw_3 (List.mem_of_getElem? (i := 198) (by decide +kernel))) rfl, xw_of (xw_3 (List.mem_of_getElem? (i := 199) (by decide +kernel))) rfl⟩
theorem mc_X7_begin : xcc yX7_begin cX7_begin 2 none := ⟨xw_of (xw_3 (List.mem_of_getElem? (i := 219) (by decide +kernel))) rfl, xw_of (xw_1 (List.mem_of_getElem? (i := 6) (by decide +kernel))) rfl, by decide, by decide⟩
theorem mn_X7_begin : xcn yX7_begin 0 := by unfold xcn; decide +kernel
theorem mv_X7_begin : xcv yX7_begin := ⟨xw_of (xw_3 (List.mem_of_getElem? (i := 218) (by decide +kernel))) rfl, xw_of (xw_s (List.mem_of_getElem? (i := 45) (by decide +kernel))) rfl⟩
theorem mc_X7_losesBy : xcc yX7_losesBy cX7_losesBy 5 (some .int) := ⟨xw_of (xw_3 (List.mem_of_getElem? (i := 231) (by decide +kernel))) rfl, xw_of (xw_1 (List.mem_of_getElem? (i := 6) (by decide +kernel))) rfl, by decide, by decide⟩
theorem mn_X7_losesBy : xcn yX7_losesBy 3 := by unfold xcn; decide +kernel
theorem mv_X7_losesBy : xcv yX7_losesBy := ⟨xw_of (xw_3 (List.mem_of_getElem? (i := 230) (by decide +kernel))) rfl, xw_of (xw_s (List.mem_of_getElem? (i := 48) (by decide +kernel))) rfl⟩
theorem mc_X7_rainOn : xcc yX7_rainOn cX7_rainOn 5 none := ⟨xw_of (xw_3 (List.mem_of_getElem? (i := 227) (by decide +kernel))) rfl, xw_of (xw_1 (List.mem_of_getElem? (i := 6) (by decide +kernel))) rfl, by decide, by decide⟩
theorem mn_X7_rainOn : xcn yX7_rainOn 1 := by unfold xcn; decide +kernel
theorem mv_X7_rainOn : xcv yX7_rainOn := ⟨xw_of (xw_3 (List.mem_of_getElem? (i := 226) (by decide +kernel))) rfl, xw_of (xw_s (List.mem_of_getElem? (i := 47) (by decide +kernel))) rfl⟩
theorem mc_X7_canLick : xcc yX7_canLick cX7_canLick 3 (some .boolean) := ⟨xw_of (xw_4 (List.mem_of_getElem? (i := 2) (by decide +kernel))) rfl, xw_of (xw_1 (List.mem_of_getElem? (i := 6) (by decide +kernel))) rfl, by decide, by decide⟩
theorem mn_X7_canLick : xcn yX7_canLick 1 := by unfold xcn; decide +kernel
theorem mv_X7_canLick : xcv yX7_canLick := ⟨xw_of (xw_4 (List.mem_of_getElem? (i := 1) (by decide +kernel))) rfl, xw_of (xw_s (List.mem_of_getElem? (i := 50) (by decide +kernel))) rfl⟩
theorem mc_X7_likedNow : xcc yX7_likedNow cX7_likedNow 3 (some .int) := ⟨xw_of (xw_3 (List.mem_of_getElem? (i := 238) (by decide +kernel))) rfl, xw_of (xw_1 (List.mem_of_getElem? (i := 6) (by decide +kernel))) rfl, by decide, by decide⟩
theorem mn_X7_likedNow : xcn yX7_likedNow 0 := by unfold xcn; decide +kernel
theorem mv_X7_likedNow : xcv yX7_likedNow := ⟨xw_of (xw_3 (List.mem_of_getElem? (i := 237) (by decide +kernel))) rfl, xw_of (xw_s (List.mem_of_getElem? (i := 49) (by decide +kernel))) rfl⟩
theorem mc_X7_goDay : xcc yX7_goDay cX7_goDay 5 none := ⟨xw_of (xw_3 (List.mem_of_getElem? (i := 223) (by decide +kernel))) rfl, xw_of (xw_1 (List.mem_of_getElem? (i := 6) (by decide +kernel))) rfl, by decide, by decide⟩
theorem mn_X7_goDay : xcn yX7_goDay 1 := by unfold xcn; decide +kernel
theorem mv_X7_goDay : xcv yX7_goDay := ⟨xw_of (xw_3 (List.mem_of_getElem? (i := 222) (by decide +kernel))) rfl, xw_of (xw_s (List.mem_of_getElem? (i := 46) (by decide +kernel))) rfl⟩
theorem mc_X7_goTo : xcc yX7_goTo cX7_goTo 3 none := ⟨xw_of (xw_3 (List.mem_of_getElem? (i := 215) (by decide +kernel))) rfl, xw_of (xw_1 (List.mem_of_getElem? (i := 6) (by decide +kernel))) rfl, by decide, by decide⟩
theorem mn_X7_goTo : xcn yX7_goTo 1 := by unfold xcn; decide +kernel
theorem mv_X7_goTo : xcv yX7_goTo := ⟨xw_of (xw_3 (List.mem_of_getElem? (i := 214) (by decide +kernel))) rfl, xw_of (xw_s (List.mem_of_getElem? (i := 44) (by decide +kernel))) rfl⟩
theorem mc_X7_noPart : xcc yX7_noPart cX7_noPart 1 (some .boolean) := ⟨xw_of (xw_3 (List.mem_of_getElem? (i := 207) (by decide +kernel))) rfl, xw_of (xw_1 (List.mem_of_getElem? (i := 6) (by decide +kernel))) rfl, by decide, by decide⟩
theorem mn_X7_noPart : xcn yX7_noPart 1 := by unfold xcn; decide +kernel
theorem ms_X7_noPart : Cond.static yX7_noPart ∈ xw_all := xw_of (xw_3 (List.mem_of_getElem? (i := 206) (by decide +kernel))) rfl
theorem mc_X7_grains : xcc yX7_grains cX7_grains 4 (some .int) := ⟨xw_of (xw_3 (List.mem_of_getElem? (i := 204) (by decide +kernel))) rfl, xw_of (xw_1 (List.mem_of_getElem? (i := 6) (by decide +kernel))) rfl, by decide, by decide⟩
theorem mn_X7_grains : xcn yX7_grains 3 := by unfold xcn; decide +kernel
theorem mv_X7_grains : xcv yX7_grains := ⟨xw_of (xw_3 (List.mem_of_getElem? (i := 202) (by decide +kernel))) rfl, xw_of (xw_3 (List.mem_of_getElem? (i := 203) (by decide +kernel))) rfl⟩
theorem mc_X7_lost : xcc yX7_lost cX7_lost 4 (some .int) := ⟨xw_of (xw_4 (List.mem_of_getElem? (i := 6) (by decide +kernel))) rfl, xw_of (xw_1 (List.mem_of_getElem? (i := 6) (by decide +kernel))) rfl, by decide, by decide⟩
theorem mn_X7_lost : xcn yX7_lost 3 := by unfold xcn; decide +kernel
theorem mv_X7_lost : xcv yX7_lost := ⟨xw_of (xw_4 (List.mem_of_getElem? (i := 4) (by decide +kernel))) rfl, xw_of (xw_4 (List.mem_of_getElem? (i := 5) (by decide +kernel))) rfl⟩
theorem mc_X7_isGoneNow : xcc yX7_isGoneNow cX7_isGoneNow 3 (some .boolean) := ⟨xw_of (xw_4 (List.mem_of_getElem? (i := 18) (by decide +kernel))) rfl, xw_of (xw_1 (List.mem_of_getElem? (i := 6) (by decide +kernel))) rfl, by decide, by decide⟩
theorem mn_X7_isGoneNow : xcn yX7_isGoneNow 2 := by unfold xcn; decide +kernel
theorem mv_X7_isGoneNow : xcv yX7_isGoneNow := ⟨xw_of (xw_4 (List.mem_of_getElem? (i := 17) (by decide +kernel))) rfl, xw_of (xw_s (List.mem_of_getElem? (i := 52) (by decide +kernel))) rfl⟩
theorem mc_X7_goneAt : xcc yX7_goneAt cX7_goneAt 4 (some .int) := ⟨xw_of (xw_4 (List.mem_of_getElem? (i := 14) (by decide +kernel))) rfl, xw_of (xw_1 (List.mem_of_getElem? (i := 6) (by decide +kernel))) rfl, by decide, by decide⟩
theorem mn_X7_goneAt : xcn yX7_goneAt 2 := by unfold xcn; decide +kernel
theorem mv_X7_goneAt : xcv yX7_goneAt := ⟨xw_of (xw_4 (List.mem_of_getElem? (i := 13) (by decide +kernel))) rfl, xw_of (xw_s (List.mem_of_getElem? (i := 51) (by decide +kernel))) rfl⟩
theorem mc_X7_gone : xcc yX7_gone cX7_gone 3 (some .int) := ⟨xw_of (xw_4 (List.mem_of_getElem? (i := 10) (by decide +kernel))) rfl, xw_of (xw_1 (List.mem_of_getElem? (i := 6) (by decide +kernel))) rfl, by decide, by decide⟩
theorem mn_X7_gone : xcn yX7_gone 2 := by unfold xcn; decide +kernel
theorem mv_X7_gone : xcv yX7_gone := ⟨xw_of (xw_4 (List.mem_of_getElem? (i := 8) (by decide +kernel))) rfl, xw_of (xw_4 (List.mem_of_getElem? (i := 9) (by decide +kernel))) rfl⟩
theorem mc_X7_liked : xcc yX7_liked cX7_liked 2 (some .int) := ⟨xw_of (xw_4 (List.mem_of_getElem? (i := 22) (by decide +kernel))) rfl, xw_of (xw_1 (List.mem_of_getElem? (i := 6) (by decide +kernel))) rfl, by decide, by decide⟩
theorem mn_X7_liked : xcn yX7_liked 1 := by unfold xcn; decide +kernel
theorem mv_X7_liked : xcv yX7_liked := ⟨xw_of (xw_4 (List.mem_of_getElem? (i := 20) (by decide +kernel))) rfl, xw_of (xw_4 (List.mem_of_getElem? (i := 21) (by decide +kernel))) rfl⟩
theorem mc_X7_lasts : xcc yX7_lasts cX7_lasts 7 (some .long) := ⟨xw_of (xw_4 (List.mem_of_getElem? (i := 26) (by decide +kernel))) rfl, xw_of (xw_1 (List.mem_of_getElem? (i := 6) (by decide +kernel))) rfl, by decide, by decide⟩
theorem mn_X7_lasts : xcn yX7_lasts 1 := by unfold xcn; decide +kernel
theorem mv_X7_lasts : xcv yX7_lasts := ⟨xw_of (xw_4 (List.mem_of_getElem? (i := 24) (by decide +kernel))) rfl, xw_of (xw_4 (List.mem_of_getElem? (i := 25) (by decide +kernel))) rfl⟩
theorem mc_X7_keepOver : xcc yX7_keepOver cX7_keepOver 2 none := ⟨xw_of (xw_4 (List.mem_of_getElem? (i := 41) (by decide +kernel))) rfl, xw_of (xw_1 (List.mem_of_getElem? (i := 6) (by decide +kernel))) rfl, by decide, by decide⟩
theorem mn_X7_keepOver : xcn yX7_keepOver 0 := by unfold xcn; decide +kernel
theorem mv_X7_keepOver : xcv yX7_keepOver := ⟨xw_of (xw_4 (List.mem_of_getElem? (i := 40) (by decide +kernel))) rfl, xw_of (xw_s (List.mem_of_getElem? (i := 53) (by decide +kernel))) rfl⟩
theorem mc_X7_takeOver : xcc yX7_takeOver cX7_takeOver 2 none := ⟨xw_of (xw_4 (List.mem_of_getElem? (i := 52) (by decide +kernel))) rfl, xw_of (xw_1 (List.mem_of_getElem? (i := 6) (by decide +kernel))) rfl, by decide, by decide⟩
theorem mn_X7_takeOver : xcn yX7_takeOver 0 := by unfold xcn; decide +kernel
theorem mv_X7_takeOver : xcv yX7_takeOver := ⟨xw_of (xw_4 (List.mem_of_getElem? (i := 51) (by decide +kernel))) rfl, xw_of (xw_s (List.mem_of_getElem? (i := 55) (by decide +kernel))) rfl⟩
theorem mc_X7_nosesNow : xcc yX7_nosesNow cX7_nosesNow 3 (some .int) := ⟨xw_of (xw_4 (List.mem_of_getElem? (i := 48) (by decide +kernel))) rfl, xw_of (xw_1 (List.mem_of_getElem? (i := 6) (by decide +kernel))) rfl, by decide, by decide⟩
theorem mn_X7_nosesNow : xcn yX7_nosesNow 0 := by unfold xcn; decide +kernel
theorem mv_X7_nosesNow : xcv yX7_nosesNow := ⟨xw_of (xw_4 (List.mem_of_getElem? (i := 47) (by decide +kernel))) rfl, xw_of (xw_s (List.mem_of_getElem? (i := 54) (by decide +kernel))) rfl⟩
theorem mc_X7_bits : xcc yX7_bits cX7_bits 3 (some .int) := ⟨xw_of (xw_4 (List.mem_of_getElem? (i := 44) (by decide +kernel))) rfl, xw_of (xw_1 (List.mem_of_getElem? (i := 6) (by decide +kernel))) rfl, by decide, by decide⟩
theorem mn_X7_bits : xcn yX7_bits 1 := by unfold xcn; decide +kernel
theorem ms_X7_bits : Cond.static yX7_bits ∈ xw_all := xw_of (xw_4 (List.mem_of_getElem? (i := 43) (by decide +kernel))) rfl
theorem mc_X7_umbrellas : xcc yX7_umbrellas cX7_umbrellas 7 (some .int) := ⟨xw_of (xw_4 (List.mem_of_getElem? (i := 37) (by decide +kernel))) rfl, xw_of (xw_1 (List.mem_of_getElem? (i := 6) (by decide +kernel))) rfl, by decide, by decide⟩
theorem mn_X7_umbrellas : xcn yX7_umbrellas 2 := by unfold xcn; decide +kernel
theorem mv_X7_umbrellas : xcv yX7_umbrellas := ⟨xw_of (xw_4 (List.mem_of_getElem? (i := 35) (by decide +kernel))) rfl, xw_of (xw_4 (List.mem_of_getElem? (i := 36) (by decide +kernel))) rfl⟩
theorem mc_X7_firstNose : xcc yX7_firstNose cX7_firstNose 2 (some .int) := ⟨xw_of (xw_4 (List.mem_of_getElem? (i := 60) (by decide +kernel))) rfl, xw_of (xw_1 (List.mem_of_getElem? (i := 6) (by decide +kernel))) rfl, by decide, by decide⟩
theorem mn_X7_firstNose : xcn yX7_firstNose 0 := by unfold xcn; decide +kernel
theorem mv_X7_firstNose : xcv yX7_firstNose := ⟨xw_of (xw_4 (List.mem_of_getElem? (i := 59) (by decide +kernel))) rfl, xw_of (xw_s (List.mem_of_getElem? (i := 56) (by decide +kernel))) rfl⟩
theorem mc_X7_turn : xcc yX7_turn cX7_turn 8 (some .int) := ⟨xw_of (xw_4 (List.mem_of_getElem? (i := 56) (by decide +kernel))) rfl, xw_of (xw_1 (List.mem_of_getElem? (i := 6) (by decide +kernel))) rfl, by decide, by decide⟩
theorem mn_X7_turn : xcn yX7_turn 1 := by unfold xcn; decide +kernel
theorem mv_X7_turn : xcv yX7_turn := ⟨xw_of (xw_4 (List.mem_of_getElem? (i := 54) (by decide +kernel))) rfl, xw_of (xw_4 (List.mem_of_getElem? (i := 55) (by decide +kernel))) rfl⟩
theorem mc_X7_roofs : xcc yX7_roofs cX7_roofs 6 (some .int) := ⟨xw_of (xw_4 (List.mem_of_getElem? (i := 64) (by decide +kernel))) rfl, xw_of (xw_1 (List.mem_of_getElem? (i := 6) (by decide +kernel))) rfl, by decide, by decide⟩
theorem mn_X7_roofs : xcn yX7_roofs 2 := by unfold xcn; decide +kernel
theorem mv_X7_roofs : xcv yX7_roofs := ⟨xw_of (xw_4 (List.mem_of_getElem? (i := 62) (by decide +kernel))) rfl, xw_of (xw_4 (List.mem_of_getElem? (i := 63) (by decide +kernel))) rfl⟩
theorem mc_X7_takenFor : xcc yX7_takenFor cX7_takenFor 13 (some .int) := ⟨xw_of (xw_4 (List.mem_of_getElem? (i := 68) (by decide +kernel))) rfl, xw_of (xw_1 (List.mem_of_getElem? (i := 6) (by decide +kernel))) rfl, by decide, by decide⟩
theorem mn_X7_takenFor : xcn yX7_takenFor 5 := by unfold xcn; decide +kernel
theorem mv_X7_takenFor : xcv yX7_takenFor := ⟨xw_of (xw_4 (List.mem_of_getElem? (i := 66) (by decide +kernel))) rfl, xw_of (xw_4 (List.mem_of_getElem? (i := 67) (by decide +kernel))) rfl⟩
theorem mc_X7_whose : xcc yX7_whose cX7_whose 5 (some .int) := ⟨xw_of (xw_4 (List.mem_of_getElem? (i := 76) (by decide +kernel))) rfl, xw_of (xw_1 (List.mem_of_getElem? (i := 6) (by decide +kernel))) rfl, by decide, by decide⟩
theorem mn_X7_whose : xcn yX7_whose 2 := by unfold xcn; decide +kernel
theorem mv_X7_whose : xcv yX7_whose := ⟨xw_of (xw_4 (List.mem_of_getElem? (i := 74) (by decide +kernel))) rfl, xw_of (xw_4 (List.mem_of_getElem? (i := 75) (by decide +kernel))) rfl⟩
theorem mc_X7_reading : xcc yX7_reading cX7_reading 5 (some .int) := ⟨xw_of (xw_4 (List.mem_of_getElem? (i := 80) (by decide +kernel))) rfl, xw_of (xw_1 (List.mem_of_getElem? (i := 6) (by decide +kernel))) rfl, by decide, by decide⟩
theorem mn_X7_reading : xcn yX7_reading 4 := by unfold xcn; decide +kernel
theorem mv_X7_reading : xcv yX7_reading := ⟨xw_of (xw_4 (List.mem_of_getElem? (i := 78) (by decide +kernel))) rfl, xw_of (xw_4 (List.mem_of_getElem? (i := 79) (by decide +kernel))) rfl⟩
theorem mc_X7_back : xcc yX7_back cX7_back 2 (some .int) := ⟨xw_of (xw_4 (List.mem_of_getElem? (i := 85) (by decide +kernel))) rfl, xw_of (xw_1 (List.mem_of_getElem? (i := 6) (by decide +kernel))) rfl, by decide, by decide⟩
theorem mn_X7_back : xcn yX7_back 1 := by unfold xcn; decide +kernel
theorem mv_X7_back : xcv yX7_back := ⟨xw_of (xw_4 (List.mem_of_getElem? (i := 83) (by decide +kernel))) rfl, xw_of (xw_4 (List.mem_of_getElem? (i := 84) (by decide +kernel))) rfl⟩
theorem mc_X7_areSo : xcc yX7_areSo cX7_areSo 4 (some .boolean) := ⟨xw_of (xw_4 (List.mem_of_getElem? (i := 93) (by decide +kernel))) rfl, xw_of (xw_1 (List.mem_of_getElem? (i := 6) (by decide +kernel))) rfl, by decide, by decide⟩
theorem mn_X7_areSo : xcn yX7_areSo 0 := by unfold xcn; decide +kernel
theorem mv_X7_areSo : xcv yX7_areSo := ⟨xw_of (xw_4 (List.mem_of_getElem? (i := 92) (by decide +kernel))) rfl, xw_of (xw_s (List.mem_of_getElem? (i := 57) (by decide +kernel))) rfl⟩
theorem mc_X7_rains : xcc yX7_rains cX7_rains 5 (some .int) := ⟨xw_of (xw_4 (List.mem_of_getElem? (i := 89) (by decide +kernel))) rfl, xw_of (xw_1 (List.mem_of_getElem? (i := 6) (by decide +kernel))) rfl, by decide, by decide⟩
theorem mn_X7_rains : xcn yX7_rains 1 := by unfold xcn; decide +kernel
theorem mv_X7_rains : xcv yX7_rains := ⟨xw_of (xw_4 (List.mem_of_getElem? (i := 87) (by decide +kernel))) rfl, xw_of (xw_4 (List.mem_of_getElem? (i := 88) (by decide +kernel))) rfl⟩
theorem mc_X7_cast : xcc yX7_cast cX7_cast 5 (some .int) := ⟨xw_of (xw_4 (List.mem_of_getElem? (i := 97) (by decide +kernel))) rfl, xw_of (xw_1 (List.mem_of_getElem? (i := 6) (by decide +kernel))) rfl, by decide, by decide⟩
theorem mn_X7_cast : xcn yX7_cast 2 := by unfold xcn; decide +kernel
theorem mv_X7_cast : xcv yX7_cast := ⟨xw_of (xw_4 (List.mem_of_getElem? (i := 95) (by decide +kernel))) rfl, xw_of (xw_4 (List.mem_of_getElem? (i := 96) (by decide +kernel))) rfl⟩
theorem mc_X7_noSheet : xcc yX7_noSheet cX7_noSheet 1 (some .boolean) := ⟨xw_of (xw_3 (List.mem_of_getElem? (i := 138) (by decide +kernel))) rfl, xw_of (xw_1 (List.mem_of_getElem? (i := 6) (by decide +kernel))) rfl, by decide, by decide⟩
theorem mn_X7_noSheet : xcn yX7_noSheet 1 := by unfold xcn; decide +kernel
theorem ms_X7_noSheet : Cond.static yX7_noSheet ∈ xw_all := xw_of (xw_3 (List.mem_of_getElem? (i := 137) (by decide +kernel))) rfl
theorem mc_X7_sheet : xcc yX7_sheet cX7_sheet 5 (some .int) := ⟨xw_of (xw_4 (List.mem_of_getElem? (i := 101) (by decide +kernel))) rfl, xw_of (xw_1 (List.mem_of_getElem? (i := 6) (by decide +kernel))) rfl, by decide, by decide⟩
theorem mn_X7_sheet : xcn yX7_sheet 3 := by unfold xcn; decide +kernel
theorem mv_X7_sheet : xcv yX7_sheet := ⟨xw_of (xw_4 (List.mem_of_getElem? (i := 99) (by decide +kernel))) rfl, xw_of (xw_4 (List.mem_of_getElem? (i := 100) (by decide +kernel))) rfl⟩
theorem mc_X7_lose : xcc yX7_lose cX7_lose 3 (some .int) := ⟨xw_of (xw_4 (List.mem_of_getElem? (i := 105) (by decide +kernel))) rfl, xw_of (xw_1 (List.mem_of_getElem? (i := 6) (by decide +kernel))) rfl, by decide, by decide⟩
theorem mn_X7_lose : xcn yX7_lose 1 := by unfold xcn; decide +kernel
theorem mv_X7_lose : xcv yX7_lose := ⟨xw_of (xw_4 (List.mem_of_getElem? (i := 103) (by decide +kernel))) rfl, xw_of (xw_4 (List.mem_of_getElem? (i := 104) (by decide +kernel))) rfl⟩
theorem mc_X7_noCell : xcc yX7_noCell cX7_noCell 3 (some .int) := ⟨xw_of (xw_4 (List.mem_of_getElem? (i := 113) (by decide +kernel))) rfl, xw_of (xw_1 (List.mem_of_getElem? (i := 6) (by decide +kernel))) rfl, by decide, by decide⟩
theorem mn_X7_noCell : xcn yX7_noCell 2 := by unfold xcn; decide +kernel
theorem mv_X7_noCell : xcv yX7_noCell := ⟨xw_of (xw_4 (List.mem_of_getElem? (i := 112) (by decide +kernel))) rfl, xw_of (xw_s (List.mem_of_getElem? (i := 58) (by decide +kernel))) rfl⟩
theorem mc_X7_put : xcc yX7_put cX7_put 4 (some .int) := ⟨xw_of (xw_4 (List.mem_of_getElem? (i := 109) (by decide +kernel))) rfl, xw_of (xw_1 (List.mem_of_getElem? (i := 6) (by decide +kernel))) rfl, by decide, by decide⟩
theorem mn_X7_put : xcn yX7_put 3 := by unfold xcn; decide +kernel
theorem mv_X7_put : xcv yX7_put := ⟨xw_of (xw_4 (List.mem_of_getElem? (i := 107) (by decide +kernel))) rfl, xw_of (xw_4 (List.mem_of_getElem? (i := 108) (by decide +kernel))) rfl⟩
theorem mc_X7_cell : xcc yX7_cell cX7_cell 4 (some .long) := ⟨xw_of (xw_4 (List.mem_of_getElem? (i := 117) (by decide +kernel))) rfl, xw_of (xw_1 (List.mem_of_getElem? (i := 6) (by decide +kernel))) rfl, by decide, by decide⟩
theorem mn_X7_cell : xcn yX7_cell 3 := by unfold xcn; decide +kernel
theorem mv_X7_cell : xcv yX7_cell := ⟨xw_of (xw_4 (List.mem_of_getElem? (i := 115) (by decide +kernel))) rfl, xw_of (xw_4 (List.mem_of_getElem? (i := 116) (by decide +kernel))) rfl⟩
theorem mc_X7_isBeyond : xcc yX7_isBeyond cX7_isBeyond 4 (some .boolean) := ⟨xw_of (xw_3 (List.mem_of_getElem? (i := 154) (by decide +kernel))) rfl, xw_of (xw_1 (List.mem_of_getElem? (i := 6) (by decide +kernel))) rfl, by decide, by decide⟩
theorem mn_X7_isBeyond : xcn yX7_isBeyond 3 := by unfold xcn; decide +kernel
theorem ms_X7_isBeyond : Cond.static yX7_isBeyond ∈ xw_all := xw_of (xw_3 (List.mem_of_getElem? (i := 153) (by decide +kernel))) rfl
theorem mc_X7_copy : xcc yX7_copy cX7_copy 7 (some .int) := ⟨xw_of (xw_4 (List.mem_of_getElem? (i := 125) (by decide +kernel))) rfl, xw_of (xw_1 (List.mem_of_getElem? (i := 6) (by decide +kernel))) rfl, by decide, by decide⟩
theorem mn_X7_copy : xcn yX7_copy 5 := by unfold xcn; decide +kernel
theorem mv_X7_copy : xcv yX7_copy := ⟨xw_of (xw_4 (List.mem_of_getElem? (i := 123) (by decide +kernel))) rfl, xw_of (xw_4 (List.mem_of_getElem? (i := 124) (by decide +kernel))) rfl⟩
theorem mc_X7_traced : xcc yX7_traced cX7_traced 2 none := ⟨xw_of (xw_4 (List.mem_of_getElem? (i := 133) (by decide +kernel))) rfl, xw_of (xw_1 (List.mem_of_getElem? (i := 6) (by decide +kernel))) rfl, by decide, by decide⟩
theorem mn_X7_traced : xcn yX7_traced 1 := by unfold xcn; decide +kernel
theorem mv_X7_traced : xcv yX7_traced := ⟨xw_of (xw_4 (List.mem_of_getElem? (i := 132) (by decide +kernel))) rfl, xw_of (xw_s (List.mem_of_getElem? (i := 60) (by decide +kernel))) rfl⟩
theorem mc_X7_tell : xcc yX7_tell cX7_tell 4 (some .int) := ⟨xw_of (xw_4 (List.mem_of_getElem? (i := 129) (by decide +kernel))) rfl, xw_of (xw_1 (List.mem_of_getElem? (i := 6) (by decide +kernel))) rfl, by decide, by decide⟩
theorem mn_X7_tell : xcn yX7_tell 1 := by unfold xcn; decide +kernel
theorem mv_X7_tell : xcv yX7_tell := ⟨xw_of (xw_4 (List.mem_of_getElem? (i := 127) (by decide +kernel))) rfl, xw_of (xw_4 (List.mem_of_getElem? (i := 128) (by decide +kernel))) rfl⟩
theorem mc_X7_bow : xcc yX7_bow cX7_bow 2 (some .int) := ⟨xw_of (xw_4 (List.mem_of_getElem? (i := 137) (by decide +kernel))) rfl, xw_of (xw_1 (List.mem_of_getElem? (i := 6) (by decide +kernel))) rfl, by decide, by decide⟩
theorem mn_X7_bow : xcn yX7_bow 1 := by unfold xcn; decide +kernel
theorem mv_X7_bow : xcv yX7_bow := ⟨xw_of (xw_4 (List.mem_of_getElem? (i := 135) (by decide +kernel))) rfl, xw_of (xw_4 (List.mem_of_getElem? (i := 136) (by decide +kernel))) rfl⟩
theorem mc_X7_as : xcc yX7_as cX7_as 3 (some .int) := ⟨xw_of (xw_4 (List.mem_of_getElem? (i := 141) (by decide +kernel))) rfl, xw_of (xw_1 (List.mem_of_getElem? (i := 6) (by decide +kernel))) rfl, by decide, by decide⟩
theorem mn_X7_as : xcn yX7_as 2 := by unfold xcn; decide +kernel
theorem mv_X7_as : xcv yX7_as := ⟨xw_of (xw_4 (List.mem_of_getElem? (i := 139) (by decide +kernel))) rfl, xw_of (xw_4 (List.mem_of_getElem? (i := 140) (by decide +kernel))) rfl⟩
theorem mc_X7_trace : xcc yX7_trace cX7_trace 1 (some .int) := ⟨xw_of (xw_4 (List.mem_of_getElem? (i := 145) (by decide +kernel))) rfl, xw_of (xw_1 (List.mem_of_getElem? (i := 6) (by decide +kernel))) rfl, by decide, by decide⟩
theorem mn_X7_trace : xcn yX7_trace 0 := by unfold xcn; decide +kernel
theorem mv_X7_trace : xcv yX7_trace := ⟨xw_of (xw_4 (List.mem_of_getElem? (i := 143) (by decide +kernel))) rfl, xw_of (xw_4 (List.mem_of_getElem? (i := 144) (by decide +kernel))) rfl⟩
theorem mc_X7_fault : xcc yX7_fault cX7_fault 1 (some .int) := ⟨xw_of (xw_4 (List.mem_of_getElem? (i := 149) (by decide +kernel))) rfl, xw_of (xw_1 (List.mem_of_getElem? (i := 6) (by decide +kernel))) rfl, by decide, by decide⟩
theorem mn_X7_fault : xcn yX7_fault 0 := by unfold xcn; decide +kernel
theorem mv_X7_fault : xcv yX7_fault := ⟨xw_of (xw_4 (List.mem_of_getElem? (i := 147) (by decide +kernel))) rfl, xw_of (xw_4 (List.mem_of_getElem? (i := 148) (by decide +kernel))) rfl⟩
theorem mc_X7_many : xcc yX7_many cX7_many 2 (some .int) := ⟨xw_of (xw_4 (List.mem_of_getElem? (i := 153) (by decide +kernel))) rfl, xw_of (xw_1 (List.mem_of_getElem? (i := 6) (by decide +kernel))) rfl, by decide, by decide⟩
theorem mn_X7_many : xcn yX7_many 1 := by unfold xcn; decide +kernel
theorem mv_X7_many : xcv yX7_many := ⟨xw_of (xw_4 (List.mem_of_getElem? (i := 151) (by decide +kernel))) rfl, xw_of (xw_4 (List.mem_of_getElem? (i := 152) (by decide +kernel))) rfl⟩
theorem mc_J6_bitCount_0f7a4 : xcc yJ6_bitCount_0f7a4 cJ6_bitCount_0f7a4 1 (some .int) := ⟨xw_of (xw_2 (List.mem_of_getElem? (i := 136) (by decide +kernel))) rfl, xw_of (xw_1 (List.mem_of_getElem? (i := 11) (by decide +kernel))) rfl, by decide, by decide⟩
theorem mn_J6_bitCount_0f7a4 : xcn yJ6_bitCount_0f7a4 1 := by unfold xcn; decide +kernel
theorem ms_J6_bitCount_0f7a4 : Cond.static yJ6_bitCount_0f7a4 ∈ xw_all := xw_of (xw_2 (List.mem_of_getElem? (i := 135) (by decide +kernel))) rfl
theorem mc_J9_abs_0f7a4 : xcc yJ9_abs_0f7a4 cJ9_abs_0f7a4 1 (some .int) := ⟨xw_of (xw_2 (List.mem_of_getElem? (i := 173) (by decide +kernel))) rfl, xw_of (xw_1 (List.mem_of_getElem? (i := 9) (by decide +kernel))) rfl, by decide, by decide⟩
theorem mn_J9_abs_0f7a4 : xcn yJ9_abs_0f7a4 1 := by unfold xcn; decide +kernel
theorem ms_J9_abs_0f7a4 : Cond.static yJ9_abs_0f7a4 ∈ xw_all := xw_of (xw_2 (List.mem_of_getElem? (i := 172) (by decide +kernel))) rfl
theorem mc_J9_max_7cf53 : xcc yJ9_max_7cf53 cJ9_max_7cf53 2 (some .int) := ⟨xw_of (xw_2 (List.mem_of_getElem? (i := 56) (by decide +kernel))) rfl, xw_of (xw_1 (List.mem_of_getElem? (i := 9) (by decide +kernel))) rfl, by decide, by decide⟩
theorem mn_J9_max_7cf53 : xcn yJ9_max_7cf53 2 := by unfold xcn; decide +kernel
theorem ms_J9_max_7cf53 : Cond.static yJ9_max_7cf53 ∈ xw_all := xw_of (xw_2 (List.mem_of_getElem? (i := 55) (by decide +kernel))) rfl
theorem mc_J9_min_7cf53 : xcc yJ9_min_7cf53 cJ9_min_7cf53 2 (some .int) := ⟨xw_of (xw_1 (List.mem_of_getElem? (i := 234) (by decide +kernel))) rfl, xw_of (xw_1 (List.mem_of_getElem? (i := 9) (by decide +kernel))) rfl, by decide, by decide⟩
theorem mn_J9_min_7cf53 : xcn yJ9_min_7cf53 2 := by unfold xcn; decide +kernel
theorem ms_J9_min_7cf53 : Cond.static yJ9_min_7cf53 ∈ xw_all := xw_of (xw_1 (List.mem_of_getElem? (i := 233) (by decide +kernel))) rfl
theorem lk_X0_9 : xcl RX0 9 yX0_lastingUnder := xw_of (xw_2 (List.mem_of_getElem? (i := 126) (by decide +kernel))) rfl
theorem lk_X0_21 : xcl RX0 21 yJ9_min_7cf53 := xw_of (xw_2 (List.mem_of_getElem? (i := 133) (by decide +kernel))) rfl
theorem lk_X0_27 : xcl RX0 27 yJ6_bitCount_0f7a4 := xw_of (xw_2 (List.mem_of_getElem? (i := 134) (by decide +kernel))) rfl
theorem lk_X0_42 : xcl RX0 42 yX0_dawnWithoutNose := xw_of (xw_2 (List.mem_of_getElem? (i := 129) (by decide +kernel))) rfl
theorem lk_X0_46 : xcl RX0 46 yX0_firstDawnOfOthers := xw_of (xw_2 (List.mem_of_getElem? (i := 147) (by decide +kernel))) rfl
theorem ln_X0_62 : xcN RX0 62 yX3_washedOff := ⟨"SaltSaints", xw_nof (xw_2 (List.mem_of_getElem? (i := 132) (by decide +kernel))) rfl⟩
theorem ln_X0_66 : xcN RX0 66 yX5_leftOfPart := ⟨"SaltSaints", xw_nof (xw_2 (List.mem_of_getElem? (i := 157) (by decide +kernel))) rfl⟩
theorem lo_X1_3 : Cond.methodLink RX1 3 objectInit ∈ xw_all := xw_of (xw_1 (List.mem_of_getElem? (i := 129) (by decide +kernel))) rfl
theorem ln_X1_28 : xcN RX1 28 yX5_leftOfPart := ⟨"SaltSaints", xw_nof (xw_2 (List.mem_of_getElem? (i := 199) (by decide +kernel))) rfl⟩
theorem lo_X2_3 : Cond.methodLink RX2 3 objectInit ∈ xw_all := xw_of (xw_1 (List.mem_of_getElem? (i := 26) (by decide +kernel))) rfl
theorem lo_X3_3 : Cond.methodLink RX3 3 objectInit ∈ xw_all := xw_of (xw_1 (List.mem_of_getElem? (i := 59) (by decide +kernel))) rfl
theorem ln_X3_34 : xcN RX3 34 yX4_kindOf := ⟨"SaltSaints", xw_nof (xw_1 (List.mem_of_getElem? (i := 208) (by decide +kernel))) rfl⟩
theorem lk_X4_17 : xcl RX4 17 yX4_goesOn := xw_of (xw_1 (List.mem_of_getElem? (i := 191) (by decide +kernel))) rfl
theorem lk_X4_21 : xcl RX4 21 yX4_isWhole := xw_of (xw_1 (List.mem_of_getElem? (i := 197) (by decide +kernel))) rfl
theorem lk_X4_25 : xcl RX4 25 yX4_kindOf := xw_of (xw_1 (List.mem_of_getElem? (i := 194) (by decide +kernel))) rfl
theorem lo_X5_3 : Cond.methodLink RX5 3 objectInit ∈ xw_all := xw_of (xw_1 (List.mem_of_getElem? (i := 52) (by decide +kernel))) rfl
theorem ln_X5_17 : xcN RX5 17 yX3_init := ⟨"SaltSaints", xw_nof (xw_1 (List.mem_of_getElem? (i := 56) (by decide +kernel))) rfl⟩
theorem ln_X5_46 : xcN RX5 46 yX3_carve := ⟨"SaltSaints", xw_nof (xw_1 (List.mem_of_getElem? (i := 204) (by decide +kernel))) rfl⟩
theorem lk_X5_53 : Cond.methodLink RX5 53 arraycopyName ∈ xw_all := xw_of (xw_1 (List.mem_of_getElem? (i := 209) (by decide +kernel))) rfl
theorem lk_X5_59 : xcl RX5 59 yJ9_min_7cf53 := xw_of (xw_1 (List.mem_of_getElem? (i := 232) (by decide +kernel))) rfl
theorem lk_X5_65 : xcl RX5 65 yX5_forgetFrom := xw_of (xw_2 (List.mem_of_getElem? (i := 11) (by decide +kernel))) rfl
theorem lk_X5_69 : xcl RX5 69 yX5_pour := xw_of (xw_2 (List.mem_of_getElem? (i := 31) (by decide +kernel))) rfl
theorem lk_X5_72 : xcl RX5 72 yX5_graze := xw_of (xw_2 (List.mem_of_getElem? (i := 42) (by decide +kernel))) rfl
theorem lk_X5_75 : xcl RX5 75 yJ9_max_7cf53 := xw_of (xw_2 (List.mem_of_getElem? (i := 54) (by decide +kernel))) rfl
theorem lk_X5_78 : xcl RX5 78 yX5_placeOf := xw_of (xw_2 (List.mem_of_getElem? (i := 35) (by decide +kernel))) rfl
theorem ln_X5_88 : xcN RX5 88 yX3_washedOff := ⟨"SaltSaints", xw_nof (xw_2 (List.mem_of_getElem? (i := 38) (by decide +kernel))) rfl⟩
theorem lk_X5_92 : xcl RX5 92 yX5_likedBest := xw_of (xw_2 (List.mem_of_getElem? (i := 46) (by decide +kernel))) rfl
theorem ln_X5_96 : xcN RX5 96 yX3_lickable := ⟨"SaltSaints", xw_nof (xw_2 (List.mem_of_getElem? (i := 50) (by decide +kernel))) rfl⟩
theorem lk_X5_100 : xcl RX5 100 yX5_workOut := xw_of (xw_2 (List.mem_of_getElem? (i := 27) (by decide +kernel))) rfl
theorem lk_X5_103 : xcl RX5 103 yX5_sumOf := xw_of (xw_2 (List.mem_of_getElem? (i := 73) (by decide +kernel))) rfl
theorem lk_X5_106 : xcl RX5 106 yX5_leftOf := xw_of (xw_2 (List.mem_of_getElem? (i := 69) (by decide +kernel))) rfl
theorem ln_X5_109 : xcN RX5 109 yX3_allAtFirst := ⟨"SaltSaints", xw_nof (xw_2 (List.mem_of_getElem? (i := 65) (by decide +kernel))) rfl⟩
theorem lk_X5_113 : xcl RX5 113 yX5_lickedOff := xw_of (xw_2 (List.mem_of_getElem? (i := 77) (by decide +kernel))) rfl
theorem lk_X5_116 : xcl RX5 116 yX5_dawnWithoutAny := xw_of (xw_2 (List.mem_of_getElem? (i := 111) (by decide +kernel))) rfl
theorem lk_X5_124 : xcl RX5 124 yJ9_abs_0f7a4 := xw_of (xw_2 (List.mem_of_getElem? (i := 171) (by decide +kernel))) rfl
theorem lk_X5_127 : xcl RX5 127 yX5_apart := xw_of (xw_2 (List.mem_of_getElem? (i := 167) (by decide +kernel))) rfl
theorem lo_X6_3 : Cond.methodLink RX6 3 objectInit ∈ xw_all := xw_of (xw_1 (List.mem_of_getElem? (i := 17) (by decide +kernel))) rfl
theorem ln_X6_17 : xcN RX6 17 yX2_init := ⟨"SaltSaints", xw_nof (xw_1 (List.mem_of_getElem? (i := 23) (by decide +kernel))) rfl⟩
theorem ln_X6_20 : xcN RX6 20 yX5_init := ⟨"SaltSaints", xw_nof (xw_1 (List.mem_of_getElem? (i := 49) (by decide +kernel))) rfl⟩
theorem ln_X6_27 : xcN RX6 27 yX1_init := ⟨"SaltSaints", xw_nof (xw_1 (List.mem_of_getElem? (i := 126) (by decide +kernel))) rfl⟩
theorem lk_X6_39 : xcl RX6 39 yX6_isSheet := xw_of (xw_1 (List.mem_of_getElem? (i := 167) (by decide +kernel))) rfl
theorem lk_X6_43 : xcl RX6 43 yX6_isLane := xw_of (xw_1 (List.mem_of_getElem? (i := 173) (by decide +kernel))) rfl
theorem ln_X6_46 : xcN RX6 46 yX2_faultAs := ⟨"SaltSaints", xw_nof (xw_1 (List.mem_of_getElem? (i := 176) (by decide +kernel))) rfl⟩
theorem ln_X6_50 : xcN RX6 50 yX2_hasRun := ⟨"SaltSaints", xw_nof (xw_1 (List.mem_of_getElem? (i := 180) (by decide +kernel))) rfl⟩
theorem lk_X6_54 : xcl RX6 54 yX6_faulty := xw_of (xw_1 (List.mem_of_getElem? (i := 184) (by decide +kernel))) rfl
theorem ln_X6_57 : xcN RX6 57 yX4_firstFault := ⟨"SaltSaints", xw_nof (xw_1 (List.mem_of_getElem? (i := 188) (by decide +kernel))) rfl⟩
theorem ln_X6_63 : xcN RX6 63 yX5_settle := ⟨"SaltSaints", xw_nof (xw_1 (List.mem_of_getElem? (i := 200) (by decide +kernel))) rfl⟩
theorem ln_X6_67 : xcN RX6 67 yX1_keep := ⟨"SaltSaints", xw_nof (xw_1 (List.mem_of_getElem? (i := 212) (by decide +kernel))) rfl⟩
theorem lk_X6_74 : xcl RX6 74 yX6_isStatue := xw_of (xw_1 (List.mem_of_getElem? (i := 220) (by decide +kernel))) rfl
theorem lk_X6_100 : xcl RX6 100 yX6_isBelow := xw_of (xw_1 (List.mem_of_getElem? (i := 170) (by decide +kernel))) rfl
theorem ln_X6_103 : xcN RX6 103 yX5_forgetFrom := ⟨"SaltSaints", xw_nof (xw_1 (List.mem_of_getElem? (i := 228) (by decide +kernel))) rfl⟩
theorem ln_X6_112 : xcN RX6 112 yX5_letRain := ⟨"SaltSaints", xw_nof (xw_2 (List.mem_of_getElem? (i := 7) (by decide +kernel))) rfl⟩
theorem lk_X6_119 : xcl RX6 119 yX6_isDawn := xw_of (xw_2 (List.mem_of_getElem? (i := 20) (by decide +kernel))) rfl
theorem ln_X6_122 : xcN RX6 122 yX5_leftOfPart := ⟨"SaltSaints", xw_nof (xw_2 (List.mem_of_getElem? (i := 23) (by decide +kernel))) rfl⟩
theorem ln_X6_126 : xcN RX6 126 yX5_inPuddle := ⟨"SaltSaints", xw_nof (xw_2 (List.mem_of_getElem? (i := 61) (by decide +kernel))) rfl⟩
theorem ln_X6_130 : xcN RX6 130 yX5_lickedOff := ⟨"SaltSaints", xw_nof (xw_2 (List.mem_of_getElem? (i := 81) (by decide +kernel))) rfl⟩
theorem ln_X6_133 : xcN RX6 133 yX5_dawnWithoutPart := ⟨"SaltSaints", xw_nof (xw_2 (List.mem_of_getElem? (i := 86) (by decide +kernel))) rfl⟩
theorem ln_X6_136 : xcN RX6 136 yX5_dawnWithoutAny := ⟨"SaltSaints", xw_nof (xw_2 (List.mem_of_getElem? (i := 90) (by decide +kernel))) rfl⟩
theorem ln_X6_139 : xcN RX6 139 yX5_likedFirst := ⟨"SaltSaints", xw_nof (xw_2 (List.mem_of_getElem? (i := 98) (by decide +kernel))) rfl⟩
theorem ln_X6_144 : xcN RX6 144 yX5_longestLasting := ⟨"SaltSaints", xw_nof (xw_2 (List.mem_of_getElem? (i := 107) (by decide +kernel))) rfl⟩
theorem ln_X6_148 : xcN RX6 148 yX5_leftOfAll := ⟨"SaltSaints", xw_nof (xw_2 (List.mem_of_getElem? (i := 112) (by decide +kernel))) rfl⟩
theorem lk_X6_151 : xcl RX6 151 yX6_commonDivisor := xw_of (xw_2 (List.mem_of_getElem? (i := 116) (by decide +kernel))) rfl
theorem ln_X6_154 : xcN RX6 154 yX0_giveUmbrellas := ⟨"SaltSaints", xw_nof (xw_2 (List.mem_of_getElem? (i := 123) (by decide +kernel))) rfl⟩
theorem ln_X6_160 : xcN RX6 160 yX0_turnOne := ⟨"SaltSaints", xw_nof (xw_2 (List.mem_of_getElem? (i := 144) (by decide +kernel))) rfl⟩
theorem ln_X6_164 : xcN RX6 164 yX0_nosesGone := ⟨"SaltSaints", xw_nof (xw_2 (List.mem_of_getElem? (i := 154) (by decide +kernel))) rfl⟩
theorem lk_X6_167 : xcl RX6 167 yJ6_bitCount_0f7a4 := xw_of (xw_2 (List.mem_of_getElem? (i := 158) (by decide +kernel))) rfl
theorem ln_X6_175 : xcN RX6 175 yX5_nearest := ⟨"SaltSaints", xw_nof (xw_2 (List.mem_of_getElem? (i := 163) (by decide +kernel))) rfl⟩
theorem ln_X6_178 : xcN RX6 178 yX5_apart := ⟨"SaltSaints", xw_nof (xw_2 (List.mem_of_getElem? (i := 174) (by decide +kernel))) rfl⟩
theorem ln_X6_183 : xcN RX6 183 yX1_note := ⟨"SaltSaints", xw_nof (xw_2 (List.mem_of_getElem? (i := 183) (by decide +kernel))) rfl⟩
theorem ln_X6_187 : xcN RX6 187 yX1_allHold := ⟨"SaltSaints", xw_nof (xw_2 (List.mem_of_getElem? (i := 195) (by decide +kernel))) rfl⟩
theorem ln_X6_191 : xcN RX6 191 yX2_renew := ⟨"SaltSaints", xw_nof (xw_2 (List.mem_of_getElem? (i := 208) (by decide +kernel))) rfl⟩
theorem ln_X6_197 : xcN RX6 197 yX2_cut := ⟨"SaltSaints", xw_nof (xw_2 (List.mem_of_getElem? (i := 220) (by decide +kernel))) rfl⟩
theorem lk_X6_203 : Cond.methodLink RX6 203 arraycopyName ∈ xw_all := xw_of (xw_2 (List.mem_of_getElem? (i := 232) (by decide +kernel))) rfl
theorem lk_X6_209 : xcl RX6 209 yX6_martyrTells := xw_of (xw_2 (List.mem_of_getElem? (i := 237) (by decide +kernel))) rfl
theorem lk_X6_213 : xcl RX6 213 yX6_bishopTells := xw_of (xw_3 (List.mem_of_getElem? (i := 5) (by decide +kernel))) rfl
theorem lk_X6_216 : xcl RX6 216 yX6_saintTells := xw_of (xw_3 (List.mem_of_getElem? (i := 9) (by decide +kernel))) rfl
theorem lk_X6_219 : xcl RX6 219 yX6_leave := xw_of (xw_3 (List.mem_of_getElem? (i := 1) (by decide +kernel))) rfl
theorem lo_X7_1 : Cond.methodLink RX7 1 objectInit ∈ xw_all := xw_of (xw_3 (List.mem_of_getElem? (i := 38) (by decide +kernel))) rfl
theorem lk_X7_83 : xcl RX7 83 yX7_nothing := xw_of (xw_4 (List.mem_of_getElem? (i := 27) (by decide +kernel))) rfl
theorem lk_X7_87 : xcl RX7 87 yX7_noSheet := xw_of (xw_3 (List.mem_of_getElem? (i := 136) (by decide +kernel))) rfl
theorem lk_X7_91 : xcl RX7 91 yX7_refused := xw_of (xw_3 (List.mem_of_getElem? (i := 143) (by decide +kernel))) rfl
theorem lk_X7_97 : xcl RX7 97 yX7_in := xw_of (xw_3 (List.mem_of_getElem? (i := 140) (by decide +kernel))) rfl
theorem lk_X7_101 : xcl RX7 101 yX7_failed := xw_of (xw_3 (List.mem_of_getElem? (i := 148) (by decide +kernel))) rfl
theorem lk_X7_104 : xcl RX7 104 yX7_isBeyond := xw_of (xw_3 (List.mem_of_getElem? (i := 152) (by decide +kernel))) rfl
theorem lk_X7_116 : xcl RX7 116 yX7_codeAt := xw_of (xw_3 (List.mem_of_getElem? (i := 163) (by decide +kernel))) rfl
theorem lk_X7_123 : xcl RX7 123 yX7_figure := xw_of (xw_3 (List.mem_of_getElem? (i := 167) (by decide +kernel))) rfl
theorem lk_X7_127 : xcl RX7 127 yX7_readsOne := xw_of (xw_3 (List.mem_of_getElem? (i := 159) (by decide +kernel))) rfl
theorem lk_X7_131 : xcl RX7 131 yX7_barred := xw_of (xw_3 (List.mem_of_getElem? (i := 132) (by decide +kernel))) rfl
theorem lk_X7_135 : xcl RX7 135 yX7_readsAll := xw_of (xw_3 (List.mem_of_getElem? (i := 155) (by decide +kernel))) rfl
theorem lk_X7_144 : xcl RX7 144 yX7_noOne := xw_of (xw_3 (List.mem_of_getElem? (i := 175) (by decide +kernel))) rfl
theorem lk_X7_153 : xcl RX7 153 yX7_losesBy := xw_of (xw_3 (List.mem_of_getElem? (i := 228) (by decide +kernel))) rfl
theorem lk_X7_157 : xcl RX7 157 yX7_lesser := xw_of (xw_3 (List.mem_of_getElem? (i := 232) (by decide +kernel))) rfl
theorem lk_X7_160 : xcl RX7 160 yX7_canLick := xw_of (xw_3 (List.mem_of_getElem? (i := 239) (by decide +kernel))) rfl
theorem lk_X7_163 : xcl RX7 163 yX7_rainOn := xw_of (xw_3 (List.mem_of_getElem? (i := 224) (by decide +kernel))) rfl
theorem lk_X7_167 : xcl RX7 167 yX7_likedNow := xw_of (xw_3 (List.mem_of_getElem? (i := 235) (by decide +kernel))) rfl
theorem lk_X7_171 : xcl RX7 171 yX7_begin := xw_of (xw_3 (List.mem_of_getElem? (i := 216) (by decide +kernel))) rfl
theorem lk_X7_174 : xcl RX7 174 yX7_goDay := xw_of (xw_3 (List.mem_of_getElem? (i := 220) (by decide +kernel))) rfl
theorem lk_X7_177 : xcl RX7 177 yX7_noPart := xw_of (xw_3 (List.mem_of_getElem? (i := 205) (by decide +kernel))) rfl
theorem lk_X7_180 : xcl RX7 180 yX7_isDawn := xw_of (xw_3 (List.mem_of_getElem? (i := 208) (by decide +kernel))) rfl
theorem lk_X7_183 : xcl RX7 183 yX7_goTo := xw_of (xw_3 (List.mem_of_getElem? (i := 212) (by decide +kernel))) rfl
theorem lk_X7_186 : xcl RX7 186 yX7_isGoneNow := xw_of (xw_4 (List.mem_of_getElem? (i := 15) (by decide +kernel))) rfl
theorem lk_X7_189 : xcl RX7 189 yX7_goneAt := xw_of (xw_4 (List.mem_of_getElem? (i := 11) (by decide +kernel))) rfl
theorem lk_X7_192 : xcl RX7 192 yX7_told := xw_of (xw_4 (List.mem_of_getElem? (i := 31) (by decide +kernel))) rfl
theorem lk_X7_196 : xcl RX7 196 yX7_keepOver := xw_of (xw_4 (List.mem_of_getElem? (i := 38) (by decide +kernel))) rfl
theorem lk_X7_199 : xcl RX7 199 yX7_bits := xw_of (xw_4 (List.mem_of_getElem? (i := 42) (by decide +kernel))) rfl
theorem lk_X7_202 : xcl RX7 202 yX7_nosesNow := xw_of (xw_4 (List.mem_of_getElem? (i := 45) (by decide +kernel))) rfl
theorem lk_X7_205 : xcl RX7 205 yX7_takeOver := xw_of (xw_4 (List.mem_of_getElem? (i := 49) (by decide +kernel))) rfl
theorem lk_X7_208 : xcl RX7 208 yX7_firstNose := xw_of (xw_4 (List.mem_of_getElem? (i := 57) (by decide +kernel))) rfl
theorem lk_X7_213 : xcl RX7 213 yX7_off := xw_of (xw_4 (List.mem_of_getElem? (i := 70) (by decide +kernel))) rfl
theorem lk_X7_218 : xcl RX7 218 yX7_areSo := xw_of (xw_4 (List.mem_of_getElem? (i := 90) (by decide +kernel))) rfl
theorem lk_X7_222 : xcl RX7 222 yX7_noCell := xw_of (xw_4 (List.mem_of_getElem? (i := 110) (by decide +kernel))) rfl
theorem lk_X7_225 : xcl RX7 225 yX7_failedLong := xw_of (xw_4 (List.mem_of_getElem? (i := 118) (by decide +kernel))) rfl
theorem lk_X7_232 : xcl RX7 232 yX7_traced := xw_of (xw_4 (List.mem_of_getElem? (i := 130) (by decide +kernel))) rfl
theorem lk_L_9 : xcl RL 9 yX6_init := xw_of (xw_1 (List.mem_of_getElem? (i := 14) (by decide +kernel))) rfl
theorem lk_L_12 : xcl RL 12 yX7_init := xw_of (xw_3 (List.mem_of_getElem? (i := 35) (by decide +kernel))) rfl
theorem lk_L_13 : xcl RL 13 yX6_statues := xw_of (xw_1 (List.mem_of_getElem? (i := 163) (by decide +kernel))) rfl
theorem lk_L_17 : xcl RL 17 yX7_statues := xw_of (xw_3 (List.mem_of_getElem? (i := 128) (by decide +kernel))) rfl
theorem lk_L_18 : xcl RL 18 yX6_ofStatue := xw_of (xw_1 (List.mem_of_getElem? (i := 216) (by decide +kernel))) rfl
theorem lk_L_22 : xcl RL 22 yX7_ofStatue := xw_of (xw_3 (List.mem_of_getElem? (i := 171) (by decide +kernel))) rfl
theorem lk_L_23 : xcl RL 23 yX6_look := xw_of (xw_1 (List.mem_of_getElem? (i := 224) (by decide +kernel))) rfl
theorem lk_L_26 : xcl RL 26 yX7_look := xw_of (xw_3 (List.mem_of_getElem? (i := 179) (by decide +kernel))) rfl
theorem lk_L_27 : xcl RL 27 yX6_over := xw_of (xw_1 (List.mem_of_getElem? (i := 235) (by decide +kernel))) rfl
theorem lk_L_30 : xcl RL 30 yX7_over := xw_of (xw_3 (List.mem_of_getElem? (i := 183) (by decide +kernel))) rfl
theorem lk_L_31 : xcl RL 31 yX6_fence := xw_of (xw_1 (List.mem_of_getElem? (i := 239) (by decide +kernel))) rfl
theorem lk_L_35 : xcl RL 35 yX7_fence := xw_of (xw_3 (List.mem_of_getElem? (i := 187) (by decide +kernel))) rfl
theorem lk_L_36 : xcl RL 36 yX6_rain := xw_of (xw_2 (List.mem_of_getElem? (i := 3) (by decide +kernel))) rfl
theorem lk_L_40 : xcl RL 40 yX7_rain := xw_of (xw_3 (List.mem_of_getElem? (i := 191) (by decide +kernel))) rfl
theorem lk_L_41 : xcl RL 41 yX6_deer := xw_of (xw_2 (List.mem_of_getElem? (i := 12) (by decide +kernel))) rfl
theorem lk_L_45 : xcl RL 45 yX7_deer := xw_of (xw_3 (List.mem_of_getElem? (i := 197) (by decide +kernel))) rfl
theorem lk_L_46 : xcl RL 46 yX6_grains := xw_of (xw_2 (List.mem_of_getElem? (i := 16) (by decide +kernel))) rfl
theorem lk_L_49 : xcl RL 49 yX7_grains := xw_of (xw_3 (List.mem_of_getElem? (i := 201) (by decide +kernel))) rfl
theorem lk_L_50 : xcl RL 50 yX6_lost := xw_of (xw_2 (List.mem_of_getElem? (i := 57) (by decide +kernel))) rfl
theorem lk_L_53 : xcl RL 53 yX7_lost := xw_of (xw_4 (List.mem_of_getElem? (i := 3) (by decide +kernel))) rfl
theorem lk_L_54 : xcl RL 54 yX6_gone := xw_of (xw_2 (List.mem_of_getElem? (i := 82) (by decide +kernel))) rfl
theorem lk_L_57 : xcl RL 57 yX7_gone := xw_of (xw_4 (List.mem_of_getElem? (i := 7) (by decide +kernel))) rfl
theorem lk_L_58 : xcl RL 58 yX6_liked := xw_of (xw_2 (List.mem_of_getElem? (i := 94) (by decide +kernel))) rfl
theorem lk_L_61 : xcl RL 61 yX7_liked := xw_of (xw_4 (List.mem_of_getElem? (i := 19) (by decide +kernel))) rfl
theorem lk_L_62 : xcl RL 62 yX6_lasts := xw_of (xw_2 (List.mem_of_getElem? (i := 102) (by decide +kernel))) rfl
theorem lk_L_66 : xcl RL 66 yX7_lasts := xw_of (xw_4 (List.mem_of_getElem? (i := 23) (by decide +kernel))) rfl
theorem lk_L_67 : xcl RL 67 yX6_umbrellas := xw_of (xw_2 (List.mem_of_getElem? (i := 119) (by decide +kernel))) rfl
theorem lk_L_70 : xcl RL 70 yX7_umbrellas := xw_of (xw_4 (List.mem_of_getElem? (i := 34) (by decide +kernel))) rfl
theorem lk_L_71 : xcl RL 71 yX6_turn := xw_of (xw_2 (List.mem_of_getElem? (i := 140) (by decide +kernel))) rfl
theorem lk_L_74 : xcl RL 74 yX7_turn := xw_of (xw_4 (List.mem_of_getElem? (i := 53) (by decide +kernel))) rfl
theorem lk_L_75 : xcl RL 75 yX6_roofs := xw_of (xw_2 (List.mem_of_getElem? (i := 150) (by decide +kernel))) rfl
theorem lk_L_78 : xcl RL 78 yX7_roofs := xw_of (xw_4 (List.mem_of_getElem? (i := 61) (by decide +kernel))) rfl
theorem lk_L_79 : xcl RL 79 yX6_takenFor := xw_of (xw_2 (List.mem_of_getElem? (i := 159) (by decide +kernel))) rfl
theorem lk_L_83 : xcl RL 83 yX7_takenFor := xw_of (xw_4 (List.mem_of_getElem? (i := 65) (by decide +kernel))) rfl
theorem lk_L_84 : xcl RL 84 yX6_whose := xw_of (xw_2 (List.mem_of_getElem? (i := 175) (by decide +kernel))) rfl
theorem lk_L_87 : xcl RL 87 yX7_whose := xw_of (xw_4 (List.mem_of_getElem? (i := 73) (by decide +kernel))) rfl
theorem lk_L_88 : xcl RL 88 yX6_reading := xw_of (xw_2 (List.mem_of_getElem? (i := 179) (by decide +kernel))) rfl
theorem lk_L_91 : xcl RL 91 yX7_reading := xw_of (xw_4 (List.mem_of_getElem? (i := 77) (by decide +kernel))) rfl
theorem lk_L_92 : xcl RL 92 yX6_back := xw_of (xw_2 (List.mem_of_getElem? (i := 187) (by decide +kernel))) rfl
theorem lk_L_95 : xcl RL 95 yX7_back := xw_of (xw_4 (List.mem_of_getElem? (i := 82) (by decide +kernel))) rfl
theorem lk_L_96 : xcl RL 96 yX6_rains := xw_of (xw_2 (List.mem_of_getElem? (i := 191) (by decide +kernel))) rfl
theorem lk_L_99 : xcl RL 99 yX7_rains := xw_of (xw_4 (List.mem_of_getElem? (i := 86) (by decide +kernel))) rfl
theorem lk_L_100 : xcl RL 100 yX6_cast := xw_of (xw_2 (List.mem_of_getElem? (i := 200) (by decide +kernel))) rfl
theorem lk_L_103 : xcl RL 103 yX7_cast := xw_of (xw_4 (List.mem_of_getElem? (i := 94) (by decide +kernel))) rfl
theorem lk_L_104 : xcl RL 104 yX6_sheet := xw_of (xw_2 (List.mem_of_getElem? (i := 204) (by decide +kernel))) rfl
theorem lk_L_107 : xcl RL 107 yX7_sheet := xw_of (xw_4 (List.mem_of_getElem? (i := 98) (by decide +kernel))) rfl
theorem lk_L_108 : xcl RL 108 yX6_lose := xw_of (xw_2 (List.mem_of_getElem? (i := 212) (by decide +kernel))) rfl
theorem lk_L_111 : xcl RL 111 yX7_lose := xw_of (xw_4 (List.mem_of_getElem? (i := 102) (by decide +kernel))) rfl
theorem lk_L_112 : xcl RL 112 yX6_put := xw_of (xw_2 (List.mem_of_getElem? (i := 216) (by decide +kernel))) rfl
theorem lk_L_115 : xcl RL 115 yX7_put := xw_of (xw_4 (List.mem_of_getElem? (i := 106) (by decide +kernel))) rfl
theorem lk_L_116 : xcl RL 116 yX6_cell := xw_of (xw_2 (List.mem_of_getElem? (i := 224) (by decide +kernel))) rfl
theorem lk_L_120 : xcl RL 120 yX7_cell := xw_of (xw_4 (List.mem_of_getElem? (i := 114) (by decide +kernel))) rfl
theorem lk_L_121 : xcl RL 121 yX6_copy := xw_of (xw_2 (List.mem_of_getElem? (i := 228) (by decide +kernel))) rfl
theorem lk_L_124 : xcl RL 124 yX7_copy := xw_of (xw_4 (List.mem_of_getElem? (i := 122) (by decide +kernel))) rfl
theorem lk_L_125 : xcl RL 125 yX6_tell := xw_of (xw_2 (List.mem_of_getElem? (i := 233) (by decide +kernel))) rfl
theorem lk_L_128 : xcl RL 128 yX7_tell := xw_of (xw_4 (List.mem_of_getElem? (i := 126) (by decide +kernel))) rfl
theorem lk_L_129 : xcl RL 129 yX6_bow := xw_of (xw_3 (List.mem_of_getElem? (i := 13) (by decide +kernel))) rfl
theorem lk_L_132 : xcl RL 132 yX7_bow := xw_of (xw_4 (List.mem_of_getElem? (i := 134) (by decide +kernel))) rfl
theorem lk_L_133 : xcl RL 133 yX6_as := xw_of (xw_3 (List.mem_of_getElem? (i := 17) (by decide +kernel))) rfl
theorem lk_L_136 : xcl RL 136 yX7_as := xw_of (xw_4 (List.mem_of_getElem? (i := 138) (by decide +kernel))) rfl
theorem lk_L_137 : xcl RL 137 yX6_trace := xw_of (xw_3 (List.mem_of_getElem? (i := 21) (by decide +kernel))) rfl
theorem lk_L_141 : xcl RL 141 yX7_trace := xw_of (xw_4 (List.mem_of_getElem? (i := 142) (by decide +kernel))) rfl
theorem lk_L_142 : xcl RL 142 yX6_fault := xw_of (xw_3 (List.mem_of_getElem? (i := 25) (by decide +kernel))) rfl
theorem lk_L_145 : xcl RL 145 yX7_fault := xw_of (xw_4 (List.mem_of_getElem? (i := 146) (by decide +kernel))) rfl
theorem lk_L_146 : xcl RL 146 yX6_many := xw_of (xw_3 (List.mem_of_getElem? (i := 29) (by decide +kernel))) rfl
theorem lk_L_149 : xcl RL 149 yX7_many := xw_of (xw_4 (List.mem_of_getElem? (i := 150) (by decide +kernel))) rfl
theorem cy_ok : xcy := ⟨xw_of (xw_1 (List.mem_of_getElem? (i := 211) (by decide +kernel))) rfl, xw_of (xw_1 (List.mem_of_getElem? (i := 210) (by decide +kernel))) rfl, xw_of (xw_1 (List.mem_of_getElem? (i := 8) (by decide +kernel))) rfl⟩
theorem kc_X6_142 : Cond.constantLong RX6 142 (-9223372036854775808 : Int64) ∈ xw_all := xw_of (xw_2 (List.mem_of_getElem? (i := 106) (by decide +kernel))) rfl
theorem kc_J6_265 : Cond.constant RJ6 265 (1431655765 : Int32) ∈ xw_all := xw_of (xw_2 (List.mem_of_getElem? (i := 137) (by decide +kernel))) rfl
theorem kc_J6_266 : Cond.constant RJ6 266 (858993459 : Int32) ∈ xw_all := xw_of (xw_2 (List.mem_of_getElem? (i := 138) (by decide +kernel))) rfl
theorem kc_J6_267 : Cond.constant RJ6 267 (252645135 : Int32) ∈ xw_all := xw_of (xw_2 (List.mem_of_getElem? (i := 139) (by decide +kernel))) rfl
theorem kc_X7_147 : Cond.constantLong RX7 147 (3 : Int64) ∈ xw_all := xw_of (xw_3 (List.mem_of_getElem? (i := 139) (by decide +kernel))) rfl
theorem kc_X7_95 : Cond.constantLong RX7 95 (2 : Int64) ∈ xw_all := xw_of (xw_3 (List.mem_of_getElem? (i := 147) (by decide +kernel))) rfl
theorem kc_X7_149 : Cond.constantLong RX7 149 (59 : Int64) ∈ xw_all := xw_of (xw_3 (List.mem_of_getElem? (i := 195) (by decide +kernel))) rfl
theorem kc_X7_151 : Cond.constantLong RX7 151 (9 : Int64) ∈ xw_all := xw_of (xw_3 (List.mem_of_getElem? (i := 196) (by decide +kernel))) rfl
theorem kc_X7_111 : Cond.constantLong RX7 111 (60 : Int64) ∈ xw_all := xw_of (xw_3 (List.mem_of_getElem? (i := 211) (by decide +kernel))) rfl
theorem kc_X7_77 : Cond.constantLong RX7 77 (-9223372036854775808 : Int64) ∈ xw_all := xw_of (xw_4 (List.mem_of_getElem? (i := 30) (by decide +kernel))) rfl
theorem kc_X7_211 : Cond.constantLong RX7 211 (999 : Int64) ∈ xw_all := xw_of (xw_4 (List.mem_of_getElem? (i := 69) (by decide +kernel))) rfl
theorem kc_X7_216 : Cond.constantLong RX7 216 (99 : Int64) ∈ xw_all := xw_of (xw_4 (List.mem_of_getElem? (i := 81) (by decide +kernel))) rfl
theorem oi_in : Cond.instanceMethod objectInit ∈ xw_all := xw_of (xw_1 (List.mem_of_getElem? (i := 18) (by decide +kernel))) rfl
theorem oi_co : Cond.code objectInit ⟨#[0xb1]⟩ 1 none ∈ xw_all := xw_of (xw_1 (List.mem_of_getElem? (i := 19) (by decide +kernel))) rfl
theorem kn_L : Cond.initialized RL ∈ xw_all := xw_of (xw_1 (List.mem_of_getElem? (i := 0) (by decide +kernel))) rfl
theorem kn_X6 : Cond.initialized RX6 ∈ xw_all := xw_of (xw_1 (List.mem_of_getElem? (i := 1) (by decide +kernel))) rfl
theorem kn_X2 : Cond.initialized RX2 ∈ xw_all := xw_of (xw_1 (List.mem_of_getElem? (i := 2) (by decide +kernel))) rfl
theorem kn_X5 : Cond.initialized RX5 ∈ xw_all := xw_of (xw_1 (List.mem_of_getElem? (i := 3) (by decide +kernel))) rfl
theorem kn_X3 : Cond.initialized RX3 ∈ xw_all := xw_of (xw_1 (List.mem_of_getElem? (i := 4) (by decide +kernel))) rfl
theorem kn_X1 : Cond.initialized RX1 ∈ xw_all := xw_of (xw_1 (List.mem_of_getElem? (i := 5) (by decide +kernel))) rfl
theorem kn_X7 : Cond.initialized RX7 ∈ xw_all := xw_of (xw_1 (List.mem_of_getElem? (i := 6) (by decide +kernel))) rfl
theorem kn_X4 : Cond.initialized RX4 ∈ xw_all := xw_of (xw_1 (List.mem_of_getElem? (i := 7) (by decide +kernel))) rfl
theorem kn_J10 : Cond.initialized RJ10 ∈ xw_all := xw_of (xw_1 (List.mem_of_getElem? (i := 8) (by decide +kernel))) rfl
theorem kn_J9 : Cond.initialized RJ9 ∈ xw_all := xw_of (xw_1 (List.mem_of_getElem? (i := 9) (by decide +kernel))) rfl
theorem kn_X0 : Cond.initialized RX0 ∈ xw_all := xw_of (xw_1 (List.mem_of_getElem? (i := 10) (by decide +kernel))) rfl
theorem kn_J6 : Cond.initialized RJ6 ∈ xw_all := xw_of (xw_1 (List.mem_of_getElem? (i := 11) (by decide +kernel))) rfl
theorem kl_L_7 : Cond.classLink RL 7 RX6 ∈ xw_all := xw_of (xw_1 (List.mem_of_getElem? (i := 12) (by decide +kernel))) rfl
theorem ki_X6 : Cond.instantiable RX6 5 ∈ xw_all := xw_of (xw_1 (List.mem_of_getElem? (i := 13) (by decide +kernel))) rfl
theorem kl_X6_11 : Cond.classLink RX6 11 RX2 ∈ xw_all := xw_of (xw_1 (List.mem_of_getElem? (i := 20) (by decide +kernel))) rfl
theorem ko_X2 : Cond.arrayOver (.object RX2) ∈ lw_tbl := xw_1 (List.mem_of_getElem? (i := 21) (by decide +kernel))
theorem ki_X2 : Cond.instantiable RX2 4 ∈ xw_all := xw_of (xw_1 (List.mem_of_getElem? (i := 22) (by decide +kernel))) rfl
theorem ka_int : Cond.arrayClass .int ∈ xw_all := xw_of (xw_1 (List.mem_of_getElem? (i := 46) (by decide +kernel))) rfl
theorem kl_X6_18 : Cond.classLink RX6 18 RX5 ∈ xw_all := xw_of (xw_1 (List.mem_of_getElem? (i := 47) (by decide +kernel))) rfl
theorem ki_X5 : Cond.instantiable RX5 9 ∈ xw_all := xw_of (xw_1 (List.mem_of_getElem? (i := 48) (by decide +kernel))) rfl
theorem kl_X5_9 : Cond.classLink RX5 9 RX3 ∈ xw_all := xw_of (xw_1 (List.mem_of_getElem? (i := 53) (by decide +kernel))) rfl
theorem ko_X3 : Cond.arrayOver (.object RX3) ∈ lw_tbl := xw_1 (List.mem_of_getElem? (i := 54) (by decide +kernel))
theorem ki_X3 : Cond.instantiable RX3 5 ∈ xw_all := xw_of (xw_1 (List.mem_of_getElem? (i := 55) (by decide +kernel))) rfl
theorem kl_X6_25 : Cond.classLink RX6 25 RX1 ∈ xw_all := xw_of (xw_1 (List.mem_of_getElem? (i := 124) (by decide +kernel))) rfl
theorem ki_X1 : Cond.instantiable RX1 5 ∈ xw_all := xw_of (xw_1 (List.mem_of_getElem? (i := 125) (by decide +kernel))) rfl
theorem kl_L_10 : Cond.classLink RL 10 RX7 ∈ xw_all := xw_of (xw_3 (List.mem_of_getElem? (i := 33) (by decide +kernel))) rfl
theorem ki_X7 : Cond.instantiable RX7 29 ∈ xw_all := xw_of (xw_3 (List.mem_of_getElem? (i := 34) (by decide +kernel))) rfl
theorem ka_boolean : Cond.arrayClass .boolean ∈ xw_all := xw_of (xw_3 (List.mem_of_getElem? (i := 127) (by decide +kernel))) rfl
end
section
/-! the two worlds: 36 regions of the class, 23 of the reference -/
def cS : xH := fun k =>
  if k = 0 then .inr (.inr (4, 5, fun j => if j = 0 then some 1 else if j = 1 then some 10 else if j = 2 then some 31 else none))
  else if k = 1 then .inr (.inl (2, 4, fun i => 2 + i))
  else if k < 6 then .inr (.inr (1, 4, fun j => if j = 0 then some (k + 4) else none))
  else if k < 10 then .inl (0, 60)
  else if k = 10 then .inr (.inr (3, 9, fun j => if j < 6 then some (11 + j) else none))
  else if k = 11 then .inr (.inl (3, 7, fun i => 17 + i))
  else if k = 14 then .inl (0, 1281)
  else if k = 15 then .inl (0, 427)
  else if k < 17 then .inl (0, 60)
  else if k < 24 then .inr (.inr (2, 5, fun j => if j = 0 then some (k + 7) else none))
  else if k < 31 then .inl (0, 3)
  else if k = 31 then .inr (.inr (0, 5, fun j => if j < 4 then some (32 + j) else none))
  else .inl (0, 8)
theorem rgc_0 : 0 < 36 ∧ cS 0 = .inr (.inr (4, 5, fun j => if j = 0 then some 1 else if j = 1 then some 10 else if j = 2 then some 31 else none)) := ⟨by decide, rfl⟩
theorem rgc_1 : 1 < 36 ∧ cS 1 = .inr (.inl (2, 4, fun i => 2 + i)) := ⟨by decide, rfl⟩
theorem rgc_2 {i : Nat} (h : i < 4) : 2 + i < 36 ∧ cS (2 + i) = .inr (.inr (1, 4, fun j => if j = 0 then some (6 + i) else none)) := by
  refine ⟨by omega, ?_⟩
  unfold cS
  rw [if_neg (by omega), if_neg (by omega), if_pos (by omega), show 2 + i + 4 = 6 + i by omega]
theorem rgc_6 {i : Nat} (h : i < 4) : 6 + i < 36 ∧ cS (6 + i) = .inl (0, 60) := by
  refine ⟨by omega, ?_⟩
  unfold cS
  rw [if_neg (by omega), if_neg (by omega), if_neg (by omega), if_pos (by omega)]
theorem rgc_10 : 10 < 36 ∧ cS 10 = .inr (.inr (3, 9, fun j => if j < 6 then some (11 + j) else none)) := ⟨by decide, rfl⟩
theorem rgc_11 : 11 < 36 ∧ cS 11 = .inr (.inl (3, 7, fun i => 17 + i)) := ⟨by decide, rfl⟩
theorem rgc_12 : 12 < 36 ∧ cS 12 = .inl (0, 60) := ⟨by decide, rfl⟩
theorem rgc_13 : 13 < 36 ∧ cS 13 = .inl (0, 60) := ⟨by decide, rfl⟩
theorem rgc_14 : 14 < 36 ∧ cS 14 = .inl (0, 1281) := ⟨by decide, rfl⟩
theorem rgc_15 : 15 < 36 ∧ cS 15 = .inl (0, 427) := ⟨by decide, rfl⟩
theorem rgc_16 : 16 < 36 ∧ cS 16 = .inl (0, 60) := ⟨by decide, rfl⟩
theorem rgc_17 {i : Nat} (h : i < 7) : 17 + i < 36 ∧ cS (17 + i) = .inr (.inr (2, 5, fun j => if j = 0 then some (24 + i) else none)) := by
  refine ⟨by omega, ?_⟩
  unfold cS
  rw [if_neg (by omega), if_neg (by omega), if_neg (by omega), if_neg (by omega), if_neg (by omega), if_neg (by omega), if_neg (by omega), if_neg (by omega), if_neg (by omega), if_pos (by omega), show 17 + i + 7 = 24 + i by omega]
theorem rgc_24 {i : Nat} (h : i < 7) : 24 + i < 36 ∧ cS (24 + i) = .inl (0, 3) := by
  refine ⟨by omega, ?_⟩
  unfold cS
  rw [if_neg (by omega), if_neg (by omega), if_neg (by omega), if_neg (by omega), if_neg (by omega), if_neg (by omega), if_neg (by omega), if_neg (by omega), if_neg (by omega), if_neg (by omega), if_pos (by omega)]
theorem rgc_31 : 31 < 36 ∧ cS 31 = .inr (.inr (0, 5, fun j => if j < 4 then some (32 + j) else none)) := ⟨by decide, rfl⟩
theorem rgc_32 : 32 < 36 ∧ cS 32 = .inl (0, 8) := ⟨by decide, rfl⟩
theorem rgc_33 : 33 < 36 ∧ cS 33 = .inl (0, 8) := ⟨by decide, rfl⟩
theorem rgc_34 : 34 < 36 ∧ cS 34 = .inl (0, 8) := ⟨by decide, rfl⟩
theorem rgc_35 : 35 < 36 ∧ cS 35 = .inl (0, 8) := ⟨by decide, rfl⟩
def mS_ptr : Nat → Option Nat := fun j => ([none, none, some 1, some 2, some 3, some 4, some 5, none, none, some 6, some 7, some 8, some 9, some 10, none, some 11, some 12, some 13, some 14, none, some 15, some 16, some 17, some 18, some 19, some 20, some 21, some 22, none] : List (Option Nat)).getD j none
def mS : xH := fun k => if k = 0 then .inr (.inr (5, 29, mS_ptr)) else .inl (if k = 5 then 1 else 0, ([0, 7, 21, 7, 7, 7, 7, 21, 7, 60, 60, 21, 7, 7, 7, 8, 8, 8, 8, 4, 4, 240, 60] : List Nat).getD k 0)
theorem rgm_0 : 0 < 23 ∧ mS 0 = .inr (.inr (5, 29, mS_ptr)) := ⟨by decide, rfl⟩
theorem rgm_1 : 1 < 23 ∧ mS 1 = .inl (0, 7) := ⟨by decide, rfl⟩
theorem rgm_2 : 2 < 23 ∧ mS 2 = .inl (0, 21) := ⟨by decide, rfl⟩
theorem rgm_3 : 3 < 23 ∧ mS 3 = .inl (0, 7) := ⟨by decide, rfl⟩
theorem rgm_4 : 4 < 23 ∧ mS 4 = .inl (0, 7) := ⟨by decide, rfl⟩
theorem rgm_5 : 5 < 23 ∧ mS 5 = .inl (1, 7) := ⟨by decide, rfl⟩
theorem rgm_6 : 6 < 23 ∧ mS 6 = .inl (0, 7) := ⟨by decide, rfl⟩
theorem rgm_7 : 7 < 23 ∧ mS 7 = .inl (0, 21) := ⟨by decide, rfl⟩
theorem rgm_8 : 8 < 23 ∧ mS 8 = .inl (0, 7) := ⟨by decide, rfl⟩
theorem rgm_9 : 9 < 23 ∧ mS 9 = .inl (0, 60) := ⟨by decide, rfl⟩
theorem rgm_10 : 10 < 23 ∧ mS 10 = .inl (0, 60) := ⟨by decide, rfl⟩
theorem rgm_11 : 11 < 23 ∧ mS 11 = .inl (0, 21) := ⟨by decide, rfl⟩
theorem rgm_12 : 12 < 23 ∧ mS 12 = .inl (0, 7) := ⟨by decide, rfl⟩
theorem rgm_13 : 13 < 23 ∧ mS 13 = .inl (0, 7) := ⟨by decide, rfl⟩
theorem rgm_14 : 14 < 23 ∧ mS 14 = .inl (0, 7) := ⟨by decide, rfl⟩
theorem rgm_15 : 15 < 23 ∧ mS 15 = .inl (0, 8) := ⟨by decide, rfl⟩
theorem rgm_16 : 16 < 23 ∧ mS 16 = .inl (0, 8) := ⟨by decide, rfl⟩
theorem rgm_17 : 17 < 23 ∧ mS 17 = .inl (0, 8) := ⟨by decide, rfl⟩
theorem rgm_18 : 18 < 23 ∧ mS 18 = .inl (0, 8) := ⟨by decide, rfl⟩
theorem rgm_19 : 19 < 23 ∧ mS 19 = .inl (0, 4) := ⟨by decide, rfl⟩
theorem rgm_20 : 20 < 23 ∧ mS 20 = .inl (0, 4) := ⟨by decide, rfl⟩
theorem rgm_21 : 21 < 23 ∧ mS 21 = .inl (0, 240) := ⟨by decide, rfl⟩
theorem rgm_22 : 22 < 23 ∧ mS 22 = .inl (0, 60) := ⟨by decide, rfl⟩
end
section
/-! Math.min, max, abs: rows of the kit over the words -/
theorem xk_min : Cond.static Lib.Math.min.name ∈ xw_all ∧ Cond.initialized "java/lang/Math" ∈ xw_all ∧ Cond.code Lib.Math.min.name Lib.Math.min.code 2 (some .int) ∈ xw_all := ⟨xw_of (xw_1 (List.mem_of_getElem? (i := 233) (by decide +kernel))) rfl, xw_of (xw_1 (List.mem_of_getElem? (i := 9) (by decide +kernel))) rfl, xw_of (xw_1 (List.mem_of_getElem? (i := 234) (by decide +kernel))) rfl⟩
theorem xk_max : Cond.static Lib.Math.max.name ∈ xw_all ∧ Cond.initialized "java/lang/Math" ∈ xw_all ∧ Cond.code Lib.Math.max.name Lib.Math.max.code 2 (some .int) ∈ xw_all := ⟨xw_of (xw_2 (List.mem_of_getElem? (i := 55) (by decide +kernel))) rfl, xw_of (xw_1 (List.mem_of_getElem? (i := 9) (by decide +kernel))) rfl, xw_of (xw_2 (List.mem_of_getElem? (i := 56) (by decide +kernel))) rfl⟩
theorem xk_abs : Cond.static Lib.Math.abs.name ∈ xw_all ∧ Cond.initialized "java/lang/Math" ∈ xw_all ∧ Cond.code Lib.Math.abs.name Lib.Math.abs.code 1 (some .int) ∈ xw_all := ⟨xw_of (xw_2 (List.mem_of_getElem? (i := 172) (by decide +kernel))) rfl, xw_of (xw_1 (List.mem_of_getElem? (i := 9) (by decide +kernel))) rfl, xw_of (xw_2 (List.mem_of_getElem? (i := 173) (by decide +kernel))) rfl⟩
theorem lm_X5_59 : Cond.methodLink RX5 59 Lib.Math.min.name ∈ xw_all := xw_of (xw_1 (List.mem_of_getElem? (i := 232) (by decide +kernel))) rfl
theorem lm_X5_75 : Cond.methodLink RX5 75 Lib.Math.max.name ∈ xw_all := xw_of (xw_2 (List.mem_of_getElem? (i := 54) (by decide +kernel))) rfl
theorem lm_X0_21 : Cond.methodLink RX0 21 Lib.Math.min.name ∈ xw_all := xw_of (xw_2 (List.mem_of_getElem? (i := 133) (by decide +kernel))) rfl
theorem lm_X5_124 : Cond.methodLink RX5 124 Lib.Math.abs.name ∈ xw_all := xw_of (xw_2 (List.mem_of_getElem? (i := 171) (by decide +kernel))) rfl
section XMA
variable {p : Program} {l : Launch} {e : Env} {R : Room} {s : State} {m : MethodId} {args : Array Value} {below : List Frame} {meth : Method} {c : Code} {H : Heap} {locs : List Loc} {cells slots : Nat} {Q : State → Prop}
variable {cc : ByteArray} {pc : Nat} {ls : Array Slot} {rest : List Value} {S : xH} {N : Nat} {G : xG} {ad : Nat → Nat} {μ : xM} {own : String} {nL index : Nat} {lv : List (Nat × Value)}
theorem x_min (X : xC S N G ad own cc nL p m c s args) (hl : lv_has ls nL lv) (hlink : Cond.methodLink own index Lib.Math.min.name ∈ xw_all) (hR : 1 ≤ R.frames ∧ (rest.map fun v => v.category).sum + 13 ≤ R.locals ∧ cells ≤ R.cells ∧ slots ≤ R.slots) {x y : Int32} (hdg : decode cc pc = .ok (.invokestatic index, 3))
    (kk : W p l e R s m args below meth c H locs cells slots Q (F0 m (pc + 3) ls (.int (if y < x then y else x) :: rest))) : W p l e R s m args below meth c H locs cells slots Q (F0 m pc ls (.int y :: .int x :: rest)) :=
  va_mmin X.1.1 X.1.2.1 (X.1.2.2.1.trans hl.1.symm) X.1.2.2.2.1 (X.1.2.2.2.2 _ hlink) (X.1.2.2.2.2 _ xk_min.1) (X.1.2.2.2.2 _ xk_min.2.1) (X.1.2.2.2.2 _ xk_min.2.2) hR.1 hR.2.1 hR.2.2.1 hR.2.2.2 hdg kk
theorem x_max (X : xC S N G ad own cc nL p m c s args) (hl : lv_has ls nL lv) (hlink : Cond.methodLink own index Lib.Math.max.name ∈ xw_all) (hR : 1 ≤ R.frames ∧ (rest.map fun v => v.category).sum + 13 ≤ R.locals ∧ cells ≤ R.cells ∧ slots ≤ R.slots) {x y : Int32} (hdg : decode cc pc = .ok (.invokestatic index, 3))
    (kk : W p l e R s m args below meth c H locs cells slots Q (F0 m (pc + 3) ls (.int (if x < y then y else x) :: rest))) : W p l e R s m args below meth c H locs cells slots Q (F0 m pc ls (.int y :: .int x :: rest)) :=
  va_mmax X.1.1 X.1.2.1 (X.1.2.2.1.trans hl.1.symm) X.1.2.2.2.1 (X.1.2.2.2.2 _ hlink) (X.1.2.2.2.2 _ xk_max.1) (X.1.2.2.2.2 _ xk_max.2.1) (X.1.2.2.2.2 _ xk_max.2.2) hR.1 hR.2.1 hR.2.2.1 hR.2.2.2 hdg kk
theorem x_abs (X : xC S N G ad own cc nL p m c s args) (hl : lv_has ls nL lv) (hlink : Cond.methodLink own index Lib.Math.abs.name ∈ xw_all) (hR : 1 ≤ R.frames ∧ (rest.map fun v => v.category).sum + 13 ≤ R.locals ∧ cells ≤ R.cells ∧ slots ≤ R.slots) {x : Int32} (hdg : decode cc pc = .ok (.invokestatic index, 3))
    (kk : W p l e R s m args below meth c H locs cells slots Q (F0 m (pc + 3) ls (.int (if 0 ≤ x then x else 0 - x) :: rest))) : W p l e R s m args below meth c H locs cells slots Q (F0 m pc ls (.int x :: rest)) :=
  va_mabs X.1.1 X.1.2.1 (X.1.2.2.1.trans hl.1.symm) X.1.2.2.2.1 (X.1.2.2.2.2 _ hlink) (X.1.2.2.2.2 _ xk_abs.1) (X.1.2.2.2.2 _ xk_abs.2.1) (X.1.2.2.2.2 _ xk_abs.2.2) hR.1 hR.2.1 hR.2.2.1 hR.2.2.2 hdg kk
end XMA
end
section
def wp_X3_washedOff (n : Nat) (k0 : Nat) (a1 : Int32) (a2 : Int32) (a3 : Int32) (a4 : Int32) (a5 : Int32) (μ : xM) (K : Int32 → Prop) : Prop :=
  xjn (fun (x6_18 : Int32) => xjn (fun (x6_28 : Int32) => xjn (fun (x6_42 : Int32) => ((¬ a5 = (1 : Int32) → ((¬ a5 = (2 : Int32) → K x6_42) ∧ (a5 = (2 : Int32) → K (0 : Int32)))) ∧ (a5 = (1 : Int32) → (¬ (2 : Int32) = 0 ∧ (∀ x6_52 : Int32, x6_52 = x6_42 / (2 : Int32) → ((¬ a5 = (2 : Int32) → K x6_52) ∧ (a5 = (2 : Int32) → K (0 : Int32)))))))) (fun J42 : Int32 → Prop => ((¬ (μ (17 + k0) 1) = (2 : Int32) → J42 x6_28) ∧ ((μ (17 + k0) 1) = (2 : Int32) → (¬ (2 : Int32) = 0 ∧ (∀ x6_40 : Int32, x6_40 = x6_28 / (2 : Int32) → J42 x6_40)))))) (fun J28 : Int32 → Prop => ((¬ a1 = (1 : Int32) → J28 x6_18) ∧ (a1 = (1 : Int32) → (∀ x6_26 : Int32, x6_26 = (2 : Int32) * a2 → J28 x6_26))))) (fun J18 : Int32 → Prop => ((¬ a1 = 0 → J18 a2) ∧ (a1 = 0 → ((¬ a3 = a4 → J18 a2) ∧ (a3 = a4 → (∀ x6_16 : Int32, x6_16 = (3 : Int32) * a2 → J18 x6_16))))))
set_option maxHeartbeats 4000000 in
set_option maxRecDepth 100000 in
theorem cm_X3_washedOff (l : Launch) (G : xG) (ad : Nat → Nat) (hI : xI 36 ad) (n : Nat) (k0 : Nat) (hk0 : k0 < 7) (a1 : Int32) (a2 : Int32) (a3 : Int32) (a4 : Int32) (a5 : Int32) (μ : xM) (K : Int32 → Prop) (hf : wp_X3_washedOff n k0 a1 a2 a3 a4 a5 μ K) : Met l yX3_washedOff (Cond.code yX3_washedOff cX3_washedOff 7 (some .int) :: xw_all) (rmo 0 0) (va_Pc [.ref (ad (17 + k0)), .int a1, .int a2, .int a3, .int a4, .int a5] (xPre cS 36 G ad μ)) (xQi cS 36 G ad (fun r u => K r ∧ u = μ)) 0 0 (xR 36 ad) := by
  refine x_ent (nL := 7) (own := RX3) (by decide) rfl hI (Nat.le_of_ble_eq_true rfl) ?_
  intro p e s m args below meth c H locs ls Q X hr hlk hQ M hl
  have hx := X.1.1
  have hb := X.1.2.1
  have hown := X.1.2.2.2.1
  have hts := X.1.2.2.2.2
  have hl : lv_has ls 7 [(0, .ref (ad (17 + k0))), (1, .int a1), (2, .int a2), (3, .int a3), (4, .int a4), (5, .int a5)] := hl
  unfold wp_X3_washedOff at hf
  refine lv_iload_n hx hb dX3_washedOff_0 rfl (lv_at hl 2 rfl) ?_
  refine lv_istore (lv' := [(6, .int a2), (0, .ref (ad (17 + k0))), (1, .int a1), (2, .int a2), (3, .int a3), (4, .int a4), (5, .int a5)]) hx hb dX3_washedOff_1 hl (by decide) rfl (fun ls hl => ?_)
  refine lv_iload_n hx hb dX3_washedOff_3 rfl (lv_at hl 2 rfl) ?_
  refine xjn_w hf (fun (x6_18 : Int32) => ∀ (H : Heap) (locs : List Loc) (ls : Array Slot), xS cS 36 G ad s μ H locs → lv_has ls 7 [(6, .int x6_18), (0, .ref (ad (17 + k0))), (1, .int a1), (2, .int a2), (5, .int a5)] → W p l e (rmo 0 0) s m args below meth c H locs 0 0 Q (F0 m 18 ls [])) ?_ ?_
  · intro x6_18 hf
    intro H locs ls M hl
    refine lv_iload_n hx hb dX3_washedOff_18 rfl (lv_at hl 2 rfl) ?_
    refine lv_iconst (v := (1 : Int32)) hx hb dX3_washedOff_19 (by decide) ?_
    refine xjn_w hf (fun (x6_28 : Int32) => ∀ (H : Heap) (locs : List Loc) (ls : Array Slot), xS cS 36 G ad s μ H locs → lv_has ls 7 [(6, .int x6_28), (0, .ref (ad (17 + k0))), (5, .int a5)] → W p l e (rmo 0 0) s m args below meth c H locs 0 0 Q (F0 m 28 ls [])) ?_ ?_
    · intro x6_28 hf
      intro H locs ls M hl
      refine lv_aload_n hx hb dX3_washedOff_28 rfl (lv_at hl 1 rfl) ?_
      refine x_getI X M (rgc_17 hk0) fd_X3_15 rfl dX3_washedOff_29 ?_
      refine lv_iconst (v := (2 : Int32)) hx hb dX3_washedOff_32 (by decide) ?_
      refine xjn_w hf (fun (x6_42 : Int32) => ∀ (H : Heap) (locs : List Loc) (ls : Array Slot), xS cS 36 G ad s μ H locs → lv_has ls 7 [(6, .int x6_42), (5, .int a5)] → W p l e (rmo 0 0) s m args below meth c H locs 0 0 Q (F0 m 42 ls [])) ?_ ?_
      · intro x6_42 hf
        intro H locs ls M hl
        refine lv_iload hx hb dX3_washedOff_42 (lv_at hl 1 rfl) ?_
        refine lv_iconst (v := (1 : Int32)) hx hb dX3_washedOff_44 (by decide) ?_
        refine lv_icmp_ne (tgt := 54) hx hb dX3_washedOff_45 (by decide) (fun c_45 => ?_) (fun c_45 => ?_)
        · replace hf := hf.1 c_45
          refine lv_iload hx hb dX3_washedOff_54 (lv_at hl 1 rfl) ?_
          refine lv_iconst (v := (2 : Int32)) hx hb dX3_washedOff_56 (by decide) ?_
          refine lv_icmp_ne (tgt := 64) hx hb dX3_washedOff_57 (by decide) (fun c_57 => ?_) (fun c_57 => ?_)
          · replace hf := hf.1 c_57
            refine lv_iload hx hb dX3_washedOff_64 (lv_at hl 0 rfl) ?_
            rw [hQ]
            exact x_iret X M hr hlk dX3_washedOff_66 ⟨hf, rfl⟩
          · replace hf := hf.2 c_57
            refine lv_iconst (v := (0 : Int32)) hx hb dX3_washedOff_60 (by decide) ?_
            refine lv_goto (tgt := 66) hx hb dX3_washedOff_61 (by decide) ?_
            rw [hQ]
            exact x_iret X M hr hlk dX3_washedOff_66 ⟨hf, rfl⟩
        · replace hf := hf.2 c_45
          refine lv_iload hx hb dX3_washedOff_48 (lv_at hl 0 rfl) ?_
          refine lv_iconst (v := (2 : Int32)) hx hb dX3_washedOff_50 (by decide) ?_
          obtain ⟨g_51, hf⟩ := hf
          refine lv_idiv hx hb dX3_washedOff_51 g_51 ?_
          refine lv_topi (fun x6_52 ex6_52 => ?_)
          replace hf := hf x6_52 ex6_52
          refine lv_istore (lv' := [(6, .int x6_52), (5, .int a5)]) hx hb dX3_washedOff_52 hl (by decide) rfl (fun ls hl => ?_)
          refine lv_iload hx hb dX3_washedOff_54 (lv_at hl 1 rfl) ?_
          refine lv_iconst (v := (2 : Int32)) hx hb dX3_washedOff_56 (by decide) ?_
          refine lv_icmp_ne (tgt := 64) hx hb dX3_washedOff_57 (by decide) (fun c_57 => ?_) (fun c_57 => ?_)
          · replace hf := hf.1 c_57
            refine lv_iload hx hb dX3_washedOff_64 (lv_at hl 0 rfl) ?_
            rw [hQ]
            exact x_iret X M hr hlk dX3_washedOff_66 ⟨hf, rfl⟩
          · replace hf := hf.2 c_57
            refine lv_iconst (v := (0 : Int32)) hx hb dX3_washedOff_60 (by decide) ?_
            refine lv_goto (tgt := 66) hx hb dX3_washedOff_61 (by decide) ?_
            rw [hQ]
            exact x_iret X M hr hlk dX3_washedOff_66 ⟨hf, rfl⟩
      · intro J42 hJ42 hf
        refine lv_icmp_ne (tgt := 42) hx hb dX3_washedOff_33 (by decide) (fun c_33 => ?_) (fun c_33 => ?_)
        · replace hf := hf.1 c_33
          exact hJ42 x6_28 hf _ _ _ M (lv_sub hl [0, 2] rfl)
        · replace hf := hf.2 c_33
          refine lv_iload hx hb dX3_washedOff_36 (lv_at hl 0 rfl) ?_
          refine lv_iconst (v := (2 : Int32)) hx hb dX3_washedOff_38 (by decide) ?_
          obtain ⟨g_39, hf⟩ := hf
          refine lv_idiv hx hb dX3_washedOff_39 g_39 ?_
          refine lv_topi (fun x6_40 ex6_40 => ?_)
          replace hf := hf x6_40 ex6_40
          refine lv_istore (lv' := [(6, .int x6_40), (0, .ref (ad (17 + k0))), (5, .int a5)]) hx hb dX3_washedOff_40 hl (by decide) rfl (fun ls hl => ?_)
          exact hJ42 x6_40 hf _ _ _ M (lv_sub hl [0, 2] rfl)
    · intro J28 hJ28 hf
      refine lv_icmp_ne (tgt := 28) hx hb dX3_washedOff_20 (by decide) (fun c_20 => ?_) (fun c_20 => ?_)
      · replace hf := hf.1 c_20
        exact hJ28 x6_18 hf _ _ _ M (lv_sub hl [0, 1, 4] rfl)
      · replace hf := hf.2 c_20
        refine lv_iconst (v := (2 : Int32)) hx hb dX3_washedOff_23 (by decide) ?_
        refine lv_iload_n hx hb dX3_washedOff_24 rfl (lv_at hl 3 rfl) ?_
        refine lv_imul hx hb dX3_washedOff_25 ?_
        refine lv_topi (fun x6_26 ex6_26 => ?_)
        replace hf := hf x6_26 ex6_26
        refine lv_istore (lv' := [(6, .int x6_26), (0, .ref (ad (17 + k0))), (1, .int a1), (2, .int a2), (5, .int a5)]) hx hb dX3_washedOff_26 hl (by decide) rfl (fun ls hl => ?_)
        exact hJ28 x6_26 hf _ _ _ M (lv_sub hl [0, 1, 4] rfl)
  · intro J18 hJ18 hf
    refine lv_if_ne (tgt := 18) hx hb dX3_washedOff_4 (by decide) (fun c_4 => ?_) (fun c_4 => ?_)
    · replace hf := hf.1 c_4
      exact hJ18 a2 hf _ _ _ M (lv_sub hl [0, 1, 2, 3, 6] rfl)
    · replace hf := hf.2 c_4
      refine lv_iload_n hx hb dX3_washedOff_7 rfl (lv_at hl 4 rfl) ?_
      refine lv_iload hx hb dX3_washedOff_8 (lv_at hl 5 rfl) ?_
      refine lv_icmp_ne (tgt := 18) hx hb dX3_washedOff_10 (by decide) (fun c_10 => ?_) (fun c_10 => ?_)
      · replace hf := hf.1 c_10
        exact hJ18 a2 hf _ _ _ M (lv_sub hl [0, 1, 2, 3, 6] rfl)
      · replace hf := hf.2 c_10
        refine lv_iconst (v := (3 : Int32)) hx hb dX3_washedOff_13 (by decide) ?_
        refine lv_iload_n hx hb dX3_washedOff_14 rfl (lv_at hl 3 rfl) ?_
        refine lv_imul hx hb dX3_washedOff_15 ?_
        refine lv_topi (fun x6_16 ex6_16 => ?_)
        replace hf := hf x6_16 ex6_16
        refine lv_istore (lv' := [(6, .int x6_16), (0, .ref (ad (17 + k0))), (1, .int a1), (2, .int a2), (3, .int a3), (4, .int a4), (5, .int a5)]) hx hb dX3_washedOff_16 hl (by decide) rfl (fun ls hl => ?_)
        exact hJ18 x6_16 hf _ _ _ M (lv_sub hl [0, 1, 2, 3, 6] rfl)
def wp_J6_bitCount_0f7a4 (n : Nat) (a0 : Int32) (μ : xM) (K : Int32 → Prop) : Prop :=
  (∀ x0_9 : Int32, x0_9 = a0 - (((a0.toUInt32 >>> ((1 : Int32).toUInt32 &&& Int32.toUInt32 31)).toInt32) &&& (1431655765 : Int32)) → (∀ x0_23 : Int32, x0_23 = (x0_9 &&& (858993459 : Int32)) + (((x0_9.toUInt32 >>> ((2 : Int32).toUInt32 &&& Int32.toUInt32 31)).toInt32) &&& (858993459 : Int32)) → (∀ x0_33 : Int32, x0_33 = (x0_23 + ((x0_23.toUInt32 >>> ((4 : Int32).toUInt32 &&& Int32.toUInt32 31)).toInt32)) &&& (252645135 : Int32) → (∀ x0_40 : Int32, x0_40 = x0_33 + ((x0_33.toUInt32 >>> ((8 : Int32).toUInt32 &&& Int32.toUInt32 31)).toInt32) → (∀ x0_47 : Int32, x0_47 = x0_40 + ((x0_40.toUInt32 >>> ((16 : Int32).toUInt32 &&& Int32.toUInt32 31)).toInt32) → K (x0_47 &&& (63 : Int32)))))))
set_option maxHeartbeats 4000000 in
set_option maxRecDepth 100000 in
theorem cm_J6_bitCount_0f7a4 (l : Launch) (G : xG) (ad : Nat → Nat) (hI : xI 36 ad) (n : Nat) (a0 : Int32) (μ : xM) (K : Int32 → Prop) (hf : wp_J6_bitCount_0f7a4 n a0 μ K) : Met l yJ6_bitCount_0f7a4 (Cond.code yJ6_bitCount_0f7a4 cJ6_bitCount_0f7a4 1 (some .int) :: xw_all) (rmo 0 0) (va_Pc [.int a0] (xPre cS 36 G ad μ)) (xQi cS 36 G ad (fun r u => K r ∧ u = μ)) 0 0 (xR 36 ad) := by
  refine x_ent (nL := 1) (own := RJ6) (by decide) rfl hI (Nat.le_of_ble_eq_true rfl) ?_
  intro p e s m args below meth c H locs ls Q X hr hlk hQ M hl
  have hx := X.1.1
  have hb := X.1.2.1
  have hown := X.1.2.2.2.1
  have hts := X.1.2.2.2.2
  have hl : lv_has ls 1 [(0, .int a0)] := hl
  unfold wp_J6_bitCount_0f7a4 at hf
  refine lv_iload_n hx hb dJ6_bitCount_0f7a4_0 rfl (lv_at hl 0 rfl) ?_
  refine lv_iload_n hx hb dJ6_bitCount_0f7a4_1 rfl (lv_at hl 0 rfl) ?_
  refine lv_iconst (v := (1 : Int32)) hx hb dJ6_bitCount_0f7a4_2 (by decide) ?_
  refine lv_iushr hx hb dJ6_bitCount_0f7a4_3 rfl ?_
  refine lv_ldcw (v := (1431655765 : Int32)) hx hb hown (hts _ kc_J6_265) dJ6_bitCount_0f7a4_4 ?_
  refine lv_iand hx hb dJ6_bitCount_0f7a4_7 ?_
  refine lv_isub hx hb dJ6_bitCount_0f7a4_8 ?_
  refine lv_topi (fun x0_9 ex0_9 => ?_)
  replace hf := hf x0_9 ex0_9
  refine lv_istore_n (lv' := [(0, .int x0_9)]) hx hb dJ6_bitCount_0f7a4_9 rfl hl (by decide) rfl (fun ls hl => ?_)
  refine lv_iload_n hx hb dJ6_bitCount_0f7a4_10 rfl (lv_at hl 0 rfl) ?_
  refine lv_ldcw (v := (858993459 : Int32)) hx hb hown (hts _ kc_J6_266) dJ6_bitCount_0f7a4_11 ?_
  refine lv_iand hx hb dJ6_bitCount_0f7a4_14 ?_
  refine lv_iload_n hx hb dJ6_bitCount_0f7a4_15 rfl (lv_at hl 0 rfl) ?_
  refine lv_iconst (v := (2 : Int32)) hx hb dJ6_bitCount_0f7a4_16 (by decide) ?_
  refine lv_iushr hx hb dJ6_bitCount_0f7a4_17 rfl ?_
  refine lv_ldcw (v := (858993459 : Int32)) hx hb hown (hts _ kc_J6_266) dJ6_bitCount_0f7a4_18 ?_
  refine lv_iand hx hb dJ6_bitCount_0f7a4_21 ?_
  refine lv_iadd hx hb dJ6_bitCount_0f7a4_22 ?_
  refine lv_topi (fun x0_23 ex0_23 => ?_)
  replace hf := hf x0_23 ex0_23
  refine lv_istore_n (lv' := [(0, .int x0_23)]) hx hb dJ6_bitCount_0f7a4_23 rfl hl (by decide) rfl (fun ls hl => ?_)
  refine lv_iload_n hx hb dJ6_bitCount_0f7a4_24 rfl (lv_at hl 0 rfl) ?_
  refine lv_iload_n hx hb dJ6_bitCount_0f7a4_25 rfl (lv_at hl 0 rfl) ?_
  refine lv_iconst (v := (4 : Int32)) hx hb dJ6_bitCount_0f7a4_26 (by decide) ?_
  refine lv_iushr hx hb dJ6_bitCount_0f7a4_27 rfl ?_
  refine lv_iadd hx hb dJ6_bitCount_0f7a4_28 ?_
  refine lv_ldcw (v := (252645135 : Int32)) hx hb hown (hts _ kc_J6_267) dJ6_bitCount_0f7a4_29 ?_
  refine lv_iand hx hb dJ6_bitCount_0f7a4_32 ?_
  refine lv_topi (fun x0_33 ex0_33 => ?_)
  replace hf := hf x0_33 ex0_33
  refine lv_istore_n (lv' := [(0, .int x0_33)]) hx hb dJ6_bitCount_0f7a4_33 rfl hl (by decide) rfl (fun ls hl => ?_)
  refine lv_iload_n hx hb dJ6_bitCount_0f7a4_34 rfl (lv_at hl 0 rfl) ?_
  refine lv_iload_n hx hb dJ6_bitCount_0f7a4_35 rfl (lv_at hl 0 rfl) ?_
  refine lv_bipush (v := (8 : Int32)) hx hb dJ6_bitCount_0f7a4_36 (by decide) ?_
  refine lv_iushr hx hb dJ6_bitCount_0f7a4_38 rfl ?_
  refine lv_iadd hx hb dJ6_bitCount_0f7a4_39 ?_
  refine lv_topi (fun x0_40 ex0_40 => ?_)
  replace hf := hf x0_40 ex0_40
  refine lv_istore_n (lv' := [(0, .int x0_40)]) hx hb dJ6_bitCount_0f7a4_40 rfl hl (by decide) rfl (fun ls hl => ?_)
  refine lv_iload_n hx hb dJ6_bitCount_0f7a4_41 rfl (lv_at hl 0 rfl) ?_
  refine lv_iload_n hx hb dJ6_bitCount_0f7a4_42 rfl (lv_at hl 0 rfl) ?_
  refine lv_bipush (v := (16 : Int32)) hx hb dJ6_bitCount_0f7a4_43 (by decide) ?_
  refine lv_iushr hx hb dJ6_bitCount_0f7a4_45 rfl ?_
  refine lv_iadd hx hb dJ6_bitCount_0f7a4_46 ?_
  refine lv_topi (fun x0_47 ex0_47 => ?_)
  replace hf := hf x0_47 ex0_47
  refine lv_istore_n (lv' := [(0, .int x0_47)]) hx hb dJ6_bitCount_0f7a4_47 rfl hl (by decide) rfl (fun ls hl => ?_)
  refine lv_iload_n hx hb dJ6_bitCount_0f7a4_48 rfl (lv_at hl 0 rfl) ?_
  refine lv_bipush (v := (63 : Int32)) hx hb dJ6_bitCount_0f7a4_49 (by decide) ?_
  refine lv_iand hx hb dJ6_bitCount_0f7a4_51 ?_
  rw [hQ]
  exact x_iret X M hr hlk dJ6_bitCount_0f7a4_52 ⟨hf, rfl⟩
def wp_X3_lickable (n : Nat) (k0 : Nat) (a1 : Int32) (μ : xM) (K : Int32 → Prop) : Prop :=
  (((μ (17 + k0) 4) = 0 → ((¬ (μ (17 + k0) 1) = 0 → (vp_in (2 : Int32) 3 ∧ ((((2 : Int32) * a1) ≤ (μ (24 + k0) (2 : Int32).toNatClampNeg) → K (0 : Int32)) ∧ (¬ ((2 : Int32) * a1) ≤ (μ (24 + k0) (2 : Int32).toNatClampNeg) → K (1 : Int32))))) ∧ ((μ (17 + k0) 1) = 0 → ((a1 ≤ 0 → K (0 : Int32)) ∧ (¬ a1 ≤ 0 → K (1 : Int32)))))) ∧ (¬ (μ (17 + k0) 4) = 0 → K (0 : Int32)))
set_option maxHeartbeats 4000000 in
set_option maxRecDepth 100000 in
theorem cm_X3_lickable (l : Launch) (G : xG) (ad : Nat → Nat) (hI : xI 36 ad) (n : Nat) (k0 : Nat) (hk0 : k0 < 7) (a1 : Int32) (μ : xM) (K : Int32 → Prop) (hf : wp_X3_lickable n k0 a1 μ K) : Met l yX3_lickable (Cond.code yX3_lickable cX3_lickable 2 (some .boolean) :: xw_all) (rmo 0 0) (va_Pc [.ref (ad (17 + k0)), .int a1] (xPre cS 36 G ad μ)) (xQi cS 36 G ad (fun r u => K r ∧ u = μ)) 0 0 (xR 36 ad) := by
  refine x_ent (nL := 2) (own := RX3) (by decide) rfl hI (Nat.le_of_ble_eq_true rfl) ?_
  intro p e s m args below meth c H locs ls Q X hr hlk hQ M hl
  have hx := X.1.1
  have hb := X.1.2.1
  have hown := X.1.2.2.2.1
  have hts := X.1.2.2.2.2
  have hl : lv_has ls 2 [(0, .ref (ad (17 + k0))), (1, .int a1)] := hl
  unfold wp_X3_lickable at hf
  refine lv_aload_n hx hb dX3_lickable_0 rfl (lv_at hl 0 rfl) ?_
  refine x_getI X M (rgc_17 hk0) fd_X3_25 rfl dX3_lickable_1 ?_
  refine lv_if_eq (tgt := 9) hx hb dX3_lickable_4 (by decide) (fun c_4 => ?_) (fun c_4 => ?_)
  · replace hf := hf.1 c_4
    refine lv_aload_n hx hb dX3_lickable_9 rfl (lv_at hl 0 rfl) ?_
    refine x_getI X M (rgc_17 hk0) fd_X3_15 rfl dX3_lickable_10 ?_
    refine lv_if_ne (tgt := 26) hx hb dX3_lickable_13 (by decide) (fun c_13 => ?_) (fun c_13 => ?_)
    · replace hf := hf.1 c_13
      refine lv_iconst (v := (2 : Int32)) hx hb dX3_lickable_26 (by decide) ?_
      refine lv_iload_n hx hb dX3_lickable_27 rfl (lv_at hl 1 rfl) ?_
      refine lv_imul hx hb dX3_lickable_28 ?_
      refine lv_aload_n hx hb dX3_lickable_29 rfl (lv_at hl 0 rfl) ?_
      refine x_getR (r := (24 + k0)) X M (rgc_17 hk0) fd_X3_9 rfl dX3_lickable_30 ?_
      refine lv_iconst (v := (2 : Int32)) hx hb dX3_lickable_33 (by decide) ?_
      obtain ⟨g_34, hf⟩ := hf
      refine x_ild X M (rgc_24 hk0) g_34 dX3_lickable_34 ?_
      refine lv_icmp_le (tgt := 42) hx hb dX3_lickable_35 (by decide) (fun c_35 => ?_) (fun c_35 => ?_)
      · replace hf := hf.1 c_35
        refine lv_iconst (v := (0 : Int32)) hx hb dX3_lickable_42 (by decide) ?_
        rw [hQ]
        exact x_zret X M hr hlk xb_0 dX3_lickable_43 ⟨hf, rfl⟩
      · replace hf := hf.2 c_35
        refine lv_iconst (v := (1 : Int32)) hx hb dX3_lickable_38 (by decide) ?_
        refine lv_goto (tgt := 43) hx hb dX3_lickable_39 (by decide) ?_
        rw [hQ]
        exact x_zret X M hr hlk xb_1 dX3_lickable_43 ⟨hf, rfl⟩
    · replace hf := hf.2 c_13
      refine lv_iload_n hx hb dX3_lickable_16 rfl (lv_at hl 1 rfl) ?_
      refine lv_if_le (tgt := 24) hx hb dX3_lickable_17 (by decide) (fun c_17 => ?_) (fun c_17 => ?_)
      · replace hf := hf.1 c_17
        refine lv_iconst (v := (0 : Int32)) hx hb dX3_lickable_24 (by decide) ?_
        rw [hQ]
        exact x_zret X M hr hlk xb_0 dX3_lickable_25 ⟨hf, rfl⟩
      · replace hf := hf.2 c_17
        refine lv_iconst (v := (1 : Int32)) hx hb dX3_lickable_20 (by decide) ?_
        refine lv_goto (tgt := 25) hx hb dX3_lickable_21 (by decide) ?_
        rw [hQ]
        exact x_zret X M hr hlk xb_1 dX3_lickable_25 ⟨hf, rfl⟩
  · replace hf := hf.2 c_4
    refine lv_iconst (v := (0 : Int32)) hx hb dX3_lickable_7 (by decide) ?_
    rw [hQ]
    exact x_zret X M hr hlk xb_0 dX3_lickable_8 ⟨hf, rfl⟩
def wp_X2_renew (n : Nat) (k0 : Nat) (a1 : Int32) (a2 : Int32) (μ : xM) (K : xM → Prop) : Prop :=
  (∀ m_2 : xM, m_2 = xu μ (2 + k0) 1 (1 : Int32) → (∀ m_7 : xM, m_7 = xu m_2 (2 + k0) 2 a1 → (∀ m_12 : xM, m_12 = xu m_7 (2 + k0) 3 a2 → xlp (fun (again17 : (Int32 × xM) → Prop) => fun (s_ : Int32 × xM) => match s_ with | (x3_17, m_17) => (((60 : Int32) ≤ x3_17 → K m_17) ∧ (¬ (60 : Int32) ≤ x3_17 → (vp_in x3_17 60 ∧ (∀ m_29 : xM, m_29 = xu m_17 (6 + k0) x3_17.toNatClampNeg (0 : Int32) → (∀ x3_30 : Int32, x3_30 = x3_17 + 1 → again17 (x3_30, m_29))))))) n ((0 : Int32), m_12))))
set_option maxHeartbeats 4000000 in
set_option maxRecDepth 100000 in
theorem cm_X2_renew (l : Launch) (G : xG) (ad : Nat → Nat) (hI : xI 36 ad) (n : Nat) (k0 : Nat) (hk0 : k0 < 4) (a1 : Int32) (a2 : Int32) (μ : xM) (K : xM → Prop) (hf : wp_X2_renew n k0 a1 a2 μ K) : Met l yX2_renew (Cond.code yX2_renew cX2_renew 4 none :: xw_all) (rmo 0 0) (va_Pc [.ref (ad (2 + k0)), .int a1, .int a2] (xPre cS 36 G ad μ)) (xQv cS 36 G ad K) 0 0 (xR 36 ad) := by
  refine x_ent (nL := 4) (own := RX2) (by decide) rfl hI (Nat.le_of_ble_eq_true rfl) ?_
  intro p e s m args below meth c H locs ls Q X hr hlk hQ M hl
  have hx := X.1.1
  have hb := X.1.2.1
  have hown := X.1.2.2.2.1
  have hts := X.1.2.2.2.2
  have hl : lv_has ls 4 [(0, .ref (ad (2 + k0))), (1, .int a1), (2, .int a2)] := hl
  unfold wp_X2_renew at hf
  refine lv_aload_n hx hb dX2_renew_0 rfl (lv_at hl 0 rfl) ?_
  refine lv_iconst (v := (1 : Int32)) hx hb dX2_renew_1 (by decide) ?_
  refine x_putZ X M (rgc_2 hk0) fp_X2_15 rfl xb_1 dX2_renew_2 (fun m_2 H locs em_2 M => ?_)
  replace hf := hf m_2 em_2
  refine lv_aload_n hx hb dX2_renew_5 rfl (lv_at hl 0 rfl) ?_
  refine lv_iload_n hx hb dX2_renew_6 rfl (lv_at hl 1 rfl) ?_
  refine x_putI X M (rgc_2 hk0) fp_X2_19 rfl dX2_renew_7 (fun m_7 H locs em_7 M => ?_)
  replace hf := hf m_7 em_7
  refine lv_aload_n hx hb dX2_renew_10 rfl (lv_at hl 0 rfl) ?_
  refine lv_iload_n hx hb dX2_renew_11 rfl (lv_at hl 2 rfl) ?_
  refine x_putI X M (rgc_2 hk0) fp_X2_23 rfl dX2_renew_12 (fun m_12 H locs em_12 M => ?_)
  replace hf := hf m_12 em_12
  refine lv_iconst (v := (0 : Int32)) hx hb dX2_renew_15 (by decide) ?_
  refine lv_istore_n (lv' := [(3, .int (0 : Int32)), (0, .ref (ad (2 + k0))), (1, .int a1), (2, .int a2)]) hx hb dX2_renew_16 rfl hl (by decide) rfl (fun ls hl => ?_)
  refine xlp_w hf (fun (s_ : Int32 × xM) => match s_ with | (x3_17, m_17) => ∀ (H : Heap) (locs : List Loc) (ls : Array Slot), xS cS 36 G ad s m_17 H locs → lv_has ls 4 [(3, .int x3_17), (0, .ref (ad (2 + k0)))] → W p l e (rmo 0 0) s m args below meth c H locs 0 0 Q (F0 m 17 ls [])) ?_ _ _ _ M (lv_sub hl [0, 1] rfl)
  intro again17 hagain17 s_ hf
  obtain ⟨x3_17, m_17⟩ := s_
  try dsimp only at hf ⊢
  intro H locs ls M hl
  refine lv_iload_n hx hb dX2_renew_17 rfl (lv_at hl 0 rfl) ?_
  refine lv_bipush (v := (60 : Int32)) hx hb dX2_renew_18 (by decide) ?_
  refine lv_icmp_ge (tgt := 36) hx hb dX2_renew_20 (by decide) (fun c_20 => ?_) (fun c_20 => ?_)
  · replace hf := hf.1 c_20
    rw [hQ]
    exact x_vret X M hr hlk dX2_renew_36 hf
  · replace hf := hf.2 c_20
    refine lv_aload_n hx hb dX2_renew_23 rfl (lv_at hl 1 rfl) ?_
    refine x_getR (r := (6 + k0)) X M (rgc_2 hk0) fd_X2_9 rfl dX2_renew_24 ?_
    refine lv_iload_n hx hb dX2_renew_27 rfl (lv_at hl 0 rfl) ?_
    refine lv_iconst (v := (0 : Int32)) hx hb dX2_renew_28 (by decide) ?_
    obtain ⟨g_29, hf⟩ := hf
    refine x_ist X M (rgc_6 hk0) g_29 dX2_renew_29 (fun m_29 H locs em_29 M => ?_)
    replace hf := hf m_29 em_29
    obtain ⟨x3_30, ex3_30⟩ : ∃ y : Int32, y = x3_17 + 1 := ⟨_, rfl⟩
    replace hf := hf x3_30 ex3_30
    refine lv_iinc (v := x3_30) (lv' := [(3, .int x3_30), (0, .ref (ad (2 + k0)))]) hx hb dX2_renew_30 hl (k := 0) rfl (by rw [ex3_30]; rfl) (by decide) rfl (fun ls hl => ?_)
    refine lv_goto (tgt := 17) hx hb dX2_renew_33 (by decide) ?_
    exact hagain17 (x3_30, m_29) hf _ _ _ M (lv_sub hl [0, 1] rfl)
def wp_X2_faultAs (n : Nat) (k0 : Nat) (a1 : Int32) (μ : xM) (K : Int32 → Prop) : Prop :=
  ((¬ (μ (2 + k0) 1) = 0 → ((¬ (μ (2 + k0) 2) = a1 → K (2 : Int32)) ∧ ((μ (2 + k0) 2) = a1 → K (0 : Int32)))) ∧ ((μ (2 + k0) 1) = 0 → K (1 : Int32)))
set_option maxHeartbeats 4000000 in
set_option maxRecDepth 100000 in
theorem cm_X2_faultAs (l : Launch) (G : xG) (ad : Nat → Nat) (hI : xI 36 ad) (n : Nat) (k0 : Nat) (hk0 : k0 < 4) (a1 : Int32) (μ : xM) (K : Int32 → Prop) (hf : wp_X2_faultAs n k0 a1 μ K) : Met l yX2_faultAs (Cond.code yX2_faultAs cX2_faultAs 2 (some .int) :: xw_all) (rmo 0 0) (va_Pc [.ref (ad (2 + k0)), .int a1] (xPre cS 36 G ad μ)) (xQi cS 36 G ad (fun r u => K r ∧ u = μ)) 0 0 (xR 36 ad) := by
  refine x_ent (nL := 2) (own := RX2) (by decide) rfl hI (Nat.le_of_ble_eq_true rfl) ?_
  intro p e s m args below meth c H locs ls Q X hr hlk hQ M hl
  have hx := X.1.1
  have hb := X.1.2.1
  have hown := X.1.2.2.2.1
  have hts := X.1.2.2.2.2
  have hl : lv_has ls 2 [(0, .ref (ad (2 + k0))), (1, .int a1)] := hl
  unfold wp_X2_faultAs at hf
  refine lv_aload_n hx hb dX2_faultAs_0 rfl (lv_at hl 0 rfl) ?_
  refine x_getI X M (rgc_2 hk0) fd_X2_15 rfl dX2_faultAs_1 ?_
  refine lv_if_ne (tgt := 9) hx hb dX2_faultAs_4 (by decide) (fun c_4 => ?_) (fun c_4 => ?_)
  · replace hf := hf.1 c_4
    refine lv_aload_n hx hb dX2_faultAs_9 rfl (lv_at hl 0 rfl) ?_
    refine x_getI X M (rgc_2 hk0) fd_X2_19 rfl dX2_faultAs_10 ?_
    refine lv_iload_n hx hb dX2_faultAs_13 rfl (lv_at hl 1 rfl) ?_
    refine lv_icmp_ne (tgt := 21) hx hb dX2_faultAs_14 (by decide) (fun c_14 => ?_) (fun c_14 => ?_)
    · replace hf := hf.1 c_14
      refine lv_iconst (v := (2 : Int32)) hx hb dX2_faultAs_21 (by decide) ?_
      rw [hQ]
      exact x_iret X M hr hlk dX2_faultAs_22 ⟨hf, rfl⟩
    · replace hf := hf.2 c_14
      refine lv_iconst (v := (0 : Int32)) hx hb dX2_faultAs_17 (by decide) ?_
      refine lv_goto (tgt := 22) hx hb dX2_faultAs_18 (by decide) ?_
      rw [hQ]
      exact x_iret X M hr hlk dX2_faultAs_22 ⟨hf, rfl⟩
  · replace hf := hf.2 c_4
    refine lv_iconst (v := (1 : Int32)) hx hb dX2_faultAs_7 (by decide) ?_
    rw [hQ]
    exact x_iret X M hr hlk dX2_faultAs_8 ⟨hf, rfl⟩
def wp_X2_hasRun (n : Nat) (k0 : Nat) (a1 : Int32) (a2 : Int32) (μ : xM) (K : Int32 → Prop) : Prop :=
  ((a1 < 0 → K (0 : Int32)) ∧ (¬ a1 < 0 → (((μ (2 + k0) 3) < a1 → K (0 : Int32)) ∧ (¬ (μ (2 + k0) 3) < a1 → ((a2 < 0 → K (0 : Int32)) ∧ (¬ a2 < 0 → ((((μ (2 + k0) 3) - a1) < a2 → K (0 : Int32)) ∧ (¬ ((μ (2 + k0) 3) - a1) < a2 → K (1 : Int32)))))))))
set_option maxHeartbeats 4000000 in
set_option maxRecDepth 100000 in
theorem cm_X2_hasRun (l : Launch) (G : xG) (ad : Nat → Nat) (hI : xI 36 ad) (n : Nat) (k0 : Nat) (hk0 : k0 < 4) (a1 : Int32) (a2 : Int32) (μ : xM) (K : Int32 → Prop) (hf : wp_X2_hasRun n k0 a1 a2 μ K) : Met l yX2_hasRun (Cond.code yX2_hasRun cX2_hasRun 3 (some .boolean) :: xw_all) (rmo 0 0) (va_Pc [.ref (ad (2 + k0)), .int a1, .int a2] (xPre cS 36 G ad μ)) (xQi cS 36 G ad (fun r u => K r ∧ u = μ)) 0 0 (xR 36 ad) := by
  refine x_ent (nL := 3) (own := RX2) (by decide) rfl hI (Nat.le_of_ble_eq_true rfl) ?_
  intro p e s m args below meth c H locs ls Q X hr hlk hQ M hl
  have hx := X.1.1
  have hb := X.1.2.1
  have hown := X.1.2.2.2.1
  have hts := X.1.2.2.2.2
  have hl : lv_has ls 3 [(0, .ref (ad (2 + k0))), (1, .int a1), (2, .int a2)] := hl
  unfold wp_X2_hasRun at hf
  refine lv_iload_n hx hb dX2_hasRun_0 rfl (lv_at hl 1 rfl) ?_
  refine lv_if_lt (tgt := 30) hx hb dX2_hasRun_1 (by decide) (fun c_1 => ?_) (fun c_1 => ?_)
  · replace hf := hf.1 c_1
    refine lv_iconst (v := (0 : Int32)) hx hb dX2_hasRun_30 (by decide) ?_
    rw [hQ]
    exact x_zret X M hr hlk xb_0 dX2_hasRun_31 ⟨hf, rfl⟩
  · replace hf := hf.2 c_1
    refine lv_iload_n hx hb dX2_hasRun_4 rfl (lv_at hl 1 rfl) ?_
    refine lv_aload_n hx hb dX2_hasRun_5 rfl (lv_at hl 0 rfl) ?_
    refine x_getI X M (rgc_2 hk0) fd_X2_23 rfl dX2_hasRun_6 ?_
    refine lv_icmp_gt (tgt := 30) hx hb dX2_hasRun_9 (by decide) (fun c_9 => ?_) (fun c_9 => ?_)
    · replace hf := hf.1 c_9
      refine lv_iconst (v := (0 : Int32)) hx hb dX2_hasRun_30 (by decide) ?_
      rw [hQ]
      exact x_zret X M hr hlk xb_0 dX2_hasRun_31 ⟨hf, rfl⟩
    · replace hf := hf.2 c_9
      refine lv_iload_n hx hb dX2_hasRun_12 rfl (lv_at hl 2 rfl) ?_
      refine lv_if_lt (tgt := 30) hx hb dX2_hasRun_13 (by decide) (fun c_13 => ?_) (fun c_13 => ?_)
      · replace hf := hf.1 c_13
        refine lv_iconst (v := (0 : Int32)) hx hb dX2_hasRun_30 (by decide) ?_
        rw [hQ]
        exact x_zret X M hr hlk xb_0 dX2_hasRun_31 ⟨hf, rfl⟩
      · replace hf := hf.2 c_13
        refine lv_iload_n hx hb dX2_hasRun_16 rfl (lv_at hl 2 rfl) ?_
        refine lv_aload_n hx hb dX2_hasRun_17 rfl (lv_at hl 0 rfl) ?_
        refine x_getI X M (rgc_2 hk0) fd_X2_23 rfl dX2_hasRun_18 ?_
        refine lv_iload_n hx hb dX2_hasRun_21 rfl (lv_at hl 1 rfl) ?_
        refine lv_isub hx hb dX2_hasRun_22 ?_
        refine lv_icmp_gt (tgt := 30) hx hb dX2_hasRun_23 (by decide) (fun c_23 => ?_) (fun c_23 => ?_)
        · replace hf := hf.1 c_23
          refine lv_iconst (v := (0 : Int32)) hx hb dX2_hasRun_30 (by decide) ?_
          rw [hQ]
          exact x_zret X M hr hlk xb_0 dX2_hasRun_31 ⟨hf, rfl⟩
        · replace hf := hf.2 c_23
          refine lv_iconst (v := (1 : Int32)) hx hb dX2_hasRun_26 (by decide) ?_
          refine lv_goto (tgt := 31) hx hb dX2_hasRun_27 (by decide) ?_
          rw [hQ]
          exact x_zret X M hr hlk xb_1 dX2_hasRun_31 ⟨hf, rfl⟩
def wp_X2_cut (n : Nat) (k0 : Nat) (a1 : Int32) (μ : xM) (K : Int32 → Prop) : Prop :=
  ((¬ (μ (2 + k0) 2) = 0 → ((¬ (μ (2 + k0) 2) = (1 : Int32) → K a1) ∧ ((μ (2 + k0) 2) = (1 : Int32) → K (a1.toInt16.toInt32)))) ∧ ((μ (2 + k0) 2) = 0 → K (a1.toInt8.toInt32)))
set_option maxHeartbeats 4000000 in
set_option maxRecDepth 100000 in
theorem cm_X2_cut (l : Launch) (G : xG) (ad : Nat → Nat) (hI : xI 36 ad) (n : Nat) (k0 : Nat) (hk0 : k0 < 4) (a1 : Int32) (μ : xM) (K : Int32 → Prop) (hf : wp_X2_cut n k0 a1 μ K) : Met l yX2_cut (Cond.code yX2_cut cX2_cut 2 (some .int) :: xw_all) (rmo 0 0) (va_Pc [.ref (ad (2 + k0)), .int a1] (xPre cS 36 G ad μ)) (xQi cS 36 G ad (fun r u => K r ∧ u = μ)) 0 0 (xR 36 ad) := by
  refine x_ent (nL := 2) (own := RX2) (by decide) rfl hI (Nat.le_of_ble_eq_true rfl) ?_
  intro p e s m args below meth c H locs ls Q X hr hlk hQ M hl
  have hx := X.1.1
  have hb := X.1.2.1
  have hown := X.1.2.2.2.1
  have hts := X.1.2.2.2.2
  have hl : lv_has ls 2 [(0, .ref (ad (2 + k0))), (1, .int a1)] := hl
  unfold wp_X2_cut at hf
  refine lv_aload_n hx hb dX2_cut_0 rfl (lv_at hl 0 rfl) ?_
  refine x_getI X M (rgc_2 hk0) fd_X2_19 rfl dX2_cut_1 ?_
  refine lv_if_ne (tgt := 10) hx hb dX2_cut_4 (by decide) (fun c_4 => ?_) (fun c_4 => ?_)
  · replace hf := hf.1 c_4
    refine lv_aload_n hx hb dX2_cut_10 rfl (lv_at hl 0 rfl) ?_
    refine x_getI X M (rgc_2 hk0) fd_X2_19 rfl dX2_cut_11 ?_
    refine lv_iconst (v := (1 : Int32)) hx hb dX2_cut_14 (by decide) ?_
    refine lv_icmp_ne (tgt := 23) hx hb dX2_cut_15 (by decide) (fun c_15 => ?_) (fun c_15 => ?_)
    · replace hf := hf.1 c_15
      refine lv_iload_n hx hb dX2_cut_23 rfl (lv_at hl 1 rfl) ?_
      rw [hQ]
      exact x_iret X M hr hlk dX2_cut_24 ⟨hf, rfl⟩
    · replace hf := hf.2 c_15
      refine lv_iload_n hx hb dX2_cut_18 rfl (lv_at hl 1 rfl) ?_
      refine lv_i2s hx hb dX2_cut_19 rfl ?_
      refine lv_goto (tgt := 24) hx hb dX2_cut_20 (by decide) ?_
      rw [hQ]
      exact x_iret X M hr hlk dX2_cut_24 ⟨hf, rfl⟩
  · replace hf := hf.2 c_4
    refine lv_iload_n hx hb dX2_cut_7 rfl (lv_at hl 1 rfl) ?_
    refine lv_i2b hx hb dX2_cut_8 rfl ?_
    rw [hQ]
    exact x_iret X M hr hlk dX2_cut_9 ⟨hf, rfl⟩
def wp_X4_kindOf (n : Nat) (a0 : Int32) (μ : xM) (K : Int32 → Prop) : Prop :=
  (((a0 = 98) → K (1 : Int32)) ∧ (¬ (a0 = 98) → (((a0 = 109) → K (2 : Int32)) ∧ (¬ (a0 = 109) → (((a0 = 115) → K (0 : Int32)) ∧ (¬ (a0 = 115) → K ((-9) : Int32)))))))
set_option maxHeartbeats 4000000 in
set_option maxRecDepth 100000 in
theorem cm_X4_kindOf (l : Launch) (G : xG) (ad : Nat → Nat) (hI : xI 36 ad) (n : Nat) (a0 : Int32) (μ : xM) (K : Int32 → Prop) (hf : wp_X4_kindOf n a0 μ K) : Met l yX4_kindOf (Cond.code yX4_kindOf cX4_kindOf 1 (some .int) :: xw_all) (rmo 0 0) (va_Pc [.int a0] (xPre cS 36 G ad μ)) (xQi cS 36 G ad (fun r u => K r ∧ u = μ)) 0 0 (xR 36 ad) := by
  refine x_ent (nL := 1) (own := RX4) (by decide) rfl hI (Nat.le_of_ble_eq_true rfl) ?_
  intro p e s m args below meth c H locs ls Q X hr hlk hQ M hl
  have hx := X.1.1
  have hb := X.1.2.1
  have hown := X.1.2.2.2.1
  have hts := X.1.2.2.2.2
  have hl : lv_has ls 1 [(0, .int a0)] := hl
  unfold wp_X4_kindOf at hf
  refine lv_iload_n hx hb dX4_kindOf_0 rfl (lv_at hl 0 rfl) ?_
  by_cases c_1_0 : a0 = 98
  · replace hf := hf.1 c_1_0
    refine lv_lookup (off := 37) (tgt := 38) hx hb dX4_kindOf_1 (by decide) (by have q := c_1_0; (rw [q] <;> decide)) (by decide) ?_
    refine lv_iconst (v := (1 : Int32)) hx hb dX4_kindOf_38 (by decide) ?_
    rw [hQ]
    exact x_iret X M hr hlk dX4_kindOf_39 ⟨hf, rfl⟩
  · replace hf := hf.2 c_1_0
    by_cases c_1_1 : a0 = 109
    · replace hf := hf.1 c_1_1
      refine lv_lookup (off := 39) (tgt := 40) hx hb dX4_kindOf_1 (by decide) (by have q := c_1_1; (rw [q] <;> decide)) (by decide) ?_
      refine lv_iconst (v := (2 : Int32)) hx hb dX4_kindOf_40 (by decide) ?_
      rw [hQ]
      exact x_iret X M hr hlk dX4_kindOf_41 ⟨hf, rfl⟩
    · replace hf := hf.2 c_1_1
      by_cases c_1_2 : a0 = 115
      · replace hf := hf.1 c_1_2
        refine lv_lookup (off := 35) (tgt := 36) hx hb dX4_kindOf_1 (by decide) (by have q := c_1_2; (rw [q] <;> decide)) (by decide) ?_
        refine lv_iconst (v := (0 : Int32)) hx hb dX4_kindOf_36 (by decide) ?_
        rw [hQ]
        exact x_iret X M hr hlk dX4_kindOf_37 ⟨hf, rfl⟩
      · replace hf := hf.2 c_1_2
        have n_1_98 : ¬ a0.toInt = 98 := fun q => c_1_0 (by rw [Int32.toInt_inj.mp (q.trans (show (98 : Int) = (98 : Int32).toInt from rfl))] <;> decide)
        have n_1_109 : ¬ a0.toInt = 109 := fun q => c_1_1 (by rw [Int32.toInt_inj.mp (q.trans (show (109 : Int) = (109 : Int32).toInt from rfl))] <;> decide)
        have n_1_115 : ¬ a0.toInt = 115 := fun q => c_1_2 (by rw [Int32.toInt_inj.mp (q.trans (show (115 : Int) = (115 : Int32).toInt from rfl))] <;> decide)
        refine lv_lookup (off := 41) (tgt := 42) hx hb dX4_kindOf_1 (by decide) (by simp [Op.lookupswitch.offset]; (repeat' split) <;> omega) (by decide) ?_
        refine lv_bipush (v := ((-9) : Int32)) hx hb dX4_kindOf_42 (by decide) ?_
        rw [hQ]
        exact x_iret X M hr hlk dX4_kindOf_44 ⟨hf, rfl⟩
def wp_X3_carve (n : Nat) (k0 : Nat) (k1 : Nat) (a2 : Int32) (μ : xM) (K : xM → Prop) : Prop :=
  (vp_in a2 60 ∧ wp_X4_kindOf n (μ (6 + k1) a2.toNatClampNeg) μ (fun r_7 : Int32 => (∀ m_10 : xM, m_10 = xu μ (17 + k0) 1 r_7 → xjn (fun (m_48 : xM) => (vp_in ((a2 + (1 : Int32)) + (3 : Int32)) 60 ∧ (∀ m_62 : xM, m_62 = xu m_48 (17 + k0) 2 ((m_48 (6 + k1) ((a2 + (1 : Int32)) + (3 : Int32)).toNatClampNeg) - (48 : Int32)) → (∀ m_67 : xM, m_67 = xu m_62 (17 + k0) 3 (0 : Int32) → (∀ m_72 : xM, m_72 = xu m_67 (17 + k0) 4 (0 : Int32) → K m_72))))) (fun J48 : xM → Prop => xlp (fun (again15 : (Int32 × xM) → Prop) => fun (s_ : Int32 × xM) => match s_ with | (x3_15, m_15) => (((3 : Int32) ≤ x3_15 → J48 m_15) ∧ (¬ (3 : Int32) ≤ x3_15 → (vp_in ((a2 + (1 : Int32)) + x3_15) 60 ∧ (vp_in x3_15 3 ∧ (∀ m_41 : xM, m_41 = xu m_15 (24 + k0) x3_15.toNatClampNeg ((10 : Int32) * ((m_15 (6 + k1) ((a2 + (1 : Int32)) + x3_15).toNatClampNeg) - (48 : Int32))) → (∀ x3_42 : Int32, x3_42 = x3_15 + 1 → again15 (x3_42, m_41)))))))) n ((0 : Int32), m_10)))))
set_option maxHeartbeats 4000000 in
set_option maxRecDepth 100000 in
theorem cm_X3_carve (l : Launch) (G : xG) (ad : Nat → Nat) (hI : xI 36 ad) (n : Nat) (k0 : Nat) (hk0 : k0 < 7) (k1 : Nat) (hk1 : k1 < 4) (a2 : Int32) (μ : xM) (K : xM → Prop) (hf : wp_X3_carve n k0 k1 a2 μ K) : Met l yX3_carve (Cond.code yX3_carve cX3_carve 4 none :: xw_all) (rmo 1 20) (va_Pc [.ref (ad (17 + k0)), .ref (ad (2 + k1)), .int a2] (xPre cS 36 G ad μ)) (xQv cS 36 G ad K) 0 0 (xR 36 ad) := by
  refine x_ent (nL := 4) (own := RX3) (by decide) rfl hI (Nat.le_of_ble_eq_true rfl) ?_
  intro p e s m args below meth c H locs ls Q X hr hlk hQ M hl
  have hx := X.1.1
  have hb := X.1.2.1
  have hown := X.1.2.2.2.1
  have hts := X.1.2.2.2.2
  have hl : lv_has ls 4 [(0, .ref (ad (17 + k0))), (1, .ref (ad (2 + k1))), (2, .int a2)] := hl
  unfold wp_X3_carve at hf
  refine lv_aload_n hx hb dX3_carve_0 rfl (lv_at hl 0 rfl) ?_
  refine lv_aload_n hx hb dX3_carve_1 rfl (lv_at hl 1 rfl) ?_
  refine x_getR (r := (6 + k1)) X M (rgc_2 hk1) fd_X3_29 rfl dX3_carve_2 ?_
  refine lv_iload_n hx hb dX3_carve_5 rfl (lv_at hl 2 rfl) ?_
  obtain ⟨g_6, hf⟩ := hf
  refine x_ild X M (rgc_6 hk1) g_6 dX3_carve_6 ?_
  refine x_ciP (x_rSN (As := [.int (μ (6 + k1) a2.toNatClampNeg)]) (rest := [.ref (ad (17 + k0))]) X M (cm_X4_kindOf l G ad hI n (μ (6 + k1) a2.toNatClampNeg) μ _ hf) mc_X4_kindOf ms_X4_kindOf ln_X3_34 mn_X4_kindOf hl ⟨⟨Nat.le_of_ble_eq_true rfl, Nat.le_of_ble_eq_true rfl⟩, rfl, Nat.le_of_ble_eq_true rfl, Nat.zero_le _, Nat.zero_le _⟩ rfl dX3_carve_7) M (fun r_7 H locs hf M => ?_)
  try dsimp only at hf
  refine x_putI X M (rgc_17 hk0) fp_X3_15 rfl dX3_carve_10 (fun m_10 H locs em_10 M => ?_)
  replace hf := hf m_10 em_10
  refine lv_iconst (v := (0 : Int32)) hx hb dX3_carve_13 (by decide) ?_
  refine lv_istore_n (lv' := [(3, .int (0 : Int32)), (0, .ref (ad (17 + k0))), (1, .ref (ad (2 + k1))), (2, .int a2)]) hx hb dX3_carve_14 rfl hl (by decide) rfl (fun ls hl => ?_)
  refine xjn_w hf (fun (m_48 : xM) => ∀ (H : Heap) (locs : List Loc) (ls : Array Slot), xS cS 36 G ad s m_48 H locs → lv_has ls 4 [(0, .ref (ad (17 + k0))), (1, .ref (ad (2 + k1))), (2, .int a2)] → W p l e (rmo 1 20) s m args below meth c H locs 0 0 Q (F0 m 48 ls [])) ?_ ?_
  · intro m_48 hf
    intro H locs ls M hl
    refine lv_aload_n hx hb dX3_carve_48 rfl (lv_at hl 0 rfl) ?_
    refine lv_aload_n hx hb dX3_carve_49 rfl (lv_at hl 1 rfl) ?_
    refine x_getR (r := (6 + k1)) X M (rgc_2 hk1) fd_X3_29 rfl dX3_carve_50 ?_
    refine lv_iload_n hx hb dX3_carve_53 rfl (lv_at hl 2 rfl) ?_
    refine lv_iconst (v := (1 : Int32)) hx hb dX3_carve_54 (by decide) ?_
    refine lv_iadd hx hb dX3_carve_55 ?_
    refine lv_iconst (v := (3 : Int32)) hx hb dX3_carve_56 (by decide) ?_
    refine lv_iadd hx hb dX3_carve_57 ?_
    obtain ⟨g_58, hf⟩ := hf
    refine x_ild X M (rgc_6 hk1) g_58 dX3_carve_58 ?_
    refine lv_bipush (v := (48 : Int32)) hx hb dX3_carve_59 (by decide) ?_
    refine lv_isub hx hb dX3_carve_61 ?_
    refine x_putI X M (rgc_17 hk0) fp_X3_19 rfl dX3_carve_62 (fun m_62 H locs em_62 M => ?_)
    replace hf := hf m_62 em_62
    refine lv_aload_n hx hb dX3_carve_65 rfl (lv_at hl 0 rfl) ?_
    refine lv_iconst (v := (0 : Int32)) hx hb dX3_carve_66 (by decide) ?_
    refine x_putI X M (rgc_17 hk0) fp_X3_22 rfl dX3_carve_67 (fun m_67 H locs em_67 M => ?_)
    replace hf := hf m_67 em_67
    refine lv_aload_n hx hb dX3_carve_70 rfl (lv_at hl 0 rfl) ?_
    refine lv_iconst (v := (0 : Int32)) hx hb dX3_carve_71 (by decide) ?_
    refine x_putZ X M (rgc_17 hk0) fp_X3_25 rfl xb_0 dX3_carve_72 (fun m_72 H locs em_72 M => ?_)
    replace hf := hf m_72 em_72
    rw [hQ]
    exact x_vret X M hr hlk dX3_carve_75 hf
  · intro J48 hJ48 hf
    refine xlp_w hf (fun (s_ : Int32 × xM) => match s_ with | (x3_15, m_15) => ∀ (H : Heap) (locs : List Loc) (ls : Array Slot), xS cS 36 G ad s m_15 H locs → lv_has ls 4 [(3, .int x3_15), (0, .ref (ad (17 + k0))), (1, .ref (ad (2 + k1))), (2, .int a2)] → W p l e (rmo 1 20) s m args below meth c H locs 0 0 Q (F0 m 15 ls [])) ?_ _ _ _ M (lv_sub hl [0, 1, 2, 3] rfl)
    intro again15 hagain15 s_ hf
    obtain ⟨x3_15, m_15⟩ := s_
    try dsimp only at hf ⊢
    intro H locs ls M hl
    refine lv_iload_n hx hb dX3_carve_15 rfl (lv_at hl 0 rfl) ?_
    refine lv_iconst (v := (3 : Int32)) hx hb dX3_carve_16 (by decide) ?_
    refine lv_icmp_ge (tgt := 48) hx hb dX3_carve_17 (by decide) (fun c_17 => ?_) (fun c_17 => ?_)
    · replace hf := hf.1 c_17
      exact hJ48 m_15 hf _ _ _ M (lv_sub hl [1, 2, 3] rfl)
    · replace hf := hf.2 c_17
      refine lv_aload_n hx hb dX3_carve_20 rfl (lv_at hl 1 rfl) ?_
      refine x_getR (r := (24 + k0)) X M (rgc_17 hk0) fd_X3_9 rfl dX3_carve_21 ?_
      refine lv_iload_n hx hb dX3_carve_24 rfl (lv_at hl 0 rfl) ?_
      refine lv_bipush (v := (10 : Int32)) hx hb dX3_carve_25 (by decide) ?_
      refine lv_aload_n hx hb dX3_carve_27 rfl (lv_at hl 2 rfl) ?_
      refine x_getR (r := (6 + k1)) X M (rgc_2 hk1) fd_X3_29 rfl dX3_carve_28 ?_
      refine lv_iload_n hx hb dX3_carve_31 rfl (lv_at hl 3 rfl) ?_
      refine lv_iconst (v := (1 : Int32)) hx hb dX3_carve_32 (by decide) ?_
      refine lv_iadd hx hb dX3_carve_33 ?_
      refine lv_iload_n hx hb dX3_carve_34 rfl (lv_at hl 0 rfl) ?_
      refine lv_iadd hx hb dX3_carve_35 ?_
      obtain ⟨g_36, hf⟩ := hf
      refine x_ild X M (rgc_6 hk1) g_36 dX3_carve_36 ?_
      refine lv_bipush (v := (48 : Int32)) hx hb dX3_carve_37 (by decide) ?_
      refine lv_isub hx hb dX3_carve_39 ?_
      refine lv_imul hx hb dX3_carve_40 ?_
      obtain ⟨g_41, hf⟩ := hf
      refine x_ist X M (rgc_24 hk0) g_41 dX3_carve_41 (fun m_41 H locs em_41 M => ?_)
      replace hf := hf m_41 em_41
      obtain ⟨x3_42, ex3_42⟩ : ∃ y : Int32, y = x3_15 + 1 := ⟨_, rfl⟩
      replace hf := hf x3_42 ex3_42
      refine lv_iinc (v := x3_42) (lv' := [(3, .int x3_42), (0, .ref (ad (17 + k0))), (1, .ref (ad (2 + k1))), (2, .int a2)]) hx hb dX3_carve_42 hl (k := 0) rfl (by rw [ex3_42]; rfl) (by decide) rfl (fun ls hl => ?_)
      refine lv_goto (tgt := 15) hx hb dX3_carve_45 (by decide) ?_
      exact hagain15 (x3_42, m_41) hf _ _ _ M (lv_sub hl [0, 1, 2, 3] rfl)
def wp_X3_allAtFirst (n : Nat) (k0 : Nat) (μ : xM) (K : Int32 → Prop) : Prop :=
  (vp_in (0 : Int32) 3 ∧ (vp_in (1 : Int32) 3 ∧ (vp_in (2 : Int32) 3 ∧ K (((μ (24 + k0) (0 : Int32).toNatClampNeg) + (μ (24 + k0) (1 : Int32).toNatClampNeg)) + (μ (24 + k0) (2 : Int32).toNatClampNeg)))))
set_option maxHeartbeats 4000000 in
set_option maxRecDepth 100000 in
theorem cm_X3_allAtFirst (l : Launch) (G : xG) (ad : Nat → Nat) (hI : xI 36 ad) (n : Nat) (k0 : Nat) (hk0 : k0 < 7) (μ : xM) (K : Int32 → Prop) (hf : wp_X3_allAtFirst n k0 μ K) : Met l yX3_allAtFirst (Cond.code yX3_allAtFirst cX3_allAtFirst 1 (some .int) :: xw_all) (rmo 0 0) (va_Pc [.ref (ad (17 + k0))] (xPre cS 36 G ad μ)) (xQi cS 36 G ad (fun r u => K r ∧ u = μ)) 0 0 (xR 36 ad) := by
  refine x_ent (nL := 1) (own := RX3) (by decide) rfl hI (Nat.le_of_ble_eq_true rfl) ?_
  intro p e s m args below meth c H locs ls Q X hr hlk hQ M hl
  have hx := X.1.1
  have hb := X.1.2.1
  have hown := X.1.2.2.2.1
  have hts := X.1.2.2.2.2
  have hl : lv_has ls 1 [(0, .ref (ad (17 + k0)))] := hl
  unfold wp_X3_allAtFirst at hf
  refine lv_aload_n hx hb dX3_allAtFirst_0 rfl (lv_at hl 0 rfl) ?_
  refine x_getR (r := (24 + k0)) X M (rgc_17 hk0) fd_X3_9 rfl dX3_allAtFirst_1 ?_
  refine lv_iconst (v := (0 : Int32)) hx hb dX3_allAtFirst_4 (by decide) ?_
  obtain ⟨g_5, hf⟩ := hf
  refine x_ild X M (rgc_24 hk0) g_5 dX3_allAtFirst_5 ?_
  refine lv_aload_n hx hb dX3_allAtFirst_6 rfl (lv_at hl 0 rfl) ?_
  refine x_getR (r := (24 + k0)) X M (rgc_17 hk0) fd_X3_9 rfl dX3_allAtFirst_7 ?_
  refine lv_iconst (v := (1 : Int32)) hx hb dX3_allAtFirst_10 (by decide) ?_
  obtain ⟨g_11, hf⟩ := hf
  refine x_ild X M (rgc_24 hk0) g_11 dX3_allAtFirst_11 ?_
  refine lv_iadd hx hb dX3_allAtFirst_12 ?_
  refine lv_aload_n hx hb dX3_allAtFirst_13 rfl (lv_at hl 0 rfl) ?_
  refine x_getR (r := (24 + k0)) X M (rgc_17 hk0) fd_X3_9 rfl dX3_allAtFirst_14 ?_
  refine lv_iconst (v := (2 : Int32)) hx hb dX3_allAtFirst_17 (by decide) ?_
  obtain ⟨g_18, hf⟩ := hf
  refine x_ild X M (rgc_24 hk0) g_18 dX3_allAtFirst_18 ?_
  refine lv_iadd hx hb dX3_allAtFirst_19 ?_
  rw [hQ]
  exact x_iret X M hr hlk dX3_allAtFirst_20 ⟨hf, rfl⟩
def wp_X4_goesOn (n : Nat) (a0 : Int32) (a1 : Int32) (μ : xM) (K : Int32 → Prop) : Prop :=
  (¬ (6 : Int32) = 0 ∧ ((((a0 - a0 / (6 : Int32) * (6 : Int32)) = 0) → wp_X4_kindOf n a1 μ (fun r_41 : Int32 => ((r_41 = ((-9) : Int32) → K (0 : Int32)) ∧ (¬ r_41 = ((-9) : Int32) → K (1 : Int32))))) ∧ (¬ ((a0 - a0 / (6 : Int32) * (6 : Int32)) = 0) → ((((a0 - a0 / (6 : Int32) * (6 : Int32)) = 1 ∨ (a0 - a0 / (6 : Int32) * (6 : Int32)) = 2 ∨ (a0 - a0 / (6 : Int32) * (6 : Int32)) = 3) → ((a1 < (49 : Int32) → K (0 : Int32)) ∧ (¬ a1 < (49 : Int32) → (((57 : Int32) < a1 → K (0 : Int32)) ∧ (¬ (57 : Int32) < a1 → K (1 : Int32)))))) ∧ (¬ ((a0 - a0 / (6 : Int32) * (6 : Int32)) = 1 ∨ (a0 - a0 / (6 : Int32) * (6 : Int32)) = 2 ∨ (a0 - a0 / (6 : Int32) * (6 : Int32)) = 3) → ((((a0 - a0 / (6 : Int32) * (6 : Int32)) = 4) → ((a1 < (48 : Int32) → K (0 : Int32)) ∧ (¬ a1 < (48 : Int32) → (((51 : Int32) < a1 → K (0 : Int32)) ∧ (¬ (51 : Int32) < a1 → K (1 : Int32)))))) ∧ (¬ ((a0 - a0 / (6 : Int32) * (6 : Int32)) = 4) → ((¬ a1 = (59 : Int32) → K (0 : Int32)) ∧ (a1 = (59 : Int32) → (((41 : Int32) ≤ a0 → K (0 : Int32)) ∧ (¬ (41 : Int32) ≤ a0 → K (1 : Int32))))))))))))
set_option maxHeartbeats 4000000 in
set_option maxRecDepth 100000 in
theorem cm_X4_goesOn (l : Launch) (G : xG) (ad : Nat → Nat) (hI : xI 36 ad) (n : Nat) (a0 : Int32) (a1 : Int32) (μ : xM) (K : Int32 → Prop) (hf : wp_X4_goesOn n a0 a1 μ K) : Met l yX4_goesOn (Cond.code yX4_goesOn cX4_goesOn 2 (some .boolean) :: xw_all) (rmo 1 20) (va_Pc [.int a0, .int a1] (xPre cS 36 G ad μ)) (xQi cS 36 G ad (fun r u => K r ∧ u = μ)) 0 0 (xR 36 ad) := by
  refine x_ent (nL := 2) (own := RX4) (by decide) rfl hI (Nat.le_of_ble_eq_true rfl) ?_
  intro p e s m args below meth c H locs ls Q X hr hlk hQ M hl
  have hx := X.1.1
  have hb := X.1.2.1
  have hown := X.1.2.2.2.1
  have hts := X.1.2.2.2.2
  have hl : lv_has ls 2 [(0, .int a0), (1, .int a1)] := hl
  unfold wp_X4_goesOn at hf
  refine lv_iload_n hx hb dX4_goesOn_0 rfl (lv_at hl 0 rfl) ?_
  refine lv_bipush (v := (6 : Int32)) hx hb dX4_goesOn_1 (by decide) ?_
  obtain ⟨g_3, hf⟩ := hf
  refine lv_irem hx hb dX4_goesOn_3 g_3 ?_
  by_cases c_4_0 : (a0 - a0 / (6 : Int32) * (6 : Int32)) = 0
  · replace hf := hf.1 c_4_0
    refine lv_tableIn (off := 36) (tgt := 40) hx hb dX4_goesOn_4 (by have q := c_4_0; (rw [q] <;> decide)) (by have q := c_4_0; (rw [q] <;> decide)) (by have q := c_4_0; (rw [q] <;> rfl)) (by decide) ?_
    refine lv_iload_n hx hb dX4_goesOn_40 rfl (lv_at hl 1 rfl) ?_
    refine x_ciP (x_rS (As := [.int a1]) (rest := []) X M (cm_X4_kindOf l G ad hI n a1 μ _ hf) mc_X4_kindOf ms_X4_kindOf lk_X4_25 mn_X4_kindOf hl ⟨⟨Nat.le_of_ble_eq_true rfl, Nat.le_of_ble_eq_true rfl⟩, rfl, Nat.le_of_ble_eq_true rfl, Nat.zero_le _, Nat.zero_le _⟩ rfl dX4_goesOn_41) M (fun r_41 H locs hf M => ?_)
    try dsimp only at hf
    refine lv_bipush (v := ((-9) : Int32)) hx hb dX4_goesOn_44 (by decide) ?_
    refine lv_icmp_eq (tgt := 53) hx hb dX4_goesOn_46 (by decide) (fun c_46 => ?_) (fun c_46 => ?_)
    · replace hf := hf.1 c_46
      refine lv_iconst (v := (0 : Int32)) hx hb dX4_goesOn_53 (by decide) ?_
      rw [hQ]
      exact x_zret X M hr hlk xb_0 dX4_goesOn_54 ⟨hf, rfl⟩
    · replace hf := hf.2 c_46
      refine lv_iconst (v := (1 : Int32)) hx hb dX4_goesOn_49 (by decide) ?_
      refine lv_goto (tgt := 54) hx hb dX4_goesOn_50 (by decide) ?_
      rw [hQ]
      exact x_zret X M hr hlk xb_1 dX4_goesOn_54 ⟨hf, rfl⟩
  · replace hf := hf.2 c_4_0
    by_cases c_4_1 : (a0 - a0 / (6 : Int32) * (6 : Int32)) = 1 ∨ (a0 - a0 / (6 : Int32) * (6 : Int32)) = 2 ∨ (a0 - a0 / (6 : Int32) * (6 : Int32)) = 3
    · replace hf := hf.1 c_4_1
      refine lv_tableIn (off := 51) (tgt := 55) hx hb dX4_goesOn_4 (by rcases c_4_1 with q | q | q <;> (rw [q] <;> decide)) (by rcases c_4_1 with q | q | q <;> (rw [q] <;> decide)) (by rcases c_4_1 with q | q | q <;> (rw [q] <;> rfl)) (by decide) ?_
      refine lv_iload_n hx hb dX4_goesOn_55 rfl (lv_at hl 1 rfl) ?_
      refine lv_bipush (v := (49 : Int32)) hx hb dX4_goesOn_56 (by decide) ?_
      refine lv_icmp_lt (tgt := 71) hx hb dX4_goesOn_58 (by decide) (fun c_58 => ?_) (fun c_58 => ?_)
      · replace hf := hf.1 c_58
        refine lv_iconst (v := (0 : Int32)) hx hb dX4_goesOn_71 (by decide) ?_
        rw [hQ]
        exact x_zret X M hr hlk xb_0 dX4_goesOn_72 ⟨hf, rfl⟩
      · replace hf := hf.2 c_58
        refine lv_iload_n hx hb dX4_goesOn_61 rfl (lv_at hl 1 rfl) ?_
        refine lv_bipush (v := (57 : Int32)) hx hb dX4_goesOn_62 (by decide) ?_
        refine lv_icmp_gt (tgt := 71) hx hb dX4_goesOn_64 (by decide) (fun c_64 => ?_) (fun c_64 => ?_)
        · replace hf := hf.1 c_64
          refine lv_iconst (v := (0 : Int32)) hx hb dX4_goesOn_71 (by decide) ?_
          rw [hQ]
          exact x_zret X M hr hlk xb_0 dX4_goesOn_72 ⟨hf, rfl⟩
        · replace hf := hf.2 c_64
          refine lv_iconst (v := (1 : Int32)) hx hb dX4_goesOn_67 (by decide) ?_
          refine lv_goto (tgt := 72) hx hb dX4_goesOn_68 (by decide) ?_
          rw [hQ]
          exact x_zret X M hr hlk xb_1 dX4_goesOn_72 ⟨hf, rfl⟩
    · replace hf := hf.2 c_4_1
      by_cases c_4_2 : (a0 - a0 / (6 : Int32) * (6 : Int32)) = 4
      · replace hf := hf.1 c_4_2
        refine lv_tableIn (off := 69) (tgt := 73) hx hb dX4_goesOn_4 (by have q := c_4_2; (rw [q] <;> decide)) (by have q := c_4_2; (rw [q] <;> decide)) (by have q := c_4_2; (rw [q] <;> rfl)) (by decide) ?_
        refine lv_iload_n hx hb dX4_goesOn_73 rfl (lv_at hl 1 rfl) ?_
        refine lv_bipush (v := (48 : Int32)) hx hb dX4_goesOn_74 (by decide) ?_
        refine lv_icmp_lt (tgt := 89) hx hb dX4_goesOn_76 (by decide) (fun c_76 => ?_) (fun c_76 => ?_)
        · replace hf := hf.1 c_76
          refine lv_iconst (v := (0 : Int32)) hx hb dX4_goesOn_89 (by decide) ?_
          rw [hQ]
          exact x_zret X M hr hlk xb_0 dX4_goesOn_90 ⟨hf, rfl⟩
        · replace hf := hf.2 c_76
          refine lv_iload_n hx hb dX4_goesOn_79 rfl (lv_at hl 1 rfl) ?_
          refine lv_bipush (v := (51 : Int32)) hx hb dX4_goesOn_80 (by decide) ?_
          refine lv_icmp_gt (tgt := 89) hx hb dX4_goesOn_82 (by decide) (fun c_82 => ?_) (fun c_82 => ?_)
          · replace hf := hf.1 c_82
            refine lv_iconst (v := (0 : Int32)) hx hb dX4_goesOn_89 (by decide) ?_
            rw [hQ]
            exact x_zret X M hr hlk xb_0 dX4_goesOn_90 ⟨hf, rfl⟩
          · replace hf := hf.2 c_82
            refine lv_iconst (v := (1 : Int32)) hx hb dX4_goesOn_85 (by decide) ?_
            refine lv_goto (tgt := 90) hx hb dX4_goesOn_86 (by decide) ?_
            rw [hQ]
            exact x_zret X M hr hlk xb_1 dX4_goesOn_90 ⟨hf, rfl⟩
      · replace hf := hf.2 c_4_2
        have n_4_0 : ¬ (a0 - a0 / (6 : Int32) * (6 : Int32)).toInt = 0 := fun q => c_4_0 (by rw [Int32.toInt_inj.mp (q.trans (show (0 : Int) = (0 : Int32).toInt from rfl))] <;> decide)
        have n_4_1 : ¬ (a0 - a0 / (6 : Int32) * (6 : Int32)).toInt = 1 := fun q => c_4_1 (by rw [Int32.toInt_inj.mp (q.trans (show (1 : Int) = (1 : Int32).toInt from rfl))] <;> decide)
        have n_4_2 : ¬ (a0 - a0 / (6 : Int32) * (6 : Int32)).toInt = 2 := fun q => c_4_1 (by rw [Int32.toInt_inj.mp (q.trans (show (2 : Int) = (2 : Int32).toInt from rfl))] <;> decide)
        have n_4_3 : ¬ (a0 - a0 / (6 : Int32) * (6 : Int32)).toInt = 3 := fun q => c_4_1 (by rw [Int32.toInt_inj.mp (q.trans (show (3 : Int) = (3 : Int32).toInt from rfl))] <;> decide)
        have n_4_4 : ¬ (a0 - a0 / (6 : Int32) * (6 : Int32)).toInt = 4 := fun q => c_4_2 (by rw [Int32.toInt_inj.mp (q.trans (show (4 : Int) = (4 : Int32).toInt from rfl))] <;> decide)
        refine lv_tableOut (tgt := 91) hx hb dX4_goesOn_4 (by omega) (by decide) ?_
        refine lv_iload_n hx hb dX4_goesOn_91 rfl (lv_at hl 1 rfl) ?_
        refine lv_bipush (v := (59 : Int32)) hx hb dX4_goesOn_92 (by decide) ?_
        refine lv_icmp_ne (tgt := 107) hx hb dX4_goesOn_94 (by decide) (fun c_94 => ?_) (fun c_94 => ?_)
        · replace hf := hf.1 c_94
          refine lv_iconst (v := (0 : Int32)) hx hb dX4_goesOn_107 (by decide) ?_
          rw [hQ]
          exact x_zret X M hr hlk xb_0 dX4_goesOn_108 ⟨hf, rfl⟩
        · replace hf := hf.2 c_94
          refine lv_iload_n hx hb dX4_goesOn_97 rfl (lv_at hl 0 rfl) ?_
          refine lv_bipush (v := (41 : Int32)) hx hb dX4_goesOn_98 (by decide) ?_
          refine lv_icmp_ge (tgt := 107) hx hb dX4_goesOn_100 (by decide) (fun c_100 => ?_) (fun c_100 => ?_)
          · replace hf := hf.1 c_100
            refine lv_iconst (v := (0 : Int32)) hx hb dX4_goesOn_107 (by decide) ?_
            rw [hQ]
            exact x_zret X M hr hlk xb_0 dX4_goesOn_108 ⟨hf, rfl⟩
          · replace hf := hf.2 c_100
            refine lv_iconst (v := (1 : Int32)) hx hb dX4_goesOn_103 (by decide) ?_
            refine lv_goto (tgt := 108) hx hb dX4_goesOn_104 (by decide) ?_
            rw [hQ]
            exact x_zret X M hr hlk xb_1 dX4_goesOn_108 ⟨hf, rfl⟩
def wp_X4_isWhole (n : Nat) (a0 : Int32) (μ : xM) (K : Int32 → Prop) : Prop :=
  (¬ (6 : Int32) = 0 ∧ ((¬ (a0 - a0 / (6 : Int32) * (6 : Int32)) = (5 : Int32) → K (0 : Int32)) ∧ ((a0 - a0 / (6 : Int32) * (6 : Int32)) = (5 : Int32) → K (1 : Int32))))
set_option maxHeartbeats 4000000 in
set_option maxRecDepth 100000 in
theorem cm_X4_isWhole (l : Launch) (G : xG) (ad : Nat → Nat) (hI : xI 36 ad) (n : Nat) (a0 : Int32) (μ : xM) (K : Int32 → Prop) (hf : wp_X4_isWhole n a0 μ K) : Met l yX4_isWhole (Cond.code yX4_isWhole cX4_isWhole 1 (some .boolean) :: xw_all) (rmo 0 0) (va_Pc [.int a0] (xPre cS 36 G ad μ)) (xQi cS 36 G ad (fun r u => K r ∧ u = μ)) 0 0 (xR 36 ad) := by
  refine x_ent (nL := 1) (own := RX4) (by decide) rfl hI (Nat.le_of_ble_eq_true rfl) ?_
  intro p e s m args below meth c H locs ls Q X hr hlk hQ M hl
  have hx := X.1.1
  have hb := X.1.2.1
  have hown := X.1.2.2.2.1
  have hts := X.1.2.2.2.2
  have hl : lv_has ls 1 [(0, .int a0)] := hl
  unfold wp_X4_isWhole at hf
  refine lv_iload_n hx hb dX4_isWhole_0 rfl (lv_at hl 0 rfl) ?_
  refine lv_bipush (v := (6 : Int32)) hx hb dX4_isWhole_1 (by decide) ?_
  obtain ⟨g_3, hf⟩ := hf
  refine lv_irem hx hb dX4_isWhole_3 g_3 ?_
  refine lv_iconst (v := (5 : Int32)) hx hb dX4_isWhole_4 (by decide) ?_
  refine lv_icmp_ne (tgt := 12) hx hb dX4_isWhole_5 (by decide) (fun c_5 => ?_) (fun c_5 => ?_)
  · replace hf := hf.1 c_5
    refine lv_iconst (v := (0 : Int32)) hx hb dX4_isWhole_12 (by decide) ?_
    rw [hQ]
    exact x_zret X M hr hlk xb_0 dX4_isWhole_13 ⟨hf, rfl⟩
  · replace hf := hf.2 c_5
    refine lv_iconst (v := (1 : Int32)) hx hb dX4_isWhole_8 (by decide) ?_
    refine lv_goto (tgt := 13) hx hb dX4_isWhole_9 (by decide) ?_
    rw [hQ]
    exact x_zret X M hr hlk xb_1 dX4_isWhole_13 ⟨hf, rfl⟩
def wp_X4_firstFault (n : Nat) (k0 : Nat) (a1 : Int32) (a2 : Int32) (μ : xM) (K : Int32 → Prop) : Prop :=
  xjn (fun (_ : Unit) => wp_X4_isWhole n a2 μ (fun r_31 : Int32 => ((r_31 = 0 → K a2) ∧ (¬ r_31 = 0 → K ((-1) : Int32))))) (fun J30 : Unit → Prop => xlp (fun (again2 : Int32 → Prop) => fun (x3_2 : Int32) => ((a2 ≤ x3_2 → J30 ()) ∧ (¬ a2 ≤ x3_2 → (vp_in (a1 + x3_2) 60 ∧ wp_X4_goesOn n x3_2 (μ (6 + k0) (a1 + x3_2).toNatClampNeg) μ (fun r_16 : Int32 => ((¬ r_16 = 0 → (∀ x3_24 : Int32, x3_24 = x3_2 + 1 → again2 x3_24)) ∧ (r_16 = 0 → K x3_2))))))) n (0 : Int32))
set_option maxHeartbeats 4000000 in
set_option maxRecDepth 100000 in
theorem cm_X4_firstFault (l : Launch) (G : xG) (ad : Nat → Nat) (hI : xI 36 ad) (n : Nat) (k0 : Nat) (hk0 : k0 < 4) (a1 : Int32) (a2 : Int32) (μ : xM) (K : Int32 → Prop) (hf : wp_X4_firstFault n k0 a1 a2 μ K) : Met l yX4_firstFault (Cond.code yX4_firstFault cX4_firstFault 4 (some .int) :: xw_all) (rmo 2 41) (va_Pc [.ref (ad (2 + k0)), .int a1, .int a2] (xPre cS 36 G ad μ)) (xQi cS 36 G ad (fun r u => K r ∧ u = μ)) 0 0 (xR 36 ad) := by
  refine x_ent (nL := 4) (own := RX4) (by decide) rfl hI (Nat.le_of_ble_eq_true rfl) ?_
  intro p e s m args below meth c H locs ls Q X hr hlk hQ M hl
  have hx := X.1.1
  have hb := X.1.2.1
  have hown := X.1.2.2.2.1
  have hts := X.1.2.2.2.2
  have hl : lv_has ls 4 [(0, .ref (ad (2 + k0))), (1, .int a1), (2, .int a2)] := hl
  unfold wp_X4_firstFault at hf
  refine lv_iconst (v := (0 : Int32)) hx hb dX4_firstFault_0 (by decide) ?_
  refine lv_istore_n (lv' := [(3, .int (0 : Int32)), (0, .ref (ad (2 + k0))), (1, .int a1), (2, .int a2)]) hx hb dX4_firstFault_1 rfl hl (by decide) rfl (fun ls hl => ?_)
  refine xjn_w hf (fun (_ : Unit) => ∀ (H : Heap) (locs : List Loc) (ls : Array Slot), xS cS 36 G ad s μ H locs → lv_has ls 4 [(2, .int a2)] → W p l e (rmo 2 41) s m args below meth c H locs 0 0 Q (F0 m 30 ls [])) ?_ ?_
  · intro s_ hf
    intro H locs ls M hl
    refine lv_iload_n hx hb dX4_firstFault_30 rfl (lv_at hl 0 rfl) ?_
    refine x_ciP (x_rS (As := [.int a2]) (rest := []) X M (cm_X4_isWhole l G ad hI n a2 μ _ hf) mc_X4_isWhole ms_X4_isWhole lk_X4_21 mn_X4_isWhole hl ⟨⟨Nat.le_of_ble_eq_true rfl, Nat.le_of_ble_eq_true rfl⟩, rfl, Nat.le_of_ble_eq_true rfl, Nat.zero_le _, Nat.zero_le _⟩ rfl dX4_firstFault_31) M (fun r_31 H locs hf M => ?_)
    try dsimp only at hf
    refine lv_if_eq (tgt := 41) hx hb dX4_firstFault_34 (by decide) (fun c_34 => ?_) (fun c_34 => ?_)
    · replace hf := hf.1 c_34
      refine lv_iload_n hx hb dX4_firstFault_41 rfl (lv_at hl 0 rfl) ?_
      rw [hQ]
      exact x_iret X M hr hlk dX4_firstFault_42 ⟨hf, rfl⟩
    · replace hf := hf.2 c_34
      refine lv_iconst (v := ((-1) : Int32)) hx hb dX4_firstFault_37 (by decide) ?_
      refine lv_goto (tgt := 42) hx hb dX4_firstFault_38 (by decide) ?_
      rw [hQ]
      exact x_iret X M hr hlk dX4_firstFault_42 ⟨hf, rfl⟩
  · intro J30 hJ30 hf
    refine xlp_w hf (fun (x3_2 : Int32) => ∀ (H : Heap) (locs : List Loc) (ls : Array Slot), xS cS 36 G ad s μ H locs → lv_has ls 4 [(3, .int x3_2), (0, .ref (ad (2 + k0))), (1, .int a1), (2, .int a2)] → W p l e (rmo 2 41) s m args below meth c H locs 0 0 Q (F0 m 2 ls [])) ?_ _ _ _ M (lv_sub hl [0, 1, 2, 3] rfl)
    intro again2 hagain2 x3_2 hf
    intro H locs ls M hl
    refine lv_iload_n hx hb dX4_firstFault_2 rfl (lv_at hl 0 rfl) ?_
    refine lv_iload_n hx hb dX4_firstFault_3 rfl (lv_at hl 3 rfl) ?_
    refine lv_icmp_ge (tgt := 30) hx hb dX4_firstFault_4 (by decide) (fun c_4 => ?_) (fun c_4 => ?_)
    · replace hf := hf.1 c_4
      exact hJ30 () hf _ _ _ M (lv_sub hl [3] rfl)
    · replace hf := hf.2 c_4
      refine lv_iload_n hx hb dX4_firstFault_7 rfl (lv_at hl 0 rfl) ?_
      refine lv_aload_n hx hb dX4_firstFault_8 rfl (lv_at hl 1 rfl) ?_
      refine x_getR (r := (6 + k0)) X M (rgc_2 hk0) fd_X4_11 rfl dX4_firstFault_9 ?_
      refine lv_iload_n hx hb dX4_firstFault_12 rfl (lv_at hl 2 rfl) ?_
      refine lv_iload_n hx hb dX4_firstFault_13 rfl (lv_at hl 0 rfl) ?_
      refine lv_iadd hx hb dX4_firstFault_14 ?_
      obtain ⟨g_15, hf⟩ := hf
      refine x_ild X M (rgc_6 hk0) g_15 dX4_firstFault_15 ?_
      refine x_ciP (x_rS (As := [.int x3_2, .int (μ (6 + k0) (a1 + x3_2).toNatClampNeg)]) (rest := []) X M (cm_X4_goesOn l G ad hI n x3_2 (μ (6 + k0) (a1 + x3_2).toNatClampNeg) μ _ hf) mc_X4_goesOn ms_X4_goesOn lk_X4_17 mn_X4_goesOn hl ⟨⟨Nat.le_of_ble_eq_true rfl, Nat.le_of_ble_eq_true rfl⟩, rfl, Nat.le_of_ble_eq_true rfl, Nat.zero_le _, Nat.zero_le _⟩ rfl dX4_firstFault_16) M (fun r_16 H locs hf M => ?_)
      try dsimp only at hf
      refine lv_if_ne (tgt := 24) hx hb dX4_firstFault_19 (by decide) (fun c_19 => ?_) (fun c_19 => ?_)
      · replace hf := hf.1 c_19
        obtain ⟨x3_24, ex3_24⟩ : ∃ y : Int32, y = x3_2 + 1 := ⟨_, rfl⟩
        replace hf := hf x3_24 ex3_24
        refine lv_iinc (v := x3_24) (lv' := [(3, .int x3_24), (0, .ref (ad (2 + k0))), (1, .int a1), (2, .int a2)]) hx hb dX4_firstFault_24 hl (k := 0) rfl (by rw [ex3_24]; rfl) (by decide) rfl (fun ls hl => ?_)
        refine lv_goto (tgt := 2) hx hb dX4_firstFault_27 (by decide) ?_
        exact hagain2 x3_24 hf _ _ _ M (lv_sub hl [0, 1, 2, 3] rfl)
      · replace hf := hf.2 c_19
        refine lv_iload_n hx hb dX4_firstFault_22 rfl (lv_at hl 0 rfl) ?_
        rw [hQ]
        exact x_iret X M hr hlk dX4_firstFault_23 ⟨hf, rfl⟩
end
section
def wp_X5_placeOf (n : Nat) (a0 : Int32) (a1 : Int32) (a2 : Int32) (μ : xM) (K : Int32 → Prop) : Prop :=
  K (((a2 * (21 : Int32)) + (a0 * (3 : Int32))) + a1)
set_option maxHeartbeats 4000000 in
set_option maxRecDepth 100000 in
theorem cm_X5_placeOf (l : Launch) (G : xG) (ad : Nat → Nat) (hI : xI 36 ad) (n : Nat) (a0 : Int32) (a1 : Int32) (a2 : Int32) (μ : xM) (K : Int32 → Prop) (hf : wp_X5_placeOf n a0 a1 a2 μ K) : Met l yX5_placeOf (Cond.code yX5_placeOf cX5_placeOf 3 (some .int) :: xw_all) (rmo 0 0) (va_Pc [.int a0, .int a1, .int a2] (xPre cS 36 G ad μ)) (xQi cS 36 G ad (fun r u => K r ∧ u = μ)) 0 0 (xR 36 ad) := by
  refine x_ent (nL := 3) (own := RX5) (by decide) rfl hI (Nat.le_of_ble_eq_true rfl) ?_
  intro p e s m args below meth c H locs ls Q X hr hlk hQ M hl
  have hx := X.1.1
  have hb := X.1.2.1
  have hown := X.1.2.2.2.1
  have hts := X.1.2.2.2.2
  have hl : lv_has ls 3 [(0, .int a0), (1, .int a1), (2, .int a2)] := hl
  unfold wp_X5_placeOf at hf
  refine lv_iload_n hx hb dX5_placeOf_0 rfl (lv_at hl 2 rfl) ?_
  refine lv_bipush (v := (21 : Int32)) hx hb dX5_placeOf_1 (by decide) ?_
  refine lv_imul hx hb dX5_placeOf_3 ?_
  refine lv_iload_n hx hb dX5_placeOf_4 rfl (lv_at hl 0 rfl) ?_
  refine lv_iconst (v := (3 : Int32)) hx hb dX5_placeOf_5 (by decide) ?_
  refine lv_imul hx hb dX5_placeOf_6 ?_
  refine lv_iadd hx hb dX5_placeOf_7 ?_
  refine lv_iload_n hx hb dX5_placeOf_8 rfl (lv_at hl 1 rfl) ?_
  refine lv_iadd hx hb dX5_placeOf_9 ?_
  rw [hQ]
  exact x_iret X M hr hlk dX5_placeOf_10 ⟨hf, rfl⟩
def wp_X5_pour (n : Nat) (a1 : Int32) (μ : xM) (K : xM → Prop) : Prop :=
  (vp_in a1 60 ∧ ((¬ (μ 12 a1.toNatClampNeg) = 0 → xlp (fun (again12 : (Int32 × xM) → Prop) => fun (s_ : Int32 × xM) => match s_ with | (x2_12, m_12) => (((m_12 10 6) ≤ x2_12 → K m_12) ∧ (¬ (m_12 10 6) ≤ x2_12 → (vp_in x2_12 7 ∧ xlp (fun (again30 : (Int32 × xM) → Prop) => fun (s_ : Int32 × xM) => match s_ with | (x4_30, m_30) => (((3 : Int32) ≤ x4_30 → (∀ x2_103 : Int32, x2_103 = x2_12 + 1 → again12 (x2_103, m_30))) ∧ (¬ (3 : Int32) ≤ x4_30 → wp_X5_placeOf n x2_12 x4_30 (a1 + (1 : Int32)) m_30 (fun r_42 : Int32 => (vp_in a1 60 ∧ (vp_in a1 60 ∧ wp_X3_washedOff n (x2_12.toNatClampNeg) x4_30 (m_30 12 a1.toNatClampNeg) (m_30 13 a1.toNatClampNeg) (m_30 (17 + x2_12.toNatClampNeg) 2) (m_30 (17 + x2_12.toNatClampNeg) 3) m_30 (fun r_70 : Int32 => (vp_in r_42 1281 ∧ (vp_in r_42 1281 ∧ (∀ r_92 : Int32, r_92 = (if (m_30 14 r_42.toNatClampNeg) < r_70 then (m_30 14 r_42.toNatClampNeg) else r_70) → (vp_in r_42 1281 ∧ (∀ m_96 : xM, m_96 = xu m_30 14 r_42.toNatClampNeg ((m_30 14 r_42.toNatClampNeg) - r_92) → (∀ x4_97 : Int32, x4_97 = x4_30 + 1 → again30 (x4_97, m_96)))))))))))))) n ((0 : Int32), m_12))))) n ((0 : Int32), μ)) ∧ ((μ 12 a1.toNatClampNeg) = 0 → K μ)))
set_option maxHeartbeats 4000000 in
set_option maxRecDepth 100000 in
theorem cm_X5_pour (l : Launch) (G : xG) (ad : Nat → Nat) (hI : xI 36 ad) (n : Nat) (a1 : Int32) (μ : xM) (K : xM → Prop) (hf : wp_X5_pour n a1 μ K) : Met l yX5_pour (Cond.code yX5_pour cX5_pour 7 none :: xw_all) (rmo 1 26) (va_Pc [.ref (ad 10), .int a1] (xPre cS 36 G ad μ)) (xQv cS 36 G ad K) 0 0 (xR 36 ad) := by
  refine x_ent (nL := 7) (own := RX5) (by decide) rfl hI (Nat.le_of_ble_eq_true rfl) ?_
  intro p e s m args below meth c H locs ls Q X hr hlk hQ M hl
  have hx := X.1.1
  have hb := X.1.2.1
  have hown := X.1.2.2.2.1
  have hts := X.1.2.2.2.2
  have hl : lv_has ls 7 [(0, .ref (ad 10)), (1, .int a1)] := hl
  unfold wp_X5_pour at hf
  refine lv_aload_n hx hb dX5_pour_0 rfl (lv_at hl 0 rfl) ?_
  refine x_getR (r := 12) X M rgc_10 fd_X5_18 rfl dX5_pour_1 ?_
  refine lv_iload_n hx hb dX5_pour_4 rfl (lv_at hl 1 rfl) ?_
  obtain ⟨g_5, hf⟩ := hf
  refine x_ild X M rgc_12 g_5 dX5_pour_5 ?_
  refine lv_if_ne (tgt := 10) hx hb dX5_pour_6 (by decide) (fun c_6 => ?_) (fun c_6 => ?_)
  · replace hf := hf.1 c_6
    refine lv_iconst (v := (0 : Int32)) hx hb dX5_pour_10 (by decide) ?_
    refine lv_istore_n (lv' := [(2, .int (0 : Int32)), (0, .ref (ad 10)), (1, .int a1)]) hx hb dX5_pour_11 rfl hl (by decide) rfl (fun ls hl => ?_)
    refine xlp_w hf (fun (s_ : Int32 × xM) => match s_ with | (x2_12, m_12) => ∀ (H : Heap) (locs : List Loc) (ls : Array Slot), xS cS 36 G ad s m_12 H locs → lv_has ls 7 [(2, .int x2_12), (0, .ref (ad 10)), (1, .int a1)] → W p l e (rmo 1 26) s m args below meth c H locs 0 0 Q (F0 m 12 ls [])) ?_ _ _ _ M (lv_sub hl [0, 1, 2] rfl)
    intro again12 hagain12 s_ hf
    obtain ⟨x2_12, m_12⟩ := s_
    try dsimp only at hf ⊢
    intro H locs ls M hl
    refine lv_iload_n hx hb dX5_pour_12 rfl (lv_at hl 0 rfl) ?_
    refine lv_aload_n hx hb dX5_pour_13 rfl (lv_at hl 1 rfl) ?_
    refine x_getI X M rgc_10 fd_X5_34 rfl dX5_pour_14 ?_
    refine lv_icmp_ge (tgt := 109) hx hb dX5_pour_17 (by decide) (fun c_17 => ?_) (fun c_17 => ?_)
    · replace hf := hf.1 c_17
      rw [hQ]
      exact x_vret X M hr hlk dX5_pour_109 hf
    · replace hf := hf.2 c_17
      refine lv_aload_n hx hb dX5_pour_20 rfl (lv_at hl 1 rfl) ?_
      refine x_getR (r := 11) X M rgc_10 fd_X5_11 rfl dX5_pour_21 ?_
      refine lv_iload_n hx hb dX5_pour_24 rfl (lv_at hl 0 rfl) ?_
      obtain ⟨g_25, hf⟩ := hf
      refine x_ald X M rgc_11 rfl g_25 dX5_pour_25 ?_
      refine lv_astore_n (lv' := [(3, .ref (ad (17 + x2_12.toNatClampNeg))), (2, .int x2_12), (0, .ref (ad 10)), (1, .int a1)]) hx hb dX5_pour_26 rfl hl (by decide) rfl (fun ls hl => ?_)
      refine lv_iconst (v := (0 : Int32)) hx hb dX5_pour_27 (by decide) ?_
      refine lv_istore (lv' := [(4, .int (0 : Int32)), (3, .ref (ad (17 + x2_12.toNatClampNeg))), (2, .int x2_12), (0, .ref (ad 10)), (1, .int a1)]) hx hb dX5_pour_28 hl (by decide) rfl (fun ls hl => ?_)
      refine xlp_w hf (fun (s_ : Int32 × xM) => match s_ with | (x4_30, m_30) => ∀ (H : Heap) (locs : List Loc) (ls : Array Slot), xS cS 36 G ad s m_30 H locs → lv_has ls 7 [(4, .int x4_30), (3, .ref (ad (17 + x2_12.toNatClampNeg))), (2, .int x2_12), (0, .ref (ad 10)), (1, .int a1)] → W p l e (rmo 1 26) s m args below meth c H locs 0 0 Q (F0 m 30 ls [])) ?_ _ _ _ M (lv_sub hl [0, 1, 2, 3, 4] rfl)
      intro again30 hagain30 s_ hf
      obtain ⟨x4_30, m_30⟩ := s_
      try dsimp only at hf ⊢
      intro H locs ls M hl
      refine lv_iload hx hb dX5_pour_30 (lv_at hl 0 rfl) ?_
      refine lv_iconst (v := (3 : Int32)) hx hb dX5_pour_32 (by decide) ?_
      refine lv_icmp_ge (tgt := 103) hx hb dX5_pour_33 (by decide) (fun c_33 => ?_) (fun c_33 => ?_)
      · replace hf := hf.1 c_33
        obtain ⟨x2_103, ex2_103⟩ : ∃ y : Int32, y = x2_12 + 1 := ⟨_, rfl⟩
        replace hf := hf x2_103 ex2_103
        refine lv_iinc (v := x2_103) (lv' := [(2, .int x2_103), (4, .int x4_30), (3, .ref (ad (17 + x2_12.toNatClampNeg))), (0, .ref (ad 10)), (1, .int a1)]) hx hb dX5_pour_103 hl (k := 2) rfl (by rw [ex2_103]; rfl) (by decide) rfl (fun ls hl => ?_)
        refine lv_goto (tgt := 12) hx hb dX5_pour_106 (by decide) ?_
        exact hagain12 (x2_103, m_30) hf _ _ _ M (lv_sub hl [0, 3, 4] rfl)
      · replace hf := hf.2 c_33
        refine lv_iload_n hx hb dX5_pour_36 rfl (lv_at hl 2 rfl) ?_
        refine lv_iload hx hb dX5_pour_37 (lv_at hl 0 rfl) ?_
        refine lv_iload_n hx hb dX5_pour_39 rfl (lv_at hl 4 rfl) ?_
        refine lv_iconst (v := (1 : Int32)) hx hb dX5_pour_40 (by decide) ?_
        refine lv_iadd hx hb dX5_pour_41 ?_
        refine x_ciP (x_rS (As := [.int x2_12, .int x4_30, .int (a1 + (1 : Int32))]) (rest := []) X M (cm_X5_placeOf l G ad hI n x2_12 x4_30 (a1 + (1 : Int32)) m_30 _ hf) mc_X5_placeOf ms_X5_placeOf lk_X5_78 mn_X5_placeOf hl ⟨⟨Nat.le_of_ble_eq_true rfl, Nat.le_of_ble_eq_true rfl⟩, rfl, Nat.le_of_ble_eq_true rfl, Nat.zero_le _, Nat.zero_le _⟩ rfl dX5_pour_42) M (fun r_42 H locs hf M => ?_)
        try dsimp only at hf
        refine lv_istore (lv' := [(5, .int r_42), (4, .int x4_30), (3, .ref (ad (17 + x2_12.toNatClampNeg))), (2, .int x2_12), (0, .ref (ad 10)), (1, .int a1)]) hx hb dX5_pour_45 hl (by decide) rfl (fun ls hl => ?_)
        refine lv_aload_n hx hb dX5_pour_47 rfl (lv_at hl 2 rfl) ?_
        refine lv_iload hx hb dX5_pour_48 (lv_at hl 1 rfl) ?_
        refine lv_aload_n hx hb dX5_pour_50 rfl (lv_at hl 4 rfl) ?_
        refine x_getR (r := 12) X M rgc_10 fd_X5_18 rfl dX5_pour_51 ?_
        refine lv_iload_n hx hb dX5_pour_54 rfl (lv_at hl 5 rfl) ?_
        obtain ⟨g_55, hf⟩ := hf
        refine x_ild X M rgc_12 g_55 dX5_pour_55 ?_
        refine lv_aload_n hx hb dX5_pour_56 rfl (lv_at hl 4 rfl) ?_
        refine x_getR (r := 13) X M rgc_10 fd_X5_22 rfl dX5_pour_57 ?_
        refine lv_iload_n hx hb dX5_pour_60 rfl (lv_at hl 5 rfl) ?_
        obtain ⟨g_61, hf⟩ := hf
        refine x_ild X M rgc_13 g_61 dX5_pour_61 ?_
        refine lv_aload_n hx hb dX5_pour_62 rfl (lv_at hl 2 rfl) ?_
        refine x_getI X M (rgc_17 (vp_lt g_25)) fd_X5_82 rfl dX5_pour_63 ?_
        refine lv_aload_n hx hb dX5_pour_66 rfl (lv_at hl 2 rfl) ?_
        refine x_getI X M (rgc_17 (vp_lt g_25)) fd_X5_85 rfl dX5_pour_67 ?_
        refine x_ciP (x_rVN (As := [.int x4_30, .int (m_30 12 a1.toNatClampNeg), .int (m_30 13 a1.toNatClampNeg), .int (m_30 (17 + x2_12.toNatClampNeg) 2), .int (m_30 (17 + x2_12.toNatClampNeg) 3)]) (rest := []) X M (cm_X3_washedOff l G ad hI n (x2_12.toNatClampNeg) (vp_lt g_25) x4_30 (m_30 12 a1.toNatClampNeg) (m_30 13 a1.toNatClampNeg) (m_30 (17 + x2_12.toNatClampNeg) 2) (m_30 (17 + x2_12.toNatClampNeg) 3) m_30 _ hf) mc_X3_washedOff mv_X3_washedOff ln_X5_88 mn_X3_washedOff (rgc_17 (vp_lt g_25)) rfl hl ⟨⟨Nat.le_of_ble_eq_true rfl, Nat.le_of_ble_eq_true rfl⟩, rfl, Nat.le_of_ble_eq_true rfl, Nat.zero_le _, Nat.zero_le _⟩ rfl dX5_pour_70) M (fun r_70 H locs hf M => ?_)
        try dsimp only at hf
        refine lv_istore (lv' := [(6, .int r_70), (5, .int r_42), (4, .int x4_30), (3, .ref (ad (17 + x2_12.toNatClampNeg))), (2, .int x2_12), (0, .ref (ad 10)), (1, .int a1)]) hx hb dX5_pour_73 hl (by decide) rfl (fun ls hl => ?_)
        refine lv_aload_n hx hb dX5_pour_75 rfl (lv_at hl 5 rfl) ?_
        refine x_getR (r := 14) X M rgc_10 fd_X5_25 rfl dX5_pour_76 ?_
        refine lv_iload hx hb dX5_pour_79 (lv_at hl 1 rfl) ?_
        refine lv_dup2_11 hx hb dX5_pour_81 rfl rfl ?_
        obtain ⟨g_82, hf⟩ := hf
        refine x_ild X M rgc_14 g_82 dX5_pour_82 ?_
        refine lv_iload hx hb dX5_pour_83 (lv_at hl 0 rfl) ?_
        refine lv_aload_n hx hb dX5_pour_85 rfl (lv_at hl 5 rfl) ?_
        refine x_getR (r := 14) X M rgc_10 fd_X5_25 rfl dX5_pour_86 ?_
        refine lv_iload hx hb dX5_pour_89 (lv_at hl 1 rfl) ?_
        obtain ⟨g_91, hf⟩ := hf
        refine x_ild X M rgc_14 g_91 dX5_pour_91 ?_
        refine x_min X hl lm_X5_59 ⟨Nat.le_of_ble_eq_true rfl, Nat.le_of_ble_eq_true rfl, Nat.zero_le _, Nat.zero_le _⟩ dX5_pour_92 ?_
        refine lv_topi (fun r_92 er_92 => ?_)
        replace hf := hf r_92 er_92
        refine lv_isub hx hb dX5_pour_95 ?_
        obtain ⟨g_96, hf⟩ := hf
        refine x_ist X M rgc_14 g_96 dX5_pour_96 (fun m_96 H locs em_96 M => ?_)
        replace hf := hf m_96 em_96
        obtain ⟨x4_97, ex4_97⟩ : ∃ y : Int32, y = x4_30 + 1 := ⟨_, rfl⟩
        replace hf := hf x4_97 ex4_97
        refine lv_iinc (v := x4_97) (lv' := [(4, .int x4_97), (6, .int r_70), (5, .int r_42), (3, .ref (ad (17 + x2_12.toNatClampNeg))), (2, .int x2_12), (0, .ref (ad 10)), (1, .int a1)]) hx hb dX5_pour_97 hl (k := 2) rfl (by rw [ex4_97]; rfl) (by decide) rfl (fun ls hl => ?_)
        refine lv_goto (tgt := 30) hx hb dX5_pour_100 (by decide) ?_
        exact hagain30 (x4_97, m_96) hf _ _ _ M (lv_sub hl [0, 3, 4, 5, 6] rfl)
  · replace hf := hf.2 c_6
    rw [hQ]
    exact x_vret X M hr hlk dX5_pour_9 hf
def wp_X5_likedBest (n : Nat) (a1 : Int32) (μ : xM) (K : Int32 → Prop) : Prop :=
  xlp (fun (again8 : (Int32 × Int32 × Int32) → Prop) => fun (s_ : Int32 × Int32 × Int32) => match s_ with | (x4_8, x3_8, x2_8) => (((μ 10 6) ≤ x4_8 → K x2_8) ∧ (¬ (μ 10 6) ≤ x4_8 → wp_X5_placeOf n x4_8 (2 : Int32) a1 μ (fun r_25 : Int32 => (vp_in r_25 1281 ∧ (∀ x5_29 : Int32, x5_29 = μ 14 r_25.toNatClampNeg → ((x5_29 ≤ x3_8 → (∀ x4_58 : Int32, x4_58 = x4_8 + 1 → again8 (x4_58, x3_8, x2_8))) ∧ (¬ x5_29 ≤ x3_8 → (vp_in x4_8 7 ∧ wp_X3_lickable n (x4_8.toNatClampNeg) x5_29 μ (fun r_46 : Int32 => ((r_46 = 0 → (∀ x4_58 : Int32, x4_58 = x4_8 + 1 → again8 (x4_58, x3_8, x2_8))) ∧ (¬ r_46 = 0 → (∀ x4_58 : Int32, x4_58 = x4_8 + 1 → again8 (x4_58, x5_29, x4_8)))))))))))))) n ((0 : Int32), (0 : Int32), ((-9) : Int32))
set_option maxHeartbeats 4000000 in
set_option maxRecDepth 100000 in
theorem cm_X5_likedBest (l : Launch) (G : xG) (ad : Nat → Nat) (hI : xI 36 ad) (n : Nat) (a1 : Int32) (μ : xM) (K : Int32 → Prop) (hf : wp_X5_likedBest n a1 μ K) : Met l yX5_likedBest (Cond.code yX5_likedBest cX5_likedBest 6 (some .int) :: xw_all) (rmo 1 22) (va_Pc [.ref (ad 10), .int a1] (xPre cS 36 G ad μ)) (xQi cS 36 G ad (fun r u => K r ∧ u = μ)) 0 0 (xR 36 ad) := by
  refine x_ent (nL := 6) (own := RX5) (by decide) rfl hI (Nat.le_of_ble_eq_true rfl) ?_
  intro p e s m args below meth c H locs ls Q X hr hlk hQ M hl
  have hx := X.1.1
  have hb := X.1.2.1
  have hown := X.1.2.2.2.1
  have hts := X.1.2.2.2.2
  have hl : lv_has ls 6 [(0, .ref (ad 10)), (1, .int a1)] := hl
  unfold wp_X5_likedBest at hf
  refine lv_bipush (v := ((-9) : Int32)) hx hb dX5_likedBest_0 (by decide) ?_
  refine lv_istore_n (lv' := [(2, .int ((-9) : Int32)), (0, .ref (ad 10)), (1, .int a1)]) hx hb dX5_likedBest_2 rfl hl (by decide) rfl (fun ls hl => ?_)
  refine lv_iconst (v := (0 : Int32)) hx hb dX5_likedBest_3 (by decide) ?_
  refine lv_istore_n (lv' := [(3, .int (0 : Int32)), (2, .int ((-9) : Int32)), (0, .ref (ad 10)), (1, .int a1)]) hx hb dX5_likedBest_4 rfl hl (by decide) rfl (fun ls hl => ?_)
  refine lv_iconst (v := (0 : Int32)) hx hb dX5_likedBest_5 (by decide) ?_
  refine lv_istore (lv' := [(4, .int (0 : Int32)), (3, .int (0 : Int32)), (2, .int ((-9) : Int32)), (0, .ref (ad 10)), (1, .int a1)]) hx hb dX5_likedBest_6 hl (by decide) rfl (fun ls hl => ?_)
  refine xlp_w hf (fun (s_ : Int32 × Int32 × Int32) => match s_ with | (x4_8, x3_8, x2_8) => ∀ (H : Heap) (locs : List Loc) (ls : Array Slot), xS cS 36 G ad s μ H locs → lv_has ls 6 [(4, .int x4_8), (3, .int x3_8), (2, .int x2_8), (0, .ref (ad 10)), (1, .int a1)] → W p l e (rmo 1 22) s m args below meth c H locs 0 0 Q (F0 m 8 ls [])) ?_ _ _ _ M (lv_sub hl [0, 1, 2, 3, 4] rfl)
  intro again8 hagain8 s_ hf
  obtain ⟨x4_8, x3_8, x2_8⟩ := s_
  try dsimp only at hf ⊢
  intro H locs ls M hl
  refine lv_iload hx hb dX5_likedBest_8 (lv_at hl 0 rfl) ?_
  refine lv_aload_n hx hb dX5_likedBest_10 rfl (lv_at hl 3 rfl) ?_
  refine x_getI X M rgc_10 fd_X5_34 rfl dX5_likedBest_11 ?_
  refine lv_icmp_ge (tgt := 64) hx hb dX5_likedBest_14 (by decide) (fun c_14 => ?_) (fun c_14 => ?_)
  · replace hf := hf.1 c_14
    refine lv_iload_n hx hb dX5_likedBest_64 rfl (lv_at hl 2 rfl) ?_
    rw [hQ]
    exact x_iret X M hr hlk dX5_likedBest_65 ⟨hf, rfl⟩
  · replace hf := hf.2 c_14
    refine lv_aload_n hx hb dX5_likedBest_17 rfl (lv_at hl 3 rfl) ?_
    refine x_getR (r := 14) X M rgc_10 fd_X5_25 rfl dX5_likedBest_18 ?_
    refine lv_iload hx hb dX5_likedBest_21 (lv_at hl 0 rfl) ?_
    refine lv_iconst (v := (2 : Int32)) hx hb dX5_likedBest_23 (by decide) ?_
    refine lv_iload_n hx hb dX5_likedBest_24 rfl (lv_at hl 4 rfl) ?_
    refine x_ciP (x_rS (As := [.int x4_8, .int (2 : Int32), .int a1]) (rest := [.ref (ad 14)]) X M (cm_X5_placeOf l G ad hI n x4_8 (2 : Int32) a1 μ _ hf) mc_X5_placeOf ms_X5_placeOf lk_X5_78 mn_X5_placeOf hl ⟨⟨Nat.le_of_ble_eq_true rfl, Nat.le_of_ble_eq_true rfl⟩, rfl, Nat.le_of_ble_eq_true rfl, Nat.zero_le _, Nat.zero_le _⟩ rfl dX5_likedBest_25) M (fun r_25 H locs hf M => ?_)
    try dsimp only at hf
    obtain ⟨g_28, hf⟩ := hf
    refine x_ild X M rgc_14 g_28 dX5_likedBest_28 ?_
    refine lv_topi (fun x5_29 ex5_29 => ?_)
    replace hf := hf x5_29 ex5_29
    refine lv_istore (lv' := [(5, .int x5_29), (4, .int x4_8), (3, .int x3_8), (2, .int x2_8), (0, .ref (ad 10)), (1, .int a1)]) hx hb dX5_likedBest_29 hl (by decide) rfl (fun ls hl => ?_)
    refine lv_iload hx hb dX5_likedBest_31 (lv_at hl 0 rfl) ?_
    refine lv_iload_n hx hb dX5_likedBest_33 rfl (lv_at hl 2 rfl) ?_
    refine lv_icmp_le (tgt := 58) hx hb dX5_likedBest_34 (by decide) (fun c_34 => ?_) (fun c_34 => ?_)
    · replace hf := hf.1 c_34
      obtain ⟨x4_58, ex4_58⟩ : ∃ y : Int32, y = x4_8 + 1 := ⟨_, rfl⟩
      replace hf := hf x4_58 ex4_58
      refine lv_iinc (v := x4_58) (lv' := [(4, .int x4_58), (5, .int x5_29), (3, .int x3_8), (2, .int x2_8), (0, .ref (ad 10)), (1, .int a1)]) hx hb dX5_likedBest_58 hl (k := 1) rfl (by rw [ex4_58]; rfl) (by decide) rfl (fun ls hl => ?_)
      refine lv_goto (tgt := 8) hx hb dX5_likedBest_61 (by decide) ?_
      exact hagain8 (x4_58, x3_8, x2_8) hf _ _ _ M (lv_sub hl [0, 2, 3, 4, 5] rfl)
    · replace hf := hf.2 c_34
      refine lv_aload_n hx hb dX5_likedBest_37 rfl (lv_at hl 4 rfl) ?_
      refine x_getR (r := 11) X M rgc_10 fd_X5_11 rfl dX5_likedBest_38 ?_
      refine lv_iload hx hb dX5_likedBest_41 (lv_at hl 1 rfl) ?_
      obtain ⟨g_43, hf⟩ := hf
      refine x_ald X M rgc_11 rfl g_43 dX5_likedBest_43 ?_
      refine lv_iload hx hb dX5_likedBest_44 (lv_at hl 0 rfl) ?_
      refine x_ciP (x_rVN (As := [.int x5_29]) (rest := []) X M (cm_X3_lickable l G ad hI n (x4_8.toNatClampNeg) (vp_lt g_43) x5_29 μ _ hf) mc_X3_lickable mv_X3_lickable ln_X5_96 mn_X3_lickable (rgc_17 (vp_lt g_43)) rfl hl ⟨⟨Nat.le_of_ble_eq_true rfl, Nat.le_of_ble_eq_true rfl⟩, rfl, Nat.le_of_ble_eq_true rfl, Nat.zero_le _, Nat.zero_le _⟩ rfl dX5_likedBest_46) M (fun r_46 H locs hf M => ?_)
      try dsimp only at hf
      refine lv_if_eq (tgt := 58) hx hb dX5_likedBest_49 (by decide) (fun c_49 => ?_) (fun c_49 => ?_)
      · replace hf := hf.1 c_49
        obtain ⟨x4_58, ex4_58⟩ : ∃ y : Int32, y = x4_8 + 1 := ⟨_, rfl⟩
        replace hf := hf x4_58 ex4_58
        refine lv_iinc (v := x4_58) (lv' := [(4, .int x4_58), (5, .int x5_29), (3, .int x3_8), (2, .int x2_8), (0, .ref (ad 10)), (1, .int a1)]) hx hb dX5_likedBest_58 hl (k := 1) rfl (by rw [ex4_58]; rfl) (by decide) rfl (fun ls hl => ?_)
        refine lv_goto (tgt := 8) hx hb dX5_likedBest_61 (by decide) ?_
        exact hagain8 (x4_58, x3_8, x2_8) hf _ _ _ M (lv_sub hl [0, 2, 3, 4, 5] rfl)
      · replace hf := hf.2 c_49
        refine lv_iload hx hb dX5_likedBest_52 (lv_at hl 1 rfl) ?_
        refine lv_istore_n (lv' := [(2, .int x4_8), (5, .int x5_29), (4, .int x4_8), (3, .int x3_8), (0, .ref (ad 10)), (1, .int a1)]) hx hb dX5_likedBest_54 rfl hl (by decide) rfl (fun ls hl => ?_)
        refine lv_iload hx hb dX5_likedBest_55 (lv_at hl 1 rfl) ?_
        refine lv_istore_n (lv' := [(3, .int x5_29), (2, .int x4_8), (5, .int x5_29), (4, .int x4_8), (0, .ref (ad 10)), (1, .int a1)]) hx hb dX5_likedBest_57 rfl hl (by decide) rfl (fun ls hl => ?_)
        obtain ⟨x4_58, ex4_58⟩ : ∃ y : Int32, y = x4_8 + 1 := ⟨_, rfl⟩
        replace hf := hf x4_58 ex4_58
        refine lv_iinc (v := x4_58) (lv' := [(4, .int x4_58), (3, .int x5_29), (2, .int x4_8), (5, .int x5_29), (0, .ref (ad 10)), (1, .int a1)]) hx hb dX5_likedBest_58 hl (k := 3) rfl (by rw [ex4_58]; rfl) (by decide) rfl (fun ls hl => ?_)
        refine lv_goto (tgt := 8) hx hb dX5_likedBest_61 (by decide) ?_
        exact hagain8 (x4_58, x5_29, x4_8) hf _ _ _ M (lv_sub hl [0, 1, 2, 4, 5] rfl)
def wp_X5_graze (n : Nat) (a1 : Int32) (μ : xM) (K : xM → Prop) : Prop :=
  (vp_in a1 60 ∧ (∀ m_7 : xM, m_7 = xu μ 16 a1.toNatClampNeg ((-9) : Int32) → xlp (fun (again10 : (Int32 × xM) → Prop) => fun (s_ : Int32 × xM) => match s_ with | (x2_10, m_10) => (((m_10 10 7) ≤ x2_10 → K m_10) ∧ (¬ (m_10 10 7) ≤ x2_10 → wp_X5_likedBest n (a1 + (1 : Int32)) m_10 (fun r_22 : Int32 => xjn (fun (m_37 : xM) => ((¬ r_22 = ((-9) : Int32) → wp_X5_placeOf n r_22 (2 : Int32) (a1 + (1 : Int32)) m_37 (fun r_49 : Int32 => (vp_in r_49 1281 ∧ (∀ r_62 : Int32, r_62 = (if (m_37 14 r_49.toNatClampNeg) < (2 : Int32) then (m_37 14 r_49.toNatClampNeg) else (2 : Int32)) → (vp_in r_49 1281 ∧ (vp_in r_49 1281 ∧ (∀ m_78 : xM, m_78 = xu m_37 14 r_49.toNatClampNeg ((m_37 14 r_49.toNatClampNeg) - r_62) → (vp_in (((a1 + (1 : Int32)) * (7 : Int32)) + r_22) 427 ∧ (vp_in (((a1 + (1 : Int32)) * (7 : Int32)) + r_22) 427 ∧ (∀ m_96 : xM, m_96 = xu m_78 15 (((a1 + (1 : Int32)) * (7 : Int32)) + r_22).toNatClampNeg ((m_78 15 (((a1 + (1 : Int32)) * (7 : Int32)) + r_22).toNatClampNeg) + r_62) → (∀ x2_97 : Int32, x2_97 = x2_10 + 1 → again10 (x2_97, m_96)))))))))))) ∧ (r_22 = ((-9) : Int32) → K m_37))) (fun J37 : xM → Prop => ((¬ x2_10 = 0 → J37 m_10) ∧ (x2_10 = 0 → (vp_in a1 60 ∧ (∀ m_36 : xM, m_36 = xu m_10 16 a1.toNatClampNeg r_22 → J37 m_36))))))))) n ((0 : Int32), m_7)))
set_option maxHeartbeats 4000000 in
set_option maxRecDepth 100000 in
theorem cm_X5_graze (l : Launch) (G : xG) (ad : Nat → Nat) (hI : xI 36 ad) (n : Nat) (a1 : Int32) (μ : xM) (K : xM → Prop) (hf : wp_X5_graze n a1 μ K) : Met l yX5_graze (Cond.code yX5_graze cX5_graze 6 none :: xw_all) (rmo 2 47) (va_Pc [.ref (ad 10), .int a1] (xPre cS 36 G ad μ)) (xQv cS 36 G ad K) 0 0 (xR 36 ad) := by
  refine x_ent (nL := 6) (own := RX5) (by decide) rfl hI (Nat.le_of_ble_eq_true rfl) ?_
  intro p e s m args below meth c H locs ls Q X hr hlk hQ M hl
  have hx := X.1.1
  have hb := X.1.2.1
  have hown := X.1.2.2.2.1
  have hts := X.1.2.2.2.2
  have hl : lv_has ls 6 [(0, .ref (ad 10)), (1, .int a1)] := hl
  unfold wp_X5_graze at hf
  refine lv_aload_n hx hb dX5_graze_0 rfl (lv_at hl 0 rfl) ?_
  refine x_getR (r := 16) X M rgc_10 fd_X5_31 rfl dX5_graze_1 ?_
  refine lv_iload_n hx hb dX5_graze_4 rfl (lv_at hl 1 rfl) ?_
  refine lv_bipush (v := ((-9) : Int32)) hx hb dX5_graze_5 (by decide) ?_
  obtain ⟨g_7, hf⟩ := hf
  refine x_ist X M rgc_16 g_7 dX5_graze_7 (fun m_7 H locs em_7 M => ?_)
  replace hf := hf m_7 em_7
  refine lv_iconst (v := (0 : Int32)) hx hb dX5_graze_8 (by decide) ?_
  refine lv_istore_n (lv' := [(2, .int (0 : Int32)), (0, .ref (ad 10)), (1, .int a1)]) hx hb dX5_graze_9 rfl hl (by decide) rfl (fun ls hl => ?_)
  refine xlp_w hf (fun (s_ : Int32 × xM) => match s_ with | (x2_10, m_10) => ∀ (H : Heap) (locs : List Loc) (ls : Array Slot), xS cS 36 G ad s m_10 H locs → lv_has ls 6 [(2, .int x2_10), (0, .ref (ad 10)), (1, .int a1)] → W p l e (rmo 2 47) s m args below meth c H locs 0 0 Q (F0 m 10 ls [])) ?_ _ _ _ M (lv_sub hl [0, 1, 2] rfl)
  intro again10 hagain10 s_ hf
  obtain ⟨x2_10, m_10⟩ := s_
  try dsimp only at hf ⊢
  intro H locs ls M hl
  refine lv_iload_n hx hb dX5_graze_10 rfl (lv_at hl 0 rfl) ?_
  refine lv_aload_n hx hb dX5_graze_11 rfl (lv_at hl 1 rfl) ?_
  refine x_getI X M rgc_10 fd_X5_38 rfl dX5_graze_12 ?_
  refine lv_icmp_ge (tgt := 103) hx hb dX5_graze_15 (by decide) (fun c_15 => ?_) (fun c_15 => ?_)
  · replace hf := hf.1 c_15
    rw [hQ]
    exact x_vret X M hr hlk dX5_graze_103 hf
  · replace hf := hf.2 c_15
    refine lv_aload_n hx hb dX5_graze_18 rfl (lv_at hl 1 rfl) ?_
    refine lv_iload_n hx hb dX5_graze_19 rfl (lv_at hl 2 rfl) ?_
    refine lv_iconst (v := (1 : Int32)) hx hb dX5_graze_20 (by decide) ?_
    refine lv_iadd hx hb dX5_graze_21 ?_
    refine x_ciP (x_rV (As := [.int (a1 + (1 : Int32))]) (rest := []) X M (cm_X5_likedBest l G ad hI n (a1 + (1 : Int32)) m_10 _ hf) mc_X5_likedBest mv_X5_likedBest lk_X5_92 mn_X5_likedBest rgc_10 rfl hl ⟨⟨Nat.le_of_ble_eq_true rfl, Nat.le_of_ble_eq_true rfl⟩, rfl, Nat.le_of_ble_eq_true rfl, Nat.zero_le _, Nat.zero_le _⟩ rfl dX5_graze_22) M (fun r_22 H locs hf M => ?_)
    try dsimp only at hf
    refine lv_istore_n (lv' := [(3, .int r_22), (2, .int x2_10), (0, .ref (ad 10)), (1, .int a1)]) hx hb dX5_graze_25 rfl hl (by decide) rfl (fun ls hl => ?_)
    refine lv_iload_n hx hb dX5_graze_26 rfl (lv_at hl 1 rfl) ?_
    refine xjn_w hf (fun (m_37 : xM) => ∀ (H : Heap) (locs : List Loc) (ls : Array Slot), xS cS 36 G ad s m_37 H locs → lv_has ls 6 [(3, .int r_22), (2, .int x2_10), (0, .ref (ad 10)), (1, .int a1)] → W p l e (rmo 2 47) s m args below meth c H locs 0 0 Q (F0 m 37 ls [])) ?_ ?_
    · intro m_37 hf
      intro H locs ls M hl
      refine lv_iload_n hx hb dX5_graze_37 rfl (lv_at hl 0 rfl) ?_
      refine lv_bipush (v := ((-9) : Int32)) hx hb dX5_graze_38 (by decide) ?_
      refine lv_icmp_ne (tgt := 44) hx hb dX5_graze_40 (by decide) (fun c_40 => ?_) (fun c_40 => ?_)
      · replace hf := hf.1 c_40
        refine lv_iload_n hx hb dX5_graze_44 rfl (lv_at hl 0 rfl) ?_
        refine lv_iconst (v := (2 : Int32)) hx hb dX5_graze_45 (by decide) ?_
        refine lv_iload_n hx hb dX5_graze_46 rfl (lv_at hl 3 rfl) ?_
        refine lv_iconst (v := (1 : Int32)) hx hb dX5_graze_47 (by decide) ?_
        refine lv_iadd hx hb dX5_graze_48 ?_
        refine x_ciP (x_rS (As := [.int r_22, .int (2 : Int32), .int (a1 + (1 : Int32))]) (rest := []) X M (cm_X5_placeOf l G ad hI n r_22 (2 : Int32) (a1 + (1 : Int32)) m_37 _ hf) mc_X5_placeOf ms_X5_placeOf lk_X5_78 mn_X5_placeOf hl ⟨⟨Nat.le_of_ble_eq_true rfl, Nat.le_of_ble_eq_true rfl⟩, rfl, Nat.le_of_ble_eq_true rfl, Nat.zero_le _, Nat.zero_le _⟩ rfl dX5_graze_49) M (fun r_49 H locs hf M => ?_)
        try dsimp only at hf
        refine lv_istore (lv' := [(4, .int r_49), (3, .int r_22), (2, .int x2_10), (0, .ref (ad 10)), (1, .int a1)]) hx hb dX5_graze_52 hl (by decide) rfl (fun ls hl => ?_)
        refine lv_iconst (v := (2 : Int32)) hx hb dX5_graze_54 (by decide) ?_
        refine lv_aload_n hx hb dX5_graze_55 rfl (lv_at hl 3 rfl) ?_
        refine x_getR (r := 14) X M rgc_10 fd_X5_25 rfl dX5_graze_56 ?_
        refine lv_iload hx hb dX5_graze_59 (lv_at hl 0 rfl) ?_
        obtain ⟨g_61, hf⟩ := hf
        refine x_ild X M rgc_14 g_61 dX5_graze_61 ?_
        refine x_min X hl lm_X5_59 ⟨Nat.le_of_ble_eq_true rfl, Nat.le_of_ble_eq_true rfl, Nat.zero_le _, Nat.zero_le _⟩ dX5_graze_62 ?_
        refine lv_topi (fun r_62 er_62 => ?_)
        replace hf := hf r_62 er_62
        refine lv_istore (lv' := [(5, .int r_62), (4, .int r_49), (3, .int r_22), (2, .int x2_10), (0, .ref (ad 10)), (1, .int a1)]) hx hb dX5_graze_65 hl (by decide) rfl (fun ls hl => ?_)
        refine lv_aload_n hx hb dX5_graze_67 rfl (lv_at hl 4 rfl) ?_
        refine x_getR (r := 14) X M rgc_10 fd_X5_25 rfl dX5_graze_68 ?_
        refine lv_iload hx hb dX5_graze_71 (lv_at hl 1 rfl) ?_
        refine lv_dup2_11 hx hb dX5_graze_73 rfl rfl ?_
        obtain ⟨g_74, hf⟩ := hf
        refine x_ild X M rgc_14 g_74 dX5_graze_74 ?_
        refine lv_iload hx hb dX5_graze_75 (lv_at hl 0 rfl) ?_
        refine lv_isub hx hb dX5_graze_77 ?_
        obtain ⟨g_78, hf⟩ := hf
        refine x_ist X M rgc_14 g_78 dX5_graze_78 (fun m_78 H locs em_78 M => ?_)
        replace hf := hf m_78 em_78
        refine lv_aload_n hx hb dX5_graze_79 rfl (lv_at hl 4 rfl) ?_
        refine x_getR (r := 15) X M rgc_10 fd_X5_28 rfl dX5_graze_80 ?_
        refine lv_iload_n hx hb dX5_graze_83 rfl (lv_at hl 5 rfl) ?_
        refine lv_iconst (v := (1 : Int32)) hx hb dX5_graze_84 (by decide) ?_
        refine lv_iadd hx hb dX5_graze_85 ?_
        refine lv_bipush (v := (7 : Int32)) hx hb dX5_graze_86 (by decide) ?_
        refine lv_imul hx hb dX5_graze_88 ?_
        refine lv_iload_n hx hb dX5_graze_89 rfl (lv_at hl 2 rfl) ?_
        refine lv_iadd hx hb dX5_graze_90 ?_
        refine lv_dup2_11 hx hb dX5_graze_91 rfl rfl ?_
        obtain ⟨g_92, hf⟩ := hf
        refine x_ild X M rgc_15 g_92 dX5_graze_92 ?_
        refine lv_iload hx hb dX5_graze_93 (lv_at hl 0 rfl) ?_
        refine lv_iadd hx hb dX5_graze_95 ?_
        obtain ⟨g_96, hf⟩ := hf
        refine x_ist X M rgc_15 g_96 dX5_graze_96 (fun m_96 H locs em_96 M => ?_)
        replace hf := hf m_96 em_96
        obtain ⟨x2_97, ex2_97⟩ : ∃ y : Int32, y = x2_10 + 1 := ⟨_, rfl⟩
        replace hf := hf x2_97 ex2_97
        refine lv_iinc (v := x2_97) (lv' := [(2, .int x2_97), (5, .int r_62), (4, .int r_49), (3, .int r_22), (0, .ref (ad 10)), (1, .int a1)]) hx hb dX5_graze_97 hl (k := 3) rfl (by rw [ex2_97]; rfl) (by decide) rfl (fun ls hl => ?_)
        refine lv_goto (tgt := 10) hx hb dX5_graze_100 (by decide) ?_
        exact hagain10 (x2_97, m_96) hf _ _ _ M (lv_sub hl [0, 4, 5] rfl)
      · replace hf := hf.2 c_40
        rw [hQ]
        exact x_vret X M hr hlk dX5_graze_43 hf
    · intro J37 hJ37 hf
      refine lv_if_ne (tgt := 37) hx hb dX5_graze_27 (by decide) (fun c_27 => ?_) (fun c_27 => ?_)
      · replace hf := hf.1 c_27
        exact hJ37 m_10 hf _ _ _ M (lv_sub hl [0, 1, 2, 3] rfl)
      · replace hf := hf.2 c_27
        refine lv_aload_n hx hb dX5_graze_30 rfl (lv_at hl 2 rfl) ?_
        refine x_getR (r := 16) X M rgc_10 fd_X5_31 rfl dX5_graze_31 ?_
        refine lv_iload_n hx hb dX5_graze_34 rfl (lv_at hl 3 rfl) ?_
        refine lv_iload_n hx hb dX5_graze_35 rfl (lv_at hl 0 rfl) ?_
        obtain ⟨g_36, hf⟩ := hf
        refine x_ist X M rgc_16 g_36 dX5_graze_36 (fun m_36 H locs em_36 M => ?_)
        replace hf := hf m_36 em_36
        exact hJ37 m_36 hf _ _ _ M (lv_sub hl [0, 1, 2, 3] rfl)
def wp_X5_workOut (n : Nat) (a1 : Int32) (μ : xM) (K : xM → Prop) : Prop :=
  (∀ x2_4 : Int32, x2_4 = μ 10 8 → xjn (fun (m_72 : xM) => (∀ r_78 : Int32, r_78 = (if (m_72 10 8) < a1 then a1 else (m_72 10 8)) → (∀ m_81 : xM, m_81 = xu m_72 10 8 r_78 → K m_81))) (fun J72 : xM → Prop => xlp (fun (again5 : (Int32 × xM) → Prop) => fun (s_ : Int32 × xM) => match s_ with | (x2_5, m_5) => ((a1 ≤ x2_5 → J72 m_5) ∧ (¬ a1 ≤ x2_5 → ((¬ (x2_5 * (21 : Int32)) < 0 ∧ ¬ ((x2_5 + (1 : Int32)) * (21 : Int32)) < 0 ∧ ¬ (21 : Int32) < 0 ∧ (x2_5 * (21 : Int32)).toNatClampNeg + (21 : Int32).toNatClampNeg ≤ 1281 ∧ ((x2_5 + (1 : Int32)) * (21 : Int32)).toNatClampNeg + (21 : Int32).toNatClampNeg ≤ 1281) ∧ (∀ m_30 : xM, m_30 = xcp m_5 14 14 (x2_5 * (21 : Int32)).toNatClampNeg ((x2_5 + (1 : Int32)) * (21 : Int32)).toNatClampNeg (21 : Int32).toNatClampNeg → ((¬ (x2_5 * (7 : Int32)) < 0 ∧ ¬ ((x2_5 + (1 : Int32)) * (7 : Int32)) < 0 ∧ ¬ (7 : Int32) < 0 ∧ (x2_5 * (7 : Int32)).toNatClampNeg + (7 : Int32).toNatClampNeg ≤ 427 ∧ ((x2_5 + (1 : Int32)) * (7 : Int32)).toNatClampNeg + (7 : Int32).toNatClampNeg ≤ 427) ∧ (∀ m_53 : xM, m_53 = xcp m_30 15 15 (x2_5 * (7 : Int32)).toNatClampNeg ((x2_5 + (1 : Int32)) * (7 : Int32)).toNatClampNeg (7 : Int32).toNatClampNeg → wp_X5_pour n x2_5 m_53 (fun m_58 : xM => wp_X5_graze n x2_5 m_58 (fun m_63 : xM => (∀ x2_66 : Int32, x2_66 = x2_5 + 1 → again5 (x2_66, m_63))))))))))) n (x2_4, μ)))
set_option maxHeartbeats 4000000 in
set_option maxRecDepth 100000 in
theorem cm_X5_workOut (l : Launch) (G : xG) (ad : Nat → Nat) (hI : xI 36 ad) (n : Nat) (a1 : Int32) (μ : xM) (K : xM → Prop) (hf : wp_X5_workOut n a1 μ K) : Met l yX5_workOut (Cond.code yX5_workOut cX5_workOut 3 none :: xw_all) (rmo 3 72) (va_Pc [.ref (ad 10), .int a1] (xPre cS 36 G ad μ)) (xQv cS 36 G ad K) 0 0 (xR 36 ad) := by
  refine x_ent (nL := 3) (own := RX5) (by decide) rfl hI (Nat.le_of_ble_eq_true rfl) ?_
  intro p e s m args below meth c H locs ls Q X hr hlk hQ M hl
  have hx := X.1.1
  have hb := X.1.2.1
  have hown := X.1.2.2.2.1
  have hts := X.1.2.2.2.2
  have hl : lv_has ls 3 [(0, .ref (ad 10)), (1, .int a1)] := hl
  unfold wp_X5_workOut at hf
  refine lv_aload_n hx hb dX5_workOut_0 rfl (lv_at hl 0 rfl) ?_
  refine x_getI X M rgc_10 fd_X5_41 rfl dX5_workOut_1 ?_
  refine lv_topi (fun x2_4 ex2_4 => ?_)
  replace hf := hf x2_4 ex2_4
  refine lv_istore_n (lv' := [(2, .int x2_4), (0, .ref (ad 10)), (1, .int a1)]) hx hb dX5_workOut_4 rfl hl (by decide) rfl (fun ls hl => ?_)
  refine xjn_w hf (fun (m_72 : xM) => ∀ (H : Heap) (locs : List Loc) (ls : Array Slot), xS cS 36 G ad s m_72 H locs → lv_has ls 3 [(0, .ref (ad 10)), (1, .int a1)] → W p l e (rmo 3 72) s m args below meth c H locs 0 0 Q (F0 m 72 ls [])) ?_ ?_
  · intro m_72 hf
    intro H locs ls M hl
    refine lv_aload_n hx hb dX5_workOut_72 rfl (lv_at hl 0 rfl) ?_
    refine lv_aload_n hx hb dX5_workOut_73 rfl (lv_at hl 0 rfl) ?_
    refine x_getI X M rgc_10 fd_X5_41 rfl dX5_workOut_74 ?_
    refine lv_iload_n hx hb dX5_workOut_77 rfl (lv_at hl 1 rfl) ?_
    refine x_max X hl lm_X5_75 ⟨Nat.le_of_ble_eq_true rfl, Nat.le_of_ble_eq_true rfl, Nat.zero_le _, Nat.zero_le _⟩ dX5_workOut_78 ?_
    refine lv_topi (fun r_78 er_78 => ?_)
    replace hf := hf r_78 er_78
    refine x_putI X M rgc_10 fp_X5_41 rfl dX5_workOut_81 (fun m_81 H locs em_81 M => ?_)
    replace hf := hf m_81 em_81
    rw [hQ]
    exact x_vret X M hr hlk dX5_workOut_84 hf
  · intro J72 hJ72 hf
    refine xlp_w hf (fun (s_ : Int32 × xM) => match s_ with | (x2_5, m_5) => ∀ (H : Heap) (locs : List Loc) (ls : Array Slot), xS cS 36 G ad s m_5 H locs → lv_has ls 3 [(2, .int x2_5), (0, .ref (ad 10)), (1, .int a1)] → W p l e (rmo 3 72) s m args below meth c H locs 0 0 Q (F0 m 5 ls [])) ?_ _ _ _ M (lv_sub hl [0, 1, 2] rfl)
    intro again5 hagain5 s_ hf
    obtain ⟨x2_5, m_5⟩ := s_
    try dsimp only at hf ⊢
    intro H locs ls M hl
    refine lv_iload_n hx hb dX5_workOut_5 rfl (lv_at hl 0 rfl) ?_
    refine lv_iload_n hx hb dX5_workOut_6 rfl (lv_at hl 2 rfl) ?_
    refine lv_icmp_ge (tgt := 72) hx hb dX5_workOut_7 (by decide) (fun c_7 => ?_) (fun c_7 => ?_)
    · replace hf := hf.1 c_7
      exact hJ72 m_5 hf _ _ _ M (lv_sub hl [1, 2] rfl)
    · replace hf := hf.2 c_7
      refine lv_aload_n hx hb dX5_workOut_10 rfl (lv_at hl 1 rfl) ?_
      refine x_getR (r := 14) X M rgc_10 fd_X5_25 rfl dX5_workOut_11 ?_
      refine lv_iload_n hx hb dX5_workOut_14 rfl (lv_at hl 0 rfl) ?_
      refine lv_bipush (v := (21 : Int32)) hx hb dX5_workOut_15 (by decide) ?_
      refine lv_imul hx hb dX5_workOut_17 ?_
      refine lv_aload_n hx hb dX5_workOut_18 rfl (lv_at hl 1 rfl) ?_
      refine x_getR (r := 14) X M rgc_10 fd_X5_25 rfl dX5_workOut_19 ?_
      refine lv_iload_n hx hb dX5_workOut_22 rfl (lv_at hl 0 rfl) ?_
      refine lv_iconst (v := (1 : Int32)) hx hb dX5_workOut_23 (by decide) ?_
      refine lv_iadd hx hb dX5_workOut_24 ?_
      refine lv_bipush (v := (21 : Int32)) hx hb dX5_workOut_25 (by decide) ?_
      refine lv_imul hx hb dX5_workOut_27 ?_
      refine lv_bipush (v := (21 : Int32)) hx hb dX5_workOut_28 (by decide) ?_
      obtain ⟨g_30, hf⟩ := hf
      refine x_cpy X M hl lk_X5_53 cy_ok rgc_14 rgc_14 g_30.1 g_30.2.1 g_30.2.2.1 g_30.2.2.2.1 g_30.2.2.2.2 (Nat.le_of_ble_eq_true rfl) (Nat.le_of_ble_eq_true rfl) dX5_workOut_30 (fun m_30 H locs em_30 M => ?_)
      replace hf := hf m_30 em_30
      refine lv_aload_n hx hb dX5_workOut_33 rfl (lv_at hl 1 rfl) ?_
      refine x_getR (r := 15) X M rgc_10 fd_X5_28 rfl dX5_workOut_34 ?_
      refine lv_iload_n hx hb dX5_workOut_37 rfl (lv_at hl 0 rfl) ?_
      refine lv_bipush (v := (7 : Int32)) hx hb dX5_workOut_38 (by decide) ?_
      refine lv_imul hx hb dX5_workOut_40 ?_
      refine lv_aload_n hx hb dX5_workOut_41 rfl (lv_at hl 1 rfl) ?_
      refine x_getR (r := 15) X M rgc_10 fd_X5_28 rfl dX5_workOut_42 ?_
      refine lv_iload_n hx hb dX5_workOut_45 rfl (lv_at hl 0 rfl) ?_
      refine lv_iconst (v := (1 : Int32)) hx hb dX5_workOut_46 (by decide) ?_
      refine lv_iadd hx hb dX5_workOut_47 ?_
      refine lv_bipush (v := (7 : Int32)) hx hb dX5_workOut_48 (by decide) ?_
      refine lv_imul hx hb dX5_workOut_50 ?_
      refine lv_bipush (v := (7 : Int32)) hx hb dX5_workOut_51 (by decide) ?_
      obtain ⟨g_53, hf⟩ := hf
      refine x_cpy X M hl lk_X5_53 cy_ok rgc_15 rgc_15 g_53.1 g_53.2.1 g_53.2.2.1 g_53.2.2.2.1 g_53.2.2.2.2 (Nat.le_of_ble_eq_true rfl) (Nat.le_of_ble_eq_true rfl) dX5_workOut_53 (fun m_53 H locs em_53 M => ?_)
      replace hf := hf m_53 em_53
      refine lv_aload_n hx hb dX5_workOut_56 rfl (lv_at hl 1 rfl) ?_
      refine lv_iload_n hx hb dX5_workOut_57 rfl (lv_at hl 0 rfl) ?_
      refine x_cv (x_rV (As := [.int x2_5]) (rest := []) X M (cm_X5_pour l G ad hI n x2_5 m_53 _ hf) mc_X5_pour mv_X5_pour lk_X5_69 mn_X5_pour rgc_10 rfl hl ⟨⟨Nat.le_of_ble_eq_true rfl, Nat.le_of_ble_eq_true rfl⟩, rfl, Nat.le_of_ble_eq_true rfl, Nat.zero_le _, Nat.zero_le _⟩ rfl dX5_workOut_58) M (fun m_58 H locs hf M => ?_)
      try dsimp only at hf
      refine lv_aload_n hx hb dX5_workOut_61 rfl (lv_at hl 1 rfl) ?_
      refine lv_iload_n hx hb dX5_workOut_62 rfl (lv_at hl 0 rfl) ?_
      refine x_cv (x_rV (As := [.int x2_5]) (rest := []) X M (cm_X5_graze l G ad hI n x2_5 m_58 _ hf) mc_X5_graze mv_X5_graze lk_X5_72 mn_X5_graze rgc_10 rfl hl ⟨⟨Nat.le_of_ble_eq_true rfl, Nat.le_of_ble_eq_true rfl⟩, rfl, Nat.le_of_ble_eq_true rfl, Nat.zero_le _, Nat.zero_le _⟩ rfl dX5_workOut_63) M (fun m_63 H locs hf M => ?_)
      try dsimp only at hf
      obtain ⟨x2_66, ex2_66⟩ : ∃ y : Int32, y = x2_5 + 1 := ⟨_, rfl⟩
      replace hf := hf x2_66 ex2_66
      refine lv_iinc (v := x2_66) (lv' := [(2, .int x2_66), (0, .ref (ad 10)), (1, .int a1)]) hx hb dX5_workOut_66 hl (k := 0) rfl (by rw [ex2_66]; rfl) (by decide) rfl (fun ls hl => ?_)
      refine lv_goto (tgt := 5) hx hb dX5_workOut_69 (by decide) ?_
      exact hagain5 (x2_66, m_63) hf _ _ _ M (lv_sub hl [0, 1, 2] rfl)
def wp_X5_leftOfPart (n : Nat) (a1 : Int32) (a2 : Int32) (a3 : Int32) (μ : xM) (K : Int32 → xM → Prop) : Prop :=
  wp_X5_workOut n a3 μ (fun m_2 : xM => wp_X5_placeOf n a1 a2 a3 m_2 (fun r_12 : Int32 => (vp_in r_12 1281 ∧ K (m_2 14 r_12.toNatClampNeg) m_2)))
set_option maxHeartbeats 4000000 in
set_option maxRecDepth 100000 in
theorem cm_X5_leftOfPart (l : Launch) (G : xG) (ad : Nat → Nat) (hI : xI 36 ad) (n : Nat) (a1 : Int32) (a2 : Int32) (a3 : Int32) (μ : xM) (K : Int32 → xM → Prop) (hf : wp_X5_leftOfPart n a1 a2 a3 μ K) : Met l yX5_leftOfPart (Cond.code yX5_leftOfPart cX5_leftOfPart 4 (some .int) :: xw_all) (rmo 4 94) (va_Pc [.ref (ad 10), .int a1, .int a2, .int a3] (xPre cS 36 G ad μ)) (xQi cS 36 G ad K) 0 0 (xR 36 ad) := by
  refine x_ent (nL := 4) (own := RX5) (by decide) rfl hI (Nat.le_of_ble_eq_true rfl) ?_
  intro p e s m args below meth c H locs ls Q X hr hlk hQ M hl
  have hx := X.1.1
  have hb := X.1.2.1
  have hown := X.1.2.2.2.1
  have hts := X.1.2.2.2.2
  have hl : lv_has ls 4 [(0, .ref (ad 10)), (1, .int a1), (2, .int a2), (3, .int a3)] := hl
  unfold wp_X5_leftOfPart at hf
  refine lv_aload_n hx hb dX5_leftOfPart_0 rfl (lv_at hl 0 rfl) ?_
  refine lv_iload_n hx hb dX5_leftOfPart_1 rfl (lv_at hl 3 rfl) ?_
  refine x_cv (x_rV (As := [.int a3]) (rest := []) X M (cm_X5_workOut l G ad hI n a3 μ _ hf) mc_X5_workOut mv_X5_workOut lk_X5_100 mn_X5_workOut rgc_10 rfl hl ⟨⟨Nat.le_of_ble_eq_true rfl, Nat.le_of_ble_eq_true rfl⟩, rfl, Nat.le_of_ble_eq_true rfl, Nat.zero_le _, Nat.zero_le _⟩ rfl dX5_leftOfPart_2) M (fun m_2 H locs hf M => ?_)
  try dsimp only at hf
  refine lv_aload_n hx hb dX5_leftOfPart_5 rfl (lv_at hl 0 rfl) ?_
  refine x_getR (r := 14) X M rgc_10 fd_X5_25 rfl dX5_leftOfPart_6 ?_
  refine lv_iload_n hx hb dX5_leftOfPart_9 rfl (lv_at hl 1 rfl) ?_
  refine lv_iload_n hx hb dX5_leftOfPart_10 rfl (lv_at hl 2 rfl) ?_
  refine lv_iload_n hx hb dX5_leftOfPart_11 rfl (lv_at hl 3 rfl) ?_
  refine x_ciP (x_rS (As := [.int a1, .int a2, .int a3]) (rest := [.ref (ad 14)]) X M (cm_X5_placeOf l G ad hI n a1 a2 a3 m_2 _ hf) mc_X5_placeOf ms_X5_placeOf lk_X5_78 mn_X5_placeOf hl ⟨⟨Nat.le_of_ble_eq_true rfl, Nat.le_of_ble_eq_true rfl⟩, rfl, Nat.le_of_ble_eq_true rfl, Nat.zero_le _, Nat.zero_le _⟩ rfl dX5_leftOfPart_12) M (fun r_12 H locs hf M => ?_)
  try dsimp only at hf
  obtain ⟨g_15, hf⟩ := hf
  refine x_ild X M rgc_14 g_15 dX5_leftOfPart_15 ?_
  rw [hQ]
  exact x_iret X M hr hlk dX5_leftOfPart_16 hf
def wp_X5_settle (n : Nat) (k1 : Nat) (a2 : Int32) (a3 : Int32) (μ : xM) (K : xM → Prop) : Prop :=
  (¬ (6 : Int32) = 0 ∧ (∀ m_7 : xM, m_7 = xu μ 10 6 ((a3 + (1 : Int32)) / (6 : Int32)) → xjn (fun (m_69 : xM) => xlp (fun (again72 : (Int32 × xM) → Prop) => fun (s_ : Int32 × xM) => match s_ with | (x4_72, m_72) => (((60 : Int32) ≤ x4_72 → (∀ m_103 : xM, m_103 = xu m_72 10 7 (0 : Int32) → (∀ m_108 : xM, m_108 = xu m_103 10 8 (0 : Int32) → K m_108))) ∧ (¬ (60 : Int32) ≤ x4_72 → (vp_in x4_72 60 ∧ (∀ m_86 : xM, m_86 = xu m_72 12 x4_72.toNatClampNeg (0 : Int32) → (vp_in x4_72 60 ∧ (∀ m_94 : xM, m_94 = xu m_86 13 x4_72.toNatClampNeg (0 : Int32) → (∀ x4_95 : Int32, x4_95 = x4_72 + 1 → again72 (x4_95, m_94))))))))) n ((0 : Int32), m_69)) (fun J69 : xM → Prop => xlp (fun (again13 : (Int32 × xM) → Prop) => fun (s_ : Int32 × xM) => match s_ with | (x4_13, m_13) => (((m_13 10 6) ≤ x4_13 → J69 m_13) ∧ (¬ (m_13 10 6) ≤ x4_13 → (vp_in x4_13 7 ∧ wp_X3_carve n (x4_13.toNatClampNeg) k1 (a2 + ((6 : Int32) * x4_13)) m_13 (fun m_37 : xM => (vp_in x4_13 7 ∧ ((¬ (0 : Int32) < 0 ∧ ¬ ((3 : Int32) * x4_13) < 0 ∧ ¬ (3 : Int32) < 0 ∧ (0 : Int32).toNatClampNeg + (3 : Int32).toNatClampNeg ≤ 3 ∧ ((3 : Int32) * x4_13).toNatClampNeg + (3 : Int32).toNatClampNeg ≤ 1281) ∧ (∀ m_60 : xM, m_60 = xcp m_37 (24 + x4_13.toNatClampNeg) 14 (0 : Int32).toNatClampNeg ((3 : Int32) * x4_13).toNatClampNeg (3 : Int32).toNatClampNeg → (∀ x4_63 : Int32, x4_63 = x4_13 + 1 → again13 (x4_63, m_60)))))))))) n ((0 : Int32), m_7))))
set_option maxHeartbeats 4000000 in
set_option maxRecDepth 100000 in
theorem cm_X5_settle (l : Launch) (G : xG) (ad : Nat → Nat) (hI : xI 36 ad) (n : Nat) (k1 : Nat) (hk1 : k1 < 4) (a2 : Int32) (a3 : Int32) (μ : xM) (K : xM → Prop) (hf : wp_X5_settle n k1 a2 a3 μ K) : Met l yX5_settle (Cond.code yX5_settle cX5_settle 5 none :: xw_all) (rmo 2 43) (va_Pc [.ref (ad 10), .ref (ad (2 + k1)), .int a2, .int a3] (xPre cS 36 G ad μ)) (xQv cS 36 G ad K) 0 0 (xR 36 ad) := by
  refine x_ent (nL := 5) (own := RX5) (by decide) rfl hI (Nat.le_of_ble_eq_true rfl) ?_
  intro p e s m args below meth c H locs ls Q X hr hlk hQ M hl
  have hx := X.1.1
  have hb := X.1.2.1
  have hown := X.1.2.2.2.1
  have hts := X.1.2.2.2.2
  have hl : lv_has ls 5 [(0, .ref (ad 10)), (1, .ref (ad (2 + k1))), (2, .int a2), (3, .int a3)] := hl
  unfold wp_X5_settle at hf
  refine lv_aload_n hx hb dX5_settle_0 rfl (lv_at hl 0 rfl) ?_
  refine lv_iload_n hx hb dX5_settle_1 rfl (lv_at hl 3 rfl) ?_
  refine lv_iconst (v := (1 : Int32)) hx hb dX5_settle_2 (by decide) ?_
  refine lv_iadd hx hb dX5_settle_3 ?_
  refine lv_bipush (v := (6 : Int32)) hx hb dX5_settle_4 (by decide) ?_
  obtain ⟨g_6, hf⟩ := hf
  refine lv_idiv hx hb dX5_settle_6 g_6 ?_
  refine x_putI X M rgc_10 fp_X5_34 rfl dX5_settle_7 (fun m_7 H locs em_7 M => ?_)
  replace hf := hf m_7 em_7
  refine lv_iconst (v := (0 : Int32)) hx hb dX5_settle_10 (by decide) ?_
  refine lv_istore (lv' := [(4, .int (0 : Int32)), (0, .ref (ad 10)), (1, .ref (ad (2 + k1))), (2, .int a2), (3, .int a3)]) hx hb dX5_settle_11 hl (by decide) rfl (fun ls hl => ?_)
  refine xjn_w hf (fun (m_69 : xM) => ∀ (H : Heap) (locs : List Loc) (ls : Array Slot), xS cS 36 G ad s m_69 H locs → lv_has ls 5 [(0, .ref (ad 10))] → W p l e (rmo 2 43) s m args below meth c H locs 0 0 Q (F0 m 69 ls [])) ?_ ?_
  · intro m_69 hf
    intro H locs ls M hl
    refine lv_iconst (v := (0 : Int32)) hx hb dX5_settle_69 (by decide) ?_
    refine lv_istore (lv' := [(4, .int (0 : Int32)), (0, .ref (ad 10))]) hx hb dX5_settle_70 hl (by decide) rfl (fun ls hl => ?_)
    refine xlp_w hf (fun (s_ : Int32 × xM) => match s_ with | (x4_72, m_72) => ∀ (H : Heap) (locs : List Loc) (ls : Array Slot), xS cS 36 G ad s m_72 H locs → lv_has ls 5 [(4, .int x4_72), (0, .ref (ad 10))] → W p l e (rmo 2 43) s m args below meth c H locs 0 0 Q (F0 m 72 ls [])) ?_ _ _ _ M (lv_sub hl [0, 1] rfl)
    intro again72 hagain72 s_ hf
    obtain ⟨x4_72, m_72⟩ := s_
    try dsimp only at hf ⊢
    intro H locs ls M hl
    refine lv_iload hx hb dX5_settle_72 (lv_at hl 0 rfl) ?_
    refine lv_bipush (v := (60 : Int32)) hx hb dX5_settle_74 (by decide) ?_
    refine lv_icmp_ge (tgt := 101) hx hb dX5_settle_76 (by decide) (fun c_76 => ?_) (fun c_76 => ?_)
    · replace hf := hf.1 c_76
      refine lv_aload_n hx hb dX5_settle_101 rfl (lv_at hl 1 rfl) ?_
      refine lv_iconst (v := (0 : Int32)) hx hb dX5_settle_102 (by decide) ?_
      refine x_putI X M rgc_10 fp_X5_38 rfl dX5_settle_103 (fun m_103 H locs em_103 M => ?_)
      replace hf := hf m_103 em_103
      refine lv_aload_n hx hb dX5_settle_106 rfl (lv_at hl 1 rfl) ?_
      refine lv_iconst (v := (0 : Int32)) hx hb dX5_settle_107 (by decide) ?_
      refine x_putI X M rgc_10 fp_X5_41 rfl dX5_settle_108 (fun m_108 H locs em_108 M => ?_)
      replace hf := hf m_108 em_108
      rw [hQ]
      exact x_vret X M hr hlk dX5_settle_111 hf
    · replace hf := hf.2 c_76
      refine lv_aload_n hx hb dX5_settle_79 rfl (lv_at hl 1 rfl) ?_
      refine x_getR (r := 12) X M rgc_10 fd_X5_18 rfl dX5_settle_80 ?_
      refine lv_iload hx hb dX5_settle_83 (lv_at hl 0 rfl) ?_
      refine lv_iconst (v := (0 : Int32)) hx hb dX5_settle_85 (by decide) ?_
      obtain ⟨g_86, hf⟩ := hf
      refine x_ist X M rgc_12 g_86 dX5_settle_86 (fun m_86 H locs em_86 M => ?_)
      replace hf := hf m_86 em_86
      refine lv_aload_n hx hb dX5_settle_87 rfl (lv_at hl 1 rfl) ?_
      refine x_getR (r := 13) X M rgc_10 fd_X5_22 rfl dX5_settle_88 ?_
      refine lv_iload hx hb dX5_settle_91 (lv_at hl 0 rfl) ?_
      refine lv_iconst (v := (0 : Int32)) hx hb dX5_settle_93 (by decide) ?_
      obtain ⟨g_94, hf⟩ := hf
      refine x_ist X M rgc_13 g_94 dX5_settle_94 (fun m_94 H locs em_94 M => ?_)
      replace hf := hf m_94 em_94
      obtain ⟨x4_95, ex4_95⟩ : ∃ y : Int32, y = x4_72 + 1 := ⟨_, rfl⟩
      replace hf := hf x4_95 ex4_95
      refine lv_iinc (v := x4_95) (lv' := [(4, .int x4_95), (0, .ref (ad 10))]) hx hb dX5_settle_95 hl (k := 0) rfl (by rw [ex4_95]; rfl) (by decide) rfl (fun ls hl => ?_)
      refine lv_goto (tgt := 72) hx hb dX5_settle_98 (by decide) ?_
      exact hagain72 (x4_95, m_94) hf _ _ _ M (lv_sub hl [0, 1] rfl)
  · intro J69 hJ69 hf
    refine xlp_w hf (fun (s_ : Int32 × xM) => match s_ with | (x4_13, m_13) => ∀ (H : Heap) (locs : List Loc) (ls : Array Slot), xS cS 36 G ad s m_13 H locs → lv_has ls 5 [(4, .int x4_13), (0, .ref (ad 10)), (1, .ref (ad (2 + k1))), (2, .int a2)] → W p l e (rmo 2 43) s m args below meth c H locs 0 0 Q (F0 m 13 ls [])) ?_ _ _ _ M (lv_sub hl [0, 1, 2, 3] rfl)
    intro again13 hagain13 s_ hf
    obtain ⟨x4_13, m_13⟩ := s_
    try dsimp only at hf ⊢
    intro H locs ls M hl
    refine lv_iload hx hb dX5_settle_13 (lv_at hl 0 rfl) ?_
    refine lv_aload_n hx hb dX5_settle_15 rfl (lv_at hl 1 rfl) ?_
    refine x_getI X M rgc_10 fd_X5_34 rfl dX5_settle_16 ?_
    refine lv_icmp_ge (tgt := 69) hx hb dX5_settle_19 (by decide) (fun c_19 => ?_) (fun c_19 => ?_)
    · replace hf := hf.1 c_19
      exact hJ69 m_13 hf _ _ _ M (lv_sub hl [1] rfl)
    · replace hf := hf.2 c_19
      refine lv_aload_n hx hb dX5_settle_22 rfl (lv_at hl 1 rfl) ?_
      refine x_getR (r := 11) X M rgc_10 fd_X5_11 rfl dX5_settle_23 ?_
      refine lv_iload hx hb dX5_settle_26 (lv_at hl 0 rfl) ?_
      obtain ⟨g_28, hf⟩ := hf
      refine x_ald X M rgc_11 rfl g_28 dX5_settle_28 ?_
      refine lv_aload_n hx hb dX5_settle_29 rfl (lv_at hl 2 rfl) ?_
      refine lv_iload_n hx hb dX5_settle_30 rfl (lv_at hl 3 rfl) ?_
      refine lv_bipush (v := (6 : Int32)) hx hb dX5_settle_31 (by decide) ?_
      refine lv_iload hx hb dX5_settle_33 (lv_at hl 0 rfl) ?_
      refine lv_imul hx hb dX5_settle_35 ?_
      refine lv_iadd hx hb dX5_settle_36 ?_
      refine x_cv (x_rVN (As := [.ref (ad (2 + k1)), .int (a2 + ((6 : Int32) * x4_13))]) (rest := []) X M (cm_X3_carve l G ad hI n (x4_13.toNatClampNeg) (vp_lt g_28) k1 hk1 (a2 + ((6 : Int32) * x4_13)) m_13 _ hf) mc_X3_carve mv_X3_carve ln_X5_46 mn_X3_carve (rgc_17 (vp_lt g_28)) rfl hl ⟨⟨Nat.le_of_ble_eq_true rfl, Nat.le_of_ble_eq_true rfl⟩, rfl, Nat.le_of_ble_eq_true rfl, Nat.zero_le _, Nat.zero_le _⟩ rfl dX5_settle_37) M (fun m_37 H locs hf M => ?_)
      try dsimp only at hf
      refine lv_aload_n hx hb dX5_settle_40 rfl (lv_at hl 1 rfl) ?_
      refine x_getR (r := 11) X M rgc_10 fd_X5_11 rfl dX5_settle_41 ?_
      refine lv_iload hx hb dX5_settle_44 (lv_at hl 0 rfl) ?_
      obtain ⟨g_46, hf⟩ := hf
      refine x_ald X M rgc_11 rfl g_46 dX5_settle_46 ?_
      refine x_getR (r := (24 + x4_13.toNatClampNeg)) X M (rgc_17 (vp_lt g_46)) fd_X5_50 rfl dX5_settle_47 ?_
      refine lv_iconst (v := (0 : Int32)) hx hb dX5_settle_50 (by decide) ?_
      refine lv_aload_n hx hb dX5_settle_51 rfl (lv_at hl 1 rfl) ?_
      refine x_getR (r := 14) X M rgc_10 fd_X5_25 rfl dX5_settle_52 ?_
      refine lv_iconst (v := (3 : Int32)) hx hb dX5_settle_55 (by decide) ?_
      refine lv_iload hx hb dX5_settle_56 (lv_at hl 0 rfl) ?_
      refine lv_imul hx hb dX5_settle_58 ?_
      refine lv_iconst (v := (3 : Int32)) hx hb dX5_settle_59 (by decide) ?_
      obtain ⟨g_60, hf⟩ := hf
      refine x_cpy X M hl lk_X5_53 cy_ok (rgc_24 (vp_lt g_46)) rgc_14 g_60.1 g_60.2.1 g_60.2.2.1 g_60.2.2.2.1 g_60.2.2.2.2 (Nat.le_of_ble_eq_true rfl) (Nat.le_of_ble_eq_true rfl) dX5_settle_60 (fun m_60 H locs em_60 M => ?_)
      replace hf := hf m_60 em_60
      obtain ⟨x4_63, ex4_63⟩ : ∃ y : Int32, y = x4_13 + 1 := ⟨_, rfl⟩
      replace hf := hf x4_63 ex4_63
      refine lv_iinc (v := x4_63) (lv' := [(4, .int x4_63), (0, .ref (ad 10)), (1, .ref (ad (2 + k1))), (2, .int a2)]) hx hb dX5_settle_63 hl (k := 0) rfl (by rw [ex4_63]; rfl) (by decide) rfl (fun ls hl => ?_)
      refine lv_goto (tgt := 13) hx hb dX5_settle_66 (by decide) ?_
      exact hagain13 (x4_63, m_60) hf _ _ _ M (lv_sub hl [0, 1, 2, 3] rfl)
def wp_X5_forgetFrom (n : Nat) (a1 : Int32) (μ : xM) (K : xM → Prop) : Prop :=
  (∀ r_6 : Int32, r_6 = (if a1 < (μ 10 8) then a1 else (μ 10 8)) → (∀ m_9 : xM, m_9 = xu μ 10 8 r_6 → K m_9))
set_option maxHeartbeats 4000000 in
set_option maxRecDepth 100000 in
theorem cm_X5_forgetFrom (l : Launch) (G : xG) (ad : Nat → Nat) (hI : xI 36 ad) (n : Nat) (a1 : Int32) (μ : xM) (K : xM → Prop) (hf : wp_X5_forgetFrom n a1 μ K) : Met l yX5_forgetFrom (Cond.code yX5_forgetFrom cX5_forgetFrom 2 none :: xw_all) (rmo 1 21) (va_Pc [.ref (ad 10), .int a1] (xPre cS 36 G ad μ)) (xQv cS 36 G ad K) 0 0 (xR 36 ad) := by
  refine x_ent (nL := 2) (own := RX5) (by decide) rfl hI (Nat.le_of_ble_eq_true rfl) ?_
  intro p e s m args below meth c H locs ls Q X hr hlk hQ M hl
  have hx := X.1.1
  have hb := X.1.2.1
  have hown := X.1.2.2.2.1
  have hts := X.1.2.2.2.2
  have hl : lv_has ls 2 [(0, .ref (ad 10)), (1, .int a1)] := hl
  unfold wp_X5_forgetFrom at hf
  refine lv_aload_n hx hb dX5_forgetFrom_0 rfl (lv_at hl 0 rfl) ?_
  refine lv_aload_n hx hb dX5_forgetFrom_1 rfl (lv_at hl 0 rfl) ?_
  refine x_getI X M rgc_10 fd_X5_41 rfl dX5_forgetFrom_2 ?_
  refine lv_iload_n hx hb dX5_forgetFrom_5 rfl (lv_at hl 1 rfl) ?_
  refine x_min X hl lm_X5_59 ⟨Nat.le_of_ble_eq_true rfl, Nat.le_of_ble_eq_true rfl, Nat.zero_le _, Nat.zero_le _⟩ dX5_forgetFrom_6 ?_
  refine lv_topi (fun r_6 er_6 => ?_)
  replace hf := hf r_6 er_6
  refine x_putI X M rgc_10 fp_X5_41 rfl dX5_forgetFrom_9 (fun m_9 H locs em_9 M => ?_)
  replace hf := hf m_9 em_9
  rw [hQ]
  exact x_vret X M hr hlk dX5_forgetFrom_12 hf
def wp_X5_letRain (n : Nat) (a1 : Int32) (a2 : Int32) (μ : xM) (K : xM → Prop) : Prop :=
  (vp_in a1 60 ∧ (∀ m_6 : xM, m_6 = xu μ 12 a1.toNatClampNeg a2 → wp_X5_forgetFrom n a1 m_6 (fun m_9 : xM => K m_9)))
set_option maxHeartbeats 4000000 in
set_option maxRecDepth 100000 in
theorem cm_X5_letRain (l : Launch) (G : xG) (ad : Nat → Nat) (hI : xI 36 ad) (n : Nat) (a1 : Int32) (a2 : Int32) (μ : xM) (K : xM → Prop) (hf : wp_X5_letRain n a1 a2 μ K) : Met l yX5_letRain (Cond.code yX5_letRain cX5_letRain 3 none :: xw_all) (rmo 2 42) (va_Pc [.ref (ad 10), .int a1, .int a2] (xPre cS 36 G ad μ)) (xQv cS 36 G ad K) 0 0 (xR 36 ad) := by
  refine x_ent (nL := 3) (own := RX5) (by decide) rfl hI (Nat.le_of_ble_eq_true rfl) ?_
  intro p e s m args below meth c H locs ls Q X hr hlk hQ M hl
  have hx := X.1.1
  have hb := X.1.2.1
  have hown := X.1.2.2.2.1
  have hts := X.1.2.2.2.2
  have hl : lv_has ls 3 [(0, .ref (ad 10)), (1, .int a1), (2, .int a2)] := hl
  unfold wp_X5_letRain at hf
  refine lv_aload_n hx hb dX5_letRain_0 rfl (lv_at hl 0 rfl) ?_
  refine x_getR (r := 12) X M rgc_10 fd_X5_18 rfl dX5_letRain_1 ?_
  refine lv_iload_n hx hb dX5_letRain_4 rfl (lv_at hl 1 rfl) ?_
  refine lv_iload_n hx hb dX5_letRain_5 rfl (lv_at hl 2 rfl) ?_
  obtain ⟨g_6, hf⟩ := hf
  refine x_ist X M rgc_12 g_6 dX5_letRain_6 (fun m_6 H locs em_6 M => ?_)
  replace hf := hf m_6 em_6
  refine lv_aload_n hx hb dX5_letRain_7 rfl (lv_at hl 0 rfl) ?_
  refine lv_iload_n hx hb dX5_letRain_8 rfl (lv_at hl 1 rfl) ?_
  refine x_cv (x_rV (As := [.int a1]) (rest := []) X M (cm_X5_forgetFrom l G ad hI n a1 m_6 _ hf) mc_X5_forgetFrom mv_X5_forgetFrom lk_X5_65 mn_X5_forgetFrom rgc_10 rfl hl ⟨⟨Nat.le_of_ble_eq_true rfl, Nat.le_of_ble_eq_true rfl⟩, rfl, Nat.le_of_ble_eq_true rfl, Nat.zero_le _, Nat.zero_le _⟩ rfl dX5_letRain_9) M (fun m_9 H locs hf M => ?_)
  try dsimp only at hf
  rw [hQ]
  exact x_vret X M hr hlk dX5_letRain_12 hf
def wp_X5_sumOf (n : Nat) (a1 : Int32) (a2 : Int32) (μ : xM) (K : Int32 → Prop) : Prop :=
  wp_X5_placeOf n a1 (0 : Int32) a2 μ (fun r_7 : Int32 => (vp_in r_7 1281 ∧ wp_X5_placeOf n a1 (1 : Int32) a2 μ (fun r_18 : Int32 => (vp_in r_18 1281 ∧ wp_X5_placeOf n a1 (2 : Int32) a2 μ (fun r_30 : Int32 => (vp_in r_30 1281 ∧ K (((μ 14 r_7.toNatClampNeg) + (μ 14 r_18.toNatClampNeg)) + (μ 14 r_30.toNatClampNeg))))))))
set_option maxHeartbeats 4000000 in
set_option maxRecDepth 100000 in
theorem cm_X5_sumOf (l : Launch) (G : xG) (ad : Nat → Nat) (hI : xI 36 ad) (n : Nat) (a1 : Int32) (a2 : Int32) (μ : xM) (K : Int32 → Prop) (hf : wp_X5_sumOf n a1 a2 μ K) : Met l yX5_sumOf (Cond.code yX5_sumOf cX5_sumOf 3 (some .int) :: xw_all) (rmo 1 22) (va_Pc [.ref (ad 10), .int a1, .int a2] (xPre cS 36 G ad μ)) (xQi cS 36 G ad (fun r u => K r ∧ u = μ)) 0 0 (xR 36 ad) := by
  refine x_ent (nL := 3) (own := RX5) (by decide) rfl hI (Nat.le_of_ble_eq_true rfl) ?_
  intro p e s m args below meth c H locs ls Q X hr hlk hQ M hl
  have hx := X.1.1
  have hb := X.1.2.1
  have hown := X.1.2.2.2.1
  have hts := X.1.2.2.2.2
  have hl : lv_has ls 3 [(0, .ref (ad 10)), (1, .int a1), (2, .int a2)] := hl
  unfold wp_X5_sumOf at hf
  refine lv_aload_n hx hb dX5_sumOf_0 rfl (lv_at hl 0 rfl) ?_
  refine x_getR (r := 14) X M rgc_10 fd_X5_25 rfl dX5_sumOf_1 ?_
  refine lv_iload_n hx hb dX5_sumOf_4 rfl (lv_at hl 1 rfl) ?_
  refine lv_iconst (v := (0 : Int32)) hx hb dX5_sumOf_5 (by decide) ?_
  refine lv_iload_n hx hb dX5_sumOf_6 rfl (lv_at hl 2 rfl) ?_
  refine x_ciP (x_rS (As := [.int a1, .int (0 : Int32), .int a2]) (rest := [.ref (ad 14)]) X M (cm_X5_placeOf l G ad hI n a1 (0 : Int32) a2 μ _ hf) mc_X5_placeOf ms_X5_placeOf lk_X5_78 mn_X5_placeOf hl ⟨⟨Nat.le_of_ble_eq_true rfl, Nat.le_of_ble_eq_true rfl⟩, rfl, Nat.le_of_ble_eq_true rfl, Nat.zero_le _, Nat.zero_le _⟩ rfl dX5_sumOf_7) M (fun r_7 H locs hf M => ?_)
  try dsimp only at hf
  obtain ⟨g_10, hf⟩ := hf
  refine x_ild X M rgc_14 g_10 dX5_sumOf_10 ?_
  refine lv_aload_n hx hb dX5_sumOf_11 rfl (lv_at hl 0 rfl) ?_
  refine x_getR (r := 14) X M rgc_10 fd_X5_25 rfl dX5_sumOf_12 ?_
  refine lv_iload_n hx hb dX5_sumOf_15 rfl (lv_at hl 1 rfl) ?_
  refine lv_iconst (v := (1 : Int32)) hx hb dX5_sumOf_16 (by decide) ?_
  refine lv_iload_n hx hb dX5_sumOf_17 rfl (lv_at hl 2 rfl) ?_
  refine x_ciP (x_rS (As := [.int a1, .int (1 : Int32), .int a2]) (rest := [.ref (ad 14), .int (μ 14 r_7.toNatClampNeg)]) X M (cm_X5_placeOf l G ad hI n a1 (1 : Int32) a2 μ _ hf) mc_X5_placeOf ms_X5_placeOf lk_X5_78 mn_X5_placeOf hl ⟨⟨Nat.le_of_ble_eq_true rfl, Nat.le_of_ble_eq_true rfl⟩, rfl, Nat.le_of_ble_eq_true rfl, Nat.zero_le _, Nat.zero_le _⟩ rfl dX5_sumOf_18) M (fun r_18 H locs hf M => ?_)
  try dsimp only at hf
  obtain ⟨g_21, hf⟩ := hf
  refine x_ild X M rgc_14 g_21 dX5_sumOf_21 ?_
  refine lv_iadd hx hb dX5_sumOf_22 ?_
  refine lv_aload_n hx hb dX5_sumOf_23 rfl (lv_at hl 0 rfl) ?_
  refine x_getR (r := 14) X M rgc_10 fd_X5_25 rfl dX5_sumOf_24 ?_
  refine lv_iload_n hx hb dX5_sumOf_27 rfl (lv_at hl 1 rfl) ?_
  refine lv_iconst (v := (2 : Int32)) hx hb dX5_sumOf_28 (by decide) ?_
  refine lv_iload_n hx hb dX5_sumOf_29 rfl (lv_at hl 2 rfl) ?_
  refine x_ciP (x_rS (As := [.int a1, .int (2 : Int32), .int a2]) (rest := [.ref (ad 14), .int ((μ 14 r_7.toNatClampNeg) + (μ 14 r_18.toNatClampNeg))]) X M (cm_X5_placeOf l G ad hI n a1 (2 : Int32) a2 μ _ hf) mc_X5_placeOf ms_X5_placeOf lk_X5_78 mn_X5_placeOf hl ⟨⟨Nat.le_of_ble_eq_true rfl, Nat.le_of_ble_eq_true rfl⟩, rfl, Nat.le_of_ble_eq_true rfl, Nat.zero_le _, Nat.zero_le _⟩ rfl dX5_sumOf_30) M (fun r_30 H locs hf M => ?_)
  try dsimp only at hf
  obtain ⟨g_33, hf⟩ := hf
  refine x_ild X M rgc_14 g_33 dX5_sumOf_33 ?_
  refine lv_iadd hx hb dX5_sumOf_34 ?_
  rw [hQ]
  exact x_iret X M hr hlk dX5_sumOf_35 ⟨hf, rfl⟩
def wp_X5_leftOf (n : Nat) (a1 : Int32) (a2 : Int32) (μ : xM) (K : Int32 → xM → Prop) : Prop :=
  wp_X5_workOut n a2 μ (fun m_2 : xM => wp_X5_sumOf n a1 a2 m_2 (fun r_8 : Int32 => K r_8 m_2))
set_option maxHeartbeats 4000000 in
set_option maxRecDepth 100000 in
theorem cm_X5_leftOf (l : Launch) (G : xG) (ad : Nat → Nat) (hI : xI 36 ad) (n : Nat) (a1 : Int32) (a2 : Int32) (μ : xM) (K : Int32 → xM → Prop) (hf : wp_X5_leftOf n a1 a2 μ K) : Met l yX5_leftOf (Cond.code yX5_leftOf cX5_leftOf 3 (some .int) :: xw_all) (rmo 4 94) (va_Pc [.ref (ad 10), .int a1, .int a2] (xPre cS 36 G ad μ)) (xQi cS 36 G ad K) 0 0 (xR 36 ad) := by
  refine x_ent (nL := 3) (own := RX5) (by decide) rfl hI (Nat.le_of_ble_eq_true rfl) ?_
  intro p e s m args below meth c H locs ls Q X hr hlk hQ M hl
  have hx := X.1.1
  have hb := X.1.2.1
  have hown := X.1.2.2.2.1
  have hts := X.1.2.2.2.2
  have hl : lv_has ls 3 [(0, .ref (ad 10)), (1, .int a1), (2, .int a2)] := hl
  unfold wp_X5_leftOf at hf
  refine lv_aload_n hx hb dX5_leftOf_0 rfl (lv_at hl 0 rfl) ?_
  refine lv_iload_n hx hb dX5_leftOf_1 rfl (lv_at hl 2 rfl) ?_
  refine x_cv (x_rV (As := [.int a2]) (rest := []) X M (cm_X5_workOut l G ad hI n a2 μ _ hf) mc_X5_workOut mv_X5_workOut lk_X5_100 mn_X5_workOut rgc_10 rfl hl ⟨⟨Nat.le_of_ble_eq_true rfl, Nat.le_of_ble_eq_true rfl⟩, rfl, Nat.le_of_ble_eq_true rfl, Nat.zero_le _, Nat.zero_le _⟩ rfl dX5_leftOf_2) M (fun m_2 H locs hf M => ?_)
  try dsimp only at hf
  refine lv_aload_n hx hb dX5_leftOf_5 rfl (lv_at hl 0 rfl) ?_
  refine lv_iload_n hx hb dX5_leftOf_6 rfl (lv_at hl 1 rfl) ?_
  refine lv_iload_n hx hb dX5_leftOf_7 rfl (lv_at hl 2 rfl) ?_
  refine x_ciP (x_rV (As := [.int a1, .int a2]) (rest := []) X M (cm_X5_sumOf l G ad hI n a1 a2 m_2 _ hf) mc_X5_sumOf mv_X5_sumOf lk_X5_103 mn_X5_sumOf rgc_10 rfl hl ⟨⟨Nat.le_of_ble_eq_true rfl, Nat.le_of_ble_eq_true rfl⟩, rfl, Nat.le_of_ble_eq_true rfl, Nat.zero_le _, Nat.zero_le _⟩ rfl dX5_leftOf_8) M (fun r_8 H locs hf M => ?_)
  try dsimp only at hf
  rw [hQ]
  exact x_iret X M hr hlk dX5_leftOf_11 hf
def wp_X5_leftOfAll (n : Nat) (a1 : Int32) (μ : xM) (K : Int32 → xM → Prop) : Prop :=
  xlp (fun (again4 : (Int32 × Int32 × xM) → Prop) => fun (s_ : Int32 × Int32 × xM) => match s_ with | (x3_4, x2_4, m_4) => (((m_4 10 6) ≤ x3_4 → K x2_4 m_4) ∧ (¬ (m_4 10 6) ≤ x3_4 → wp_X5_leftOf n x3_4 a1 m_4 (fun (r_16 : Int32) (m_16 : xM) => (∀ x2_20 : Int32, x2_20 = x2_4 + r_16 → (∀ x3_21 : Int32, x3_21 = x3_4 + 1 → again4 (x3_21, x2_20, m_16))))))) n ((0 : Int32), (0 : Int32), μ)
set_option maxHeartbeats 4000000 in
set_option maxRecDepth 100000 in
theorem cm_X5_leftOfAll (l : Launch) (G : xG) (ad : Nat → Nat) (hI : xI 36 ad) (n : Nat) (a1 : Int32) (μ : xM) (K : Int32 → xM → Prop) (hf : wp_X5_leftOfAll n a1 μ K) : Met l yX5_leftOfAll (Cond.code yX5_leftOfAll cX5_leftOfAll 4 (some .int) :: xw_all) (rmo 5 116) (va_Pc [.ref (ad 10), .int a1] (xPre cS 36 G ad μ)) (xQi cS 36 G ad K) 0 0 (xR 36 ad) := by
  refine x_ent (nL := 4) (own := RX5) (by decide) rfl hI (Nat.le_of_ble_eq_true rfl) ?_
  intro p e s m args below meth c H locs ls Q X hr hlk hQ M hl
  have hx := X.1.1
  have hb := X.1.2.1
  have hown := X.1.2.2.2.1
  have hts := X.1.2.2.2.2
  have hl : lv_has ls 4 [(0, .ref (ad 10)), (1, .int a1)] := hl
  unfold wp_X5_leftOfAll at hf
  refine lv_iconst (v := (0 : Int32)) hx hb dX5_leftOfAll_0 (by decide) ?_
  refine lv_istore_n (lv' := [(2, .int (0 : Int32)), (0, .ref (ad 10)), (1, .int a1)]) hx hb dX5_leftOfAll_1 rfl hl (by decide) rfl (fun ls hl => ?_)
  refine lv_iconst (v := (0 : Int32)) hx hb dX5_leftOfAll_2 (by decide) ?_
  refine lv_istore_n (lv' := [(3, .int (0 : Int32)), (2, .int (0 : Int32)), (0, .ref (ad 10)), (1, .int a1)]) hx hb dX5_leftOfAll_3 rfl hl (by decide) rfl (fun ls hl => ?_)
  refine xlp_w hf (fun (s_ : Int32 × Int32 × xM) => match s_ with | (x3_4, x2_4, m_4) => ∀ (H : Heap) (locs : List Loc) (ls : Array Slot), xS cS 36 G ad s m_4 H locs → lv_has ls 4 [(3, .int x3_4), (2, .int x2_4), (0, .ref (ad 10)), (1, .int a1)] → W p l e (rmo 5 116) s m args below meth c H locs 0 0 Q (F0 m 4 ls [])) ?_ _ _ _ M (lv_sub hl [0, 1, 2, 3] rfl)
  intro again4 hagain4 s_ hf
  obtain ⟨x3_4, x2_4, m_4⟩ := s_
  try dsimp only at hf ⊢
  intro H locs ls M hl
  refine lv_iload_n hx hb dX5_leftOfAll_4 rfl (lv_at hl 0 rfl) ?_
  refine lv_aload_n hx hb dX5_leftOfAll_5 rfl (lv_at hl 2 rfl) ?_
  refine x_getI X M rgc_10 fd_X5_34 rfl dX5_leftOfAll_6 ?_
  refine lv_icmp_ge (tgt := 27) hx hb dX5_leftOfAll_9 (by decide) (fun c_9 => ?_) (fun c_9 => ?_)
  · replace hf := hf.1 c_9
    refine lv_iload_n hx hb dX5_leftOfAll_27 rfl (lv_at hl 1 rfl) ?_
    rw [hQ]
    exact x_iret X M hr hlk dX5_leftOfAll_28 hf
  · replace hf := hf.2 c_9
    refine lv_iload_n hx hb dX5_leftOfAll_12 rfl (lv_at hl 1 rfl) ?_
    refine lv_aload_n hx hb dX5_leftOfAll_13 rfl (lv_at hl 2 rfl) ?_
    refine lv_iload_n hx hb dX5_leftOfAll_14 rfl (lv_at hl 0 rfl) ?_
    refine lv_iload_n hx hb dX5_leftOfAll_15 rfl (lv_at hl 3 rfl) ?_
    refine x_ci (x_rV (As := [.int x3_4, .int a1]) (rest := [.int x2_4]) X M (cm_X5_leftOf l G ad hI n x3_4 a1 m_4 _ hf) mc_X5_leftOf mv_X5_leftOf lk_X5_106 mn_X5_leftOf rgc_10 rfl hl ⟨⟨Nat.le_of_ble_eq_true rfl, Nat.le_of_ble_eq_true rfl⟩, rfl, Nat.le_of_ble_eq_true rfl, Nat.zero_le _, Nat.zero_le _⟩ rfl dX5_leftOfAll_16) M (fun r_16 m_16 H locs hf M => ?_)
    try dsimp only at hf
    refine lv_iadd hx hb dX5_leftOfAll_19 ?_
    refine lv_topi (fun x2_20 ex2_20 => ?_)
    replace hf := hf x2_20 ex2_20
    refine lv_istore_n (lv' := [(2, .int x2_20), (3, .int x3_4), (0, .ref (ad 10)), (1, .int a1)]) hx hb dX5_leftOfAll_20 rfl hl (by decide) rfl (fun ls hl => ?_)
    obtain ⟨x3_21, ex3_21⟩ : ∃ y : Int32, y = x3_4 + 1 := ⟨_, rfl⟩
    replace hf := hf x3_21 ex3_21
    refine lv_iinc (v := x3_21) (lv' := [(3, .int x3_21), (2, .int x2_20), (0, .ref (ad 10)), (1, .int a1)]) hx hb dX5_leftOfAll_21 hl (k := 1) rfl (by rw [ex3_21]; rfl) (by decide) rfl (fun ls hl => ?_)
    refine lv_goto (tgt := 4) hx hb dX5_leftOfAll_24 (by decide) ?_
    exact hagain4 (x3_21, x2_20, m_16) hf _ _ _ M (lv_sub hl [0, 1, 2, 3] rfl)
def wp_X5_lickedOff (n : Nat) (a1 : Int32) (a2 : Int32) (μ : xM) (K : Int32 → xM → Prop) : Prop :=
  wp_X5_workOut n a2 μ (fun m_2 : xM => (vp_in ((a2 * (7 : Int32)) + a1) 427 ∧ K (m_2 15 ((a2 * (7 : Int32)) + a1).toNatClampNeg) m_2))
set_option maxHeartbeats 4000000 in
set_option maxRecDepth 100000 in
theorem cm_X5_lickedOff (l : Launch) (G : xG) (ad : Nat → Nat) (hI : xI 36 ad) (n : Nat) (a1 : Int32) (a2 : Int32) (μ : xM) (K : Int32 → xM → Prop) (hf : wp_X5_lickedOff n a1 a2 μ K) : Met l yX5_lickedOff (Cond.code yX5_lickedOff cX5_lickedOff 3 (some .int) :: xw_all) (rmo 4 94) (va_Pc [.ref (ad 10), .int a1, .int a2] (xPre cS 36 G ad μ)) (xQi cS 36 G ad K) 0 0 (xR 36 ad) := by
  refine x_ent (nL := 3) (own := RX5) (by decide) rfl hI (Nat.le_of_ble_eq_true rfl) ?_
  intro p e s m args below meth c H locs ls Q X hr hlk hQ M hl
  have hx := X.1.1
  have hb := X.1.2.1
  have hown := X.1.2.2.2.1
  have hts := X.1.2.2.2.2
  have hl : lv_has ls 3 [(0, .ref (ad 10)), (1, .int a1), (2, .int a2)] := hl
  unfold wp_X5_lickedOff at hf
  refine lv_aload_n hx hb dX5_lickedOff_0 rfl (lv_at hl 0 rfl) ?_
  refine lv_iload_n hx hb dX5_lickedOff_1 rfl (lv_at hl 2 rfl) ?_
  refine x_cv (x_rV (As := [.int a2]) (rest := []) X M (cm_X5_workOut l G ad hI n a2 μ _ hf) mc_X5_workOut mv_X5_workOut lk_X5_100 mn_X5_workOut rgc_10 rfl hl ⟨⟨Nat.le_of_ble_eq_true rfl, Nat.le_of_ble_eq_true rfl⟩, rfl, Nat.le_of_ble_eq_true rfl, Nat.zero_le _, Nat.zero_le _⟩ rfl dX5_lickedOff_2) M (fun m_2 H locs hf M => ?_)
  try dsimp only at hf
  refine lv_aload_n hx hb dX5_lickedOff_5 rfl (lv_at hl 0 rfl) ?_
  refine x_getR (r := 15) X M rgc_10 fd_X5_28 rfl dX5_lickedOff_6 ?_
  refine lv_iload_n hx hb dX5_lickedOff_9 rfl (lv_at hl 2 rfl) ?_
  refine lv_bipush (v := (7 : Int32)) hx hb dX5_lickedOff_10 (by decide) ?_
  refine lv_imul hx hb dX5_lickedOff_12 ?_
  refine lv_iload_n hx hb dX5_lickedOff_13 rfl (lv_at hl 1 rfl) ?_
  refine lv_iadd hx hb dX5_lickedOff_14 ?_
  obtain ⟨g_15, hf⟩ := hf
  refine x_ild X M rgc_15 g_15 dX5_lickedOff_15 ?_
  rw [hQ]
  exact x_iret X M hr hlk dX5_lickedOff_16 hf
def wp_X5_inPuddle (n : Nat) (a1 : Int32) (a2 : Int32) (μ : xM) (K : Int32 → xM → Prop) : Prop :=
  (vp_in a1 7 ∧ wp_X3_allAtFirst n (a1.toNatClampNeg) μ (fun r_6 : Int32 => wp_X5_leftOf n a1 a2 μ (fun (r_12 : Int32) (m_12 : xM) => wp_X5_lickedOff n a1 a2 m_12 (fun (r_19 : Int32) (m_19 : xM) => K ((r_6 - r_12) - r_19) m_19))))
set_option maxHeartbeats 4000000 in
set_option maxRecDepth 100000 in
theorem cm_X5_inPuddle (l : Launch) (G : xG) (ad : Nat → Nat) (hI : xI 36 ad) (n : Nat) (a1 : Int32) (a2 : Int32) (μ : xM) (K : Int32 → xM → Prop) (hf : wp_X5_inPuddle n a1 a2 μ K) : Met l yX5_inPuddle (Cond.code yX5_inPuddle cX5_inPuddle 3 (some .int) :: xw_all) (rmo 5 116) (va_Pc [.ref (ad 10), .int a1, .int a2] (xPre cS 36 G ad μ)) (xQi cS 36 G ad K) 0 0 (xR 36 ad) := by
  refine x_ent (nL := 3) (own := RX5) (by decide) rfl hI (Nat.le_of_ble_eq_true rfl) ?_
  intro p e s m args below meth c H locs ls Q X hr hlk hQ M hl
  have hx := X.1.1
  have hb := X.1.2.1
  have hown := X.1.2.2.2.1
  have hts := X.1.2.2.2.2
  have hl : lv_has ls 3 [(0, .ref (ad 10)), (1, .int a1), (2, .int a2)] := hl
  unfold wp_X5_inPuddle at hf
  refine lv_aload_n hx hb dX5_inPuddle_0 rfl (lv_at hl 0 rfl) ?_
  refine x_getR (r := 11) X M rgc_10 fd_X5_11 rfl dX5_inPuddle_1 ?_
  refine lv_iload_n hx hb dX5_inPuddle_4 rfl (lv_at hl 1 rfl) ?_
  obtain ⟨g_5, hf⟩ := hf
  refine x_ald X M rgc_11 rfl g_5 dX5_inPuddle_5 ?_
  refine x_ciP (x_rVN (As := []) (rest := []) X M (cm_X3_allAtFirst l G ad hI n (a1.toNatClampNeg) (vp_lt g_5) μ _ hf) mc_X3_allAtFirst mv_X3_allAtFirst ln_X5_109 mn_X3_allAtFirst (rgc_17 (vp_lt g_5)) rfl hl ⟨⟨Nat.le_of_ble_eq_true rfl, Nat.le_of_ble_eq_true rfl⟩, rfl, Nat.le_of_ble_eq_true rfl, Nat.zero_le _, Nat.zero_le _⟩ rfl dX5_inPuddle_6) M (fun r_6 H locs hf M => ?_)
  try dsimp only at hf
  refine lv_aload_n hx hb dX5_inPuddle_9 rfl (lv_at hl 0 rfl) ?_
  refine lv_iload_n hx hb dX5_inPuddle_10 rfl (lv_at hl 1 rfl) ?_
  refine lv_iload_n hx hb dX5_inPuddle_11 rfl (lv_at hl 2 rfl) ?_
  refine x_ci (x_rV (As := [.int a1, .int a2]) (rest := [.int r_6]) X M (cm_X5_leftOf l G ad hI n a1 a2 μ _ hf) mc_X5_leftOf mv_X5_leftOf lk_X5_106 mn_X5_leftOf rgc_10 rfl hl ⟨⟨Nat.le_of_ble_eq_true rfl, Nat.le_of_ble_eq_true rfl⟩, rfl, Nat.le_of_ble_eq_true rfl, Nat.zero_le _, Nat.zero_le _⟩ rfl dX5_inPuddle_12) M (fun r_12 m_12 H locs hf M => ?_)
  try dsimp only at hf
  refine lv_isub hx hb dX5_inPuddle_15 ?_
  refine lv_aload_n hx hb dX5_inPuddle_16 rfl (lv_at hl 0 rfl) ?_
  refine lv_iload_n hx hb dX5_inPuddle_17 rfl (lv_at hl 1 rfl) ?_
  refine lv_iload_n hx hb dX5_inPuddle_18 rfl (lv_at hl 2 rfl) ?_
  refine x_ci (x_rV (As := [.int a1, .int a2]) (rest := [.int (r_6 - r_12)]) X M (cm_X5_lickedOff l G ad hI n a1 a2 m_12 _ hf) mc_X5_lickedOff mv_X5_lickedOff lk_X5_113 mn_X5_lickedOff rgc_10 rfl hl ⟨⟨Nat.le_of_ble_eq_true rfl, Nat.le_of_ble_eq_true rfl⟩, rfl, Nat.le_of_ble_eq_true rfl, Nat.zero_le _, Nat.zero_le _⟩ rfl dX5_inPuddle_19) M (fun r_19 m_19 H locs hf M => ?_)
  try dsimp only at hf
  refine lv_isub hx hb dX5_inPuddle_22 ?_
  rw [hQ]
  exact x_iret X M hr hlk dX5_inPuddle_23 hf
def wp_X5_dawnWithoutPart (n : Nat) (a1 : Int32) (a2 : Int32) (μ : xM) (K : Int32 → xM → Prop) : Prop :=
  wp_X5_workOut n (60 : Int32) μ (fun m_3 : xM => xlp (fun (again8 : Int32 → Prop) => fun (x3_8 : Int32) => (((60 : Int32) < x3_8 → K (61 : Int32) m_3) ∧ (¬ (60 : Int32) < x3_8 → wp_X5_placeOf n a1 a2 x3_8 m_3 (fun r_21 : Int32 => (vp_in r_21 1281 ∧ ((¬ (m_3 14 r_21.toNatClampNeg) = 0 → (∀ x3_30 : Int32, x3_30 = x3_8 + 1 → again8 x3_30)) ∧ ((m_3 14 r_21.toNatClampNeg) = 0 → K x3_8 m_3))))))) n (0 : Int32))
set_option maxHeartbeats 4000000 in
set_option maxRecDepth 100000 in
theorem cm_X5_dawnWithoutPart (l : Launch) (G : xG) (ad : Nat → Nat) (hI : xI 36 ad) (n : Nat) (a1 : Int32) (a2 : Int32) (μ : xM) (K : Int32 → xM → Prop) (hf : wp_X5_dawnWithoutPart n a1 a2 μ K) : Met l yX5_dawnWithoutPart (Cond.code yX5_dawnWithoutPart cX5_dawnWithoutPart 4 (some .int) :: xw_all) (rmo 4 94) (va_Pc [.ref (ad 10), .int a1, .int a2] (xPre cS 36 G ad μ)) (xQi cS 36 G ad K) 0 0 (xR 36 ad) := by
  refine x_ent (nL := 4) (own := RX5) (by decide) rfl hI (Nat.le_of_ble_eq_true rfl) ?_
  intro p e s m args below meth c H locs ls Q X hr hlk hQ M hl
  have hx := X.1.1
  have hb := X.1.2.1
  have hown := X.1.2.2.2.1
  have hts := X.1.2.2.2.2
  have hl : lv_has ls 4 [(0, .ref (ad 10)), (1, .int a1), (2, .int a2)] := hl
  unfold wp_X5_dawnWithoutPart at hf
  refine lv_aload_n hx hb dX5_dawnWithoutPart_0 rfl (lv_at hl 0 rfl) ?_
  refine lv_bipush (v := (60 : Int32)) hx hb dX5_dawnWithoutPart_1 (by decide) ?_
  refine x_cv (x_rV (As := [.int (60 : Int32)]) (rest := []) X M (cm_X5_workOut l G ad hI n (60 : Int32) μ _ hf) mc_X5_workOut mv_X5_workOut lk_X5_100 mn_X5_workOut rgc_10 rfl hl ⟨⟨Nat.le_of_ble_eq_true rfl, Nat.le_of_ble_eq_true rfl⟩, rfl, Nat.le_of_ble_eq_true rfl, Nat.zero_le _, Nat.zero_le _⟩ rfl dX5_dawnWithoutPart_3) M (fun m_3 H locs hf M => ?_)
  try dsimp only at hf
  refine lv_iconst (v := (0 : Int32)) hx hb dX5_dawnWithoutPart_6 (by decide) ?_
  refine lv_istore_n (lv' := [(3, .int (0 : Int32)), (0, .ref (ad 10)), (1, .int a1), (2, .int a2)]) hx hb dX5_dawnWithoutPart_7 rfl hl (by decide) rfl (fun ls hl => ?_)
  refine xlp_w hf (fun (x3_8 : Int32) => ∀ (H : Heap) (locs : List Loc) (ls : Array Slot), xS cS 36 G ad s m_3 H locs → lv_has ls 4 [(3, .int x3_8), (0, .ref (ad 10)), (1, .int a1), (2, .int a2)] → W p l e (rmo 4 94) s m args below meth c H locs 0 0 Q (F0 m 8 ls [])) ?_ _ _ _ M (lv_sub hl [0, 1, 2, 3] rfl)
  intro again8 hagain8 x3_8 hf
  intro H locs ls M hl
  refine lv_iload_n hx hb dX5_dawnWithoutPart_8 rfl (lv_at hl 0 rfl) ?_
  refine lv_bipush (v := (60 : Int32)) hx hb dX5_dawnWithoutPart_9 (by decide) ?_
  refine lv_icmp_gt (tgt := 36) hx hb dX5_dawnWithoutPart_11 (by decide) (fun c_11 => ?_) (fun c_11 => ?_)
  · replace hf := hf.1 c_11
    refine lv_bipush (v := (61 : Int32)) hx hb dX5_dawnWithoutPart_36 (by decide) ?_
    rw [hQ]
    exact x_iret X M hr hlk dX5_dawnWithoutPart_38 hf
  · replace hf := hf.2 c_11
    refine lv_aload_n hx hb dX5_dawnWithoutPart_14 rfl (lv_at hl 1 rfl) ?_
    refine x_getR (r := 14) X M rgc_10 fd_X5_25 rfl dX5_dawnWithoutPart_15 ?_
    refine lv_iload_n hx hb dX5_dawnWithoutPart_18 rfl (lv_at hl 2 rfl) ?_
    refine lv_iload_n hx hb dX5_dawnWithoutPart_19 rfl (lv_at hl 3 rfl) ?_
    refine lv_iload_n hx hb dX5_dawnWithoutPart_20 rfl (lv_at hl 0 rfl) ?_
    refine x_ciP (x_rS (As := [.int a1, .int a2, .int x3_8]) (rest := [.ref (ad 14)]) X M (cm_X5_placeOf l G ad hI n a1 a2 x3_8 m_3 _ hf) mc_X5_placeOf ms_X5_placeOf lk_X5_78 mn_X5_placeOf hl ⟨⟨Nat.le_of_ble_eq_true rfl, Nat.le_of_ble_eq_true rfl⟩, rfl, Nat.le_of_ble_eq_true rfl, Nat.zero_le _, Nat.zero_le _⟩ rfl dX5_dawnWithoutPart_21) M (fun r_21 H locs hf M => ?_)
    try dsimp only at hf
    obtain ⟨g_24, hf⟩ := hf
    refine x_ild X M rgc_14 g_24 dX5_dawnWithoutPart_24 ?_
    refine lv_if_ne (tgt := 30) hx hb dX5_dawnWithoutPart_25 (by decide) (fun c_25 => ?_) (fun c_25 => ?_)
    · replace hf := hf.1 c_25
      obtain ⟨x3_30, ex3_30⟩ : ∃ y : Int32, y = x3_8 + 1 := ⟨_, rfl⟩
      replace hf := hf x3_30 ex3_30
      refine lv_iinc (v := x3_30) (lv' := [(3, .int x3_30), (0, .ref (ad 10)), (1, .int a1), (2, .int a2)]) hx hb dX5_dawnWithoutPart_30 hl (k := 0) rfl (by rw [ex3_30]; rfl) (by decide) rfl (fun ls hl => ?_)
      refine lv_goto (tgt := 8) hx hb dX5_dawnWithoutPart_33 (by decide) ?_
      exact hagain8 x3_30 hf _ _ _ M (lv_sub hl [0, 1, 2, 3] rfl)
    · replace hf := hf.2 c_25
      refine lv_iload_n hx hb dX5_dawnWithoutPart_28 rfl (lv_at hl 0 rfl) ?_
      rw [hQ]
      exact x_iret X M hr hlk dX5_dawnWithoutPart_29 hf
def wp_X5_dawnWithoutAny (n : Nat) (a1 : Int32) (μ : xM) (K : Int32 → xM → Prop) : Prop :=
  wp_X5_workOut n (60 : Int32) μ (fun m_3 : xM => xlp (fun (again8 : Int32 → Prop) => fun (x2_8 : Int32) => (((60 : Int32) < x2_8 → K (61 : Int32) m_3) ∧ (¬ (60 : Int32) < x2_8 → wp_X5_sumOf n a1 x2_8 m_3 (fun r_17 : Int32 => ((¬ r_17 = 0 → (∀ x2_25 : Int32, x2_25 = x2_8 + 1 → again8 x2_25)) ∧ (r_17 = 0 → K x2_8 m_3)))))) n (0 : Int32))
set_option maxHeartbeats 4000000 in
set_option maxRecDepth 100000 in
theorem cm_X5_dawnWithoutAny (l : Launch) (G : xG) (ad : Nat → Nat) (hI : xI 36 ad) (n : Nat) (a1 : Int32) (μ : xM) (K : Int32 → xM → Prop) (hf : wp_X5_dawnWithoutAny n a1 μ K) : Met l yX5_dawnWithoutAny (Cond.code yX5_dawnWithoutAny cX5_dawnWithoutAny 3 (some .int) :: xw_all) (rmo 4 94) (va_Pc [.ref (ad 10), .int a1] (xPre cS 36 G ad μ)) (xQi cS 36 G ad K) 0 0 (xR 36 ad) := by
  refine x_ent (nL := 3) (own := RX5) (by decide) rfl hI (Nat.le_of_ble_eq_true rfl) ?_
  intro p e s m args below meth c H locs ls Q X hr hlk hQ M hl
  have hx := X.1.1
  have hb := X.1.2.1
  have hown := X.1.2.2.2.1
  have hts := X.1.2.2.2.2
  have hl : lv_has ls 3 [(0, .ref (ad 10)), (1, .int a1)] := hl
  unfold wp_X5_dawnWithoutAny at hf
  refine lv_aload_n hx hb dX5_dawnWithoutAny_0 rfl (lv_at hl 0 rfl) ?_
  refine lv_bipush (v := (60 : Int32)) hx hb dX5_dawnWithoutAny_1 (by decide) ?_
  refine x_cv (x_rV (As := [.int (60 : Int32)]) (rest := []) X M (cm_X5_workOut l G ad hI n (60 : Int32) μ _ hf) mc_X5_workOut mv_X5_workOut lk_X5_100 mn_X5_workOut rgc_10 rfl hl ⟨⟨Nat.le_of_ble_eq_true rfl, Nat.le_of_ble_eq_true rfl⟩, rfl, Nat.le_of_ble_eq_true rfl, Nat.zero_le _, Nat.zero_le _⟩ rfl dX5_dawnWithoutAny_3) M (fun m_3 H locs hf M => ?_)
  try dsimp only at hf
  refine lv_iconst (v := (0 : Int32)) hx hb dX5_dawnWithoutAny_6 (by decide) ?_
  refine lv_istore_n (lv' := [(2, .int (0 : Int32)), (0, .ref (ad 10)), (1, .int a1)]) hx hb dX5_dawnWithoutAny_7 rfl hl (by decide) rfl (fun ls hl => ?_)
  refine xlp_w hf (fun (x2_8 : Int32) => ∀ (H : Heap) (locs : List Loc) (ls : Array Slot), xS cS 36 G ad s m_3 H locs → lv_has ls 3 [(2, .int x2_8), (0, .ref (ad 10)), (1, .int a1)] → W p l e (rmo 4 94) s m args below meth c H locs 0 0 Q (F0 m 8 ls [])) ?_ _ _ _ M (lv_sub hl [0, 1, 2] rfl)
  intro again8 hagain8 x2_8 hf
  intro H locs ls M hl
  refine lv_iload_n hx hb dX5_dawnWithoutAny_8 rfl (lv_at hl 0 rfl) ?_
  refine lv_bipush (v := (60 : Int32)) hx hb dX5_dawnWithoutAny_9 (by decide) ?_
  refine lv_icmp_gt (tgt := 31) hx hb dX5_dawnWithoutAny_11 (by decide) (fun c_11 => ?_) (fun c_11 => ?_)
  · replace hf := hf.1 c_11
    refine lv_bipush (v := (61 : Int32)) hx hb dX5_dawnWithoutAny_31 (by decide) ?_
    rw [hQ]
    exact x_iret X M hr hlk dX5_dawnWithoutAny_33 hf
  · replace hf := hf.2 c_11
    refine lv_aload_n hx hb dX5_dawnWithoutAny_14 rfl (lv_at hl 1 rfl) ?_
    refine lv_iload_n hx hb dX5_dawnWithoutAny_15 rfl (lv_at hl 2 rfl) ?_
    refine lv_iload_n hx hb dX5_dawnWithoutAny_16 rfl (lv_at hl 0 rfl) ?_
    refine x_ciP (x_rV (As := [.int a1, .int x2_8]) (rest := []) X M (cm_X5_sumOf l G ad hI n a1 x2_8 m_3 _ hf) mc_X5_sumOf mv_X5_sumOf lk_X5_103 mn_X5_sumOf rgc_10 rfl hl ⟨⟨Nat.le_of_ble_eq_true rfl, Nat.le_of_ble_eq_true rfl⟩, rfl, Nat.le_of_ble_eq_true rfl, Nat.zero_le _, Nat.zero_le _⟩ rfl dX5_dawnWithoutAny_17) M (fun r_17 H locs hf M => ?_)
    try dsimp only at hf
    refine lv_if_ne (tgt := 25) hx hb dX5_dawnWithoutAny_20 (by decide) (fun c_20 => ?_) (fun c_20 => ?_)
    · replace hf := hf.1 c_20
      obtain ⟨x2_25, ex2_25⟩ : ∃ y : Int32, y = x2_8 + 1 := ⟨_, rfl⟩
      replace hf := hf x2_25 ex2_25
      refine lv_iinc (v := x2_25) (lv' := [(2, .int x2_25), (0, .ref (ad 10)), (1, .int a1)]) hx hb dX5_dawnWithoutAny_25 hl (k := 0) rfl (by rw [ex2_25]; rfl) (by decide) rfl (fun ls hl => ?_)
      refine lv_goto (tgt := 8) hx hb dX5_dawnWithoutAny_28 (by decide) ?_
      exact hagain8 x2_25 hf _ _ _ M (lv_sub hl [0, 1, 2] rfl)
    · replace hf := hf.2 c_20
      refine lv_iload_n hx hb dX5_dawnWithoutAny_23 rfl (lv_at hl 0 rfl) ?_
      rw [hQ]
      exact x_iret X M hr hlk dX5_dawnWithoutAny_24 hf
def wp_X5_likedFirst (n : Nat) (a1 : Int32) (μ : xM) (K : Int32 → xM → Prop) : Prop :=
  wp_X5_workOut n (a1 + (1 : Int32)) μ (fun m_4 : xM => (vp_in a1 60 ∧ K (m_4 16 a1.toNatClampNeg) m_4))
set_option maxHeartbeats 4000000 in
set_option maxRecDepth 100000 in
theorem cm_X5_likedFirst (l : Launch) (G : xG) (ad : Nat → Nat) (hI : xI 36 ad) (n : Nat) (a1 : Int32) (μ : xM) (K : Int32 → xM → Prop) (hf : wp_X5_likedFirst n a1 μ K) : Met l yX5_likedFirst (Cond.code yX5_likedFirst cX5_likedFirst 2 (some .int) :: xw_all) (rmo 4 94) (va_Pc [.ref (ad 10), .int a1] (xPre cS 36 G ad μ)) (xQi cS 36 G ad K) 0 0 (xR 36 ad) := by
  refine x_ent (nL := 2) (own := RX5) (by decide) rfl hI (Nat.le_of_ble_eq_true rfl) ?_
  intro p e s m args below meth c H locs ls Q X hr hlk hQ M hl
  have hx := X.1.1
  have hb := X.1.2.1
  have hown := X.1.2.2.2.1
  have hts := X.1.2.2.2.2
  have hl : lv_has ls 2 [(0, .ref (ad 10)), (1, .int a1)] := hl
  unfold wp_X5_likedFirst at hf
  refine lv_aload_n hx hb dX5_likedFirst_0 rfl (lv_at hl 0 rfl) ?_
  refine lv_iload_n hx hb dX5_likedFirst_1 rfl (lv_at hl 1 rfl) ?_
  refine lv_iconst (v := (1 : Int32)) hx hb dX5_likedFirst_2 (by decide) ?_
  refine lv_iadd hx hb dX5_likedFirst_3 ?_
  refine x_cv (x_rV (As := [.int (a1 + (1 : Int32))]) (rest := []) X M (cm_X5_workOut l G ad hI n (a1 + (1 : Int32)) μ _ hf) mc_X5_workOut mv_X5_workOut lk_X5_100 mn_X5_workOut rgc_10 rfl hl ⟨⟨Nat.le_of_ble_eq_true rfl, Nat.le_of_ble_eq_true rfl⟩, rfl, Nat.le_of_ble_eq_true rfl, Nat.zero_le _, Nat.zero_le _⟩ rfl dX5_likedFirst_4) M (fun m_4 H locs hf M => ?_)
  try dsimp only at hf
  refine lv_aload_n hx hb dX5_likedFirst_7 rfl (lv_at hl 0 rfl) ?_
  refine x_getR (r := 16) X M rgc_10 fd_X5_31 rfl dX5_likedFirst_8 ?_
  refine lv_iload_n hx hb dX5_likedFirst_11 rfl (lv_at hl 1 rfl) ?_
  obtain ⟨g_12, hf⟩ := hf
  refine x_ild X M rgc_16 g_12 dX5_likedFirst_12 ?_
  rw [hQ]
  exact x_iret X M hr hlk dX5_likedFirst_13 hf
def wp_X5_longestLasting (n : Nat)  (μ : xM) (K : Int32 → xM → Prop) : Prop :=
  xlp (fun (again6 : (Int32 × Int32 × Int32 × xM) → Prop) => fun (s_ : Int32 × Int32 × Int32 × xM) => match s_ with | (x3_6, x2_6, x1_6, m_6) => (((m_6 10 6) ≤ x3_6 → K x1_6 m_6) ∧ (¬ (m_6 10 6) ≤ x3_6 → wp_X5_dawnWithoutAny n x3_6 m_6 (fun (r_16 : Int32) (m_16 : xM) => ((r_16 ≤ x2_6 → (∀ x3_32 : Int32, x3_32 = x3_6 + 1 → again6 (x3_32, x2_6, x1_6, m_16))) ∧ (¬ r_16 ≤ x2_6 → (∀ x3_32 : Int32, x3_32 = x3_6 + 1 → again6 (x3_32, r_16, x3_6, m_16)))))))) n ((0 : Int32), (0 : Int32), (0 : Int32), μ)
set_option maxHeartbeats 4000000 in
set_option maxRecDepth 100000 in
theorem cm_X5_longestLasting (l : Launch) (G : xG) (ad : Nat → Nat) (hI : xI 36 ad) (n : Nat)  (μ : xM) (K : Int32 → xM → Prop) (hf : wp_X5_longestLasting n μ K) : Met l yX5_longestLasting (Cond.code yX5_longestLasting cX5_longestLasting 5 (some .int) :: xw_all) (rmo 5 116) (va_Pc [.ref (ad 10)] (xPre cS 36 G ad μ)) (xQi cS 36 G ad K) 0 0 (xR 36 ad) := by
  refine x_ent (nL := 5) (own := RX5) (by decide) rfl hI (Nat.le_of_ble_eq_true rfl) ?_
  intro p e s m args below meth c H locs ls Q X hr hlk hQ M hl
  have hx := X.1.1
  have hb := X.1.2.1
  have hown := X.1.2.2.2.1
  have hts := X.1.2.2.2.2
  have hl : lv_has ls 5 [(0, .ref (ad 10))] := hl
  unfold wp_X5_longestLasting at hf
  refine lv_iconst (v := (0 : Int32)) hx hb dX5_longestLasting_0 (by decide) ?_
  refine lv_istore_n (lv' := [(1, .int (0 : Int32)), (0, .ref (ad 10))]) hx hb dX5_longestLasting_1 rfl hl (by decide) rfl (fun ls hl => ?_)
  refine lv_iconst (v := (0 : Int32)) hx hb dX5_longestLasting_2 (by decide) ?_
  refine lv_istore_n (lv' := [(2, .int (0 : Int32)), (1, .int (0 : Int32)), (0, .ref (ad 10))]) hx hb dX5_longestLasting_3 rfl hl (by decide) rfl (fun ls hl => ?_)
  refine lv_iconst (v := (0 : Int32)) hx hb dX5_longestLasting_4 (by decide) ?_
  refine lv_istore_n (lv' := [(3, .int (0 : Int32)), (2, .int (0 : Int32)), (1, .int (0 : Int32)), (0, .ref (ad 10))]) hx hb dX5_longestLasting_5 rfl hl (by decide) rfl (fun ls hl => ?_)
  refine xlp_w hf (fun (s_ : Int32 × Int32 × Int32 × xM) => match s_ with | (x3_6, x2_6, x1_6, m_6) => ∀ (H : Heap) (locs : List Loc) (ls : Array Slot), xS cS 36 G ad s m_6 H locs → lv_has ls 5 [(3, .int x3_6), (2, .int x2_6), (1, .int x1_6), (0, .ref (ad 10))] → W p l e (rmo 5 116) s m args below meth c H locs 0 0 Q (F0 m 6 ls [])) ?_ _ _ _ M (lv_sub hl [0, 1, 2, 3] rfl)
  intro again6 hagain6 s_ hf
  obtain ⟨x3_6, x2_6, x1_6, m_6⟩ := s_
  try dsimp only at hf ⊢
  intro H locs ls M hl
  refine lv_iload_n hx hb dX5_longestLasting_6 rfl (lv_at hl 0 rfl) ?_
  refine lv_aload_n hx hb dX5_longestLasting_7 rfl (lv_at hl 3 rfl) ?_
  refine x_getI X M rgc_10 fd_X5_34 rfl dX5_longestLasting_8 ?_
  refine lv_icmp_ge (tgt := 38) hx hb dX5_longestLasting_11 (by decide) (fun c_11 => ?_) (fun c_11 => ?_)
  · replace hf := hf.1 c_11
    refine lv_iload_n hx hb dX5_longestLasting_38 rfl (lv_at hl 2 rfl) ?_
    rw [hQ]
    exact x_iret X M hr hlk dX5_longestLasting_39 hf
  · replace hf := hf.2 c_11
    refine lv_aload_n hx hb dX5_longestLasting_14 rfl (lv_at hl 3 rfl) ?_
    refine lv_iload_n hx hb dX5_longestLasting_15 rfl (lv_at hl 0 rfl) ?_
    refine x_ci (x_rV (As := [.int x3_6]) (rest := []) X M (cm_X5_dawnWithoutAny l G ad hI n x3_6 m_6 _ hf) mc_X5_dawnWithoutAny mv_X5_dawnWithoutAny lk_X5_116 mn_X5_dawnWithoutAny rgc_10 rfl hl ⟨⟨Nat.le_of_ble_eq_true rfl, Nat.le_of_ble_eq_true rfl⟩, rfl, Nat.le_of_ble_eq_true rfl, Nat.zero_le _, Nat.zero_le _⟩ rfl dX5_longestLasting_16) M (fun r_16 m_16 H locs hf M => ?_)
    try dsimp only at hf
    refine lv_istore (lv' := [(4, .int r_16), (3, .int x3_6), (2, .int x2_6), (1, .int x1_6), (0, .ref (ad 10))]) hx hb dX5_longestLasting_19 hl (by decide) rfl (fun ls hl => ?_)
    refine lv_iload hx hb dX5_longestLasting_21 (lv_at hl 0 rfl) ?_
    refine lv_iload_n hx hb dX5_longestLasting_23 rfl (lv_at hl 2 rfl) ?_
    refine lv_icmp_le (tgt := 32) hx hb dX5_longestLasting_24 (by decide) (fun c_24 => ?_) (fun c_24 => ?_)
    · replace hf := hf.1 c_24
      obtain ⟨x3_32, ex3_32⟩ : ∃ y : Int32, y = x3_6 + 1 := ⟨_, rfl⟩
      replace hf := hf x3_32 ex3_32
      refine lv_iinc (v := x3_32) (lv' := [(3, .int x3_32), (4, .int r_16), (2, .int x2_6), (1, .int x1_6), (0, .ref (ad 10))]) hx hb dX5_longestLasting_32 hl (k := 1) rfl (by rw [ex3_32]; rfl) (by decide) rfl (fun ls hl => ?_)
      refine lv_goto (tgt := 6) hx hb dX5_longestLasting_35 (by decide) ?_
      exact hagain6 (x3_32, x2_6, x1_6, m_16) hf _ _ _ M (lv_sub hl [0, 2, 3, 4] rfl)
    · replace hf := hf.2 c_24
      refine lv_iload_n hx hb dX5_longestLasting_27 rfl (lv_at hl 1 rfl) ?_
      refine lv_istore_n (lv' := [(1, .int x3_6), (4, .int r_16), (3, .int x3_6), (2, .int x2_6), (0, .ref (ad 10))]) hx hb dX5_longestLasting_28 rfl hl (by decide) rfl (fun ls hl => ?_)
      refine lv_iload hx hb dX5_longestLasting_29 (lv_at hl 1 rfl) ?_
      refine lv_istore_n (lv' := [(2, .int r_16), (1, .int x3_6), (4, .int r_16), (3, .int x3_6), (0, .ref (ad 10))]) hx hb dX5_longestLasting_31 rfl hl (by decide) rfl (fun ls hl => ?_)
      obtain ⟨x3_32, ex3_32⟩ : ∃ y : Int32, y = x3_6 + 1 := ⟨_, rfl⟩
      replace hf := hf x3_32 ex3_32
      refine lv_iinc (v := x3_32) (lv' := [(3, .int x3_32), (2, .int r_16), (1, .int x3_6), (4, .int r_16), (0, .ref (ad 10))]) hx hb dX5_longestLasting_32 hl (k := 3) rfl (by rw [ex3_32]; rfl) (by decide) rfl (fun ls hl => ?_)
      refine lv_goto (tgt := 6) hx hb dX5_longestLasting_35 (by decide) ?_
      exact hagain6 (x3_32, r_16, x3_6, m_16) hf _ _ _ M (lv_sub hl [0, 1, 2, 4] rfl)
def wp_X5_apart (n : Nat) (a1 : Int32) (k2 : Nat) (a3 : Int32) (a4 : Int32) (μ : xM) (K : Int32 → xM → Prop) : Prop :=
  wp_X5_workOut n a4 μ (fun m_3 : xM => xlp (fun (again12 : (Int32 × Int32) → Prop) => fun (s_ : Int32 × Int32) => match s_ with | (x6_12, x5_12) => (((3 : Int32) ≤ x6_12 → K x5_12 m_3) ∧ (¬ (3 : Int32) ≤ x6_12 → wp_X5_placeOf n a1 x6_12 a4 m_3 (fun r_29 : Int32 => (vp_in r_29 1281 ∧ (vp_in (a3 + x6_12) 60 ∧ (∀ r_43 : Int32, r_43 = (if 0 ≤ ((m_3 14 r_29.toNatClampNeg) - (m_3 (6 + k2) (a3 + x6_12).toNatClampNeg)) then ((m_3 14 r_29.toNatClampNeg) - (m_3 (6 + k2) (a3 + x6_12).toNatClampNeg)) else 0 - ((m_3 14 r_29.toNatClampNeg) - (m_3 (6 + k2) (a3 + x6_12).toNatClampNeg))) → (∀ x5_47 : Int32, x5_47 = x5_12 + r_43 → (∀ x6_49 : Int32, x6_49 = x6_12 + 1 → again12 (x6_49, x5_47)))))))))) n ((0 : Int32), (0 : Int32)))
set_option maxHeartbeats 4000000 in
set_option maxRecDepth 100000 in
theorem cm_X5_apart (l : Launch) (G : xG) (ad : Nat → Nat) (hI : xI 36 ad) (n : Nat) (a1 : Int32) (k2 : Nat) (hk2 : k2 < 4) (a3 : Int32) (a4 : Int32) (μ : xM) (K : Int32 → xM → Prop) (hf : wp_X5_apart n a1 k2 a3 a4 μ K) : Met l yX5_apart (Cond.code yX5_apart cX5_apart 7 (some .int) :: xw_all) (rmo 4 94) (va_Pc [.ref (ad 10), .int a1, .ref (ad (2 + k2)), .int a3, .int a4] (xPre cS 36 G ad μ)) (xQi cS 36 G ad K) 0 0 (xR 36 ad) := by
  refine x_ent (nL := 7) (own := RX5) (by decide) rfl hI (Nat.le_of_ble_eq_true rfl) ?_
  intro p e s m args below meth c H locs ls Q X hr hlk hQ M hl
  have hx := X.1.1
  have hb := X.1.2.1
  have hown := X.1.2.2.2.1
  have hts := X.1.2.2.2.2
  have hl : lv_has ls 7 [(0, .ref (ad 10)), (1, .int a1), (2, .ref (ad (2 + k2))), (3, .int a3), (4, .int a4)] := hl
  unfold wp_X5_apart at hf
  refine lv_aload_n hx hb dX5_apart_0 rfl (lv_at hl 0 rfl) ?_
  refine lv_iload hx hb dX5_apart_1 (lv_at hl 4 rfl) ?_
  refine x_cv (x_rV (As := [.int a4]) (rest := []) X M (cm_X5_workOut l G ad hI n a4 μ _ hf) mc_X5_workOut mv_X5_workOut lk_X5_100 mn_X5_workOut rgc_10 rfl hl ⟨⟨Nat.le_of_ble_eq_true rfl, Nat.le_of_ble_eq_true rfl⟩, rfl, Nat.le_of_ble_eq_true rfl, Nat.zero_le _, Nat.zero_le _⟩ rfl dX5_apart_3) M (fun m_3 H locs hf M => ?_)
  try dsimp only at hf
  refine lv_iconst (v := (0 : Int32)) hx hb dX5_apart_6 (by decide) ?_
  refine lv_istore (lv' := [(5, .int (0 : Int32)), (0, .ref (ad 10)), (1, .int a1), (2, .ref (ad (2 + k2))), (3, .int a3), (4, .int a4)]) hx hb dX5_apart_7 hl (by decide) rfl (fun ls hl => ?_)
  refine lv_iconst (v := (0 : Int32)) hx hb dX5_apart_9 (by decide) ?_
  refine lv_istore (lv' := [(6, .int (0 : Int32)), (5, .int (0 : Int32)), (0, .ref (ad 10)), (1, .int a1), (2, .ref (ad (2 + k2))), (3, .int a3), (4, .int a4)]) hx hb dX5_apart_10 hl (by decide) rfl (fun ls hl => ?_)
  refine xlp_w hf (fun (s_ : Int32 × Int32) => match s_ with | (x6_12, x5_12) => ∀ (H : Heap) (locs : List Loc) (ls : Array Slot), xS cS 36 G ad s m_3 H locs → lv_has ls 7 [(6, .int x6_12), (5, .int x5_12), (0, .ref (ad 10)), (1, .int a1), (2, .ref (ad (2 + k2))), (3, .int a3), (4, .int a4)] → W p l e (rmo 4 94) s m args below meth c H locs 0 0 Q (F0 m 12 ls [])) ?_ _ _ _ M (lv_sub hl [0, 1, 2, 3, 4, 5, 6] rfl)
  intro again12 hagain12 s_ hf
  obtain ⟨x6_12, x5_12⟩ := s_
  try dsimp only at hf ⊢
  intro H locs ls M hl
  refine lv_iload hx hb dX5_apart_12 (lv_at hl 0 rfl) ?_
  refine lv_iconst (v := (3 : Int32)) hx hb dX5_apart_14 (by decide) ?_
  refine lv_icmp_ge (tgt := 55) hx hb dX5_apart_15 (by decide) (fun c_15 => ?_) (fun c_15 => ?_)
  · replace hf := hf.1 c_15
    refine lv_iload hx hb dX5_apart_55 (lv_at hl 1 rfl) ?_
    rw [hQ]
    exact x_iret X M hr hlk dX5_apart_57 hf
  · replace hf := hf.2 c_15
    refine lv_iload hx hb dX5_apart_18 (lv_at hl 1 rfl) ?_
    refine lv_aload_n hx hb dX5_apart_20 rfl (lv_at hl 2 rfl) ?_
    refine x_getR (r := 14) X M rgc_10 fd_X5_25 rfl dX5_apart_21 ?_
    refine lv_iload_n hx hb dX5_apart_24 rfl (lv_at hl 3 rfl) ?_
    refine lv_iload hx hb dX5_apart_25 (lv_at hl 0 rfl) ?_
    refine lv_iload hx hb dX5_apart_27 (lv_at hl 6 rfl) ?_
    refine x_ciP (x_rS (As := [.int a1, .int x6_12, .int a4]) (rest := [.ref (ad 14), .int x5_12]) X M (cm_X5_placeOf l G ad hI n a1 x6_12 a4 m_3 _ hf) mc_X5_placeOf ms_X5_placeOf lk_X5_78 mn_X5_placeOf hl ⟨⟨Nat.le_of_ble_eq_true rfl, Nat.le_of_ble_eq_true rfl⟩, rfl, Nat.le_of_ble_eq_true rfl, Nat.zero_le _, Nat.zero_le _⟩ rfl dX5_apart_29) M (fun r_29 H locs hf M => ?_)
    try dsimp only at hf
    obtain ⟨g_32, hf⟩ := hf
    refine x_ild X M rgc_14 g_32 dX5_apart_32 ?_
    refine lv_aload_n hx hb dX5_apart_33 rfl (lv_at hl 4 rfl) ?_
    refine x_getR (r := (6 + k2)) X M (rgc_2 hk2) fd_X5_119 rfl dX5_apart_34 ?_
    refine lv_iload_n hx hb dX5_apart_37 rfl (lv_at hl 5 rfl) ?_
    refine lv_iload hx hb dX5_apart_38 (lv_at hl 0 rfl) ?_
    refine lv_iadd hx hb dX5_apart_40 ?_
    obtain ⟨g_41, hf⟩ := hf
    refine x_ild X M (rgc_6 hk2) g_41 dX5_apart_41 ?_
    refine lv_isub hx hb dX5_apart_42 ?_
    refine x_abs X hl lm_X5_124 ⟨Nat.le_of_ble_eq_true rfl, Nat.le_of_ble_eq_true rfl, Nat.zero_le _, Nat.zero_le _⟩ dX5_apart_43 ?_
    refine lv_topi (fun r_43 er_43 => ?_)
    replace hf := hf r_43 er_43
    refine lv_iadd hx hb dX5_apart_46 ?_
    refine lv_topi (fun x5_47 ex5_47 => ?_)
    replace hf := hf x5_47 ex5_47
    refine lv_istore (lv' := [(5, .int x5_47), (6, .int x6_12), (0, .ref (ad 10)), (1, .int a1), (2, .ref (ad (2 + k2))), (3, .int a3), (4, .int a4)]) hx hb dX5_apart_47 hl (by decide) rfl (fun ls hl => ?_)
    obtain ⟨x6_49, ex6_49⟩ : ∃ y : Int32, y = x6_12 + 1 := ⟨_, rfl⟩
    replace hf := hf x6_49 ex6_49
    refine lv_iinc (v := x6_49) (lv' := [(6, .int x6_49), (5, .int x5_47), (0, .ref (ad 10)), (1, .int a1), (2, .ref (ad (2 + k2))), (3, .int a3), (4, .int a4)]) hx hb dX5_apart_49 hl (k := 1) rfl (by rw [ex6_49]; rfl) (by decide) rfl (fun ls hl => ?_)
    refine lv_goto (tgt := 12) hx hb dX5_apart_52 (by decide) ?_
    exact hagain12 (x6_49, x5_47) hf _ _ _ M (lv_sub hl [0, 1, 2, 3, 4, 5, 6] rfl)
def wp_X5_nearest (n : Nat) (k1 : Nat) (a2 : Int32) (a3 : Int32) (μ : xM) (K : Int32 → xM → Prop) : Prop :=
  xlp (fun (again6 : (Int32 × Int32 × xM) → Prop) => fun (s_ : Int32 × Int32 × xM) => match s_ with | (x5_6, x4_6, m_6) => (((m_6 10 6) ≤ x5_6 → K x4_6 m_6) ∧ (¬ (m_6 10 6) ≤ x5_6 → wp_X5_apart n x5_6 k1 a2 a3 m_6 (fun (r_21 : Int32) (m_21 : xM) => wp_X5_apart n x4_6 k1 a2 a3 m_21 (fun (r_30 : Int32) (m_30 : xM) => ((r_30 ≤ r_21 → (∀ x5_40 : Int32, x5_40 = x5_6 + 1 → again6 (x5_40, x4_6, m_30))) ∧ (¬ r_30 ≤ r_21 → (∀ x5_40 : Int32, x5_40 = x5_6 + 1 → again6 (x5_40, x5_6, m_30))))))))) n ((1 : Int32), (0 : Int32), μ)
set_option maxHeartbeats 4000000 in
set_option maxRecDepth 100000 in
theorem cm_X5_nearest (l : Launch) (G : xG) (ad : Nat → Nat) (hI : xI 36 ad) (n : Nat) (k1 : Nat) (hk1 : k1 < 4) (a2 : Int32) (a3 : Int32) (μ : xM) (K : Int32 → xM → Prop) (hf : wp_X5_nearest n k1 a2 a3 μ K) : Met l yX5_nearest (Cond.code yX5_nearest cX5_nearest 6 (some .int) :: xw_all) (rmo 5 120) (va_Pc [.ref (ad 10), .ref (ad (2 + k1)), .int a2, .int a3] (xPre cS 36 G ad μ)) (xQi cS 36 G ad K) 0 0 (xR 36 ad) := by
  refine x_ent (nL := 6) (own := RX5) (by decide) rfl hI (Nat.le_of_ble_eq_true rfl) ?_
  intro p e s m args below meth c H locs ls Q X hr hlk hQ M hl
  have hx := X.1.1
  have hb := X.1.2.1
  have hown := X.1.2.2.2.1
  have hts := X.1.2.2.2.2
  have hl : lv_has ls 6 [(0, .ref (ad 10)), (1, .ref (ad (2 + k1))), (2, .int a2), (3, .int a3)] := hl
  unfold wp_X5_nearest at hf
  refine lv_iconst (v := (0 : Int32)) hx hb dX5_nearest_0 (by decide) ?_
  refine lv_istore (lv' := [(4, .int (0 : Int32)), (0, .ref (ad 10)), (1, .ref (ad (2 + k1))), (2, .int a2), (3, .int a3)]) hx hb dX5_nearest_1 hl (by decide) rfl (fun ls hl => ?_)
  refine lv_iconst (v := (1 : Int32)) hx hb dX5_nearest_3 (by decide) ?_
  refine lv_istore (lv' := [(5, .int (1 : Int32)), (4, .int (0 : Int32)), (0, .ref (ad 10)), (1, .ref (ad (2 + k1))), (2, .int a2), (3, .int a3)]) hx hb dX5_nearest_4 hl (by decide) rfl (fun ls hl => ?_)
  refine xlp_w hf (fun (s_ : Int32 × Int32 × xM) => match s_ with | (x5_6, x4_6, m_6) => ∀ (H : Heap) (locs : List Loc) (ls : Array Slot), xS cS 36 G ad s m_6 H locs → lv_has ls 6 [(5, .int x5_6), (4, .int x4_6), (0, .ref (ad 10)), (1, .ref (ad (2 + k1))), (2, .int a2), (3, .int a3)] → W p l e (rmo 5 120) s m args below meth c H locs 0 0 Q (F0 m 6 ls [])) ?_ _ _ _ M (lv_sub hl [0, 1, 2, 3, 4, 5] rfl)
  intro again6 hagain6 s_ hf
  obtain ⟨x5_6, x4_6, m_6⟩ := s_
  try dsimp only at hf ⊢
  intro H locs ls M hl
  refine lv_iload hx hb dX5_nearest_6 (lv_at hl 0 rfl) ?_
  refine lv_aload_n hx hb dX5_nearest_8 rfl (lv_at hl 2 rfl) ?_
  refine x_getI X M rgc_10 fd_X5_34 rfl dX5_nearest_9 ?_
  refine lv_icmp_ge (tgt := 46) hx hb dX5_nearest_12 (by decide) (fun c_12 => ?_) (fun c_12 => ?_)
  · replace hf := hf.1 c_12
    refine lv_iload hx hb dX5_nearest_46 (lv_at hl 1 rfl) ?_
    rw [hQ]
    exact x_iret X M hr hlk dX5_nearest_48 hf
  · replace hf := hf.2 c_12
    refine lv_aload_n hx hb dX5_nearest_15 rfl (lv_at hl 2 rfl) ?_
    refine lv_iload hx hb dX5_nearest_16 (lv_at hl 0 rfl) ?_
    refine lv_aload_n hx hb dX5_nearest_18 rfl (lv_at hl 3 rfl) ?_
    refine lv_iload_n hx hb dX5_nearest_19 rfl (lv_at hl 4 rfl) ?_
    refine lv_iload_n hx hb dX5_nearest_20 rfl (lv_at hl 5 rfl) ?_
    refine x_ci (x_rV (As := [.int x5_6, .ref (ad (2 + k1)), .int a2, .int a3]) (rest := []) X M (cm_X5_apart l G ad hI n x5_6 k1 hk1 a2 a3 m_6 _ hf) mc_X5_apart mv_X5_apart lk_X5_127 mn_X5_apart rgc_10 rfl hl ⟨⟨Nat.le_of_ble_eq_true rfl, Nat.le_of_ble_eq_true rfl⟩, rfl, Nat.le_of_ble_eq_true rfl, Nat.zero_le _, Nat.zero_le _⟩ rfl dX5_nearest_21) M (fun r_21 m_21 H locs hf M => ?_)
    try dsimp only at hf
    refine lv_aload_n hx hb dX5_nearest_24 rfl (lv_at hl 2 rfl) ?_
    refine lv_iload hx hb dX5_nearest_25 (lv_at hl 1 rfl) ?_
    refine lv_aload_n hx hb dX5_nearest_27 rfl (lv_at hl 3 rfl) ?_
    refine lv_iload_n hx hb dX5_nearest_28 rfl (lv_at hl 4 rfl) ?_
    refine lv_iload_n hx hb dX5_nearest_29 rfl (lv_at hl 5 rfl) ?_
    refine x_ci (x_rV (As := [.int x4_6, .ref (ad (2 + k1)), .int a2, .int a3]) (rest := [.int r_21]) X M (cm_X5_apart l G ad hI n x4_6 k1 hk1 a2 a3 m_21 _ hf) mc_X5_apart mv_X5_apart lk_X5_127 mn_X5_apart rgc_10 rfl hl ⟨⟨Nat.le_of_ble_eq_true rfl, Nat.le_of_ble_eq_true rfl⟩, rfl, Nat.le_of_ble_eq_true rfl, Nat.zero_le _, Nat.zero_le _⟩ rfl dX5_nearest_30) M (fun r_30 m_30 H locs hf M => ?_)
    try dsimp only at hf
    refine lv_icmp_ge (tgt := 40) hx hb dX5_nearest_33 (by decide) (fun c_33 => ?_) (fun c_33 => ?_)
    · replace hf := hf.1 c_33
      obtain ⟨x5_40, ex5_40⟩ : ∃ y : Int32, y = x5_6 + 1 := ⟨_, rfl⟩
      replace hf := hf x5_40 ex5_40
      refine lv_iinc (v := x5_40) (lv' := [(5, .int x5_40), (4, .int x4_6), (0, .ref (ad 10)), (1, .ref (ad (2 + k1))), (2, .int a2), (3, .int a3)]) hx hb dX5_nearest_40 hl (k := 0) rfl (by rw [ex5_40]; rfl) (by decide) rfl (fun ls hl => ?_)
      refine lv_goto (tgt := 6) hx hb dX5_nearest_43 (by decide) ?_
      exact hagain6 (x5_40, x4_6, m_30) hf _ _ _ M (lv_sub hl [0, 1, 2, 3, 4, 5] rfl)
    · replace hf := hf.2 c_33
      refine lv_iload hx hb dX5_nearest_36 (lv_at hl 0 rfl) ?_
      refine lv_istore (lv' := [(4, .int x5_6), (5, .int x5_6), (0, .ref (ad 10)), (1, .ref (ad (2 + k1))), (2, .int a2), (3, .int a3)]) hx hb dX5_nearest_38 hl (by decide) rfl (fun ls hl => ?_)
      obtain ⟨x5_40, ex5_40⟩ : ∃ y : Int32, y = x5_6 + 1 := ⟨_, rfl⟩
      replace hf := hf x5_40 ex5_40
      refine lv_iinc (v := x5_40) (lv' := [(5, .int x5_40), (4, .int x5_6), (0, .ref (ad 10)), (1, .ref (ad (2 + k1))), (2, .int a2), (3, .int a3)]) hx hb dX5_nearest_40 hl (k := 1) rfl (by rw [ex5_40]; rfl) (by decide) rfl (fun ls hl => ?_)
      refine lv_goto (tgt := 6) hx hb dX5_nearest_43 (by decide) ?_
      exact hagain6 (x5_40, x5_6, m_30) hf _ _ _ M (lv_sub hl [0, 1, 2, 3, 4, 5] rfl)
end
