section
-- ===== PART A: goes FIRST, ahead of the names: the tables' words, and 'selects' of the private methods out of them =====
/-- a private method of a class that the tables say can be made, by its rows of tables_1 -/
def lw_okq (q : MethodName × Nat) : Prop := (q.1.cls ≠ "java/lang/invoke/MethodHandle" ∧ q.1.cls ≠ "java/lang/invoke/VarHandle") ∧ Cond.instantiable q.1.cls q.2 ∈ tables_1 ∧ Cond.privateMethod q.1 ∈ tables_1 ∧ Cond.instanceMethod q.1 ∈ tables_1
theorem lw_p0 : lw_okq (⟨"LampPlate", "forgetActs", "()V"⟩, 8) := ⟨⟨by decide +kernel, by decide +kernel⟩, List.mem_of_getElem? (i := 14) (by decide +kernel), List.mem_of_getElem? (i := 187) (by decide +kernel), List.mem_of_getElem? (i := 188) (by decide +kernel)⟩
theorem lw_p1 : lw_okq (⟨"LampPlate", "beginAct", "(II)V"⟩, 8) := ⟨⟨by decide +kernel, by decide +kernel⟩, List.mem_of_getElem? (i := 14) (by decide +kernel), List.mem_of_getElem? (i := 211) (by decide +kernel), List.mem_of_getElem? (i := 212) (by decide +kernel)⟩
theorem lw_p2 : lw_okq (⟨"LampPlate$Board", "bitFor", "(II)I"⟩, 3) := ⟨⟨by decide +kernel, by decide +kernel⟩, List.mem_of_getElem? (i := 84) (by decide +kernel), List.mem_of_getElem? (i := 264) (by decide +kernel), List.mem_of_getElem? (i := 265) (by decide +kernel)⟩
theorem lw_p3 : lw_okq (⟨"LampPlate$Plate", "ownStepAt", "(II)I"⟩, 12) := ⟨⟨by decide +kernel, by decide +kernel⟩, List.mem_of_getElem? (i := 22) (by decide +kernel), List.mem_of_getElem? (i := 290) (by decide +kernel), List.mem_of_getElem? (i := 291) (by decide +kernel)⟩
theorem lw_p4 : lw_okq (⟨"LampPlate$Plate", "isOnLine", "(II)Z"⟩, 12) := ⟨⟨by decide +kernel, by decide +kernel⟩, List.mem_of_getElem? (i := 22) (by decide +kernel), List.mem_of_getElem? (i := 294) (by decide +kernel), List.mem_of_getElem? (i := 295) (by decide +kernel)⟩
theorem lw_p5 : lw_okq (⟨"LampPlate$Plate", "isInCross", "(II)Z"⟩, 12) := ⟨⟨by decide +kernel, by decide +kernel⟩, List.mem_of_getElem? (i := 22) (by decide +kernel), List.mem_of_getElem? (i := 298) (by decide +kernel), List.mem_of_getElem? (i := 299) (by decide +kernel)⟩
theorem lw_p6 : lw_okq (⟨"LampPlate$Plate", "turn", "(II)I"⟩, 12) := ⟨⟨by decide +kernel, by decide +kernel⟩, List.mem_of_getElem? (i := 22) (by decide +kernel), List.mem_of_getElem? (i := 305) (by decide +kernel), List.mem_of_getElem? (i := 306) (by decide +kernel)⟩
theorem lw_p7 : lw_okq (⟨"LampPlate", "freshSolver", "()LLampPlate$Solver;"⟩, 8) := ⟨⟨by decide +kernel, by decide +kernel⟩, List.mem_of_getElem? (i := 14) (by decide +kernel), List.mem_of_getElem? (i := 372) (by decide +kernel), List.mem_of_getElem? (i := 373) (by decide +kernel)⟩
theorem lw_p8 : lw_okq (⟨"LampPlate$Form", "clearColumn", "(I)I"⟩, 8) := ⟨⟨by decide +kernel, by decide +kernel⟩, List.mem_of_getElem? (i := 382) (by decide +kernel), List.mem_of_getElem? (i := 477) (by decide +kernel), List.mem_of_getElem? (i := 478) (by decide +kernel)⟩
theorem lw_p9 : lw_okq (⟨"LampPlate$Form", "multiply", "(III)Z"⟩, 8) := ⟨⟨by decide +kernel, by decide +kernel⟩, List.mem_of_getElem? (i := 382) (by decide +kernel), List.mem_of_getElem? (i := 481) (by decide +kernel), List.mem_of_getElem? (i := 482) (by decide +kernel)⟩
theorem lw_p10 : lw_okq (⟨"LampPlate$Form", "clearOne", "(III)I"⟩, 8) := ⟨⟨by decide +kernel, by decide +kernel⟩, List.mem_of_getElem? (i := 382) (by decide +kernel), List.mem_of_getElem? (i := 485) (by decide +kernel), List.mem_of_getElem? (i := 486) (by decide +kernel)⟩
theorem lw_p11 : lw_okq (⟨"LampPlate$Form", "addTimes", "([II[IIII)V"⟩, 8) := ⟨⟨by decide +kernel, by decide +kernel⟩, List.mem_of_getElem? (i := 382) (by decide +kernel), List.mem_of_getElem? (i := 492) (by decide +kernel), List.mem_of_getElem? (i := 493) (by decide +kernel)⟩
theorem lw_p12 : lw_okq (⟨"LampPlate$Form", "settle", "(II)V"⟩, 8) := ⟨⟨by decide +kernel, by decide +kernel⟩, List.mem_of_getElem? (i := 382) (by decide +kernel), List.mem_of_getElem? (i := 496) (by decide +kernel), List.mem_of_getElem? (i := 497) (by decide +kernel)⟩
theorem lw_p13 : lw_okq (⟨"LampPlate$Solver", "tellTail", "([ILLampPlate$Told;)V"⟩, 10) := ⟨⟨by decide +kernel, by decide +kernel⟩, List.mem_of_getElem? (i := 376) (by decide +kernel), List.mem_of_getElem? (i := 519) (by decide +kernel), List.mem_of_getElem? (i := 520) (by decide +kernel)⟩
theorem lw_p14 : lw_okq (⟨"LampPlate$Solver", "freshWeights", "()LLampPlate$Form;"⟩, 10) := ⟨⟨by decide +kernel, by decide +kernel⟩, List.mem_of_getElem? (i := 376) (by decide +kernel), List.mem_of_getElem? (i := 532) (by decide +kernel), List.mem_of_getElem? (i := 533) (by decide +kernel)⟩
theorem lw_p15 : lw_okq (⟨"LampPlate$Solver", "tellByLamps", "([IILLampPlate$Told;)V"⟩, 10) := ⟨⟨by decide +kernel, by decide +kernel⟩, List.mem_of_getElem? (i := 376) (by decide +kernel), List.mem_of_getElem? (i := 544) (by decide +kernel), List.mem_of_getElem? (i := 545) (by decide +kernel)⟩
def lw_privs_1 : List (MethodName × Nat) := [(⟨"LampPlate", "forgetActs", "()V"⟩, 8), (⟨"LampPlate", "beginAct", "(II)V"⟩, 8), (⟨"LampPlate$Board", "bitFor", "(II)I"⟩, 3), (⟨"LampPlate$Plate", "ownStepAt", "(II)I"⟩, 12), (⟨"LampPlate$Plate", "isOnLine", "(II)Z"⟩, 12), (⟨"LampPlate$Plate", "isInCross", "(II)Z"⟩, 12), (⟨"LampPlate$Plate", "turn", "(II)I"⟩, 12), (⟨"LampPlate", "freshSolver", "()LLampPlate$Solver;"⟩, 8), (⟨"LampPlate$Form", "clearColumn", "(I)I"⟩, 8), (⟨"LampPlate$Form", "multiply", "(III)Z"⟩, 8), (⟨"LampPlate$Form", "clearOne", "(III)I"⟩, 8), (⟨"LampPlate$Form", "addTimes", "([II[IIII)V"⟩, 8), (⟨"LampPlate$Form", "settle", "(II)V"⟩, 8), (⟨"LampPlate$Solver", "tellTail", "([ILLampPlate$Told;)V"⟩, 10), (⟨"LampPlate$Solver", "freshWeights", "()LLampPlate$Form;"⟩, 10), (⟨"LampPlate$Solver", "tellByLamps", "([IILLampPlate$Told;)V"⟩, 10)]
theorem lw_r1 : ∀ q ∈ lw_privs_1, lw_okq q := List.forall_mem_cons.mpr ⟨lw_p0, List.forall_mem_cons.mpr ⟨lw_p1, List.forall_mem_cons.mpr ⟨lw_p2, List.forall_mem_cons.mpr ⟨lw_p3, List.forall_mem_cons.mpr ⟨lw_p4, List.forall_mem_cons.mpr ⟨lw_p5, List.forall_mem_cons.mpr ⟨lw_p6, List.forall_mem_cons.mpr ⟨lw_p7, List.forall_mem_cons.mpr ⟨lw_p8, List.forall_mem_cons.mpr ⟨lw_p9, List.forall_mem_cons.mpr ⟨lw_p10, List.forall_mem_cons.mpr ⟨lw_p11, List.forall_mem_cons.mpr ⟨lw_p12, List.forall_mem_cons.mpr ⟨lw_p13, List.forall_mem_cons.mpr ⟨lw_p14, List.forall_mem_cons.mpr ⟨lw_p15, fun _ h => absurd h List.not_mem_nil⟩⟩⟩⟩⟩⟩⟩⟩⟩⟩⟩⟩⟩⟩⟩⟩
theorem lw_p16 : lw_okq (⟨"LampPlate$Solver", "freshSearch", "()LLampPlate$Search;"⟩, 10) := ⟨⟨by decide +kernel, by decide +kernel⟩, List.mem_of_getElem? (i := 376) (by decide +kernel), List.mem_of_getElem? (i := 647) (by decide +kernel), List.mem_of_getElem? (i := 648) (by decide +kernel)⟩
theorem lw_p17 : lw_okq (⟨"LampPlate$Search", "endOf", "(I)I"⟩, 12) := ⟨⟨by decide +kernel, by decide +kernel⟩, List.mem_of_getElem? (i := 651) (by decide +kernel), List.mem_of_getElem? (i := 709) (by decide +kernel), List.mem_of_getElem? (i := 710) (by decide +kernel)⟩
theorem lw_p18 : lw_okq (⟨"LampPlate$Search", "costOf", "([III)I"⟩, 12) := ⟨⟨by decide +kernel, by decide +kernel⟩, List.mem_of_getElem? (i := 651) (by decide +kernel), List.mem_of_getElem? (i := 713) (by decide +kernel), List.mem_of_getElem? (i := 714) (by decide +kernel)⟩
theorem lw_p19 : lw_okq (⟨"LampPlate$Search", "findCheapest", "([II)I"⟩, 12) := ⟨⟨by decide +kernel, by decide +kernel⟩, List.mem_of_getElem? (i := 651) (by decide +kernel), List.mem_of_getElem? (i := 717) (by decide +kernel), List.mem_of_getElem? (i := 718) (by decide +kernel)⟩
theorem lw_p20 : lw_okq (⟨"LampPlate$Search", "takeFound", "(I)V"⟩, 12) := ⟨⟨by decide +kernel, by decide +kernel⟩, List.mem_of_getElem? (i := 651) (by decide +kernel), List.mem_of_getElem? (i := 726) (by decide +kernel), List.mem_of_getElem? (i := 727) (by decide +kernel)⟩
theorem lw_p21 : lw_okq (⟨"LampPlate$Search", "takePicked", "(I)V"⟩, 12) := ⟨⟨by decide +kernel, by decide +kernel⟩, List.mem_of_getElem? (i := 651) (by decide +kernel), List.mem_of_getElem? (i := 752) (by decide +kernel), List.mem_of_getElem? (i := 753) (by decide +kernel)⟩
theorem lw_p22 : lw_okq (⟨"LampPlate$Search", "isPickedAhead", "()Z"⟩, 12) := ⟨⟨by decide +kernel, by decide +kernel⟩, List.mem_of_getElem? (i := 651) (by decide +kernel), List.mem_of_getElem? (i := 756) (by decide +kernel), List.mem_of_getElem? (i := 757) (by decide +kernel)⟩
theorem lw_p23 : lw_okq (⟨"LampPlate$Search", "pickedAt", "(I)I"⟩, 12) := ⟨⟨by decide +kernel, by decide +kernel⟩, List.mem_of_getElem? (i := 651) (by decide +kernel), List.mem_of_getElem? (i := 760) (by decide +kernel), List.mem_of_getElem? (i := 761) (by decide +kernel)⟩
theorem lw_p24 : lw_okq (⟨"LampPlate", "checkPushing", "()I"⟩, 8) := ⟨⟨by decide +kernel, by decide +kernel⟩, List.mem_of_getElem? (i := 14) (by decide +kernel), List.mem_of_getElem? (i := 797) (by decide +kernel), List.mem_of_getElem? (i := 798) (by decide +kernel)⟩
theorem lw_p25 : lw_okq (⟨"LampPlate", "checkWeights", "()I"⟩, 8) := ⟨⟨by decide +kernel, by decide +kernel⟩, List.mem_of_getElem? (i := 14) (by decide +kernel), List.mem_of_getElem? (i := 803) (by decide +kernel), List.mem_of_getElem? (i := 804) (by decide +kernel)⟩
theorem lw_p26 : lw_okq (⟨"LampPlateModel", "set", "(III)V"⟩, 25) := ⟨⟨by decide +kernel, by decide +kernel⟩, List.mem_of_getElem? (i := 812) (by decide +kernel), List.mem_of_getElem? (i := 820) (by decide +kernel), List.mem_of_getElem? (i := 821) (by decide +kernel)⟩
theorem lw_p27 : lw_okq (⟨"LampPlateModel", "buttons", "()I"⟩, 25) := ⟨⟨by decide +kernel, by decide +kernel⟩, List.mem_of_getElem? (i := 812) (by decide +kernel), List.mem_of_getElem? (i := 915) (by decide +kernel), List.mem_of_getElem? (i := 916) (by decide +kernel)⟩
theorem lw_p28 : lw_okq (⟨"LampPlateModel", "isLine", "(I)Z"⟩, 25) := ⟨⟨by decide +kernel, by decide +kernel⟩, List.mem_of_getElem? (i := 812) (by decide +kernel), List.mem_of_getElem? (i := 919) (by decide +kernel), List.mem_of_getElem? (i := 920) (by decide +kernel)⟩
theorem lw_p29 : lw_okq (⟨"LampPlateModel", "w", "()I"⟩, 25) := ⟨⟨by decide +kernel, by decide +kernel⟩, List.mem_of_getElem? (i := 812) (by decide +kernel), List.mem_of_getElem? (i := 923) (by decide +kernel), List.mem_of_getElem? (i := 924) (by decide +kernel)⟩
theorem lw_p30 : lw_okq (⟨"LampPlateModel", "n", "()I"⟩, 25) := ⟨⟨by decide +kernel, by decide +kernel⟩, List.mem_of_getElem? (i := 812) (by decide +kernel), List.mem_of_getElem? (i := 927) (by decide +kernel), List.mem_of_getElem? (i := 928) (by decide +kernel)⟩
theorem lw_p31 : lw_okq (⟨"LampPlateModel", "m", "()I"⟩, 25) := ⟨⟨by decide +kernel, by decide +kernel⟩, List.mem_of_getElem? (i := 812) (by decide +kernel), List.mem_of_getElem? (i := 931) (by decide +kernel), List.mem_of_getElem? (i := 932) (by decide +kernel)⟩
def lw_privs_2 : List (MethodName × Nat) := [(⟨"LampPlate$Solver", "freshSearch", "()LLampPlate$Search;"⟩, 10), (⟨"LampPlate$Search", "endOf", "(I)I"⟩, 12), (⟨"LampPlate$Search", "costOf", "([III)I"⟩, 12), (⟨"LampPlate$Search", "findCheapest", "([II)I"⟩, 12), (⟨"LampPlate$Search", "takeFound", "(I)V"⟩, 12), (⟨"LampPlate$Search", "takePicked", "(I)V"⟩, 12), (⟨"LampPlate$Search", "isPickedAhead", "()Z"⟩, 12), (⟨"LampPlate$Search", "pickedAt", "(I)I"⟩, 12), (⟨"LampPlate", "checkPushing", "()I"⟩, 8), (⟨"LampPlate", "checkWeights", "()I"⟩, 8), (⟨"LampPlateModel", "set", "(III)V"⟩, 25), (⟨"LampPlateModel", "buttons", "()I"⟩, 25), (⟨"LampPlateModel", "isLine", "(I)Z"⟩, 25), (⟨"LampPlateModel", "w", "()I"⟩, 25), (⟨"LampPlateModel", "n", "()I"⟩, 25), (⟨"LampPlateModel", "m", "()I"⟩, 25)]
theorem lw_r2 : ∀ q ∈ lw_privs_2, lw_okq q := List.forall_mem_cons.mpr ⟨lw_p16, List.forall_mem_cons.mpr ⟨lw_p17, List.forall_mem_cons.mpr ⟨lw_p18, List.forall_mem_cons.mpr ⟨lw_p19, List.forall_mem_cons.mpr ⟨lw_p20, List.forall_mem_cons.mpr ⟨lw_p21, List.forall_mem_cons.mpr ⟨lw_p22, List.forall_mem_cons.mpr ⟨lw_p23, List.forall_mem_cons.mpr ⟨lw_p24, List.forall_mem_cons.mpr ⟨lw_p25, List.forall_mem_cons.mpr ⟨lw_p26, List.forall_mem_cons.mpr ⟨lw_p27, List.forall_mem_cons.mpr ⟨lw_p28, List.forall_mem_cons.mpr ⟨lw_p29, List.forall_mem_cons.mpr ⟨lw_p30, List.forall_mem_cons.mpr ⟨lw_p31, fun _ h => absurd h List.not_mem_nil⟩⟩⟩⟩⟩⟩⟩⟩⟩⟩⟩⟩⟩⟩⟩⟩
theorem lw_p32 : lw_okq (⟨"LampPlateModel", "act", "()V"⟩, 25) := ⟨⟨by decide +kernel, by decide +kernel⟩, List.mem_of_getElem? (i := 812) (by decide +kernel), List.mem_of_getElem? (i := 935) (by decide +kernel), List.mem_of_getElem? (i := 936) (by decide +kernel)⟩
theorem lw_p33 : lw_okq (⟨"LampPlateModel", "isButton", "(I)Z"⟩, 25) := ⟨⟨by decide +kernel, by decide +kernel⟩, List.mem_of_getElem? (i := 812) (by decide +kernel), List.mem_of_getElem? (i := 953) (by decide +kernel), List.mem_of_getElem? (i := 954) (by decide +kernel)⟩
theorem lw_p34 : lw_okq (⟨"LampPlateModel", "told", "(I)I"⟩, 25) := ⟨⟨by decide +kernel, by decide +kernel⟩, List.mem_of_getElem? (i := 812) (by decide +kernel), List.mem_of_getElem? (i := 957) (by decide +kernel), List.mem_of_getElem? (i := 958) (by decide +kernel)⟩
theorem lw_p35 : lw_okq (⟨"LampPlateModel", "isStuck", "(I)Z"⟩, 25) := ⟨⟨by decide +kernel, by decide +kernel⟩, List.mem_of_getElem? (i := 812) (by decide +kernel), List.mem_of_getElem? (i := 977) (by decide +kernel), List.mem_of_getElem? (i := 978) (by decide +kernel)⟩
theorem lw_p36 : lw_okq (⟨"LampPlateModel", "pushed", "(II)I"⟩, 25) := ⟨⟨by decide +kernel, by decide +kernel⟩, List.mem_of_getElem? (i := 812) (by decide +kernel), List.mem_of_getElem? (i := 982) (by decide +kernel), List.mem_of_getElem? (i := 983) (by decide +kernel)⟩
theorem lw_p37 : lw_okq (⟨"LampPlateModel", "steps", "(II)I"⟩, 25) := ⟨⟨by decide +kernel, by decide +kernel⟩, List.mem_of_getElem? (i := 812) (by decide +kernel), List.mem_of_getElem? (i := 986) (by decide +kernel), List.mem_of_getElem? (i := 987) (by decide +kernel)⟩
theorem lw_p38 : lw_okq (⟨"LampPlateModel", "own", "(II)I"⟩, 25) := ⟨⟨by decide +kernel, by decide +kernel⟩, List.mem_of_getElem? (i := 812) (by decide +kernel), List.mem_of_getElem? (i := 990) (by decide +kernel), List.mem_of_getElem? (i := 991) (by decide +kernel)⟩
theorem lw_p39 : lw_okq (⟨"LampPlateModel", "cross", "(II)I"⟩, 25) := ⟨⟨by decide +kernel, by decide +kernel⟩, List.mem_of_getElem? (i := 812) (by decide +kernel), List.mem_of_getElem? (i := 994) (by decide +kernel), List.mem_of_getElem? (i := 995) (by decide +kernel)⟩
theorem lw_p40 : lw_okq (⟨"LampPlateModel", "canBe", "()Z"⟩, 25) := ⟨⟨by decide +kernel, by decide +kernel⟩, List.mem_of_getElem? (i := 812) (by decide +kernel), List.mem_of_getElem? (i := 1031) (by decide +kernel), List.mem_of_getElem? (i := 1032) (by decide +kernel)⟩
theorem lw_p41 : lw_okq (⟨"LampPlateModel", "pushings", "()V"⟩, 25) := ⟨⟨by decide +kernel, by decide +kernel⟩, List.mem_of_getElem? (i := 812) (by decide +kernel), List.mem_of_getElem? (i := 1035) (by decide +kernel), List.mem_of_getElem? (i := 1036) (by decide +kernel)⟩
theorem lw_p42 : lw_okq (⟨"LampPlateModel", "whole", "(I)V"⟩, 25) := ⟨⟨by decide +kernel, by decide +kernel⟩, List.mem_of_getElem? (i := 812) (by decide +kernel), List.mem_of_getElem? (i := 1039) (by decide +kernel), List.mem_of_getElem? (i := 1040) (by decide +kernel)⟩
theorem lw_p43 : lw_okq (⟨"LampPlateModel", "impose", "()V"⟩, 25) := ⟨⟨by decide +kernel, by decide +kernel⟩, List.mem_of_getElem? (i := 812) (by decide +kernel), List.mem_of_getElem? (i := 1043) (by decide +kernel), List.mem_of_getElem? (i := 1044) (by decide +kernel)⟩
theorem lw_p44 : lw_okq (⟨"LampPlateModel", "common", "(II)I"⟩, 25) := ⟨⟨by decide +kernel, by decide +kernel⟩, List.mem_of_getElem? (i := 812) (by decide +kernel), List.mem_of_getElem? (i := 1047) (by decide +kernel), List.mem_of_getElem? (i := 1048) (by decide +kernel)⟩
theorem lw_p45 : lw_okq (⟨"LampPlateModel", "reduce", "()V"⟩, 25) := ⟨⟨by decide +kernel, by decide +kernel⟩, List.mem_of_getElem? (i := 812) (by decide +kernel), List.mem_of_getElem? (i := 1052) (by decide +kernel), List.mem_of_getElem? (i := 1053) (by decide +kernel)⟩
theorem lw_p46 : lw_okq (⟨"LampPlateModel", "pivot", "(I)I"⟩, 25) := ⟨⟨by decide +kernel, by decide +kernel⟩, List.mem_of_getElem? (i := 812) (by decide +kernel), List.mem_of_getElem? (i := 1056) (by decide +kernel), List.mem_of_getElem? (i := 1057) (by decide +kernel)⟩
theorem lw_p47 : lw_okq (⟨"LampPlateModel", "tells", "(IZ)V"⟩, 25) := ⟨⟨by decide +kernel, by decide +kernel⟩, List.mem_of_getElem? (i := 812) (by decide +kernel), List.mem_of_getElem? (i := 1060) (by decide +kernel), List.mem_of_getElem? (i := 1061) (by decide +kernel)⟩
def lw_privs_3 : List (MethodName × Nat) := [(⟨"LampPlateModel", "act", "()V"⟩, 25), (⟨"LampPlateModel", "isButton", "(I)Z"⟩, 25), (⟨"LampPlateModel", "told", "(I)I"⟩, 25), (⟨"LampPlateModel", "isStuck", "(I)Z"⟩, 25), (⟨"LampPlateModel", "pushed", "(II)I"⟩, 25), (⟨"LampPlateModel", "steps", "(II)I"⟩, 25), (⟨"LampPlateModel", "own", "(II)I"⟩, 25), (⟨"LampPlateModel", "cross", "(II)I"⟩, 25), (⟨"LampPlateModel", "canBe", "()Z"⟩, 25), (⟨"LampPlateModel", "pushings", "()V"⟩, 25), (⟨"LampPlateModel", "whole", "(I)V"⟩, 25), (⟨"LampPlateModel", "impose", "()V"⟩, 25), (⟨"LampPlateModel", "common", "(II)I"⟩, 25), (⟨"LampPlateModel", "reduce", "()V"⟩, 25), (⟨"LampPlateModel", "pivot", "(I)I"⟩, 25), (⟨"LampPlateModel", "tells", "(IZ)V"⟩, 25)]
theorem lw_r3 : ∀ q ∈ lw_privs_3, lw_okq q := List.forall_mem_cons.mpr ⟨lw_p32, List.forall_mem_cons.mpr ⟨lw_p33, List.forall_mem_cons.mpr ⟨lw_p34, List.forall_mem_cons.mpr ⟨lw_p35, List.forall_mem_cons.mpr ⟨lw_p36, List.forall_mem_cons.mpr ⟨lw_p37, List.forall_mem_cons.mpr ⟨lw_p38, List.forall_mem_cons.mpr ⟨lw_p39, List.forall_mem_cons.mpr ⟨lw_p40, List.forall_mem_cons.mpr ⟨lw_p41, List.forall_mem_cons.mpr ⟨lw_p42, List.forall_mem_cons.mpr ⟨lw_p43, List.forall_mem_cons.mpr ⟨lw_p44, List.forall_mem_cons.mpr ⟨lw_p45, List.forall_mem_cons.mpr ⟨lw_p46, List.forall_mem_cons.mpr ⟨lw_p47, fun _ h => absurd h List.not_mem_nil⟩⟩⟩⟩⟩⟩⟩⟩⟩⟩⟩⟩⟩⟩⟩⟩
theorem lw_p48 : lw_okq (⟨"LampPlateModel", "weights", "()V"⟩, 25) := ⟨⟨by decide +kernel, by decide +kernel⟩, List.mem_of_getElem? (i := 812) (by decide +kernel), List.mem_of_getElem? (i := 1064) (by decide +kernel), List.mem_of_getElem? (i := 1065) (by decide +kernel)⟩
theorem lw_p49 : lw_okq (⟨"LampPlateModel", "isZero", "(I)Z"⟩, 25) := ⟨⟨by decide +kernel, by decide +kernel⟩, List.mem_of_getElem? (i := 812) (by decide +kernel), List.mem_of_getElem? (i := 1068) (by decide +kernel), List.mem_of_getElem? (i := 1069) (by decide +kernel)⟩
theorem lw_p50 : lw_okq (⟨"LampPlateModel", "weigh", "(I)V"⟩, 25) := ⟨⟨by decide +kernel, by decide +kernel⟩, List.mem_of_getElem? (i := 812) (by decide +kernel), List.mem_of_getElem? (i := 1072) (by decide +kernel), List.mem_of_getElem? (i := 1073) (by decide +kernel)⟩
theorem lw_p51 : lw_okq (⟨"LampPlateModel", "follows", "(I)Z"⟩, 25) := ⟨⟨by decide +kernel, by decide +kernel⟩, List.mem_of_getElem? (i := 812) (by decide +kernel), List.mem_of_getElem? (i := 1080) (by decide +kernel), List.mem_of_getElem? (i := 1081) (by decide +kernel)⟩
theorem lw_p52 : lw_okq (⟨"LampPlateModel", "lower", "(I)V"⟩, 25) := ⟨⟨by decide +kernel, by decide +kernel⟩, List.mem_of_getElem? (i := 812) (by decide +kernel), List.mem_of_getElem? (i := 1084) (by decide +kernel), List.mem_of_getElem? (i := 1085) (by decide +kernel)⟩
theorem lw_p53 : lw_okq (⟨"LampPlateModel", "left", "(II)I"⟩, 25) := ⟨⟨by decide +kernel, by decide +kernel⟩, List.mem_of_getElem? (i := 812) (by decide +kernel), List.mem_of_getElem? (i := 1096) (by decide +kernel), List.mem_of_getElem? (i := 1097) (by decide +kernel)⟩
theorem lw_p54 : lw_okq (⟨"LampPlateModel", "free", "()I"⟩, 25) := ⟨⟨by decide +kernel, by decide +kernel⟩, List.mem_of_getElem? (i := 812) (by decide +kernel), List.mem_of_getElem? (i := 1103) (by decide +kernel), List.mem_of_getElem? (i := 1104) (by decide +kernel)⟩
theorem lw_p55 : lw_okq (⟨"LampPlateModel", "quiet", "()J"⟩, 25) := ⟨⟨by decide +kernel, by decide +kernel⟩, List.mem_of_getElem? (i := 812) (by decide +kernel), List.mem_of_getElem? (i := 1121) (by decide +kernel), List.mem_of_getElem? (i := 1122) (by decide +kernel)⟩
theorem lw_p56 : lw_okq (⟨"LampPlateModel", "costOf", "()J"⟩, 25) := ⟨⟨by decide +kernel, by decide +kernel⟩, List.mem_of_getElem? (i := 812) (by decide +kernel), List.mem_of_getElem? (i := 1127) (by decide +kernel), List.mem_of_getElem? (i := 1128) (by decide +kernel)⟩
theorem lw_p57 : lw_okq (⟨"LampPlateModel", "keepsRow", "([II)V"⟩, 25) := ⟨⟨by decide +kernel, by decide +kernel⟩, List.mem_of_getElem? (i := 812) (by decide +kernel), List.mem_of_getElem? (i := 1131) (by decide +kernel), List.mem_of_getElem? (i := 1132) (by decide +kernel)⟩
theorem lw_p58 : lw_okq (⟨"LampPlateModel", "pushes", "()J"⟩, 25) := ⟨⟨by decide +kernel, by decide +kernel⟩, List.mem_of_getElem? (i := 812) (by decide +kernel), List.mem_of_getElem? (i := 1139) (by decide +kernel), List.mem_of_getElem? (i := 1140) (by decide +kernel)⟩
theorem lw_p59 : lw_okq (⟨"LampPlateModel", "pushing", "(I)V"⟩, 25) := ⟨⟨by decide +kernel, by decide +kernel⟩, List.mem_of_getElem? (i := 812) (by decide +kernel), List.mem_of_getElem? (i := 1144) (by decide +kernel), List.mem_of_getElem? (i := 1145) (by decide +kernel)⟩
theorem lw_p60 : lw_okq (⟨"LampPlateModel", "numberOf", "()I"⟩, 25) := ⟨⟨by decide +kernel, by decide +kernel⟩, List.mem_of_getElem? (i := 812) (by decide +kernel), List.mem_of_getElem? (i := 1148) (by decide +kernel), List.mem_of_getElem? (i := 1149) (by decide +kernel)⟩
theorem lw_p61 : lw_okq (⟨"LampPlateModel", "isLikeRow", "([II)Z"⟩, 25) := ⟨⟨by decide +kernel, by decide +kernel⟩, List.mem_of_getElem? (i := 812) (by decide +kernel), List.mem_of_getElem? (i := 1155) (by decide +kernel), List.mem_of_getElem? (i := 1156) (by decide +kernel)⟩
theorem lw_p62 : lw_okq (⟨"LampPlateModel", "isAhead", "()Z"⟩, 25) := ⟨⟨by decide +kernel, by decide +kernel⟩, List.mem_of_getElem? (i := 812) (by decide +kernel), List.mem_of_getElem? (i := 1159) (by decide +kernel), List.mem_of_getElem? (i := 1160) (by decide +kernel)⟩
theorem lw_p63 : lw_okq (⟨"LampPlateModel", "made", "(I)I"⟩, 25) := ⟨⟨by decide +kernel, by decide +kernel⟩, List.mem_of_getElem? (i := 812) (by decide +kernel), List.mem_of_getElem? (i := 1163) (by decide +kernel), List.mem_of_getElem? (i := 1164) (by decide +kernel)⟩
def lw_privs_4 : List (MethodName × Nat) := [(⟨"LampPlateModel", "weights", "()V"⟩, 25), (⟨"LampPlateModel", "isZero", "(I)Z"⟩, 25), (⟨"LampPlateModel", "weigh", "(I)V"⟩, 25), (⟨"LampPlateModel", "follows", "(I)Z"⟩, 25), (⟨"LampPlateModel", "lower", "(I)V"⟩, 25), (⟨"LampPlateModel", "left", "(II)I"⟩, 25), (⟨"LampPlateModel", "free", "()I"⟩, 25), (⟨"LampPlateModel", "quiet", "()J"⟩, 25), (⟨"LampPlateModel", "costOf", "()J"⟩, 25), (⟨"LampPlateModel", "keepsRow", "([II)V"⟩, 25), (⟨"LampPlateModel", "pushes", "()J"⟩, 25), (⟨"LampPlateModel", "pushing", "(I)V"⟩, 25), (⟨"LampPlateModel", "numberOf", "()I"⟩, 25), (⟨"LampPlateModel", "isLikeRow", "([II)Z"⟩, 25), (⟨"LampPlateModel", "isAhead", "()Z"⟩, 25), (⟨"LampPlateModel", "made", "(I)I"⟩, 25)]
theorem lw_r4 : ∀ q ∈ lw_privs_4, lw_okq q := List.forall_mem_cons.mpr ⟨lw_p48, List.forall_mem_cons.mpr ⟨lw_p49, List.forall_mem_cons.mpr ⟨lw_p50, List.forall_mem_cons.mpr ⟨lw_p51, List.forall_mem_cons.mpr ⟨lw_p52, List.forall_mem_cons.mpr ⟨lw_p53, List.forall_mem_cons.mpr ⟨lw_p54, List.forall_mem_cons.mpr ⟨lw_p55, List.forall_mem_cons.mpr ⟨lw_p56, List.forall_mem_cons.mpr ⟨lw_p57, List.forall_mem_cons.mpr ⟨lw_p58, List.forall_mem_cons.mpr ⟨lw_p59, List.forall_mem_cons.mpr ⟨lw_p60, List.forall_mem_cons.mpr ⟨lw_p61, List.forall_mem_cons.mpr ⟨lw_p62, List.forall_mem_cons.mpr ⟨lw_p63, fun _ h => absurd h List.not_mem_nil⟩⟩⟩⟩⟩⟩⟩⟩⟩⟩⟩⟩⟩⟩⟩⟩
theorem lw_p64 : lw_okq (⟨"LampPlateModel", "pushingWrong", "()I"⟩, 25) := ⟨⟨by decide +kernel, by decide +kernel⟩, List.mem_of_getElem? (i := 812) (by decide +kernel), List.mem_of_getElem? (i := 1180) (by decide +kernel), List.mem_of_getElem? (i := 1181) (by decide +kernel)⟩
theorem lw_p65 : lw_okq (⟨"LampPlateModel", "weightsWrong", "()I"⟩, 25) := ⟨⟨by decide +kernel, by decide +kernel⟩, List.mem_of_getElem? (i := 812) (by decide +kernel), List.mem_of_getElem? (i := 1184) (by decide +kernel), List.mem_of_getElem? (i := 1185) (by decide +kernel)⟩
def lw_privs_5 : List (MethodName × Nat) := [(⟨"LampPlateModel", "pushingWrong", "()I"⟩, 25), (⟨"LampPlateModel", "weightsWrong", "()I"⟩, 25)]
theorem lw_r5 : ∀ q ∈ lw_privs_5, lw_okq q := List.forall_mem_cons.mpr ⟨lw_p64, List.forall_mem_cons.mpr ⟨lw_p65, fun _ h => absurd h List.not_mem_nil⟩⟩
def lw_privs : List (MethodName × Nat) := lw_privs_1 ++ (lw_privs_2 ++ (lw_privs_3 ++ (lw_privs_4 ++ (lw_privs_5))))
def lw_tbl : List Cond := k2_sels lw_privs ++ tables_1
theorem lw_privs_ok : ∀ q ∈ lw_privs, lw_okq q := by
  show ∀ q ∈ lw_privs_1 ++ (lw_privs_2 ++ (lw_privs_3 ++ (lw_privs_4 ++ (lw_privs_5)))), lw_okq q
  exact List.forall_mem_append.mpr ⟨lw_r1, List.forall_mem_append.mpr ⟨lw_r2, List.forall_mem_append.mpr ⟨lw_r3, List.forall_mem_append.mpr ⟨lw_r4, lw_r5⟩⟩⟩⟩
end
section
def RX0 : String := "LampPlate$Board"
def TX0 : u_T := fun k => match k with
  | 0 => ("LampPlate$Board", "kind", "I", false)
  | 1 => ("LampPlate$Board", "size", "I", false)
  | _ => ("LampPlate$Board", "entries", "[J", true)
def tyX0 : Nat → FieldType := fun k => match k with
  | 0 => .int
  | 1 => .int
  | _ => .array .long
theorem nmX0 : ∀ a, a < 3 → ∀ b, b < 3 → a ≠ b → (TX0 a).2.1 ≠ (TX0 b).2.1 := by decide +kernel
theorem tyX0_ok : ∀ k, k < 3 → parseFieldDescriptor (TX0 k).2.2.1 = some (tyX0 k) := by decide +kernel
abbrev cX0_init : ByteArray := prog_2_method_1_code
def yX0_init : MethodName := ⟨RX0, "<init>", "()V"⟩
abbrev cX0_lay : ByteArray := prog_2_method_2_code
def yX0_lay : MethodName := ⟨RX0, "lay", "(II)V"⟩
abbrev cX0_write : ByteArray := prog_2_method_3_code
def yX0_write : MethodName := ⟨RX0, "write", "(IJ)V"⟩
abbrev cX0_stepsFor : ByteArray := prog_2_method_4_code
def yX0_stepsFor : MethodName := ⟨RX0, "stepsFor", "(II)I"⟩
abbrev cX0_bitFor : ByteArray := prog_2_method_5_code
def yX0_bitFor : MethodName := ⟨RX0, "bitFor", "(II)I"⟩
def RX1 : String := "LampPlate$Form"
def TX1 : u_T := fun k => match k with
  | 0 => ("LampPlate$Form", "colours", "I", false)
  | 1 => ("LampPlate$Form", "heads", "I", false)
  | 2 => ("LampPlate$Form", "wide", "I", false)
  | 3 => ("LampPlate$Form", "open", "I", false)
  | 4 => ("LampPlate$Form", "lead", "[I", true)
  | 5 => ("LampPlate$Form", "rows", "[I", true)
  | 6 => ("LampPlate$Form", "work", "[I", true)
  | _ => ("LampPlate$Form", "unit", "[I", true)
def tyX1 : Nat → FieldType := fun k => match k with
  | 0 => .int
  | 1 => .int
  | 2 => .int
  | 3 => .int
  | 4 => .array .int
  | 5 => .array .int
  | 6 => .array .int
  | _ => .array .int
theorem nmX1 : ∀ a, a < 8 → ∀ b, b < 8 → a ≠ b → (TX1 a).2.1 ≠ (TX1 b).2.1 := by decide +kernel
theorem tyX1_ok : ∀ k, k < 8 → parseFieldDescriptor (TX1 k).2.2.1 = some (tyX1 k) := by decide +kernel
abbrev cX1_init : ByteArray := prog_3_method_1_code
def yX1_init : MethodName := ⟨RX1, "<init>", "([I)V"⟩
abbrev cX1_begin : ByteArray := prog_3_method_2_code
def yX1_begin : MethodName := ⟨RX1, "begin", "(III)V"⟩
abbrev cX1_unitFor : ByteArray := prog_3_method_3_code
def yX1_unitFor : MethodName := ⟨RX1, "unitFor", "(II)I"⟩
abbrev cX1_gcd : ByteArray := prog_3_method_4_code
def yX1_gcd : MethodName := ⟨RX1, "gcd", "(II)I"⟩
abbrev cX1_putHead : ByteArray := prog_3_method_5_code
def yX1_putHead : MethodName := ⟨RX1, "putHead", "(III)V"⟩
abbrev cX1_build : ByteArray := prog_3_method_6_code
def yX1_build : MethodName := ⟨RX1, "build", "()V"⟩
abbrev cX1_clearColumn : ByteArray := prog_3_method_7_code
def yX1_clearColumn : MethodName := ⟨RX1, "clearColumn", "(I)I"⟩
abbrev cX1_clearOne : ByteArray := prog_3_method_8_code
def yX1_clearOne : MethodName := ⟨RX1, "clearOne", "(III)I"⟩
abbrev cX1_multiply : ByteArray := prog_3_method_9_code
def yX1_multiply : MethodName := ⟨RX1, "multiply", "(III)Z"⟩
abbrev cX1_settle : ByteArray := prog_3_method_10_code
def yX1_settle : MethodName := ⟨RX1, "settle", "(II)V"⟩
abbrev cX1_addTimes : ByteArray := prog_3_method_11_code
def yX1_addTimes : MethodName := ⟨RX1, "addTimes", "([II[IIII)V"⟩
abbrev cX1_reduce : ByteArray := prog_3_method_12_code
def yX1_reduce : MethodName := ⟨RX1, "reduce", "([IIII)V"⟩
abbrev cX1_tailOf : ByteArray := prog_3_method_13_code
def yX1_tailOf : MethodName := ⟨RX1, "tailOf", "(I)I"⟩
abbrev cX1_orderAt : ByteArray := prog_3_method_14_code
def yX1_orderAt : MethodName := ⟨RX1, "orderAt", "(I)I"⟩
abbrev cX1_addRow : ByteArray := prog_3_method_15_code
def yX1_addRow : MethodName := ⟨RX1, "addRow", "([II)V"⟩
abbrev cX1_reduceHead : ByteArray := prog_3_method_16_code
def yX1_reduceHead : MethodName := ⟨RX1, "reduceHead", "([I)Z"⟩
abbrev cX1_stepTail : ByteArray := prog_3_method_17_code
def yX1_stepTail : MethodName := ⟨RX1, "stepTail", "([I)Z"⟩
abbrev cX1_countElements : ByteArray := prog_3_method_18_code
def yX1_countElements : MethodName := ⟨RX1, "countElements", "()I"⟩
abbrev cX1_columnOfElement : ByteArray := prog_3_method_19_code
def yX1_columnOfElement : MethodName := ⟨RX1, "columnOfElement", "(I)I"⟩
def RX2 : String := "LampPlate$History"
def TX2 : u_T := fun k => match k with
  | 0 => ("LampPlate$History", "size", "I", false)
  | 1 => ("LampPlate$History", "free", "I", false)
  | 2 => ("LampPlate$History", "what", "[I", true)
  | 3 => ("LampPlate$History", "button", "[I", true)
  | _ => ("LampPlate$History", "before", "[I", true)
def tyX2 : Nat → FieldType := fun k => match k with
  | 0 => .int
  | 1 => .int
  | 2 => .array .int
  | 3 => .array .int
  | _ => .array .int
theorem nmX2 : ∀ a, a < 5 → ∀ b, b < 5 → a ≠ b → (TX2 a).2.1 ≠ (TX2 b).2.1 := by decide +kernel
theorem tyX2_ok : ∀ k, k < 5 → parseFieldDescriptor (TX2 k).2.2.1 = some (tyX2 k) := by decide +kernel
abbrev cX2_init : ByteArray := prog_4_method_1_code
def yX2_init : MethodName := ⟨RX2, "<init>", "()V"⟩
abbrev cX2_note : ByteArray := prog_4_method_2_code
def yX2_note : MethodName := ⟨RX2, "note", "(LLampPlate$Plate;II)V"⟩
abbrev cX2_takeBack : ByteArray := prog_4_method_3_code
def yX2_takeBack : MethodName := ⟨RX2, "takeBack", "(LLampPlate$Plate;)V"⟩
def RX3 : String := "LampPlate$Plate"
def TX3 : u_T := fun k => match k with
  | 0 => ("LampPlate$Plate", "lamps", "I", false)
  | 1 => ("LampPlate$Plate", "colours", "I", false)
  | 2 => ("LampPlate$Plate", "width", "I", false)
  | 3 => ("LampPlate$Plate", "buttons", "I", false)
  | 4 => ("LampPlate$Plate", "wirings", "I", false)
  | 5 => ("LampPlate$Plate", "shown", "[I", true)
  | 6 => ("LampPlate$Plate", "kind", "[I", true)
  | 7 => ("LampPlate$Plate", "place", "[I", true)
  | 8 => ("LampPlate$Plate", "add", "[I", true)
  | 9 => ("LampPlate$Plate", "other", "[I", true)
  | 10 => ("LampPlate$Plate", "price", "[I", true)
  | _ => ("LampPlate$Plate", "wired", "[I", true)
def tyX3 : Nat → FieldType := fun k => match k with
  | 0 => .int
  | 1 => .int
  | 2 => .int
  | 3 => .int
  | 4 => .int
  | 5 => .array .int
  | 6 => .array .int
  | 7 => .array .int
  | 8 => .array .int
  | 9 => .array .int
  | 10 => .array .int
  | _ => .array .int
theorem nmX3 : ∀ a, a < 12 → ∀ b, b < 12 → a ≠ b → (TX3 a).2.1 ≠ (TX3 b).2.1 := by decide +kernel
theorem tyX3_ok : ∀ k, k < 12 → parseFieldDescriptor (TX3 k).2.2.1 = some (tyX3 k) := by decide +kernel
abbrev cX3_init : ByteArray := prog_5_method_1_code
def yX3_init : MethodName := ⟨RX3, "<init>", "()V"⟩
abbrev cX3_makeNew : ByteArray := prog_5_method_2_code
def yX3_makeNew : MethodName := ⟨RX3, "makeNew", "(III)V"⟩
abbrev cX3_copyFrom : ByteArray := prog_5_method_3_code
def yX3_copyFrom : MethodName := ⟨RX3, "copyFrom", "(LLampPlate$Plate;)V"⟩
abbrev cX3_hasLamp : ByteArray := prog_5_method_4_code
def yX3_hasLamp : MethodName := ⟨RX3, "hasLamp", "(I)Z"⟩
abbrev cX3_hasButton : ByteArray := prog_5_method_5_code
def yX3_hasButton : MethodName := ⟨RX3, "hasButton", "(I)Z"⟩
abbrev cX3_takesButton : ByteArray := prog_5_method_6_code
def yX3_takesButton : MethodName := ⟨RX3, "takesButton", "(IIII)Z"⟩
abbrev cX3_hasLine : ByteArray := prog_5_method_7_code
def yX3_hasLine : MethodName := ⟨RX3, "hasLine", "(I)Z"⟩
abbrev cX3_addButton : ByteArray := prog_5_method_8_code
def yX3_addButton : MethodName := ⟨RX3, "addButton", "(IIII)I"⟩
abbrev cX3_removeLastButton : ByteArray := prog_5_method_9_code
def yX3_removeLastButton : MethodName := ⟨RX3, "removeLastButton", "()V"⟩
abbrev cX3_wireTo : ByteArray := prog_5_method_10_code
def yX3_wireTo : MethodName := ⟨RX3, "wireTo", "(ILLampPlate$Board;)I"⟩
abbrev cX3_stepAt : ByteArray := prog_5_method_11_code
def yX3_stepAt : MethodName := ⟨RX3, "stepAt", "(II)I"⟩
abbrev cX3_ownStepAt : ByteArray := prog_5_method_12_code
def yX3_ownStepAt : MethodName := ⟨RX3, "ownStepAt", "(II)I"⟩
abbrev cX3_isOnLine : ByteArray := prog_5_method_13_code
def yX3_isOnLine : MethodName := ⟨RX3, "isOnLine", "(II)Z"⟩
abbrev cX3_isInCross : ByteArray := prog_5_method_14_code
def yX3_isInCross : MethodName := ⟨RX3, "isInCross", "(II)Z"⟩
abbrev cX3_pushOne : ByteArray := prog_5_method_15_code
def yX3_pushOne : MethodName := ⟨RX3, "pushOne", "(II)I"⟩
abbrev cX3_pushAll : ByteArray := prog_5_method_16_code
def yX3_pushAll : MethodName := ⟨RX3, "pushAll", "([I)I"⟩
abbrev cX3_turn : ByteArray := prog_5_method_17_code
def yX3_turn : MethodName := ⟨RX3, "turn", "(II)I"⟩
abbrev cX3_isAllCrosses : ByteArray := prog_5_method_18_code
def yX3_isAllCrosses : MethodName := ⟨RX3, "isAllCrosses", "()Z"⟩
abbrev cX3_chaseDown : ByteArray := prog_5_method_19_code
def yX3_chaseDown : MethodName := ⟨RX3, "chaseDown", "()I"⟩
abbrev cX3_countLit : ByteArray := prog_5_method_20_code
def yX3_countLit : MethodName := ⟨RX3, "countLit", "()I"⟩
abbrev cX3_sumShown : ByteArray := prog_5_method_21_code
def yX3_sumShown : MethodName := ⟨RX3, "sumShown", "()I"⟩
abbrev cX3_allBelowColours : ByteArray := prog_5_method_22_code
def yX3_allBelowColours : MethodName := ⟨RX3, "allBelowColours", "([II)Z"⟩
abbrev cX3_isPushing : ByteArray := prog_5_method_23_code
def yX3_isPushing : MethodName := ⟨RX3, "isPushing", "([II)Z"⟩
abbrev cX3_firstStuckPushed : ByteArray := prog_5_method_24_code
def yX3_firstStuckPushed : MethodName := ⟨RX3, "firstStuckPushed", "([I)I"⟩
abbrev cX3_patternAt : ByteArray := prog_5_method_25_code
def yX3_patternAt : MethodName := ⟨RX3, "patternAt", "([II)I"⟩
abbrev cX3_weighSteps : ByteArray := prog_5_method_26_code
def yX3_weighSteps : MethodName := ⟨RX3, "weighSteps", "([II)I"⟩
abbrev cX3_weighShown : ByteArray := prog_5_method_27_code
def yX3_weighShown : MethodName := ⟨RX3, "weighShown", "([II)I"⟩
def RX4 : String := "LampPlate$Search"
def TX4 : u_T := fun k => match k with
  | 0 => ("LampPlate$Search", "form", "LLampPlate$Form;", true)
  | 1 => ("LampPlate$Search", "steps", "[I", true)
  | 2 => ("LampPlate$Search", "lamps", "I", false)
  | 3 => ("LampPlate$Search", "levels", "I", false)
  | 4 => ("LampPlate$Search", "columnOf", "[I", true)
  | 5 => ("LampPlate$Search", "price", "[I", true)
  | 6 => ("LampPlate$Search", "vector", "[I", true)
  | 7 => ("LampPlate$Search", "best", "I", false)
  | 8 => ("LampPlate$Search", "found", "[I", true)
  | 9 => ("LampPlate$Search", "picked", "[I", true)
  | 10 => ("LampPlate$Search", "greatest", "I", false)
  | _ => ("LampPlate$Search", "hardest", "[I", true)
def tyX4 : Nat → FieldType := fun k => match k with
  | 0 => .object "LampPlate$Form"
  | 1 => .array .int
  | 2 => .int
  | 3 => .int
  | 4 => .array .int
  | 5 => .array .int
  | 6 => .array .int
  | 7 => .int
  | 8 => .array .int
  | 9 => .array .int
  | 10 => .int
  | _ => .array .int
theorem nmX4 : ∀ a, a < 12 → ∀ b, b < 12 → a ≠ b → (TX4 a).2.1 ≠ (TX4 b).2.1 := by decide +kernel
theorem tyX4_ok : ∀ k, k < 12 → parseFieldDescriptor (TX4 k).2.2.1 = some (tyX4 k) := by decide +kernel
abbrev cX4_init : ByteArray := prog_6_method_1_code
def yX4_init : MethodName := ⟨RX4, "<init>", "(LLampPlate$Form;[I)V"⟩
abbrev cX4_begin : ByteArray := prog_6_method_2_code
def yX4_begin : MethodName := ⟨RX4, "begin", "(I)V"⟩
abbrev cX4_putPrice : ByteArray := prog_6_method_3_code
def yX4_putPrice : MethodName := ⟨RX4, "putPrice", "(II)V"⟩
abbrev cX4_findCheapest : ByteArray := prog_6_method_4_code
def yX4_findCheapest : MethodName := ⟨RX4, "findCheapest", "([II)I"⟩
abbrev cX4_findCheapestFor : ByteArray := prog_6_method_5_code
def yX4_findCheapestFor : MethodName := ⟨RX4, "findCheapestFor", "([I)I"⟩
abbrev cX4_endOf : ByteArray := prog_6_method_6_code
def yX4_endOf : MethodName := ⟨RX4, "endOf", "(I)I"⟩
abbrev cX4_costOf : ByteArray := prog_6_method_7_code
def yX4_costOf : MethodName := ⟨RX4, "costOf", "([III)I"⟩
abbrev cX4_explore : ByteArray := prog_6_method_8_code
def yX4_explore : MethodName := ⟨RX4, "explore", "(LLampPlate$Search;II)V"⟩
abbrev cX4_takeFound : ByteArray := prog_6_method_9_code
def yX4_takeFound : MethodName := ⟨RX4, "takeFound", "(I)V"⟩
abbrev cX4_findHardest : ByteArray := prog_6_method_10_code
def yX4_findHardest : MethodName := ⟨RX4, "findHardest", "()V"⟩
abbrev cX4_pickFrom : ByteArray := prog_6_method_11_code
def yX4_pickFrom : MethodName := ⟨RX4, "pickFrom", "(LLampPlate$Search;II)V"⟩
abbrev cX4_takePicked : ByteArray := prog_6_method_12_code
def yX4_takePicked : MethodName := ⟨RX4, "takePicked", "(I)V"⟩
abbrev cX4_isPickedAhead : ByteArray := prog_6_method_13_code
def yX4_isPickedAhead : MethodName := ⟨RX4, "isPickedAhead", "()Z"⟩
abbrev cX4_pickedAt : ByteArray := prog_6_method_14_code
def yX4_pickedAt : MethodName := ⟨RX4, "pickedAt", "(I)I"⟩
def RX5 : String := "LampPlate$Solver"
def TX5 : u_T := fun k => match k with
  | 0 => ("LampPlate$Solver", "plate", "LLampPlate$Plate;", true)
  | 1 => ("LampPlate$Solver", "stepsAt", "I", false)
  | 2 => ("LampPlate$Solver", "weightsAt", "I", false)
  | 3 => ("LampPlate$Solver", "quiet", "LLampPlate$Form;", true)
  | 4 => ("LampPlate$Solver", "weights", "LLampPlate$Form;", false)
  | 5 => ("LampPlate$Solver", "search", "LLampPlate$Search;", false)
  | 6 => ("LampPlate$Solver", "free", "I", false)
  | 7 => ("LampPlate$Solver", "buttonOf", "[I", true)
  | 8 => ("LampPlate$Solver", "steps", "[I", true)
  | _ => ("LampPlate$Solver", "vector", "[I", true)
def tyX5 : Nat → FieldType := fun k => match k with
  | 0 => .object "LampPlate$Plate"
  | 1 => .int
  | 2 => .int
  | 3 => .object "LampPlate$Form"
  | 4 => .object "LampPlate$Form"
  | 5 => .object "LampPlate$Search"
  | 6 => .int
  | 7 => .array .int
  | 8 => .array .int
  | _ => .array .int
theorem nmX5 : ∀ a, a < 10 → ∀ b, b < 10 → a ≠ b → (TX5 a).2.1 ≠ (TX5 b).2.1 := by decide +kernel
theorem tyX5_ok : ∀ k, k < 10 → parseFieldDescriptor (TX5 k).2.2.1 = some (tyX5 k) := by decide +kernel
abbrev cX5_init : ByteArray := prog_7_method_1_code
def yX5_init : MethodName := ⟨RX5, "<init>", "(LLampPlate$Plate;)V"⟩
abbrev cX5_refresh : ByteArray := prog_7_method_2_code
def yX5_refresh : MethodName := ⟨RX5, "refresh", "()V"⟩
abbrev cX5_freshWeights : ByteArray := prog_7_method_3_code
def yX5_freshWeights : MethodName := ⟨RX5, "freshWeights", "()LLampPlate$Form;"⟩
abbrev cX5_countQuiet : ByteArray := prog_7_method_4_code
def yX5_countQuiet : MethodName := ⟨RX5, "countQuiet", "()I"⟩
abbrev cX5_countWeights : ByteArray := prog_7_method_5_code
def yX5_countWeights : MethodName := ⟨RX5, "countWeights", "()I"⟩
abbrev cX5_solve : ByteArray := prog_7_method_6_code
def yX5_solve : MethodName := ⟨RX5, "solve", "()Z"⟩
abbrev cX5_tellPushing : ByteArray := prog_7_method_7_code
def yX5_tellPushing : MethodName := ⟨RX5, "tellPushing", "(LLampPlate$Told;)V"⟩
abbrev cX5_tellTail : ByteArray := prog_7_method_8_code
def yX5_tellTail : MethodName := ⟨RX5, "tellTail", "([ILLampPlate$Told;)V"⟩
abbrev cX5_goOn : ByteArray := prog_7_method_9_code
def yX5_goOn : MethodName := ⟨RX5, "goOn", "(LLampPlate$Told;)Z"⟩
abbrev cX5_tellWhy : ByteArray := prog_7_method_10_code
def yX5_tellWhy : MethodName := ⟨RX5, "tellWhy", "(LLampPlate$Told;)V"⟩
abbrev cX5_tellByLamps : ByteArray := prog_7_method_11_code
def yX5_tellByLamps : MethodName := ⟨RX5, "tellByLamps", "([IILLampPlate$Told;)V"⟩
abbrev cX5_tellQuiet : ByteArray := prog_7_method_12_code
def yX5_tellQuiet : MethodName := ⟨RX5, "tellQuiet", "(ILLampPlate$Told;)Z"⟩
abbrev cX5_tellWeights : ByteArray := prog_7_method_13_code
def yX5_tellWeights : MethodName := ⟨RX5, "tellWeights", "(ILLampPlate$Told;)Z"⟩
abbrev cX5_primesOfAll : ByteArray := prog_7_method_14_code
def yX5_primesOfAll : MethodName := ⟨RX5, "primesOfAll", "(I)I"⟩
abbrev cX5_primesOfQuiet : ByteArray := prog_7_method_15_code
def yX5_primesOfQuiet : MethodName := ⟨RX5, "primesOfQuiet", "(I)I"⟩
abbrev cX5_primesOfPatterns : ByteArray := prog_7_method_16_code
def yX5_primesOfPatterns : MethodName := ⟨RX5, "primesOfPatterns", "(I)I"⟩
abbrev cX5_primesOfWeights : ByteArray := prog_7_method_17_code
def yX5_primesOfWeights : MethodName := ⟨RX5, "primesOfWeights", "(I)I"⟩
abbrev cX5_howOften : ByteArray := prog_7_method_18_code
def yX5_howOften : MethodName := ⟨RX5, "howOften", "(II)I"⟩
abbrev cX5_hasManyQuiet : ByteArray := prog_7_method_19_code
def yX5_hasManyQuiet : MethodName := ⟨RX5, "hasManyQuiet", "()Z"⟩
abbrev cX5_hasManyPushings : ByteArray := prog_7_method_20_code
def yX5_hasManyPushings : MethodName := ⟨RX5, "hasManyPushings", "()Z"⟩
abbrev cX5_freshSearch : ByteArray := prog_7_method_21_code
def yX5_freshSearch : MethodName := ⟨RX5, "freshSearch", "()LLampPlate$Search;"⟩
abbrev cX5_tellLeast : ByteArray := prog_7_method_22_code
def yX5_tellLeast : MethodName := ⟨RX5, "tellLeast", "(LLampPlate$Told;)I"⟩
abbrev cX5_tellWorst : ByteArray := prog_7_method_23_code
def yX5_tellWorst : MethodName := ⟨RX5, "tellWorst", "(LLampPlate$Told;)I"⟩
def RX6 : String := "LampPlate$Told"
def TX6 : u_T := fun k => match k with
  | 0 => ("LampPlate$Told", "kind", "I", false)
  | 1 => ("LampPlate$Told", "size", "I", false)
  | 2 => ("LampPlate$Told", "goesOn", "Z", false)
  | _ => ("LampPlate$Told", "numbers", "[I", true)
def tyX6 : Nat → FieldType := fun k => match k with
  | 0 => .int
  | 1 => .int
  | 2 => .boolean
  | _ => .array .int
theorem nmX6 : ∀ a, a < 4 → ∀ b, b < 4 → a ≠ b → (TX6 a).2.1 ≠ (TX6 b).2.1 := by decide +kernel
theorem tyX6_ok : ∀ k, k < 4 → parseFieldDescriptor (TX6 k).2.2.1 = some (tyX6 k) := by decide +kernel
abbrev cX6_init : ByteArray := prog_8_method_1_code
def yX6_init : MethodName := ⟨RX6, "<init>", "()V"⟩
abbrev cX6_begin : ByteArray := prog_8_method_2_code
def yX6_begin : MethodName := ⟨RX6, "begin", "(II)V"⟩
def RX7 : String := "LampPlate"
def TX7 : u_T := fun k => match k with
  | 0 => ("LampPlate", "plate", "LLampPlate$Plate;", true)
  | 1 => ("LampPlate", "board", "LLampPlate$Board;", true)
  | 2 => ("LampPlate", "history", "LLampPlate$History;", true)
  | 3 => ("LampPlate", "told", "LLampPlate$Told;", true)
  | 4 => ("LampPlate", "list", "[I", true)
  | 5 => ("LampPlate", "listed", "I", false)
  | 6 => ("LampPlate", "kept", "LLampPlate$Plate;", false)
  | _ => ("LampPlate", "solver", "LLampPlate$Solver;", false)
def tyX7 : Nat → FieldType := fun k => match k with
  | 0 => .object "LampPlate$Plate"
  | 1 => .object "LampPlate$Board"
  | 2 => .object "LampPlate$History"
  | 3 => .object "LampPlate$Told"
  | 4 => .array .int
  | 5 => .int
  | 6 => .object "LampPlate$Plate"
  | _ => .object "LampPlate$Solver"
theorem nmX7 : ∀ a, a < 8 → ∀ b, b < 8 → a ≠ b → (TX7 a).2.1 ≠ (TX7 b).2.1 := by decide +kernel
theorem tyX7_ok : ∀ k, k < 8 → parseFieldDescriptor (TX7 k).2.2.1 = some (tyX7 k) := by decide +kernel
abbrev cX7_init : ByteArray := prog_1_method_1_code
def yX7_init : MethodName := ⟨RX7, "<init>", "()V"⟩
abbrev cX7_plate : ByteArray := prog_1_method_2_code
def yX7_plate : MethodName := ⟨RX7, "plate", "(III)Z"⟩
abbrev cX7_button : ByteArray := prog_1_method_3_code
def yX7_button : MethodName := ⟨RX7, "button", "(IIII)I"⟩
abbrev cX7_board : ByteArray := prog_1_method_4_code
def yX7_board : MethodName := ⟨RX7, "board", "(II)Z"⟩
abbrev cX7_entry : ByteArray := prog_1_method_5_code
def yX7_entry : MethodName := ⟨RX7, "entry", "(IJ)Z"⟩
abbrev cX7_wire : ByteArray := prog_1_method_6_code
def yX7_wire : MethodName := ⟨RX7, "wire", "(I)I"⟩
abbrev cX7_cost : ByteArray := prog_1_method_7_code
def yX7_cost : MethodName := ⟨RX7, "cost", "(II)I"⟩
abbrev cX7_light : ByteArray := prog_1_method_8_code
def yX7_light : MethodName := ⟨RX7, "light", "(II)I"⟩
abbrev cX7_push : ByteArray := prog_1_method_9_code
def yX7_push : MethodName := ⟨RX7, "push", "(II)I"⟩
abbrev cX7_chase : ByteArray := prog_1_method_10_code
def yX7_chase : MethodName := ⟨RX7, "chase", "()I"⟩
abbrev cX7_undo : ByteArray := prog_1_method_11_code
def yX7_undo : MethodName := ⟨RX7, "undo", "()I"⟩
abbrev cX7_keep : ByteArray := prog_1_method_12_code
def yX7_keep : MethodName := ⟨RX7, "keep", "()Z"⟩
abbrev cX7_back : ByteArray := prog_1_method_13_code
def yX7_back : MethodName := ⟨RX7, "back", "()Z"⟩
abbrev cX7_count : ByteArray := prog_1_method_14_code
def yX7_count : MethodName := ⟨RX7, "count", "(I)I"⟩
abbrev cX7_shown : ByteArray := prog_1_method_15_code
def yX7_shown : MethodName := ⟨RX7, "shown", "(I)I"⟩
abbrev cX7_step : ByteArray := prog_1_method_16_code
def yX7_step : MethodName := ⟨RX7, "step", "(II)I"⟩
abbrev cX7_can : ByteArray := prog_1_method_17_code
def yX7_can : MethodName := ⟨RX7, "can", "()I"⟩
abbrev cX7_next : ByteArray := prog_1_method_18_code
def yX7_next : MethodName := ⟨RX7, "next", "()I"⟩
abbrev cX7_row : ByteArray := prog_1_method_19_code
def yX7_row : MethodName := ⟨RX7, "row", "(I)I"⟩
abbrev cX7_primes : ByteArray := prog_1_method_20_code
def yX7_primes : MethodName := ⟨RX7, "primes", "(II)I"⟩
abbrev cX7_base : ByteArray := prog_1_method_21_code
def yX7_base : MethodName := ⟨RX7, "base", "(I)I"⟩
abbrev cX7_element : ByteArray := prog_1_method_22_code
def yX7_element : MethodName := ⟨RX7, "element", "(II)I"⟩
abbrev cX7_least : ByteArray := prog_1_method_23_code
def yX7_least : MethodName := ⟨RX7, "least", "()J"⟩
abbrev cX7_worst : ByteArray := prog_1_method_24_code
def yX7_worst : MethodName := ⟨RX7, "worst", "()J"⟩
abbrev cX7_apply : ByteArray := prog_1_method_25_code
def yX7_apply : MethodName := ⟨RX7, "apply", "()I"⟩
abbrev cX7_tell : ByteArray := prog_1_method_26_code
def yX7_tell : MethodName := ⟨RX7, "tell", "(I)I"⟩
abbrev cX7_check : ByteArray := prog_1_method_27_code
def yX7_check : MethodName := ⟨RX7, "check", "(I)I"⟩
abbrev cX7_checkPushing : ByteArray := prog_1_method_28_code
def yX7_checkPushing : MethodName := ⟨RX7, "checkPushing", "()I"⟩
abbrev cX7_checkWeights : ByteArray := prog_1_method_29_code
def yX7_checkWeights : MethodName := ⟨RX7, "checkWeights", "()I"⟩
abbrev cX7_beginAct : ByteArray := prog_1_method_30_code
def yX7_beginAct : MethodName := ⟨RX7, "beginAct", "(II)V"⟩
abbrev cX7_forgetActs : ByteArray := prog_1_method_31_code
def yX7_forgetActs : MethodName := ⟨RX7, "forgetActs", "()V"⟩
abbrev cX7_freshSolver : ByteArray := prog_1_method_32_code
def yX7_freshSolver : MethodName := ⟨RX7, "freshSolver", "()LLampPlate$Solver;"⟩
def RX8 : String := "LampPlateModel"
def TX8 : u_T := fun k => match k with
  | 0 => ("LampPlateModel", "s", "[I", true)
  | 1 => ("LampPlateModel", "kept", "[I", true)
  | 2 => ("LampPlateModel", "hasKept", "Z", false)
  | 3 => ("LampPlateModel", "before", "[I", true)
  | 4 => ("LampPlateModel", "newest", "I", false)
  | 5 => ("LampPlateModel", "undoable", "I", false)
  | 6 => ("LampPlateModel", "board", "I", false)
  | 7 => ("LampPlateModel", "entries", "I", false)
  | 8 => ("LampPlateModel", "entry", "[J", true)
  | 9 => ("LampPlateModel", "v", "[I", true)
  | 10 => ("LampPlateModel", "dims", "I", false)
  | 11 => ("LampPlateModel", "f", "[I", true)
  | 12 => ("LampPlateModel", "u", "[I", true)
  | 13 => ("LampPlateModel", "old", "[I", true)
  | 14 => ("LampPlateModel", "times1", "I", false)
  | 15 => ("LampPlateModel", "times2", "I", false)
  | 16 => ("LampPlateModel", "row", "[I", true)
  | 17 => ("LampPlateModel", "rowLong", "I", false)
  | 18 => ("LampPlateModel", "isPushing", "Z", false)
  | 19 => ("LampPlateModel", "goesOn", "Z", false)
  | 20 => ("LampPlateModel", "best", "[I", true)
  | 21 => ("LampPlateModel", "wasRow", "[I", true)
  | 22 => ("LampPlateModel", "leastOf", "[J", true)
  | 23 => ("LampPlateModel", "list", "[I", true)
  | _ => ("LampPlateModel", "listed", "I", false)
def tyX8 : Nat → FieldType := fun k => match k with
  | 0 => .array .int
  | 1 => .array .int
  | 2 => .boolean
  | 3 => .array .int
  | 4 => .int
  | 5 => .int
  | 6 => .int
  | 7 => .int
  | 8 => .array .long
  | 9 => .array .int
  | 10 => .int
  | 11 => .array .int
  | 12 => .array .int
  | 13 => .array .int
  | 14 => .int
  | 15 => .int
  | 16 => .array .int
  | 17 => .int
  | 18 => .boolean
  | 19 => .boolean
  | 20 => .array .int
  | 21 => .array .int
  | 22 => .array .long
  | 23 => .array .int
  | _ => .int
theorem nmX8 : ∀ a, a < 25 → ∀ b, b < 25 → a ≠ b → (TX8 a).2.1 ≠ (TX8 b).2.1 := by decide +kernel
theorem tyX8_ok : ∀ k, k < 25 → parseFieldDescriptor (TX8 k).2.2.1 = some (tyX8 k) := by decide +kernel
abbrev cX8_init : ByteArray := prog_10_method_1_code
def yX8_init : MethodName := ⟨RX8, "<init>", "()V"⟩
abbrev cX8_in : ByteArray := prog_10_method_2_code
def yX8_in : MethodName := ⟨RX8, "in", "(JJJ)Z"⟩
abbrev cX8_set : ByteArray := prog_10_method_3_code
def yX8_set : MethodName := ⟨RX8, "set", "(III)V"⟩
abbrev cX8_n : ByteArray := prog_10_method_4_code
def yX8_n : MethodName := ⟨RX8, "n", "()I"⟩
abbrev cX8_m : ByteArray := prog_10_method_5_code
def yX8_m : MethodName := ⟨RX8, "m", "()I"⟩
abbrev cX8_w : ByteArray := prog_10_method_6_code
def yX8_w : MethodName := ⟨RX8, "w", "()I"⟩
abbrev cX8_buttons : ByteArray := prog_10_method_7_code
def yX8_buttons : MethodName := ⟨RX8, "buttons", "()I"⟩
abbrev cX8_plate : ByteArray := prog_10_method_8_code
def yX8_plate : MethodName := ⟨RX8, "plate", "(III)Z"⟩
abbrev cX8_act : ByteArray := prog_10_method_9_code
def yX8_act : MethodName := ⟨RX8, "act", "()V"⟩
abbrev cX8_isLine : ByteArray := prog_10_method_10_code
def yX8_isLine : MethodName := ⟨RX8, "isLine", "(I)Z"⟩
abbrev cX8_button : ByteArray := prog_10_method_11_code
def yX8_button : MethodName := ⟨RX8, "button", "(IIII)I"⟩
abbrev cX8_board : ByteArray := prog_10_method_12_code
def yX8_board : MethodName := ⟨RX8, "board", "(II)Z"⟩
abbrev cX8_entry : ByteArray := prog_10_method_13_code
def yX8_entry : MethodName := ⟨RX8, "entry", "(IJ)Z"⟩
abbrev cX8_told : ByteArray := prog_10_method_14_code
def yX8_told : MethodName := ⟨RX8, "told", "(I)I"⟩
abbrev cX8_isButton : ByteArray := prog_10_method_15_code
def yX8_isButton : MethodName := ⟨RX8, "isButton", "(I)Z"⟩
abbrev cX8_wire : ByteArray := prog_10_method_16_code
def yX8_wire : MethodName := ⟨RX8, "wire", "(I)I"⟩
abbrev cX8_cost : ByteArray := prog_10_method_17_code
def yX8_cost : MethodName := ⟨RX8, "cost", "(II)I"⟩
abbrev cX8_light : ByteArray := prog_10_method_18_code
def yX8_light : MethodName := ⟨RX8, "light", "(II)I"⟩
abbrev cX8_cross : ByteArray := prog_10_method_19_code
def yX8_cross : MethodName := ⟨RX8, "cross", "(II)I"⟩
abbrev cX8_own : ByteArray := prog_10_method_20_code
def yX8_own : MethodName := ⟨RX8, "own", "(II)I"⟩
abbrev cX8_steps : ByteArray := prog_10_method_21_code
def yX8_steps : MethodName := ⟨RX8, "steps", "(II)I"⟩
abbrev cX8_isStuck : ByteArray := prog_10_method_22_code
def yX8_isStuck : MethodName := ⟨RX8, "isStuck", "(I)Z"⟩
abbrev cX8_pushed : ByteArray := prog_10_method_23_code
def yX8_pushed : MethodName := ⟨RX8, "pushed", "(II)I"⟩
abbrev cX8_push : ByteArray := prog_10_method_24_code
def yX8_push : MethodName := ⟨RX8, "push", "(II)I"⟩
abbrev cX8_chase : ByteArray := prog_10_method_25_code
def yX8_chase : MethodName := ⟨RX8, "chase", "()I"⟩
abbrev cX8_undo : ByteArray := prog_10_method_26_code
def yX8_undo : MethodName := ⟨RX8, "undo", "()I"⟩
abbrev cX8_keep : ByteArray := prog_10_method_27_code
def yX8_keep : MethodName := ⟨RX8, "keep", "()Z"⟩
abbrev cX8_back : ByteArray := prog_10_method_28_code
def yX8_back : MethodName := ⟨RX8, "back", "()Z"⟩
abbrev cX8_count : ByteArray := prog_10_method_29_code
def yX8_count : MethodName := ⟨RX8, "count", "(I)I"⟩
abbrev cX8_shown : ByteArray := prog_10_method_30_code
def yX8_shown : MethodName := ⟨RX8, "shown", "(I)I"⟩
abbrev cX8_step : ByteArray := prog_10_method_31_code
def yX8_step : MethodName := ⟨RX8, "step", "(II)I"⟩
abbrev cX8_whole : ByteArray := prog_10_method_32_code
def yX8_whole : MethodName := ⟨RX8, "whole", "(I)V"⟩
abbrev cX8_common : ByteArray := prog_10_method_33_code
def yX8_common : MethodName := ⟨RX8, "common", "(II)I"⟩
abbrev cX8_impose : ByteArray := prog_10_method_34_code
def yX8_impose : MethodName := ⟨RX8, "impose", "()V"⟩
abbrev cX8_reduce : ByteArray := prog_10_method_35_code
def yX8_reduce : MethodName := ⟨RX8, "reduce", "()V"⟩
abbrev cX8_pivot : ByteArray := prog_10_method_36_code
def yX8_pivot : MethodName := ⟨RX8, "pivot", "(I)I"⟩
abbrev cX8_pushings : ByteArray := prog_10_method_37_code
def yX8_pushings : MethodName := ⟨RX8, "pushings", "()V"⟩
abbrev cX8_weights : ByteArray := prog_10_method_38_code
def yX8_weights : MethodName := ⟨RX8, "weights", "()V"⟩
abbrev cX8_tells : ByteArray := prog_10_method_39_code
def yX8_tells : MethodName := ⟨RX8, "tells", "(IZ)V"⟩
abbrev cX8_canBe : ByteArray := prog_10_method_40_code
def yX8_canBe : MethodName := ⟨RX8, "canBe", "()Z"⟩
abbrev cX8_can : ByteArray := prog_10_method_41_code
def yX8_can : MethodName := ⟨RX8, "can", "()I"⟩
abbrev cX8_isZero : ByteArray := prog_10_method_42_code
def yX8_isZero : MethodName := ⟨RX8, "isZero", "(I)Z"⟩
abbrev cX8_weigh : ByteArray := prog_10_method_43_code
def yX8_weigh : MethodName := ⟨RX8, "weigh", "(I)V"⟩
abbrev cX8_next : ByteArray := prog_10_method_44_code
def yX8_next : MethodName := ⟨RX8, "next", "()I"⟩
abbrev cX8_follows : ByteArray := prog_10_method_45_code
def yX8_follows : MethodName := ⟨RX8, "follows", "(I)Z"⟩
abbrev cX8_lower : ByteArray := prog_10_method_46_code
def yX8_lower : MethodName := ⟨RX8, "lower", "(I)V"⟩
abbrev cX8_row : ByteArray := prog_10_method_47_code
def yX8_row : MethodName := ⟨RX8, "row", "(I)I"⟩
abbrev cX8_often : ByteArray := prog_10_method_48_code
def yX8_often : MethodName := ⟨RX8, "often", "(II)I"⟩
abbrev cX8_free : ByteArray := prog_10_method_49_code
def yX8_free : MethodName := ⟨RX8, "free", "()I"⟩
abbrev cX8_left : ByteArray := prog_10_method_50_code
def yX8_left : MethodName := ⟨RX8, "left", "(II)I"⟩
abbrev cX8_primes : ByteArray := prog_10_method_51_code
def yX8_primes : MethodName := ⟨RX8, "primes", "(II)I"⟩
abbrev cX8_base : ByteArray := prog_10_method_52_code
def yX8_base : MethodName := ⟨RX8, "base", "(I)I"⟩
abbrev cX8_element : ByteArray := prog_10_method_53_code
def yX8_element : MethodName := ⟨RX8, "element", "(II)I"⟩
abbrev cX8_costOf : ByteArray := prog_10_method_54_code
def yX8_costOf : MethodName := ⟨RX8, "costOf", "()J"⟩
abbrev cX8_quiet : ByteArray := prog_10_method_55_code
def yX8_quiet : MethodName := ⟨RX8, "quiet", "()J"⟩
abbrev cX8_least : ByteArray := prog_10_method_56_code
def yX8_least : MethodName := ⟨RX8, "least", "()J"⟩
abbrev cX8_keepsRow : ByteArray := prog_10_method_57_code
def yX8_keepsRow : MethodName := ⟨RX8, "keepsRow", "([II)V"⟩
abbrev cX8_pushes : ByteArray := prog_10_method_58_code
def yX8_pushes : MethodName := ⟨RX8, "pushes", "()J"⟩
abbrev cX8_numberOf : ByteArray := prog_10_method_59_code
def yX8_numberOf : MethodName := ⟨RX8, "numberOf", "()I"⟩
abbrev cX8_pushing : ByteArray := prog_10_method_60_code
def yX8_pushing : MethodName := ⟨RX8, "pushing", "(I)V"⟩
abbrev cX8_worst : ByteArray := prog_10_method_61_code
def yX8_worst : MethodName := ⟨RX8, "worst", "()J"⟩
abbrev cX8_isLikeRow : ByteArray := prog_10_method_62_code
def yX8_isLikeRow : MethodName := ⟨RX8, "isLikeRow", "([II)Z"⟩
abbrev cX8_made : ByteArray := prog_10_method_63_code
def yX8_made : MethodName := ⟨RX8, "made", "(I)I"⟩
abbrev cX8_isAhead : ByteArray := prog_10_method_64_code
def yX8_isAhead : MethodName := ⟨RX8, "isAhead", "()Z"⟩
abbrev cX8_apply : ByteArray := prog_10_method_65_code
def yX8_apply : MethodName := ⟨RX8, "apply", "()I"⟩
abbrev cX8_tell : ByteArray := prog_10_method_66_code
def yX8_tell : MethodName := ⟨RX8, "tell", "(I)I"⟩
abbrev cX8_check : ByteArray := prog_10_method_67_code
def yX8_check : MethodName := ⟨RX8, "check", "(I)I"⟩
abbrev cX8_pushingWrong : ByteArray := prog_10_method_68_code
def yX8_pushingWrong : MethodName := ⟨RX8, "pushingWrong", "()I"⟩
abbrev cX8_weightsWrong : ByteArray := prog_10_method_69_code
def yX8_weightsWrong : MethodName := ⟨RX8, "weightsWrong", "()I"⟩
def RJ9 : String := "java/lang/Math"
def TJ9 : u_T := fun k => match k with
  | _ => ("", "", "", false)
def tyJ9 : Nat → FieldType := fun k => match k with
  | _ => .int
theorem nmJ9 : ∀ a, a < 0 → ∀ b, b < 0 → a ≠ b → (TJ9 a).2.1 ≠ (TJ9 b).2.1 := by decide +kernel
theorem tyJ9_ok : ∀ k, k < 0 → parseFieldDescriptor (TJ9 k).2.2.1 = some (tyJ9 k) := by decide +kernel
abbrev cJ9_floorMod_7cf53 : ByteArray := prog_11_method_50_code
def yJ9_floorMod_7cf53 : MethodName := ⟨RJ9, "floorMod", "(II)I"⟩
abbrev cJ9_floorMod_f86c9 : ByteArray := prog_11_method_52_code
def yJ9_floorMod_f86c9 : MethodName := ⟨RJ9, "floorMod", "(JJ)J"⟩
abbrev cJ9_abs_0f7a4 : ByteArray := prog_11_method_59_code
def yJ9_abs_0f7a4 : MethodName := ⟨RJ9, "abs", "(I)I"⟩
abbrev cJ9_max_7cf53 : ByteArray := prog_11_method_65_code
def yJ9_max_7cf53 : MethodName := ⟨RJ9, "max", "(II)I"⟩
abbrev cJ9_min_7cf53 : ByteArray := prog_11_method_69_code
def yJ9_min_7cf53 : MethodName := ⟨RJ9, "min", "(II)I"⟩
abbrev cJ9_min_f86c9 : ByteArray := prog_11_method_70_code
def yJ9_min_f86c9 : MethodName := ⟨RJ9, "min", "(JJ)J"⟩
def RJ10 : String := "java/lang/System"
def TJ10 : u_T := fun k => match k with
  | _ => ("", "", "", false)
def tyJ10 : Nat → FieldType := fun k => match k with
  | _ => .int
theorem nmJ10 : ∀ a, a < 0 → ∀ b, b < 0 → a ≠ b → (TJ10 a).2.1 ≠ (TJ10 b).2.1 := by decide +kernel
theorem tyJ10_ok : ∀ k, k < 0 → parseFieldDescriptor (TJ10 k).2.2.1 = some (tyJ10 k) := by decide +kernel
def RJ7 : String := "java/util/Arrays"
def TJ7 : u_T := fun k => match k with
  | _ => ("", "", "", false)
def tyJ7 : Nat → FieldType := fun k => match k with
  | _ => .int
theorem nmJ7 : ∀ a, a < 0 → ∀ b, b < 0 → a ≠ b → (TJ7 a).2.1 ≠ (TJ7 b).2.1 := by decide +kernel
theorem tyJ7_ok : ∀ k, k < 0 → parseFieldDescriptor (TJ7 k).2.2.1 = some (tyJ7 k) := by decide +kernel
abbrev cJ7_fill_d0a16 : ByteArray := prog_13_method_101_code
def yJ7_fill_d0a16 : MethodName := ⟨RJ7, "fill", "([JJ)V"⟩
abbrev cJ7_fill_53178 : ByteArray := prog_13_method_103_code
def yJ7_fill_53178 : MethodName := ⟨RJ7, "fill", "([II)V"⟩
def RL : String := "LampPlateLaw"
abbrev cL_law : ByteArray := code
def yL_law : MethodName := ⟨RL, "law", "([I)Z"⟩
abbrev vwCl : List vw_C := [(RX0, TX0, 3), (RX1, TX1, 8), (RX2, TX2, 5), (RX3, TX3, 12), (RX4, TX4, 12), (RX5, TX5, 10), (RX6, TX6, 4), (RX7, TX7, 8), (RX8, TX8, 25)]
end
section
/-! THE Z KIT, part 1: numbers, values, the heap as kinds (S) and contents (V), the judgement Zr (a walk goal-first over Int), the contract Sp. -/
/-- the tables' words that hold wherever the tables have only grown warmer -/
def zgood (w : Cond) : Bool := match w with
  | .methodLinkNest _ _ _ _ => true
  | .fieldLinkNest _ _ _ _ _ _ => true
  | w => goodWord w
def ztbl : List Cond := lw_tbl.filter zgood
theorem zin {w : Cond} (i : Nat) (h : lw_tbl[i]? = some w) (hg : zgood w = true) : w ∈ ztbl := List.mem_filter.mpr ⟨List.mem_of_getElem? h, hg⟩
def z32 (x : Int) : Prop := -2147483648 ≤ x ∧ x < 2147483648
def z64 (x : Int) : Prop := -9223372036854775808 ≤ x ∧ x < 9223372036854775808
abbrev zV : Type := Int ⊕ (Int ⊕ Int)
abbrev ziv (x : Int) : zV := Sum.inl x
abbrev zjv (x : Int) : zV := Sum.inr (Sum.inl x)
abbrev zrv (x : Int) : zV := Sum.inr (Sum.inr x)
/-- a reference by its code: 0 is null, q + 1 the cell q -/
def zref (x : Int) : Value := if x ≤ 0 then .null else .ref (x - 1).toNat
def zcv (v : zV) : Value := match v with
  | .inl x => .int (Int32.ofInt x)
  | .inr (.inl x) => .long (Int64.ofInt x)
  | .inr (.inr x) => zref x
def zok (v : zV) : Prop := match v with
  | .inl x => z32 x
  | .inr (.inl x) => z64 x
  | .inr (.inr x) => 0 ≤ x
/-- kinds of cells: 0 none, 1 int[], 2 long[], 3 + ci an object of class ci; and the length -/
abbrev zS : Type := Int → Int × Int
/-- contents: by reference code, by index or field number -/
abbrev zH : Type := Int → Int → Int
abbrev zE : Type := Launch × va_G × ClassId × ClassId × Nat
abbrev zEl (E : zE) : Launch := E.1
abbrev zED (E : zE) : va_G := E.2.1
abbrev zEI (E : zE) : ClassId := E.2.2.1
abbrev zEJ (E : zE) : ClassId := E.2.2.2.1
abbrev zEb (E : zE) : Nat := E.2.2.2.2
abbrev zX : Type := Program × Env × State × MethodId × Array Value × List Frame × Method × Code
abbrev zXp (X : zX) : Program := X.1
abbrev zXe (X : zX) : Env := X.2.1
abbrev zXs (X : zX) : State := X.2.2.1
abbrev zXm (X : zX) : MethodId := X.2.2.2.1
abbrev zXa (X : zX) : Array Value := X.2.2.2.2.1
abbrev zXw (X : zX) : List Frame := X.2.2.2.2.2.1
abbrev zXh (X : zX) : Method := X.2.2.2.2.2.2.1
abbrev zXc (X : zX) : Code := X.2.2.2.2.2.2.2
/-- a method: its name, code, locals, answer -/
abbrev zM : Type := MethodName × ByteArray × Nat × Option FieldType
abbrev zMy (M : zM) : MethodName := M.1
abbrev zMb (M : zM) : ByteArray := M.2.1
abbrev zMl (M : zM) : Nat := M.2.2.1
abbrev zMr (M : zM) : Option FieldType := M.2.2.2
def zty (ci : Nat) : Nat → FieldType := match ci with
  | 0 => tyX0
  | 1 => tyX1
  | 2 => tyX2
  | 3 => tyX3
  | 4 => tyX4
  | 5 => tyX5
  | 6 => tyX6
  | 7 => tyX7
  | _ => tyX8
def zA (E : zE) : Nat → Prop := fun q => zEb E ≤ q
def zfv (ty : FieldType) (x : Int) : Value := match ty with
  | .object _ => zref x
  | .array _ => zref x
  | .long => .long (Int64.ofInt x)
  | _ => .int (Int32.ofInt x)
def zfok (ty : FieldType) (x : Int) : Prop := match ty with
  | .object _ => 0 ≤ x
  | .array _ => 0 ≤ x
  | .long => z64 x
  | .boolean => x = 0 ∨ x = 1
  | _ => z32 x
def zcell (E : zE) (k : Int × Int) (f : Int → Int) (a : Nat) (H : Heap) : Prop :=
  (k.1 = 1 ∧ 0 ≤ k.2 ∧ k.2 < 2147483648 ∧ H[a]? = some (arrV (zEI E) k.2.toNat (fun j => .int (Int32.ofInt (f j)))) ∧ ∀ j : Int, 0 ≤ j → j < k.2 → z32 (f j)) ∨
  (k.1 = 2 ∧ 0 ≤ k.2 ∧ k.2 < 2147483648 ∧ H[a]? = some (arrV (zEJ E) k.2.toNat (fun j => .long (Int64.ofInt (f j)))) ∧ ∀ j : Int, 0 ≤ j → j < k.2 → z64 (f j)) ∨
  (∃ (ci : Nat) (r : vw_C), k.1 = 3 + (ci : Int) ∧ vwCl[ci]? = some r ∧ t_OB a ((zED E).1 ci) r.2.2 ((zED E).2 ci) H (fun j => zfv (zty ci j) (f j)) ∧ ∀ j : Nat, j < r.2.2 → zfok (zty ci j) (f j))
def zR (E : zE) (S : zS) (V : zH) (H : Heap) : Prop := ∀ r : Int, (S r).1 ≠ 0 → 0 < r ∧ zEb E ≤ (r - 1).toNat ∧ zcell E (S r) (V r) (r - 1).toNat H
def zK (E : zE) (U : State) : Prop := va_K (zED E) vwCl [(zEI E, .int), (zEJ E, .long)] U
/-- what is fixed in a method's body -/
def zC (E : zE) (X : zX) (M : zM) : Prop :=
  (zXp X).tables.exec = Jvm.exec ∧ (zXc X).code = zMb M ∧ (zXc X).maxLocals = zMl M ∧ (zXh X).sig.returnType = zMr M ∧ (zXs X).vm.findClass (zMy M).cls = some (zXm X).cls ∧ (zXh X).locks = false ∧
  (∀ w ∈ ztbl, w.before (zXa X) (zXs X) = true) ∧ zK E (zXs X) ∧ (zXh X).name = (zMy M).name ∧ zEb E ≤ (zXs X).heap.size
abbrev zL (L : List (Nat × zV)) : List (Nat × Value) := L.map fun q => (q.1, zcv q.2)
/-- THE JUDGEMENT: at pc, with locals L (at least), stack st, heap (S, V), k cells of n slots made so far, the machine comes to Q -/
def Zr (E : zE) (X : zX) (R : Room) (M : zM) (Q : State → Prop) (k n pc : Nat) (L : List (Nat × zV)) (st : List zV) (S : zS) (V : zH) : Prop :=
  zC E X M → ∀ (H : Heap) (locs : List Loc) (ls : Array Slot), zR E S V H → va_S (zA E) (zXs X).heap H locs → lv_has ls (zMl M) (zL L) → (∀ q ∈ L, zok q.2) → (∀ v ∈ st, zok v) →
    W (zXp X) (zEl E) (zXe X) R (zXs X) (zXm X) (zXa X) (zXw X) (zXh X) (zXc X) H locs k n Q (F0 (zXm X) pc ls (st.map zcv))
abbrev zRoom (d mc ms : Nat) : Room := { frames := d, cells := mc, slots := ms, locals := 64 * d }
abbrev zws (M : zM) : List Cond := Cond.code (zMy M) (zMb M) (zMl M) (zMr M) :: ztbl
def zPc (E : zE) (as : List zV) (S : zS) (V : zH) : Array Value → State → Prop := fun v U => v = (as.map zcv).toArray ∧ (∀ a ∈ as, zok a) ∧ zR E S V U.heap ∧ zK E U ∧ zEb E ≤ U.heap.size
def zQc (E : zE) (P : Option zV → zS → zH → Prop) : Array Value → State → Outcome → State → Prop := fun _ st o t =>
  (∃ (r : Option zV) (S : zS) (V : zH), o = .returned (r.map zcv) ∧ (∀ v, r = some v → zok v) ∧ P r S V ∧ zR E S V t.heap) ∧ va_F (zA E) st t
/-- THE CONTRACT of a method at arguments and a heap: with room for d frames, mc cells of ms slots it returns, and P holds of its answer and of the heap behind it -/
def Sp (E : zE) (d mc ms : Nat) (M : zM) (as : List zV) (S : zS) (V : zH) (P : Option zV → zS → zH → Prop) : Prop :=
  Met (zEl E) (zMy M) (zws M) (zRoom d mc ms) (zPc E as S V) (zQc E P) mc ms (zA E)
def zQm (E : zE) (X : zX) (P : Option zV → zS → zH → Prop) (mc ms : Nat) : State → Prop := MQ (zXw X) (zQc E P) (zXa X) (zXs X) mc ms (zA E)
theorem z32_toInt {x : Int} (h : z32 x) : (Int32.ofInt x).toInt = x := Int32.toInt_ofInt_of_le h.1 h.2
theorem z64_toInt {x : Int} (h : z64 x) : (Int64.ofInt x).toInt = x := Int64.toInt_ofInt_of_le h.1 h.2
theorem z32_of (c : Int32) : z32 c.toInt := ⟨c.le_toInt, c.toInt_lt⟩
theorem z64_of (c : Int64) : z64 c.toInt := ⟨c.le_toInt, c.toInt_lt⟩
theorem z32_z64 {x : Int} (h : z32 x) : z64 x := by unfold z32 at h; unfold z64; omega
theorem zref_pos {r : Int} (h : 0 < r) : zref r = .ref (r - 1).toNat := by unfold zref; rw [if_neg (by omega)]
theorem zref_null : zref 0 = .null := rfl
theorem zcv_cat1 (x : Int) : (zcv (ziv x)).category = 1 := rfl
theorem zref_cat (x : Int) : (zref x).category = 1 := by unfold zref; split <;> rfl
theorem zall {v : zV} {st : List zV} (h : zok v) (hs : ∀ w ∈ st, zok w) : ∀ w ∈ v :: st, zok w := List.forall_mem_cons.mpr ⟨h, hs⟩
theorem zcell.kept {E : zE} {k : Int × Int} {f : Int → Int} {a : Nat} {H H1 : Heap} (h : zcell E k f a H) (hq : H1[a]? = H[a]?) : zcell E k f a H1 := by
  rcases h with ⟨h1, h2, h3, h4, h5⟩ | ⟨h1, h2, h3, h4, h5⟩ | ⟨ci, r, h1, h2, h3, h4⟩
  · exact Or.inl ⟨h1, h2, h3, hq.trans h4, h5⟩
  · exact Or.inr (Or.inl ⟨h1, h2, h3, hq.trans h4, h5⟩)
  · exact Or.inr (Or.inr ⟨ci, r, h1, h2, h3.kept hq, h4⟩)
theorem zcell.lt {E : zE} {k : Int × Int} {f : Int → Int} {a : Nat} {H : Heap} (h : zcell E k f a H) : a < H.size := by
  rcases h with ⟨h1, h2, h3, h4, h5⟩ | ⟨h1, h2, h3, h4, h5⟩ | ⟨ci, r, h1, h2, ⟨cell, h3, -⟩, h4⟩
  · exact (Array.getElem?_eq_some_iff.mp h4).1
  · exact (Array.getElem?_eq_some_iff.mp h4).1
  · exact (Array.getElem?_eq_some_iff.mp h3).1
/-- one slot of one cell is written -/
def zput (V : zH) (r k x : Int) : zH := fun q j => if q = r ∧ j = k then x else V q j
theorem zput_self (V : zH) (r k x : Int) : zput V r k x r k = x := by simp [zput]
theorem zput_ne (V : zH) {r q : Int} (k x j : Int) (h : q ≠ r) : zput V r k x q j = V q j := by simp [zput, h]
theorem zput_nk (V : zH) {k j : Int} (r x q : Int) (h : j ≠ k) : zput V r k x q j = V q j := by simp [zput, h]
theorem zput_row (V : zH) {r q : Int} (k x : Int) (h : q ≠ r) : zput V r k x q = V q := by funext j; simp [zput, h]
theorem zR.put {E : zE} {S : zS} {V V' : zH} {H H1 : Heap} (h : zR E S V H) {r : Int} (hr : 0 < r) (hc : zcell E (S r) (V' r) (r - 1).toNat H1) (hV : ∀ q, q ≠ r → V' q = V q) (ho : ∀ q : Nat, q ≠ (r - 1).toNat → H1[q]? = H[q]?) : zR E S V' H1 := by
  intro q hq
  obtain ⟨h1, h2, h3⟩ := h q hq
  refine ⟨h1, h2, ?_⟩
  by_cases e : q = r
  · subst e; exact hc
  · rw [hV q e]
    exact h3.kept (ho _ (by omega))
theorem zR.fresh {E : zE} {S : zS} {V : zH} {H : Heap} (h : zR E S V H) : (S ((H.size : Int) + 1)).1 = 0 := by
  apply Classical.byContradiction
  intro hn
  obtain ⟨h1, h2, h3⟩ := h _ hn
  have := h3.lt
  omega
/-- a new cell: its kind and length, all of it 0 -/
def zSn (S : zS) (r : Int) (k : Int × Int) : zS := fun q => if q = r then k else S q
def zVn (V : zH) (r : Int) : zH := fun q j => if q = r then 0 else V q j
theorem zSn_self (S : zS) (r : Int) (k : Int × Int) : zSn S r k r = k := by simp [zSn]
theorem zSn_ne (S : zS) {r q : Int} (k : Int × Int) (h : q ≠ r) : zSn S r k q = S q := by simp [zSn, h]
theorem zVn_self (V : zH) (r j : Int) : zVn V r r j = 0 := by simp [zVn]
theorem zVn_ne (V : zH) {r q : Int} (j : Int) (h : q ≠ r) : zVn V r q j = V q j := by simp [zVn, h]
theorem zVn_row (V : zH) {r q : Int} (h : q ≠ r) : zVn V r q = V q := by funext j; simp [zVn, h]
theorem zVn_row0 (V : zH) (r : Int) : zVn V r r = fun _ => 0 := by funext j; simp [zVn]
theorem zR.push {E : zE} {S : zS} {V : zH} {H H1 : Heap} (h : zR E S V H) (hb : zEb E ≤ H.size) {k : Int × Int} (hc : zcell E k (fun _ => 0) H.size H1) (ho : ∀ q : Nat, q < H.size → H1[q]? = H[q]?) :
    zR E (zSn S ((H.size : Int) + 1) k) (zVn V ((H.size : Int) + 1)) H1 := by
  intro q hq
  by_cases e : q = (H.size : Int) + 1
  · subst e
    have e2 : (((H.size : Int) + 1) - 1).toNat = H.size := by omega
    rw [e2, zSn_self, zVn_row0]
    exact ⟨by omega, hb, hc⟩
  · rw [zSn_ne S k e] at hq ⊢
    obtain ⟨h1, h2, h3⟩ := h q hq
    rw [zVn_row V e]
    exact ⟨h1, h2, h3.kept (ho _ h3.lt)⟩
end
section
/-! THE Z KIT, part 2: a row an instruction, those that leave the heap alone -/
section ZROWS
variable {E : zE} {X : zX} {R : Room} {M : zM} {Q : State → Prop} {k n pc : Nat} {L : List (Nat × zV)} {st : List zV} {S : zS} {V : zH}
theorem Zr.eq {pc' : Nat} {L' : List (Nat × zV)} {st' : List zV} {V' : zH} (h : Zr E X R M Q k n pc' L' st' S V') (e1 : pc = pc') (e2 : L = L') (e3 : st = st') (e4 : V = V') : Zr E X R M Q k n pc L st S V := by
  subst e1; subst e2; subst e3; subst e4; exact h
theorem zlhas {ls : Array Slot} {N : Nat} {L : List (Nat × zV)} (hl : lv_has ls N (zL L)) {q i : Nat} {v : zV} (h : L[q]? = some (i, v)) : ls[i]? = some (.val (zcv v)) :=
  lv_at hl q (by simp [zL, h])
/-- fewer locals, in any order, by their places -/
theorem z_loc {L' : List (Nat × zV)} (ks : List Nat) (hs : ks.filterMap (fun i => L[i]?) = L') (h : Zr E X R M Q k n pc L' st S V) : Zr E X R M Q k n pc L st S V := by
  intro C H locs ls hR hS hl hL hst
  have hm : ∀ q ∈ L', q ∈ L := by
    intro q hq
    rw [← hs] at hq
    obtain ⟨i, -, hi⟩ := List.mem_filterMap.mp hq
    exact List.mem_of_getElem? hi
  refine h C H locs ls hR hS ⟨hl.1, hl.2.1, fun q hq => ?_⟩ (fun q hq => hL q (hm q hq)) hst
  obtain ⟨q', h1, rfl⟩ := List.mem_map.mp hq
  exact hl.2.2 _ (List.mem_map.mpr ⟨q', hm q' h1, rfl⟩)
/-- what holds of the values at hand -/
theorem z_okL {q i : Nat} {v : zV} (hq : L[q]? = some (i, v)) (h : zok v → Zr E X R M Q k n pc L st S V) : Zr E X R M Q k n pc L st S V :=
  fun C H locs ls hR hS hl hL hst => h (hL _ (List.mem_of_getElem? hq)) C H locs ls hR hS hl hL hst
theorem z_okS {v : zV} (h : zok v → Zr E X R M Q k n pc L (v :: st) S V) : Zr E X R M Q k n pc L (v :: st) S V :=
  fun C H locs ls hR hS hl hL hst => h (hst _ List.mem_cons_self) C H locs ls hR hS hl hL hst
theorem z_okA {r j : Int} (h1 : (S r).1 = 1) (h2 : 0 ≤ j) (h3 : j < (S r).2) (h : z32 (V r j) → Zr E X R M Q k n pc L st S V) : Zr E X R M Q k n pc L st S V := by
  intro C H locs ls hR hS hl hL hst
  obtain ⟨-, -, hc⟩ := hR r (by rw [h1]; decide)
  rcases hc with ⟨c1, c2, c3, c4, c5⟩ | ⟨c1, -⟩ | ⟨ci, q, c1, -⟩
  · exact h (c5 j h2 h3) C H locs ls hR hS hl hL hst
  · omega
  · omega
theorem z_iload_n {j : Fin 4} {x : Int} (q : Nat) (hd : decode (zMb M) pc = .ok (.iload_n j, 1)) (hq : L[q]? = some ((j : Nat), ziv x)) (h : Zr E X R M Q k n (pc + 1) L (ziv x :: st) S V) : Zr E X R M Q k n pc L st S V := by
  intro C H locs ls hR hS hl hL hst
  exact lv_iload_n C.1 C.2.1 hd rfl (zlhas hl hq) (h C H locs ls hR hS hl hL (zall (hL _ (List.mem_of_getElem? hq)) hst))
theorem z_iload {i : Nat} {x : Int} (q : Nat) (hd : decode (zMb M) pc = .ok (.iload i, 2)) (hq : L[q]? = some (i, ziv x)) (h : Zr E X R M Q k n (pc + 2) L (ziv x :: st) S V) : Zr E X R M Q k n pc L st S V := by
  intro C H locs ls hR hS hl hL hst
  exact lv_iload C.1 C.2.1 hd (zlhas hl hq) (h C H locs ls hR hS hl hL (zall (hL _ (List.mem_of_getElem? hq)) hst))
theorem z_lload_n {j : Fin 4} {x : Int} (q : Nat) (hd : decode (zMb M) pc = .ok (.lload_n j, 1)) (hq : L[q]? = some ((j : Nat), zjv x)) (h : Zr E X R M Q k n (pc + 1) L (zjv x :: st) S V) : Zr E X R M Q k n pc L st S V := by
  intro C H locs ls hR hS hl hL hst
  exact lv_lload_n C.1 C.2.1 hd rfl (zlhas hl hq) (h C H locs ls hR hS hl hL (zall (hL _ (List.mem_of_getElem? hq)) hst))
theorem z_lload {i : Nat} {x : Int} (q : Nat) (hd : decode (zMb M) pc = .ok (.lload i, 2)) (hq : L[q]? = some (i, zjv x)) (h : Zr E X R M Q k n (pc + 2) L (zjv x :: st) S V) : Zr E X R M Q k n pc L st S V := by
  intro C H locs ls hR hS hl hL hst
  exact lv_lload C.1 C.2.1 hd (zlhas hl hq) (h C H locs ls hR hS hl hL (zall (hL _ (List.mem_of_getElem? hq)) hst))
theorem z_aload_n {j : Fin 4} {x : Int} (q : Nat) (hd : decode (zMb M) pc = .ok (.aload_n j, 1)) (hq : L[q]? = some ((j : Nat), zrv x)) (h : Zr E X R M Q k n (pc + 1) L (zrv x :: st) S V) : Zr E X R M Q k n pc L st S V := by
  intro C H locs ls hR hS hl hL hst
  have h1 := zlhas hl hq
  have h2 := h C H locs ls hR hS hl hL (zall (hL _ (List.mem_of_getElem? hq)) hst)
  by_cases hx : x ≤ 0
  · have e : zcv (zrv x) = .null := by simp [zcv, zref, hx]
    rw [e] at h1
    rw [List.map_cons, e] at h2
    exact lv_aload_nN C.1 C.2.1 hd rfl h1 h2
  · have e : zcv (zrv x) = .ref (x - 1).toNat := by simp [zcv, zref, hx]
    rw [e] at h1
    rw [List.map_cons, e] at h2
    exact lv_aload_n C.1 C.2.1 hd rfl h1 h2
theorem z_aload {i : Nat} {x : Int} (q : Nat) (hd : decode (zMb M) pc = .ok (.aload i, 2)) (hq : L[q]? = some (i, zrv x)) (h : Zr E X R M Q k n (pc + 2) L (zrv x :: st) S V) : Zr E X R M Q k n pc L st S V := by
  intro C H locs ls hR hS hl hL hst
  have h1 := zlhas hl hq
  have h2 := h C H locs ls hR hS hl hL (zall (hL _ (List.mem_of_getElem? hq)) hst)
  by_cases hx : x ≤ 0
  · have e : zcv (zrv x) = .null := by simp [zcv, zref, hx]
    rw [e] at h1
    rw [List.map_cons, e] at h2
    exact lv_aloadN C.1 C.2.1 hd h1 h2
  · have e : zcv (zrv x) = .ref (x - 1).toNat := by simp [zcv, zref, hx]
    rw [e] at h1
    rw [List.map_cons, e] at h2
    exact lv_aload C.1 C.2.1 hd h1 h2
def zcat2 (v : zV) : Bool := match v with
  | .inr (.inl _) => true
  | _ => false
theorem zcat2_eq (v : zV) : ((zcv v).category == 2) = zcat2 v := by
  rcases v with x | x | x
  · rfl
  · rfl
  · show ((zref x).category == 2) = false
    rw [zref_cat]; rfl
/-- the locals behind a store of one slot -/
def zst1 (L : List (Nat × zV)) (i : Nat) (v : zV) : List (Nat × zV) := (i, v) :: L.filter (fun q => !(q.1 == i) && !(q.1 + 1 == i && zcat2 q.2))
def zst2 (L : List (Nat × zV)) (i : Nat) (v : zV) : List (Nat × zV) := (i, v) :: L.filter (fun q => !(q.1 == i) && (!(q.1 == i + 1) && !(q.1 + 1 == i && zcat2 q.2)))
theorem zst1_eq (L : List (Nat × zV)) (i : Nat) (v : zV) : (i, zcv v) :: (zL L).filter (fun q => !(q.1 == i) && !(q.1 + 1 == i && q.2.category == 2)) = zL (zst1 L i v) := by
  simp only [zL, zst1, List.map_cons, List.filter_map]
  congr 2
  apply List.filter_congr
  intro q _
  simp only [Function.comp, zcat2_eq]
theorem zst2_eq (L : List (Nat × zV)) (i : Nat) (v : zV) : (i, zcv v) :: (zL L).filter (fun q => !(q.1 == i) && (!(q.1 == i + 1) && !(q.1 + 1 == i && q.2.category == 2))) = zL (zst2 L i v) := by
  simp only [zL, zst2, List.map_cons, List.filter_map]
  congr 2
  apply List.filter_congr
  intro q _
  simp only [Function.comp, zcat2_eq]
theorem zst1_ok {L : List (Nat × zV)} {i : Nat} {v : zV} (hL : ∀ q ∈ L, zok q.2) (hv : zok v) : ∀ q ∈ zst1 L i v, zok q.2 := by
  intro q hq
  rcases List.mem_cons.mp hq with rfl | hq
  · exact hv
  · exact hL q (List.mem_filter.mp hq).1
theorem zst2_ok {L : List (Nat × zV)} {i : Nat} {v : zV} (hL : ∀ q ∈ L, zok q.2) (hv : zok v) : ∀ q ∈ zst2 L i v, zok q.2 := by
  intro q hq
  rcases List.mem_cons.mp hq with rfl | hq
  · exact hv
  · exact hL q (List.mem_filter.mp hq).1
theorem ztail {v : zV} {st : List zV} (h : ∀ w ∈ v :: st, zok w) : ∀ w ∈ st, zok w := fun w hw => h w (List.mem_cons_of_mem _ hw)
theorem zhead {v : zV} {st : List zV} (h : ∀ w ∈ v :: st, zok w) : zok v := h v List.mem_cons_self
theorem zsnd {u v : zV} {st : List zV} (h : ∀ w ∈ u :: v :: st, zok w) : zok v := h v (List.mem_cons_of_mem _ List.mem_cons_self)
theorem ztl2 {u v : zV} {st : List zV} (h : ∀ w ∈ u :: v :: st, zok w) : ∀ w ∈ st, zok w := fun w hw => h w (List.mem_cons_of_mem _ (List.mem_cons_of_mem _ hw))
theorem z_istore_n {j : Fin 4} {x : Int} (hd : decode (zMb M) pc = .ok (.istore_n j, 1)) (hn : (j : Nat) < zMl M) {L' : List (Nat × zV)} (ks : List Nat) (hs : ks.filterMap (fun i => (zst1 L j (ziv x))[i]?) = L') (h : Zr E X R M Q k n (pc + 1) L' st S V) : Zr E X R M Q k n pc L (ziv x :: st) S V := by
  intro C H locs ls hR hS hl hL hst
  refine lv_istore_n C.1 C.2.1 hd rfl hl hn (zst1_eq L j (ziv x)) fun ls' hl' => ?_
  exact z_loc (L := zst1 L j (ziv x)) ks hs h C H locs ls' hR hS hl' (zst1_ok hL (zhead hst)) (ztail hst)
theorem z_istore {i : Nat} {x : Int} (hd : decode (zMb M) pc = .ok (.istore i, 2)) (hn : i < zMl M) {L' : List (Nat × zV)} (ks : List Nat) (hs : ks.filterMap (fun q => (zst1 L i (ziv x))[q]?) = L') (h : Zr E X R M Q k n (pc + 2) L' st S V) : Zr E X R M Q k n pc L (ziv x :: st) S V := by
  intro C H locs ls hR hS hl hL hst
  refine lv_istore C.1 C.2.1 hd hl hn (zst1_eq L i (ziv x)) fun ls' hl' => ?_
  exact z_loc (L := zst1 L i (ziv x)) ks hs h C H locs ls' hR hS hl' (zst1_ok hL (zhead hst)) (ztail hst)
theorem z_lstore_n {j : Fin 4} {x : Int} (hd : decode (zMb M) pc = .ok (.lstore_n j, 1)) (hn : (j : Nat) + 1 < zMl M) {L' : List (Nat × zV)} (ks : List Nat) (hs : ks.filterMap (fun i => (zst2 L j (zjv x))[i]?) = L') (h : Zr E X R M Q k n (pc + 1) L' st S V) : Zr E X R M Q k n pc L (zjv x :: st) S V := by
  intro C H locs ls hR hS hl hL hst
  refine lv_lstore_n C.1 C.2.1 hd rfl hl hn (zst2_eq L j (zjv x)) fun ls' hl' => ?_
  exact z_loc (L := zst2 L j (zjv x)) ks hs h C H locs ls' hR hS hl' (zst2_ok hL (zhead hst)) (ztail hst)
theorem z_lstore {i : Nat} {x : Int} (hd : decode (zMb M) pc = .ok (.lstore i, 2)) (hn : i + 1 < zMl M) {L' : List (Nat × zV)} (ks : List Nat) (hs : ks.filterMap (fun q => (zst2 L i (zjv x))[q]?) = L') (h : Zr E X R M Q k n (pc + 2) L' st S V) : Zr E X R M Q k n pc L (zjv x :: st) S V := by
  intro C H locs ls hR hS hl hL hst
  refine lv_lstore C.1 C.2.1 hd hl hn (zst2_eq L i (zjv x)) fun ls' hl' => ?_
  exact z_loc (L := zst2 L i (zjv x)) ks hs h C H locs ls' hR hS hl' (zst2_ok hL (zhead hst)) (ztail hst)
theorem z_astore_n {j : Fin 4} {x : Int} (hd : decode (zMb M) pc = .ok (.astore_n j, 1)) (hn : (j : Nat) < zMl M) {L' : List (Nat × zV)} (ks : List Nat) (hs : ks.filterMap (fun i => (zst1 L j (zrv x))[i]?) = L') (h : Zr E X R M Q k n (pc + 1) L' st S V) : Zr E X R M Q k n pc L (zrv x :: st) S V := by
  intro C H locs ls hR hS hl hL hst
  have e0 := zst1_eq L j (zrv x)
  by_cases hx : x ≤ 0
  · have e : zcv (zrv x) = .null := by simp [zcv, zref, hx]
    rw [List.map_cons, e]
    rw [e] at e0
    refine lv_astore_nN C.1 C.2.1 hd rfl hl hn e0 fun ls' hl' => ?_
    exact z_loc (L := zst1 L j (zrv x)) ks hs h C H locs ls' hR hS hl' (zst1_ok hL (zhead hst)) (ztail hst)
  · have e : zcv (zrv x) = .ref (x - 1).toNat := by simp [zcv, zref, hx]
    rw [List.map_cons, e]
    rw [e] at e0
    refine lv_astore_n C.1 C.2.1 hd rfl hl hn e0 fun ls' hl' => ?_
    exact z_loc (L := zst1 L j (zrv x)) ks hs h C H locs ls' hR hS hl' (zst1_ok hL (zhead hst)) (ztail hst)
theorem z_iinc {i : Nat} {c x : Int} (q : Nat) (hd : decode (zMb M) pc = .ok (.iinc i c, 3)) (hq : L[q]? = some (i, ziv x)) (hn : i < zMl M) (ho : z32 (x + c)) {L' : List (Nat × zV)} (ks : List Nat) (hs : ks.filterMap (fun q => (zst1 L i (ziv (x + c)))[q]?) = L') (h : Zr E X R M Q k n (pc + 3) L' st S V) : Zr E X R M Q k n pc L st S V := by
  intro C H locs ls hR hS hl hL hst
  have hq' : (zL L)[q]? = some (i, .int (Int32.ofInt x)) := by simp [zL, hq, zcv]
  refine lv_iinc C.1 C.2.1 hd hl hq' (v := Int32.ofInt (x + c)) (by rw [Int32.ofInt_add]) hn (zst1_eq L i (ziv (x + c))) fun ls' hl' => ?_
  exact z_loc (L := zst1 L i (ziv (x + c))) ks hs h C H locs ls' hR hS hl' (zst1_ok hL ho) hst
theorem z_iconst {c : Int} (hd : decode (zMb M) pc = .ok (.iconst c, 1)) (hc : z32 c) (h : Zr E X R M Q k n (pc + 1) L (ziv c :: st) S V) : Zr E X R M Q k n pc L st S V :=
  fun C H locs ls hR hS hl hL hst => lv_iconst C.1 C.2.1 hd rfl (h C H locs ls hR hS hl hL (zall hc hst))
theorem z_bipush {c : Int} (hd : decode (zMb M) pc = .ok (.bipush c, 2)) (hc : z32 c) (he : (Int8.ofInt c).toInt32 = Int32.ofInt c) (h : Zr E X R M Q k n (pc + 2) L (ziv c :: st) S V) : Zr E X R M Q k n pc L st S V :=
  fun C H locs ls hR hS hl hL hst => lv_bipush C.1 C.2.1 hd he (h C H locs ls hR hS hl hL (zall hc hst))
theorem z_sipush {c : Int} (hd : decode (zMb M) pc = .ok (.sipush c, 3)) (hc : z32 c) (he : (Int16.ofInt c).toInt32 = Int32.ofInt c) (h : Zr E X R M Q k n (pc + 3) L (ziv c :: st) S V) : Zr E X R M Q k n pc L st S V :=
  fun C H locs ls hR hS hl hL hst => lv_sipush C.1 C.2.1 hd he (h C H locs ls hR hS hl hL (zall hc hst))
theorem z_lconst {c : Fin 2} {v : Int} (hd : decode (zMb M) pc = .ok (.lconst c, 1)) (hv : Int64.ofNat (c : Nat) = Int64.ofInt v) (hc : z64 v) (h : Zr E X R M Q k n (pc + 1) L (zjv v :: st) S V) : Zr E X R M Q k n pc L st S V :=
  fun C H locs ls hR hS hl hL hst => lv_lconst C.1 C.2.1 hd hv (h C H locs ls hR hS hl hL (zall hc hst))
theorem z_ldc {index : Nat} {v : Int32} {c : Int} (hw : Cond.constant (zMy M).cls index v ∈ ztbl) (hv : v = Int32.ofInt c) (hc : z32 c) (hd : decode (zMb M) pc = .ok (.ldc index, 2)) (h : Zr E X R M Q k n (pc + 2) L (ziv c :: st) S V) : Zr E X R M Q k n pc L st S V := by
  intro C H locs ls hR hS hl hL hst
  subst hv
  exact lv_ldc C.1 C.2.1 C.2.2.2.2.1 (C.2.2.2.2.2.2.1 _ hw) hd (h C H locs ls hR hS hl hL (zall hc hst))
theorem z_ldc2 {index : Nat} {v : Int64} {c : Int} (hw : Cond.constantLong (zMy M).cls index v ∈ ztbl) (hv : v = Int64.ofInt c) (hc : z64 c) (hd : decode (zMb M) pc = .ok (.ldc2_w index, 3)) (h : Zr E X R M Q k n (pc + 3) L (zjv c :: st) S V) : Zr E X R M Q k n pc L st S V := by
  intro C H locs ls hR hS hl hL hst
  subst hv
  exact lv_ldc2 C.1 C.2.1 C.2.2.2.2.1 (C.2.2.2.2.2.2.1 _ hw) hd (h C H locs ls hR hS hl hL (zall hc hst))
theorem z_iadd {x y : Int} (hd : decode (zMb M) pc = .ok (.iadd, 1)) (ho : z32 (x + y)) (h : Zr E X R M Q k n (pc + 1) L (ziv (x + y) :: st) S V) : Zr E X R M Q k n pc L (ziv y :: ziv x :: st) S V := by
  intro C H locs ls hR hS hl hL hst
  refine lv_iadd C.1 C.2.1 hd ?_
  rw [← Int32.ofInt_add]
  exact h C H locs ls hR hS hl hL (zall ho (ztl2 hst))
theorem z_isub {x y : Int} (hd : decode (zMb M) pc = .ok (.isub, 1)) (ho : z32 (x - y)) (h : Zr E X R M Q k n (pc + 1) L (ziv (x - y) :: st) S V) : Zr E X R M Q k n pc L (ziv y :: ziv x :: st) S V := by
  intro C H locs ls hR hS hl hL hst
  refine lv_isub C.1 C.2.1 hd ?_
  rw [← Int32.ofInt_sub]
  exact h C H locs ls hR hS hl hL (zall ho (ztl2 hst))
theorem z_imul {x y : Int} (hd : decode (zMb M) pc = .ok (.imul, 1)) (ho : z32 (x * y)) (h : Zr E X R M Q k n (pc + 1) L (ziv (x * y) :: st) S V) : Zr E X R M Q k n pc L (ziv y :: ziv x :: st) S V := by
  intro C H locs ls hR hS hl hL hst
  refine lv_imul C.1 C.2.1 hd ?_
  rw [← Int32.ofInt_mul]
  exact h C H locs ls hR hS hl hL (zall ho (ztl2 hst))
theorem z_ineg {x : Int} (hd : decode (zMb M) pc = .ok (.ineg, 1)) (ho : z32 (-x)) (h : Zr E X R M Q k n (pc + 1) L (ziv (-x) :: st) S V) : Zr E X R M Q k n pc L (ziv x :: st) S V := by
  intro C H locs ls hR hS hl hL hst
  refine lv_ineg C.1 C.2.1 hd ?_
  have h2 := h C H locs ls hR hS hl hL (zall ho (ztail hst))
  have e : (0 : Int32) - Int32.ofInt x = Int32.ofInt (-x) := by rw [Int32.ofInt_neg]; simp
  first
    | (rw [e]; exact h2)
    | (rw [← Int32.ofInt_neg]; exact h2)
theorem z32_ne0 {y : Int} (hy : z32 y) (h : y ≠ 0) : ¬ Int32.ofInt y = 0 := by
  intro e
  have e2 := congrArg Int32.toInt e
  rw [z32_toInt hy] at e2
  exact h (by simpa using e2)
theorem z64_ne0 {y : Int} (hy : z64 y) (h : y ≠ 0) : ¬ Int64.ofInt y = 0 := by
  intro e
  have e2 := congrArg Int64.toInt e
  rw [z64_toInt hy] at e2
  exact h (by simpa using e2)
theorem ztdiv_le {x y : Int} (hy : 0 < y) : -(x.natAbs : Int) ≤ x.tdiv y ∧ x.tdiv y ≤ x.natAbs := by
  have h := Int.natAbs_tdiv x y
  have h2 : (x.tdiv y).natAbs ≤ x.natAbs := by
    rw [h]
    exact Nat.div_le_self _ _
  omega
theorem z32_div {x y : Int} (hx : z32 x) (hy : z32 y) (h : 0 < y) : Int32.ofInt x / Int32.ofInt y = Int32.ofInt (x.tdiv y) := by
  apply Int32.toInt_inj.mp
  have hne : Int32.ofInt y ≠ -1 := by
    intro e
    have e2 := congrArg Int32.toInt e
    rw [z32_toInt hy] at e2
    have : (-1 : Int32).toInt = -1 := by decide
    omega
  rw [Int32.toInt_div_of_ne_right _ _ hne, z32_toInt hx, z32_toInt hy, z32_toInt]
  have := ztdiv_le (x := x) h
  have h3 := Int.natAbs_tdiv x y
  unfold z32 at hx ⊢
  have h4 : 0 ≤ x → 0 ≤ x.tdiv y := fun h0 => Int.tdiv_nonneg h0 (by omega)
  have h5 : x < 0 → x.tdiv y ≤ 0 := fun h0 => by
    have e := Int.neg_tdiv (-x) y
    rw [Int.neg_neg] at e
    have := Int.tdiv_nonneg (a := -x) (b := y) (by omega) (by omega)
    omega
  clear h3
  omega
theorem z64_div {x y : Int} (hx : z64 x) (hy : z64 y) (h : 0 < y) : Int64.ofInt x / Int64.ofInt y = Int64.ofInt (x.tdiv y) := by
  apply Int64.toInt_inj.mp
  have hne : Int64.ofInt y ≠ -1 := by
    intro e
    have e2 := congrArg Int64.toInt e
    rw [z64_toInt hy] at e2
    have : (-1 : Int64).toInt = -1 := by decide
    omega
  rw [Int64.toInt_div_of_ne_right _ _ hne, z64_toInt hx, z64_toInt hy, z64_toInt]
  have := ztdiv_le (x := x) h
  unfold z64 at hx ⊢
  have h4 : 0 ≤ x → 0 ≤ x.tdiv y := fun h0 => Int.tdiv_nonneg h0 (by omega)
  have h5 : x < 0 → x.tdiv y ≤ 0 := fun h0 => by
    have e := Int.neg_tdiv (-x) y
    rw [Int.neg_neg] at e
    have := Int.tdiv_nonneg (a := -x) (b := y) (by omega) (by omega)
    omega
  omega
/-- a division of what is not below 0 by what is above 0 -/
theorem z_idiv {x y : Int} (hd : decode (zMb M) pc = .ok (.idiv, 1)) (h0 : 0 ≤ x) (h1 : 0 < y) (h : Zr E X R M Q k n (pc + 1) L (ziv (x / y) :: st) S V) : Zr E X R M Q k n pc L (ziv y :: ziv x :: st) S V := by
  intro C H locs ls hR hS hl hL hst
  have hy : z32 y := zhead hst
  have hx : z32 x := zsnd hst
  refine lv_idiv C.1 C.2.1 hd (z32_ne0 hy (by omega)) ?_
  rw [z32_div hx hy h1, Int.tdiv_eq_ediv_of_nonneg h0]
  refine h C H locs ls hR hS hl hL (zall ?_ (ztl2 hst))
  have a1 : 0 ≤ x / y := Int.ediv_nonneg h0 (by omega)
  have a2 : x / y ≤ x := Int.ediv_le_self y h0
  unfold zok z32 at *
  dsimp only at *
  omega
theorem z32_rem {x y : Int} (hx : z32 x) (hy : z32 y) (h : 0 < y) : Int32.ofInt x - Int32.ofInt x / Int32.ofInt y * Int32.ofInt y = Int32.ofInt (x.tmod y) := by
  rw [z32_div hx hy h, ← Int32.ofInt_mul, ← Int32.ofInt_sub, Int.tmod_def, Int.mul_comm]
theorem z64_rem {x y : Int} (hx : z64 x) (hy : z64 y) (h : 0 < y) : Int64.ofInt x - Int64.ofInt x / Int64.ofInt y * Int64.ofInt y = Int64.ofInt (x.tmod y) := by
  rw [z64_div hx hy h, ← Int64.ofInt_mul, ← Int64.ofInt_sub, Int.tmod_def, Int.mul_comm]
theorem ztmod_lt {x y : Int} (h : 0 < y) : -y < x.tmod y ∧ x.tmod y < y := ⟨Int.lt_tmod_of_pos x h, Int.tmod_lt_of_pos x h⟩
theorem z_irem {x y : Int} (hd : decode (zMb M) pc = .ok (.irem, 1)) (h0 : 0 ≤ x) (h1 : 0 < y) (h : Zr E X R M Q k n (pc + 1) L (ziv (x % y) :: st) S V) : Zr E X R M Q k n pc L (ziv y :: ziv x :: st) S V := by
  intro C H locs ls hR hS hl hL hst
  have hy : z32 y := zhead hst
  have hx : z32 x := zsnd hst
  refine lv_irem C.1 C.2.1 hd (z32_ne0 hy (by omega)) ?_
  rw [z32_rem hx hy h1, Int.tmod_eq_emod_of_nonneg h0]
  refine h C H locs ls hR hS hl hL (zall ?_ (ztl2 hst))
  have a1 := Int.emod_nonneg x (b := y) (by omega)
  have a2 := Int.emod_lt_of_pos x h1
  unfold zok z32 at *
  dsimp only at *
  omega
theorem z_iremT {x y : Int} (hd : decode (zMb M) pc = .ok (.irem, 1)) (h1 : 0 < y) (h : Zr E X R M Q k n (pc + 1) L (ziv (x.tmod y) :: st) S V) : Zr E X R M Q k n pc L (ziv y :: ziv x :: st) S V := by
  intro C H locs ls hR hS hl hL hst
  have hy : z32 y := zhead hst
  have hx : z32 x := zsnd hst
  refine lv_irem C.1 C.2.1 hd (z32_ne0 hy (by omega)) ?_
  rw [z32_rem hx hy h1]
  refine h C H locs ls hR hS hl hL (zall ?_ (ztl2 hst))
  have a1 := ztmod_lt (x := x) h1
  unfold zok z32 at *
  dsimp only at *
  omega
theorem z_lremT {x y : Int} (hd : decode (zMb M) pc = .ok (.lrem, 1)) (h1 : 0 < y) (h : Zr E X R M Q k n (pc + 1) L (zjv (x.tmod y) :: st) S V) : Zr E X R M Q k n pc L (zjv y :: zjv x :: st) S V := by
  intro C H locs ls hR hS hl hL hst
  have hy : z64 y := zhead hst
  have hx : z64 x := zsnd hst
  refine lv_lrem C.1 C.2.1 hd (z64_ne0 hy (by omega)) ?_
  rw [z64_rem hx hy h1]
  refine h C H locs ls hR hS hl hL (zall ?_ (ztl2 hst))
  have a1 := ztmod_lt (x := x) h1
  unfold zok z64 at *
  dsimp only at *
  omega
theorem z_ldiv {x y : Int} (hd : decode (zMb M) pc = .ok (.ldiv, 1)) (h0 : 0 ≤ x) (h1 : 0 < y) (h : Zr E X R M Q k n (pc + 1) L (zjv (x / y) :: st) S V) : Zr E X R M Q k n pc L (zjv y :: zjv x :: st) S V := by
  intro C H locs ls hR hS hl hL hst
  have hy : z64 y := zhead hst
  have hx : z64 x := zsnd hst
  refine lv_ldiv C.1 C.2.1 hd (z64_ne0 hy (by omega)) ?_
  rw [z64_div hx hy h1, Int.tdiv_eq_ediv_of_nonneg h0]
  refine h C H locs ls hR hS hl hL (zall ?_ (ztl2 hst))
  have a1 : 0 ≤ x / y := Int.ediv_nonneg h0 (by omega)
  have a2 : x / y ≤ x := Int.ediv_le_self y h0
  unfold zok z64 at *
  dsimp only at *
  omega
theorem z_ladd {x y : Int} (hd : decode (zMb M) pc = .ok (.ladd, 1)) (ho : z64 (x + y)) (h : Zr E X R M Q k n (pc + 1) L (zjv (x + y) :: st) S V) : Zr E X R M Q k n pc L (zjv y :: zjv x :: st) S V := by
  intro C H locs ls hR hS hl hL hst
  refine lv_ladd C.1 C.2.1 hd ?_
  rw [← Int64.ofInt_add]
  exact h C H locs ls hR hS hl hL (zall ho (ztl2 hst))
theorem z_lmul {x y : Int} (hd : decode (zMb M) pc = .ok (.lmul, 1)) (ho : z64 (x * y)) (h : Zr E X R M Q k n (pc + 1) L (zjv (x * y) :: st) S V) : Zr E X R M Q k n pc L (zjv y :: zjv x :: st) S V := by
  intro C H locs ls hR hS hl hL hst
  refine lv_lmul C.1 C.2.1 hd ?_
  rw [← Int64.ofInt_mul]
  exact h C H locs ls hR hS hl hL (zall ho (ztl2 hst))
/-! bits: by the machine's own words -/
def zand (x y : Int) : Int := (Int32.ofInt x &&& Int32.ofInt y).toInt
def zxor (x y : Int) : Int := (Int32.ofInt x ^^^ Int32.ofInt y).toInt
def zlandl (x y : Int) : Int := (Int64.ofInt x &&& Int64.ofInt y).toInt
def zlorl (x y : Int) : Int := (Int64.ofInt x ||| Int64.ofInt y).toInt
def zlxor (x y : Int) : Int := (Int64.ofInt x ^^^ Int64.ofInt y).toInt
def zlshl (x y : Int) : Int := (Int64.ofInt x <<< ((Int32.ofInt y).toInt64 &&& 63)).toInt
def zlshr (x y : Int) : Int := (Int64.ofInt x >>> ((Int32.ofInt y).toInt64 &&& 63)).toInt
def zlushr (x y : Int) : Int := (((Int64.ofInt x).toUInt64 >>> ((Int32.ofInt y).toInt64.toUInt64 &&& Int64.toUInt64 63)).toInt64).toInt
def zl2i (x : Int) : Int := (Int32.ofInt x).toInt
def zi2b (x : Int) : Int := ((Int32.ofInt x).toInt8.toInt32).toInt
def zi2s (x : Int) : Int := ((Int32.ofInt x).toInt16.toInt32).toInt
theorem z_iand {x y : Int} (hd : decode (zMb M) pc = .ok (.iand, 1)) (h : Zr E X R M Q k n (pc + 1) L (ziv (zand x y) :: st) S V) : Zr E X R M Q k n pc L (ziv y :: ziv x :: st) S V := by
  intro C H locs ls hR hS hl hL hst
  refine lv_iand C.1 C.2.1 hd ?_
  have h2 := h C H locs ls hR hS hl hL (zall (z32_of _) (ztl2 hst))
  simpa [zcv, zand] using h2
theorem z_ixor {x y : Int} (hd : decode (zMb M) pc = .ok (.ixor, 1)) (h : Zr E X R M Q k n (pc + 1) L (ziv (zxor x y) :: st) S V) : Zr E X R M Q k n pc L (ziv y :: ziv x :: st) S V := by
  intro C H locs ls hR hS hl hL hst
  refine lv_ixor C.1 C.2.1 hd ?_
  have h2 := h C H locs ls hR hS hl hL (zall (z32_of _) (ztl2 hst))
  simpa [zcv, zxor] using h2
theorem z_land {x y : Int} (hd : decode (zMb M) pc = .ok (.land, 1)) (h : Zr E X R M Q k n (pc + 1) L (zjv (zlandl x y) :: st) S V) : Zr E X R M Q k n pc L (zjv y :: zjv x :: st) S V := by
  intro C H locs ls hR hS hl hL hst
  refine lv_land C.1 C.2.1 hd ?_
  have h2 := h C H locs ls hR hS hl hL (zall (z64_of _) (ztl2 hst))
  simpa [zcv, zlandl] using h2
theorem z_lor {x y : Int} (hd : decode (zMb M) pc = .ok (.lor, 1)) (h : Zr E X R M Q k n (pc + 1) L (zjv (zlorl x y) :: st) S V) : Zr E X R M Q k n pc L (zjv y :: zjv x :: st) S V := by
  intro C H locs ls hR hS hl hL hst
  refine lv_lor C.1 C.2.1 hd ?_
  have h2 := h C H locs ls hR hS hl hL (zall (z64_of _) (ztl2 hst))
  simpa [zcv, zlorl] using h2
theorem z_lxor {x y : Int} (hd : decode (zMb M) pc = .ok (.lxor, 1)) (h : Zr E X R M Q k n (pc + 1) L (zjv (zlxor x y) :: st) S V) : Zr E X R M Q k n pc L (zjv y :: zjv x :: st) S V := by
  intro C H locs ls hR hS hl hL hst
  refine lv_lxor C.1 C.2.1 hd ?_
  have h2 := h C H locs ls hR hS hl hL (zall (z64_of _) (ztl2 hst))
  simpa [zcv, zlxor] using h2
theorem z_lshl {x y : Int} (hd : decode (zMb M) pc = .ok (.lshl, 1)) (h : Zr E X R M Q k n (pc + 1) L (zjv (zlshl x y) :: st) S V) : Zr E X R M Q k n pc L (ziv y :: zjv x :: st) S V := by
  intro C H locs ls hR hS hl hL hst
  refine lv_lshl C.1 C.2.1 hd (v := Int64.ofInt (zlshl x y)) (by simp [zlshl]) ?_
  exact h C H locs ls hR hS hl hL (zall (z64_of _) (ztl2 hst))
theorem z_lshr {x y : Int} (hd : decode (zMb M) pc = .ok (.lshr, 1)) (h : Zr E X R M Q k n (pc + 1) L (zjv (zlshr x y) :: st) S V) : Zr E X R M Q k n pc L (ziv y :: zjv x :: st) S V := by
  intro C H locs ls hR hS hl hL hst
  refine lv_lshr C.1 C.2.1 hd (v := Int64.ofInt (zlshr x y)) (by simp [zlshr]) ?_
  exact h C H locs ls hR hS hl hL (zall (z64_of _) (ztl2 hst))
theorem z_lushr {x y : Int} (hd : decode (zMb M) pc = .ok (.lushr, 1)) (h : Zr E X R M Q k n (pc + 1) L (zjv (zlushr x y) :: st) S V) : Zr E X R M Q k n pc L (ziv y :: zjv x :: st) S V := by
  intro C H locs ls hR hS hl hL hst
  refine lv_lushr C.1 C.2.1 hd (v := Int64.ofInt (zlushr x y)) (by simp [zlushr]) ?_
  exact h C H locs ls hR hS hl hL (zall (z64_of _) (ztl2 hst))
theorem z_i2l {x : Int} (hd : decode (zMb M) pc = .ok (.i2l, 1)) (h : Zr E X R M Q k n (pc + 1) L (zjv x :: st) S V) : Zr E X R M Q k n pc L (ziv x :: st) S V := by
  intro C H locs ls hR hS hl hL hst
  have hx : z32 x := zhead hst
  refine lv_i2l C.1 C.2.1 hd (v := Int64.ofInt x) ?_ (h C H locs ls hR hS hl hL (zall (z32_z64 hx) (ztail hst)))
  apply Int64.toInt_inj.mp
  rw [Int32.toInt_toInt64, z32_toInt hx, z64_toInt (z32_z64 hx)]
theorem z_l2i {x : Int} (hd : decode (zMb M) pc = .ok (.l2i, 1)) (h : Zr E X R M Q k n (pc + 1) L (ziv (zl2i x) :: st) S V) : Zr E X R M Q k n pc L (zjv x :: st) S V := by
  intro C H locs ls hR hS hl hL hst
  refine lv_l2i C.1 C.2.1 hd (v := Int32.ofInt (zl2i x)) (by rw [Int64.toInt32_ofInt]; unfold zl2i; rw [Int32.ofInt_toInt]) (h C H locs ls hR hS hl hL (zall (z32_of _) (ztail hst)))
theorem z_i2b {x : Int} (hd : decode (zMb M) pc = .ok (.i2b, 1)) (h : Zr E X R M Q k n (pc + 1) L (ziv (zi2b x) :: st) S V) : Zr E X R M Q k n pc L (ziv x :: st) S V := by
  intro C H locs ls hR hS hl hL hst
  refine lv_i2b C.1 C.2.1 hd (v := Int32.ofInt (zi2b x)) (by unfold zi2b; rw [Int32.ofInt_toInt]) (h C H locs ls hR hS hl hL (zall (z32_of _) (ztail hst)))
theorem z_i2s {x : Int} (hd : decode (zMb M) pc = .ok (.i2s, 1)) (h : Zr E X R M Q k n (pc + 1) L (ziv (zi2s x) :: st) S V) : Zr E X R M Q k n pc L (ziv x :: st) S V := by
  intro C H locs ls hR hS hl hL hst
  refine lv_i2s C.1 C.2.1 hd (v := Int32.ofInt (zi2s x)) (by unfold zi2s; rw [Int32.ofInt_toInt]) (h C H locs ls hR hS hl hL (zall (z32_of _) (ztail hst)))
theorem zl2i_id {x : Int} (h : z32 x) : zl2i x = x := z32_toInt h
theorem z_dup {v : zV} (hc : (zcv v).category = 1) (hd : decode (zMb M) pc = .ok (.dup, 1)) (h : Zr E X R M Q k n (pc + 1) L (v :: v :: st) S V) : Zr E X R M Q k n pc L (v :: st) S V :=
  fun C H locs ls hR hS hl hL hst => lv_dup C.1 C.2.1 hd hc (h C H locs ls hR hS hl hL (zall (zhead hst) hst))
theorem z_pop {v : zV} (hc : (zcv v).category = 1) (hd : decode (zMb M) pc = .ok (.pop, 1)) (h : Zr E X R M Q k n (pc + 1) L st S V) : Zr E X R M Q k n pc L (v :: st) S V :=
  fun C H locs ls hR hS hl hL hst => lv_pop C.1 C.2.1 hd hc (h C H locs ls hR hS hl hL (ztail hst))
theorem z_dup2 {u v : zV} (hu : (zcv u).category = 1) (hv : (zcv v).category = 1) (hd : decode (zMb M) pc = .ok (.dup2, 1)) (h : Zr E X R M Q k n (pc + 1) L (u :: v :: u :: v :: st) S V) : Zr E X R M Q k n pc L (u :: v :: st) S V :=
  fun C H locs ls hR hS hl hL hst => lv_dup2_11 C.1 C.2.1 hd hu hv (h C H locs ls hR hS hl hL (zall (zhead hst) (zall (zsnd hst) hst)))
theorem z_goto {off : Int} {tgt : Nat} (hd : decode (zMb M) pc = .ok (.goto off, 3)) (ht : (pc : Int) + off = (tgt : Int)) (h : Zr E X R M Q k n tgt L st S V) : Zr E X R M Q k n pc L st S V :=
  fun C H locs ls hR hS hl hL hst => lv_goto C.1 C.2.1 hd ht (h C H locs ls hR hS hl hL hst)
end ZROWS
end
section
/-! THE Z KIT, part 3: compares, branches, switches -/
section ZCMP
variable {E : zE} {X : zX} {R : Room} {M : zM} {Q : State → Prop} {k n pc : Nat} {L : List (Nat × zV)} {st : List zV} {S : zS} {V : zH}
theorem z32_le {x y : Int} (hx : z32 x) (hy : z32 y) : Int32.ofInt x ≤ Int32.ofInt y ↔ x ≤ y := by rw [Int32.le_iff_toInt_le, z32_toInt hx, z32_toInt hy]
theorem z32_lt {x y : Int} (hx : z32 x) (hy : z32 y) : Int32.ofInt x < Int32.ofInt y ↔ x < y := by rw [Int32.lt_iff_toInt_lt, z32_toInt hx, z32_toInt hy]
theorem z32_eq {x y : Int} (hx : z32 x) (hy : z32 y) : Int32.ofInt x = Int32.ofInt y ↔ x = y := by rw [← Int32.toInt_inj, z32_toInt hx, z32_toInt hy]
theorem z64_lt {x y : Int} (hx : z64 x) (hy : z64 y) : Int64.ofInt x < Int64.ofInt y ↔ x < y := by rw [Int64.lt_iff_toInt_lt, z64_toInt hx, z64_toInt hy]
theorem z64_eq {x y : Int} (hx : z64 x) (hy : z64 y) : Int64.ofInt x = Int64.ofInt y ↔ x = y := by rw [← Int64.toInt_inj, z64_toInt hx, z64_toInt hy]
theorem z32_0 : z32 0 := by unfold z32; omega
theorem z32_o0 : Int32.ofInt 0 = 0 := rfl
theorem z_icmp_eq {x y : Int} {off : Int} {tgt : Nat} (hd : decode (zMb M) pc = .ok (.if_icmp .eq off, 3)) (ht : (pc : Int) + off = (tgt : Int)) (h1 : x = y → Zr E X R M Q k n tgt L st S V) (h2 : x ≠ y → Zr E X R M Q k n (pc + 3) L st S V) : Zr E X R M Q k n pc L (ziv y :: ziv x :: st) S V := by
  intro C H locs ls hR hS hl hL hst
  have hy : z32 y := zhead hst
  have hx : z32 x := zsnd hst
  have hi := z32_eq hx hy
  refine lv_icmp_eq C.1 C.2.1 hd ht (fun q => h1 (hi.mp q) C H locs ls hR hS hl hL (ztl2 hst)) (fun q => h2 ?_ C H locs ls hR hS hl hL (ztl2 hst))
  exact fun z => q (hi.mpr z)
theorem z_if_eq {x : Int} {off : Int} {tgt : Nat} (hd : decode (zMb M) pc = .ok (.ifCond .eq off, 3)) (ht : (pc : Int) + off = (tgt : Int)) (h1 : x = 0 → Zr E X R M Q k n tgt L st S V) (h2 : x ≠ 0 → Zr E X R M Q k n (pc + 3) L st S V) : Zr E X R M Q k n pc L (ziv x :: st) S V := by
  intro C H locs ls hR hS hl hL hst
  have hx : z32 x := zhead hst
  have hy := z32_0
  have hi := z32_eq hx hy
  rw [z32_o0] at hi
  refine lv_if_eq C.1 C.2.1 hd ht (fun q => h1 (hi.mp q) C H locs ls hR hS hl hL (ztail hst)) (fun q => h2 ?_ C H locs ls hR hS hl hL (ztail hst))
  exact fun z => q (hi.mpr z)
theorem z_icmp_ne {x y : Int} {off : Int} {tgt : Nat} (hd : decode (zMb M) pc = .ok (.if_icmp .ne off, 3)) (ht : (pc : Int) + off = (tgt : Int)) (h1 : x ≠ y → Zr E X R M Q k n tgt L st S V) (h2 : x = y → Zr E X R M Q k n (pc + 3) L st S V) : Zr E X R M Q k n pc L (ziv y :: ziv x :: st) S V := by
  intro C H locs ls hR hS hl hL hst
  have hy : z32 y := zhead hst
  have hx : z32 x := zsnd hst
  have hi := (not_congr (z32_eq hx hy))
  refine lv_icmp_ne C.1 C.2.1 hd ht (fun q => h1 (hi.mp q) C H locs ls hR hS hl hL (ztl2 hst)) (fun q => h2 ?_ C H locs ls hR hS hl hL (ztl2 hst))
  exact (z32_eq hx hy).mp q
theorem z_if_ne {x : Int} {off : Int} {tgt : Nat} (hd : decode (zMb M) pc = .ok (.ifCond .ne off, 3)) (ht : (pc : Int) + off = (tgt : Int)) (h1 : x ≠ 0 → Zr E X R M Q k n tgt L st S V) (h2 : x = 0 → Zr E X R M Q k n (pc + 3) L st S V) : Zr E X R M Q k n pc L (ziv x :: st) S V := by
  intro C H locs ls hR hS hl hL hst
  have hx : z32 x := zhead hst
  have hy := z32_0
  have hi := (not_congr (z32_eq hx hy))
  rw [z32_o0] at hi
  refine lv_if_ne C.1 C.2.1 hd ht (fun q => h1 (hi.mp q) C H locs ls hR hS hl hL (ztail hst)) (fun q => h2 ?_ C H locs ls hR hS hl hL (ztail hst))
  exact (z32_eq hx hy).mp q
theorem z_icmp_lt {x y : Int} {off : Int} {tgt : Nat} (hd : decode (zMb M) pc = .ok (.if_icmp .lt off, 3)) (ht : (pc : Int) + off = (tgt : Int)) (h1 : x < y → Zr E X R M Q k n tgt L st S V) (h2 : y ≤ x → Zr E X R M Q k n (pc + 3) L st S V) : Zr E X R M Q k n pc L (ziv y :: ziv x :: st) S V := by
  intro C H locs ls hR hS hl hL hst
  have hy : z32 y := zhead hst
  have hx : z32 x := zsnd hst
  have hi := z32_lt hx hy
  refine lv_icmp_lt C.1 C.2.1 hd ht (fun q => h1 (hi.mp q) C H locs ls hR hS hl hL (ztl2 hst)) (fun q => h2 ?_ C H locs ls hR hS hl hL (ztl2 hst))
  exact Int.not_lt.mp (fun z => q (hi.mpr z))
theorem z_if_lt {x : Int} {off : Int} {tgt : Nat} (hd : decode (zMb M) pc = .ok (.ifCond .lt off, 3)) (ht : (pc : Int) + off = (tgt : Int)) (h1 : x < 0 → Zr E X R M Q k n tgt L st S V) (h2 : 0 ≤ x → Zr E X R M Q k n (pc + 3) L st S V) : Zr E X R M Q k n pc L (ziv x :: st) S V := by
  intro C H locs ls hR hS hl hL hst
  have hx : z32 x := zhead hst
  have hy := z32_0
  have hi := z32_lt hx hy
  rw [z32_o0] at hi
  refine lv_if_lt C.1 C.2.1 hd ht (fun q => h1 (hi.mp q) C H locs ls hR hS hl hL (ztail hst)) (fun q => h2 ?_ C H locs ls hR hS hl hL (ztail hst))
  exact Int.not_lt.mp (fun z => q (hi.mpr z))
theorem z_icmp_ge {x y : Int} {off : Int} {tgt : Nat} (hd : decode (zMb M) pc = .ok (.if_icmp .ge off, 3)) (ht : (pc : Int) + off = (tgt : Int)) (h1 : y ≤ x → Zr E X R M Q k n tgt L st S V) (h2 : x < y → Zr E X R M Q k n (pc + 3) L st S V) : Zr E X R M Q k n pc L (ziv y :: ziv x :: st) S V := by
  intro C H locs ls hR hS hl hL hst
  have hy : z32 y := zhead hst
  have hx : z32 x := zsnd hst
  have hi := z32_le hy hx
  refine lv_icmp_ge C.1 C.2.1 hd ht (fun q => h1 (hi.mp q) C H locs ls hR hS hl hL (ztl2 hst)) (fun q => h2 ?_ C H locs ls hR hS hl hL (ztl2 hst))
  exact Int.not_le.mp (fun z => q (hi.mpr z))
theorem z_if_ge {x : Int} {off : Int} {tgt : Nat} (hd : decode (zMb M) pc = .ok (.ifCond .ge off, 3)) (ht : (pc : Int) + off = (tgt : Int)) (h1 : 0 ≤ x → Zr E X R M Q k n tgt L st S V) (h2 : x < 0 → Zr E X R M Q k n (pc + 3) L st S V) : Zr E X R M Q k n pc L (ziv x :: st) S V := by
  intro C H locs ls hR hS hl hL hst
  have hx : z32 x := zhead hst
  have hy := z32_0
  have hi := z32_le hy hx
  rw [z32_o0] at hi
  refine lv_if_ge C.1 C.2.1 hd ht (fun q => h1 (hi.mp q) C H locs ls hR hS hl hL (ztail hst)) (fun q => h2 ?_ C H locs ls hR hS hl hL (ztail hst))
  exact Int.not_le.mp (fun z => q (hi.mpr z))
theorem z_icmp_gt {x y : Int} {off : Int} {tgt : Nat} (hd : decode (zMb M) pc = .ok (.if_icmp .gt off, 3)) (ht : (pc : Int) + off = (tgt : Int)) (h1 : y < x → Zr E X R M Q k n tgt L st S V) (h2 : x ≤ y → Zr E X R M Q k n (pc + 3) L st S V) : Zr E X R M Q k n pc L (ziv y :: ziv x :: st) S V := by
  intro C H locs ls hR hS hl hL hst
  have hy : z32 y := zhead hst
  have hx : z32 x := zsnd hst
  have hi := z32_lt hy hx
  refine lv_icmp_gt C.1 C.2.1 hd ht (fun q => h1 (hi.mp q) C H locs ls hR hS hl hL (ztl2 hst)) (fun q => h2 ?_ C H locs ls hR hS hl hL (ztl2 hst))
  exact Int.not_lt.mp (fun z => q (hi.mpr z))
theorem z_if_gt {x : Int} {off : Int} {tgt : Nat} (hd : decode (zMb M) pc = .ok (.ifCond .gt off, 3)) (ht : (pc : Int) + off = (tgt : Int)) (h1 : 0 < x → Zr E X R M Q k n tgt L st S V) (h2 : x ≤ 0 → Zr E X R M Q k n (pc + 3) L st S V) : Zr E X R M Q k n pc L (ziv x :: st) S V := by
  intro C H locs ls hR hS hl hL hst
  have hx : z32 x := zhead hst
  have hy := z32_0
  have hi := z32_lt hy hx
  rw [z32_o0] at hi
  refine lv_if_gt C.1 C.2.1 hd ht (fun q => h1 (hi.mp q) C H locs ls hR hS hl hL (ztail hst)) (fun q => h2 ?_ C H locs ls hR hS hl hL (ztail hst))
  exact Int.not_lt.mp (fun z => q (hi.mpr z))
theorem z_icmp_le {x y : Int} {off : Int} {tgt : Nat} (hd : decode (zMb M) pc = .ok (.if_icmp .le off, 3)) (ht : (pc : Int) + off = (tgt : Int)) (h1 : x ≤ y → Zr E X R M Q k n tgt L st S V) (h2 : y < x → Zr E X R M Q k n (pc + 3) L st S V) : Zr E X R M Q k n pc L (ziv y :: ziv x :: st) S V := by
  intro C H locs ls hR hS hl hL hst
  have hy : z32 y := zhead hst
  have hx : z32 x := zsnd hst
  have hi := z32_le hx hy
  refine lv_icmp_le C.1 C.2.1 hd ht (fun q => h1 (hi.mp q) C H locs ls hR hS hl hL (ztl2 hst)) (fun q => h2 ?_ C H locs ls hR hS hl hL (ztl2 hst))
  exact Int.not_le.mp (fun z => q (hi.mpr z))
theorem z_if_le {x : Int} {off : Int} {tgt : Nat} (hd : decode (zMb M) pc = .ok (.ifCond .le off, 3)) (ht : (pc : Int) + off = (tgt : Int)) (h1 : x ≤ 0 → Zr E X R M Q k n tgt L st S V) (h2 : 0 < x → Zr E X R M Q k n (pc + 3) L st S V) : Zr E X R M Q k n pc L (ziv x :: st) S V := by
  intro C H locs ls hR hS hl hL hst
  have hx : z32 x := zhead hst
  have hy := z32_0
  have hi := z32_le hx hy
  rw [z32_o0] at hi
  refine lv_if_le C.1 C.2.1 hd ht (fun q => h1 (hi.mp q) C H locs ls hR hS hl hL (ztail hst)) (fun q => h2 ?_ C H locs ls hR hS hl hL (ztail hst))
  exact Int.not_le.mp (fun z => q (hi.mpr z))
theorem zlcmp {x y : Int} (hx : z64 x) (hy : z64 y) : lg_cmp (Int64.ofInt x) (Int64.ofInt y) = Int32.ofInt (if y < x then 1 else if x = y then 0 else -1) := by
  unfold lg_cmp
  by_cases h1 : y < x
  · have := (z64_lt hy hx).mpr h1
    simp [h1, this]
  · have n1 : ¬ Int64.ofInt y < Int64.ofInt x := fun q => h1 ((z64_lt hy hx).mp q)
    by_cases h2 : x = y
    · subst h2
      simp
    · have n2 : ¬ Int64.ofInt x = Int64.ofInt y := fun q => h2 ((z64_eq hx hy).mp q)
      simp [h1, n1, h2, n2]
theorem z_lcmp {x y : Int} (hd : decode (zMb M) pc = .ok (.lcmp, 1)) (h : Zr E X R M Q k n (pc + 1) L (ziv (if y < x then 1 else if x = y then 0 else -1) :: st) S V) : Zr E X R M Q k n pc L (zjv y :: zjv x :: st) S V := by
  intro C H locs ls hR hS hl hL hst
  have hy : z64 y := zhead hst
  have hx : z64 x := zsnd hst
  refine W.lcmp C.1 C.2.1 hd ?_
  rw [zlcmp hx hy]
  refine h C H locs ls hR hS hl hL (zall ?_ (ztl2 hst))
  show z32 _
  unfold z32
  split
  · omega
  · split <;> omega
theorem z_lif_eq {x y : Int} {off : Int} {tgt : Nat} (hd0 : decode (zMb M) pc = .ok (.lcmp, 1)) (hd : decode (zMb M) (pc + 1) = .ok (.ifCond .eq off, 3)) (ht : ((pc + 1 : Nat) : Int) + off = (tgt : Int)) (h1 : x = y → Zr E X R M Q k n tgt L st S V) (h2 : x ≠ y → Zr E X R M Q k n (pc + 4) L st S V) : Zr E X R M Q k n pc L (zjv y :: zjv x :: st) S V := by
  refine z_lcmp hd0 (z_if_eq hd ht (fun q => h1 ?_) (fun q => h2 ?_))
  · revert q
    split
    · omega
    · split <;> omega
  · revert q
    split
    · omega
    · split <;> omega
theorem z_lif_ne {x y : Int} {off : Int} {tgt : Nat} (hd0 : decode (zMb M) pc = .ok (.lcmp, 1)) (hd : decode (zMb M) (pc + 1) = .ok (.ifCond .ne off, 3)) (ht : ((pc + 1 : Nat) : Int) + off = (tgt : Int)) (h1 : x ≠ y → Zr E X R M Q k n tgt L st S V) (h2 : x = y → Zr E X R M Q k n (pc + 4) L st S V) : Zr E X R M Q k n pc L (zjv y :: zjv x :: st) S V := by
  refine z_lcmp hd0 (z_if_ne hd ht (fun q => h1 ?_) (fun q => h2 ?_))
  · revert q
    split
    · omega
    · split <;> omega
  · revert q
    split
    · omega
    · split <;> omega
theorem z_lif_lt {x y : Int} {off : Int} {tgt : Nat} (hd0 : decode (zMb M) pc = .ok (.lcmp, 1)) (hd : decode (zMb M) (pc + 1) = .ok (.ifCond .lt off, 3)) (ht : ((pc + 1 : Nat) : Int) + off = (tgt : Int)) (h1 : x < y → Zr E X R M Q k n tgt L st S V) (h2 : y ≤ x → Zr E X R M Q k n (pc + 4) L st S V) : Zr E X R M Q k n pc L (zjv y :: zjv x :: st) S V := by
  refine z_lcmp hd0 (z_if_lt hd ht (fun q => h1 ?_) (fun q => h2 ?_))
  · revert q
    split
    · omega
    · split <;> omega
  · revert q
    split
    · omega
    · split <;> omega
theorem z_lif_ge {x y : Int} {off : Int} {tgt : Nat} (hd0 : decode (zMb M) pc = .ok (.lcmp, 1)) (hd : decode (zMb M) (pc + 1) = .ok (.ifCond .ge off, 3)) (ht : ((pc + 1 : Nat) : Int) + off = (tgt : Int)) (h1 : y ≤ x → Zr E X R M Q k n tgt L st S V) (h2 : x < y → Zr E X R M Q k n (pc + 4) L st S V) : Zr E X R M Q k n pc L (zjv y :: zjv x :: st) S V := by
  refine z_lcmp hd0 (z_if_ge hd ht (fun q => h1 ?_) (fun q => h2 ?_))
  · revert q
    split
    · omega
    · split <;> omega
  · revert q
    split
    · omega
    · split <;> omega
theorem z_lif_gt {x y : Int} {off : Int} {tgt : Nat} (hd0 : decode (zMb M) pc = .ok (.lcmp, 1)) (hd : decode (zMb M) (pc + 1) = .ok (.ifCond .gt off, 3)) (ht : ((pc + 1 : Nat) : Int) + off = (tgt : Int)) (h1 : y < x → Zr E X R M Q k n tgt L st S V) (h2 : x ≤ y → Zr E X R M Q k n (pc + 4) L st S V) : Zr E X R M Q k n pc L (zjv y :: zjv x :: st) S V := by
  refine z_lcmp hd0 (z_if_gt hd ht (fun q => h1 ?_) (fun q => h2 ?_))
  · revert q
    split
    · omega
    · split <;> omega
  · revert q
    split
    · omega
    · split <;> omega
theorem z_lif_le {x y : Int} {off : Int} {tgt : Nat} (hd0 : decode (zMb M) pc = .ok (.lcmp, 1)) (hd : decode (zMb M) (pc + 1) = .ok (.ifCond .le off, 3)) (ht : ((pc + 1 : Nat) : Int) + off = (tgt : Int)) (h1 : x ≤ y → Zr E X R M Q k n tgt L st S V) (h2 : y < x → Zr E X R M Q k n (pc + 4) L st S V) : Zr E X R M Q k n pc L (zjv y :: zjv x :: st) S V := by
  refine z_lcmp hd0 (z_if_le hd ht (fun q => h1 ?_) (fun q => h2 ?_))
  · revert q
    split
    · omega
    · split <;> omega
  · revert q
    split
    · omega
    · split <;> omega
theorem z_ifnonnull {x : Int} {off : Int} {tgt : Nat} (hd : decode (zMb M) pc = .ok (.ifnonnull off, 3)) (ht : (pc : Int) + off = (tgt : Int)) (h1 : 0 < x → Zr E X R M Q k n tgt L st S V) (h2 : x = 0 → Zr E X R M Q k n (pc + 3) L st S V) : Zr E X R M Q k n pc L (zrv x :: st) S V := by
  intro C H locs ls hR hS hl hL hst
  have hx : 0 ≤ x := zhead hst
  by_cases h0 : x = 0
  · have e : zcv (zrv x) = .null := by subst h0; rfl
    rw [List.map_cons, e]
    exact lv_ifnonnullN C.1 C.2.1 hd (h2 h0 C H locs ls hR hS hl hL (ztail hst))
  · have e : zcv (zrv x) = .ref (x - 1).toNat := zref_pos (by omega)
    rw [List.map_cons, e]
    exact lv_ifnonnull C.1 C.2.1 hd ht (h1 (by omega) C H locs ls hR hS hl hL (ztail hst))
theorem z_tableOut {dflt lo hi : Int} {offs : Array Int} {len : Nat} {x : Int} {tgt : Nat} (hd : decode (zMb M) pc = .ok (.tableswitch dflt lo hi offs, len)) (h : x < lo ∨ hi < x) (ht : (pc : Int) + dflt = (tgt : Int)) (h1 : Zr E X R M Q k n tgt L st S V) : Zr E X R M Q k n pc L (ziv x :: st) S V := by
  intro C H locs ls hR hS hl hL hst
  have hx : z32 x := zhead hst
  exact lv_tableOut C.1 C.2.1 hd (by rw [z32_toInt hx]; exact h) ht (h1 C H locs ls hR hS hl hL (ztail hst))
theorem z_tableIn {dflt lo hi : Int} {offs : Array Int} {len : Nat} {x : Int} {off : Int} {tgt : Nat} (hd : decode (zMb M) pc = .ok (.tableswitch dflt lo hi offs, len)) (hx0 : lo ≤ x ∧ x ≤ hi) (ho : offs[(x - lo).toNat]? = some off) (ht : (pc : Int) + off = (tgt : Int)) (h1 : Zr E X R M Q k n tgt L st S V) : Zr E X R M Q k n pc L (ziv x :: st) S V := by
  intro C H locs ls hR hS hl hL hst
  have hx : z32 x := zhead hst
  exact lv_tableIn C.1 C.2.1 hd (by rw [z32_toInt hx]; omega) (by rw [z32_toInt hx]; omega) (by rw [z32_toInt hx]; exact ho) ht (h1 C H locs ls hR hS hl hL (ztail hst))
theorem z_lookup {dflt : Int} {ps : Array (Int × Int)} {len : Nat} {x : Int} {off : Int} {tgt : Nat} (hd : decode (zMb M) pc = .ok (.lookupswitch dflt ps, len)) (hp : (ps.toList.zip (ps.toList.drop 1)).all (fun (a, next) => a.1 < next.1) = true) (ho : Op.lookupswitch.offset ps.toList dflt x = off) (ht : (pc : Int) + off = (tgt : Int)) (h1 : Zr E X R M Q k n tgt L st S V) : Zr E X R M Q k n pc L (ziv x :: st) S V := by
  intro C H locs ls hR hS hl hL hst
  have hx : z32 x := zhead hst
  exact lv_lookup C.1 C.2.1 hd hp (by rw [z32_toInt hx]; exact ho) ht (h1 C H locs ls hR hS hl hL (ztail hst))
end ZCMP
end
section
/-! THE Z KIT, part 4: the heap -/
section ZHEAP
variable {E : zE} {X : zX} {R : Room} {M : zM} {Q : State → Prop} {k n pc : Nat} {L : List (Nat × zV)} {st : List zV} {S : zS} {V : zH}
theorem zclamp {j : Int} (h : z32 j) : (Int32.ofInt j).toNatClampNeg = j.toNat := by
  show (Int32.ofInt j).toInt.toNat = _
  rw [z32_toInt h]
theorem zneg {j : Int} (hj : z32 j) (h : 0 ≤ j) : ¬ Int32.ofInt j < 0 := by
  rw [Int32.lt_iff_toInt_lt, z32_toInt hj]
  simpa using h
theorem zKI (C : zC E X M) : ArrOfT (zXs X) (zEI E) .int := (C.2.2.2.2.2.2.2.1.2 0 _ rfl).1
theorem zKJ (C : zC E X M) : ArrOfT (zXs X) (zEJ E) .long := (C.2.2.2.2.2.2.2.1.2 1 _ rfl).1
theorem zR.int {H : Heap} (hR : zR E S V H) {r N : Int} (hk : S r = (1, N)) : 0 < r ∧ zEb E ≤ (r - 1).toNat ∧ 0 ≤ N ∧ N < 2147483648 ∧ H[(r - 1).toNat]? = some (arrV (zEI E) N.toNat (fun j => .int (Int32.ofInt (V r j)))) ∧ ∀ j : Int, 0 ≤ j → j < N → z32 (V r j) := by
  obtain ⟨h1, h2, h3⟩ := hR r (by rw [hk]; show ¬ (1 : Int) = 0; decide)
  rw [hk] at h3
  rcases h3 with ⟨c1, c2, c3, c4, c5⟩ | ⟨c1, -⟩ | ⟨ci, q, c1, -⟩
  · exact ⟨h1, h2, c2, c3, c4, c5⟩
  · exact absurd c1 (by show ¬ (1 : Int) = 2; decide)
  · exact absurd c1 (by show ¬ (1 : Int) = 3 + (ci : Int); omega)
theorem zR.long {H : Heap} (hR : zR E S V H) {r N : Int} (hk : S r = (2, N)) : 0 < r ∧ zEb E ≤ (r - 1).toNat ∧ 0 ≤ N ∧ N < 2147483648 ∧ H[(r - 1).toNat]? = some (arrV (zEJ E) N.toNat (fun j => .long (Int64.ofInt (V r j)))) ∧ ∀ j : Int, 0 ≤ j → j < N → z64 (V r j) := by
  obtain ⟨h1, h2, h3⟩ := hR r (by rw [hk]; show ¬ (2 : Int) = 0; decide)
  rw [hk] at h3
  rcases h3 with ⟨c1, -⟩ | ⟨c1, c2, c3, c4, c5⟩ | ⟨ci, q, c1, -⟩
  · exact absurd c1 (by show ¬ (2 : Int) = 1; decide)
  · exact ⟨h1, h2, c2, c3, c4, c5⟩
  · exact absurd c1 (by show ¬ (2 : Int) = 3 + (ci : Int); omega)
theorem zR.obj {H : Heap} (hR : zR E S V H) {r N : Int} {ci : Nat} {q : vw_C} (hk : S r = (3 + (ci : Int), N)) (hq : vwCl[ci]? = some q) : 0 < r ∧ zEb E ≤ (r - 1).toNat ∧ t_OB (r - 1).toNat ((zED E).1 ci) q.2.2 ((zED E).2 ci) H (fun j => zfv (zty ci j) (V r j)) ∧ ∀ j : Nat, j < q.2.2 → zfok (zty ci j) (V r j) := by
  obtain ⟨h1, h2, h3⟩ := hR r (by rw [hk]; show ¬ (3 + (ci : Int)) = 0; omega)
  rw [hk] at h3
  rcases h3 with ⟨c1, -⟩ | ⟨c1, -⟩ | ⟨ci', q', c1, c2, c3, c4⟩
  · exact absurd c1 (by show ¬ (3 + (ci : Int)) = 1; omega)
  · exact absurd c1 (by show ¬ (3 + (ci : Int)) = 2; omega)
  · have e : ci' = ci := by have : (3 + (ci : Int)) = 3 + (ci' : Int) := c1; omega
    subst e
    rw [hq] at c2
    cases c2
    exact ⟨h1, h2, c3, c4⟩
theorem z_iaload {r N j : Int} (hd : decode (zMb M) pc = .ok (.iaload, 1)) (hk : S r = (1, N)) (h0 : 0 ≤ j) (h1 : j < N) (h : Zr E X R M Q k n (pc + 1) L (ziv (V r j) :: st) S V) : Zr E X R M Q k n pc L (ziv j :: zrv r :: st) S V := by
  intro C H locs ls hR hS hl hL hst
  obtain ⟨g1, g2, g3, g4, g5, g6⟩ := hR.int hk
  have hj : z32 j := zhead hst
  have e : zcv (zrv r) = .ref (r - 1).toNat := zref_pos g1
  rw [List.map_cons, List.map_cons, e]
  have hlt : j.toNat < N.toNat := by omega
  refine W.iald (v := .int (Int32.ofInt (V r j))) C.1 C.2.1 g5 (zKI C _ _) (fun q => by cases q) (by rw [arrV_size, zclamp hj]; exact fun a => a.elim (zneg hj h0) (fun a => by omega)) (by rw [zclamp hj, arrV_read _ _ hlt]; congr 4; omega) rfl rfl hd ?_
  exact h C H locs ls hR hS hl hL (zall (g6 j h0 h1) (ztl2 hst))
theorem z_laload {r N j : Int} (hd : decode (zMb M) pc = .ok (.laload, 1)) (hk : S r = (2, N)) (h0 : 0 ≤ j) (h1 : j < N) (h : Zr E X R M Q k n (pc + 1) L (zjv (V r j) :: st) S V) : Zr E X R M Q k n pc L (ziv j :: zrv r :: st) S V := by
  intro C H locs ls hR hS hl hL hst
  obtain ⟨g1, g2, g3, g4, g5, g6⟩ := hR.long hk
  have hj : z32 j := zhead hst
  have e : zcv (zrv r) = .ref (r - 1).toNat := zref_pos g1
  rw [List.map_cons, List.map_cons, e]
  have hlt : j.toNat < N.toNat := by omega
  refine W.lald (v := .long (Int64.ofInt (V r j))) C.1 C.2.1 g5 (zKJ C _ _) (fun q => by cases q) (by rw [arrV_size, zclamp hj]; exact fun a => a.elim (zneg hj h0) (fun a => by omega)) (by rw [zclamp hj, arrV_read _ _ hlt]; congr 4; omega) rfl rfl hd ?_
  exact h C H locs ls hR hS hl hL (zall (g6 j h0 h1) (ztl2 hst))
theorem zS_put {A : Nat → Prop} {H0 H H1 : Heap} {locs : List Loc} (hS : va_S A H0 H locs) {a i : Nat} (hz : H1.size = H.size) (ho : ∀ q, q ≠ a → H1[q]? = H[q]?) (ha : A a) : va_S A H0 H1 (locs ++ [⟨a, i⟩]) := hS.put hz ho ha
theorem z_iastore {r N j x : Int} (hd : decode (zMb M) pc = .ok (.iastore, 1)) (hk : S r = (1, N)) (h0 : 0 ≤ j) (h1 : j < N) (h : Zr E X R M Q k n (pc + 1) L st S (zput V r j x)) : Zr E X R M Q k n pc L (ziv x :: ziv j :: zrv r :: st) S V := by
  intro C H locs ls hR hS hl hL hst
  obtain ⟨g1, g2, g3, g4, g5, g6⟩ := hR.int hk
  have hx : z32 x := zhead hst
  have hj : z32 j := zsnd hst
  have e : zcv (zrv r) = .ref (r - 1).toNat := zref_pos g1
  rw [List.map_cons, List.map_cons, List.map_cons, e]
  refine W.iast C.1 C.2.1 g5 (zKI C _ _) (fun q => by cases q) (by rw [arrV_size, zclamp hj]; exact fun a => a.elim (zneg hj h0) (fun a => by omega)) rfl rfl hd fun H1 e1 z1 o1 => ?_
  rw [zclamp hj, arrV_store] at e1
  refine h C H1 _ ls (hR.put g1 ?_ (fun q hq => zput_row V j x hq) o1) (hS.put z1 o1 g2) hl hL (ztail (ztl2 hst))
  rw [hk]
  refine Or.inl ⟨rfl, g3, g4, ?_, fun i i0 i1 => ?_⟩
  · rw [e1]
    congr 2
    funext q
    by_cases hq : q = j.toNat
    · subst hq
      have : ((j.toNat : Nat) : Int) = j := by omega
      simp [updV, zput, this]
    · have : ¬ (q : Int) = j := by omega
      simp [updV, zput, hq, this]
  · by_cases hi : i = j
    · subst hi
      rw [zput_self]; exact hx
    · rw [zput_nk V r x r hi]; exact g6 i i0 i1
theorem z_lastore {r N j x : Int} (hd : decode (zMb M) pc = .ok (.lastore, 1)) (hk : S r = (2, N)) (h0 : 0 ≤ j) (h1 : j < N) (h : Zr E X R M Q k n (pc + 1) L st S (zput V r j x)) : Zr E X R M Q k n pc L (zjv x :: ziv j :: zrv r :: st) S V := by
  intro C H locs ls hR hS hl hL hst
  obtain ⟨g1, g2, g3, g4, g5, g6⟩ := hR.long hk
  have hx : z64 x := zhead hst
  have hj : z32 j := zsnd hst
  have e : zcv (zrv r) = .ref (r - 1).toNat := zref_pos g1
  rw [List.map_cons, List.map_cons, List.map_cons, e]
  refine W.last C.1 C.2.1 g5 (zKJ C _ _) (fun q => by cases q) (by rw [arrV_size, zclamp hj]; exact fun a => a.elim (zneg hj h0) (fun a => by omega)) rfl rfl hd fun H1 e1 z1 o1 => ?_
  rw [zclamp hj, arrV_store] at e1
  refine h C H1 _ ls (hR.put g1 ?_ (fun q hq => zput_row V j x hq) o1) (hS.put z1 o1 g2) hl hL (ztail (ztl2 hst))
  rw [hk]
  refine Or.inr (Or.inl ⟨rfl, g3, g4, ?_, fun i i0 i1 => ?_⟩)
  · rw [e1]
    congr 2
    funext q
    by_cases hq : q = j.toNat
    · subst hq
      have : ((j.toNat : Nat) : Int) = j := by omega
      simp [updV, zput, this]
    · have : ¬ (q : Int) = j := by omega
      simp [updV, zput, hq, this]
  · by_cases hi : i = j
    · subst hi
      rw [zput_self]; exact hx
    · rw [zput_nk V r x r hi]; exact g6 i i0 i1
theorem z_alen1 {r N : Int} (hd : decode (zMb M) pc = .ok (.arraylength, 1)) (hk : S r = (1, N)) (h : Zr E X R M Q k n (pc + 1) L (ziv N :: st) S V) : Zr E X R M Q k n pc L (zrv r :: st) S V := by
  intro C H locs ls hR hS hl hL hst
  obtain ⟨g1, g2, g3, g4, g5, g6⟩ := hR.int hk
  have e : zcv (zrv r) = .ref (r - 1).toNat := zref_pos g1
  rw [List.map_cons, e]
  have hN : z32 N := by unfold z32; omega
  refine W.alen (n := Int32.ofInt N) C.1 C.2.1 g5 (zKI C _ _) ?_ rfl rfl hd (h C H locs ls hR hS hl hL (zall hN (ztail hst)))
  rw [arrV_size]
  have e2 : (N.toNat : Int) = N := by omega
  show Int32.ofNat N.toNat = _
  rw [← Int32.ofInt_eq_ofNat, e2]
theorem z_alen2 {r N : Int} (hd : decode (zMb M) pc = .ok (.arraylength, 1)) (hk : S r = (2, N)) (h : Zr E X R M Q k n (pc + 1) L (ziv N :: st) S V) : Zr E X R M Q k n pc L (zrv r :: st) S V := by
  intro C H locs ls hR hS hl hL hst
  obtain ⟨g1, g2, g3, g4, g5, g6⟩ := hR.long hk
  have e : zcv (zrv r) = .ref (r - 1).toNat := zref_pos g1
  rw [List.map_cons, e]
  have hN : z32 N := by unfold z32; omega
  refine W.alen (n := Int32.ofInt N) C.1 C.2.1 g5 (zKJ C _ _) ?_ rfl rfl hd (h C H locs ls hR hS hl hL (zall hN (ztail hst)))
  rw [arrV_size]
  have e2 : (N.toNat : Int) = N := by omega
  show Int32.ofNat N.toNat = _
  rw [← Int32.ofInt_eq_ofNat, e2]
end ZHEAP
end
section
/-! THE Z KIT, part 5: fields, new cells, copies -/
section ZOBJ
variable {E : zE} {X : zX} {R : Room} {M : zM} {Q : State → Prop} {k n pc : Nat} {L : List (Nat × zV)} {st : List zV} {S : zS} {V : zH}
/-- a field's value as it stands on the stack: by its type -/
def zfs (ty : FieldType) (x : Int) : zV := match ty with
  | .object _ => zrv x
  | .array _ => zrv x
  | .long => zjv x
  | _ => ziv x
theorem zfs_cv (ty : FieldType) (x : Int) : zcv (zfs ty x) = zfv ty x := by cases ty <;> rfl
theorem zfs_ok {ty : FieldType} {x : Int} (h : zfok ty x) : zok (zfs ty x) := by
  cases ty <;> first | exact h | skip
  rcases h with rfl | rfl <;> (show z32 _; unfold z32; omega)
theorem z_get {r N : Int} {ci index : Nat} {q : vw_C} (j : Nat) {v : zV} (hd : decode (zMb M) pc = .ok (.getfield index, 3)) (hk : S r = (3 + (ci : Int), N)) (hq : vwCl[ci]? = some q) (hj : j < q.2.2) (hin : ∀ w ∈ u_ws q.1 q.2.1 q.2.2, w ∈ ztbl)
    (hlink : Cond.fieldLink (zMy M).cls index (q.2.1 j).1 (q.2.1 j).2.1 (q.2.1 j).2.2.1 ∈ ztbl) (hv : zfs (zty ci j) (V r j) = v) (h : Zr E X R M Q k n (pc + 3) L (v :: st) S V) : Zr E X R M Q k n pc L (zrv r :: st) S V := by
  intro C H locs ls hR hS hl hL hst
  obtain ⟨g1, g2, ⟨cell, c1, c2, c3, c4⟩, g4⟩ := hR.obj hk hq
  have e : zcv (zrv r) = .ref (r - 1).toNat := zref_pos g1
  rw [List.map_cons, e]
  obtain ⟨hKS, hfc, kC, hkC, hkind⟩ := C.2.2.2.2.2.2.2.1.1 ci _ hq
  obtain ⟨cf, kf, fi, f, hi, hsl⟩ := hKS j hj
  have hts := C.2.2.2.2.2.2.1
  refine W.getf C.1 C.2.1 C.2.2.2.2.1 (hts _ hlink) hi (u_facts hfc hkC (u_lays hts hin hj) hi).1 c1 (by rw [c3]; exact fun h => by cases h) (v := zcv v) ?_ rfl rfl hd ?_
  · rw [hsl, c4 j hj, ← hv, zfs_cv]
  · exact h C H locs ls hR hS hl hL (zall (by rw [← hv]; exact zfs_ok (g4 j hj)) (ztail hst))
theorem zfok_fits {ty : FieldType} {x : Int} (hty : ty = .int ∨ ty = .boolean ∨ (∃ s, ty = .object s) ∨ ∃ s, ty = .array s) (h : zfok ty x) : narrow ty (zfv ty x) = zfv ty x ∧ fits ty (zfv ty x) = true := by
  rcases hty with rfl | rfl | ⟨s, rfl⟩ | ⟨s, rfl⟩
  · exact ⟨rfl, rfl⟩
  · rcases h with rfl | rfl <;> exact ⟨by decide, by decide⟩
  · show narrow _ (zref x) = zref x ∧ fits _ (zref x) = true
    unfold zref
    split <;> exact ⟨rfl, rfl⟩
  · show narrow _ (zref x) = zref x ∧ fits _ (zref x) = true
    unfold zref
    split <;> exact ⟨rfl, rfl⟩
theorem z_apart (C : zC E X M) {ci : Nat} {q : vw_C} (hq : vwCl[ci]? = some q) (hin : ∀ w ∈ u_ws q.1 q.2.1 q.2.2, w ∈ ztbl) (hty : ∀ k, k < q.2.2 → parseFieldDescriptor (q.2.1 k).2.2.1 = some (zty ci k)) (hnm : ∀ a, a < q.2.2 → ∀ b, b < q.2.2 → a ≠ b → (q.2.1 a).2.1 ≠ (q.2.1 b).2.1) :
    ∀ x y, x < q.2.2 → y < q.2.2 → x ≠ y → ((zED E).2 ci) x ≠ ((zED E).2 ci) y :=
  va_apart (own := "") C.2.2.2.2.2.2.1 hin (zty ci) hty hnm C.2.2.2.2.2.2.2.1 hq
theorem zcell_put {r N : Int} {ci : Nat} {q : vw_C} {H1 : Heap} {cell : Cell} (j : Nat) {x : Int} (hk : S r = (3 + (ci : Int), N)) (hq : vwCl[ci]? = some q) (hj : j < q.2.2) (hap : ∀ x y, x < q.2.2 → y < q.2.2 → x ≠ y → ((zED E).2 ci) x ≠ ((zED E).2 ci) y)
    (c2 : cell.cls = (zED E).1 ci) (c3 : cell.vm = .none) (c4 : ∀ k, k < q.2.2 → cell.slots[(zED E).2 ci k]? = some (zfv (zty ci k) (V r k))) (g4 : ∀ j : Nat, j < q.2.2 → zfok (zty ci j) (V r j)) (hx : zfok (zty ci j) x) (e1 : H1[(r - 1).toNat]? = some (cell.setSlot ((zED E).2 ci j) (zfv (zty ci j) x))) :
    zcell E (S r) (zput V r j x r) (r - 1).toNat H1 := by
  rw [hk]
  refine Or.inr (Or.inr ⟨ci, q, rfl, hq, ⟨_, e1, c2, c3, fun i hi => ?_⟩, fun i hi => ?_⟩)
  · rw [t_set c4 hap hj (zfv (zty ci j) x) i hi]
    by_cases hij : i = j
    · subst hij
      simp [updV, zput]
    · have : ¬ (i : Int) = (j : Int) := by omega
      simp [updV, zput, hij, this]
  · by_cases hij : i = j
    · subst hij
      rw [zput_self]; exact hx
    · rw [zput_nk V r x r (by omega)]; exact g4 i hi
theorem z_put {r N x : Int} {ci index : Nat} {q : vw_C} (j : Nat) {v : zV} (hd : decode (zMb M) pc = .ok (.putfield index, 3)) (hk : S r = (3 + (ci : Int), N)) (hq : vwCl[ci]? = some q) (hj : j < q.2.2) (hin : ∀ w ∈ u_ws q.1 q.2.1 q.2.2, w ∈ ztbl)
    (hty : ∀ k, k < q.2.2 → parseFieldDescriptor (q.2.1 k).2.2.1 = some (zty ci k)) (hnm : ∀ a, a < q.2.2 → ∀ b, b < q.2.2 → a ≠ b → (q.2.1 a).2.1 ≠ (q.2.1 b).2.1)
    (hlink : Cond.fieldLink (zMy M).cls index (q.2.1 j).1 (q.2.1 j).2.1 (q.2.1 j).2.2.1 ∈ ztbl) (hfin : (q.2.1 j).2.2.2 = false) (hsh : zty ci j = .int ∨ zty ci j = .boolean ∨ (∃ s, zty ci j = .object s) ∨ ∃ s, zty ci j = .array s) (hv : zfs (zty ci j) x = v) (hx : zok v → zfok (zty ci j) x) (h : Zr E X R M Q k n (pc + 3) L st S (zput V r j x)) : Zr E X R M Q k n pc L (v :: zrv r :: st) S V := by
  intro C H locs ls hR hS hl hL hst
  obtain ⟨g1, g2, ⟨cell, c1, c2, c3, c4⟩, g4⟩ := hR.obj hk hq
  have e : zcv (zrv r) = .ref (r - 1).toNat := zref_pos g1
  have ev : zcv v = zfv (zty ci j) x := by rw [← hv, zfs_cv]
  rw [List.map_cons, List.map_cons, e, ev]
  obtain ⟨hKS, hfc, kC, hkC, hkind⟩ := C.2.2.2.2.2.2.2.1.1 ci _ hq
  obtain ⟨cf, kf, fi, f, hi, hsl⟩ := hKS j hj
  have hts := C.2.2.2.2.2.2.1
  have hap := z_apart C hq hin hty hnm
  have hlay := hts _ (hin _ (u_in_lay hj))
  unfold u_lay at hlay
  rw [if_neg (by rw [hfin]; decide)] at hlay
  have hst' := (u_facts hfc hkC (u_lays hts hin hj) hi).1
  have hx' := hx (zhead hst)
  have hf := zfok_fits hsh hx'
  have h6 := u_store hfc hkC hkind hlay hi (hty j hj) hf.1 hf.2
  refine W.putK C.1 C.2.1 (f := f) ⟨C.2.2.2.2.1, hts _ hlink, ⟨_, _, _, hi⟩, hst'⟩ (by rw [c2]; exact h6) c1 c3 (by rw [hsl]; exact k2_hasslot (c4 j hj)) rfl rfl hd fun H' e1 e2 e3 => ?_
  rw [hsl] at e1 ⊢
  exact h C H' _ ls (hR.put g1 (zcell_put j hk hq hj hap c2 c3 c4 g4 hx' e1) (fun q hq => zput_row V j x hq) e3) (hS.put e2 e3 g2) hl hL (ztl2 hst)
theorem z_putF {r N x : Int} {ci index : Nat} {q : vw_C} (j : Nat) {v : zV} (hd : decode (zMb M) pc = .ok (.putfield index, 3)) (hk : S r = (3 + (ci : Int), N)) (hq : vwCl[ci]? = some q) (hj : j < q.2.2) (hin : ∀ w ∈ u_ws q.1 q.2.1 q.2.2, w ∈ ztbl)
    (hty : ∀ k, k < q.2.2 → parseFieldDescriptor (q.2.1 k).2.2.1 = some (zty ci k)) (hnm : ∀ a, a < q.2.2 → ∀ b, b < q.2.2 → a ≠ b → (q.2.1 a).2.1 ≠ (q.2.1 b).2.1)
    (hlink : Cond.fieldLink (zMy M).cls index (q.2.1 j).1 (q.2.1 j).2.1 (q.2.1 j).2.2.1 ∈ ztbl) (hfin : (q.2.1 j).2.2.2 = true) (hin2 : (zMy M).name = "<init>") (hdecl : (q.2.1 j).1 = (zMy M).cls) (hsh : zty ci j = .int ∨ zty ci j = .boolean ∨ (∃ s, zty ci j = .object s) ∨ ∃ s, zty ci j = .array s) (hv : zfs (zty ci j) x = v) (hx : zok v → zfok (zty ci j) x) (h : Zr E X R M Q k n (pc + 3) L st S (zput V r j x)) : Zr E X R M Q k n pc L (v :: zrv r :: st) S V := by
  intro C H locs ls hR hS hl hL hst
  obtain ⟨g1, g2, ⟨cell, c1, c2, c3, c4⟩, g4⟩ := hR.obj hk hq
  have e : zcv (zrv r) = .ref (r - 1).toNat := zref_pos g1
  have ev : zcv v = zfv (zty ci j) x := by rw [← hv, zfs_cv]
  rw [List.map_cons, List.map_cons, e, ev]
  obtain ⟨hKS, hfc, kC, hkC, hkind⟩ := C.2.2.2.2.2.2.2.1.1 ci _ hq
  obtain ⟨cf, kf, fi, f, hi, hsl⟩ := hKS j hj
  have hts := C.2.2.2.2.2.2.1
  have hown := C.2.2.2.2.1
  have hap := z_apart C hq hin hty hnm
  have hlay := hts _ (hin _ (u_in_lay hj))
  unfold u_lay at hlay
  rw [if_pos hfin] at hlay
  have hst' := (u_facts hfc hkC (u_lays hts hin hj) hi).1
  have hcf : (zXm X).cls = cf := by
    obtain ⟨_, _, c', _, _, _, -, -, hf', -, -, -, hown2, -⟩ := Cond.laysFinal_spec hlay
    have e1 : c' = cf := by have := hi.symm.trans hf'; simp at this; exact this.1.symm
    rw [hdecl] at hown2
    rw [← e1]; exact Option.some.inj (hown.symm.trans hown2)
  have hx' := hx (zhead hst)
  have hf := zfok_fits hsh hx'
  have h6 := u_fits hfc hkC hkind (Or.inr hlay) hi (hty j hj) hf.1 hf.2
  refine W.putFinK C.1 C.2.1 hown (hts _ hlink) hi hst' hcf (C.2.2.2.2.2.2.2.2.1.trans hin2) (by rw [c2]; exact h6) c1 c3 (by rw [hsl]; exact k2_hasslot (c4 j hj)) rfl rfl hd fun H' e1 e2 e3 => ?_
  rw [hsl] at e1 ⊢
  exact h C H' _ ls (hR.put g1 (zcell_put j hk hq hj hap c2 c3 c4 g4 hx' e1) (fun q hq => zput_row V j x hq) e3) (hS.put e2 e3 g2) hl hL (ztl2 hst)
theorem zdefault {ty : FieldType} (h : ty = .int ∨ ty = .boolean ∨ (∃ s, ty = .object s) ∨ ∃ s, ty = .array s) : defaultValue ty = zfv ty 0 ∧ zfok ty 0 := by
  rcases h with rfl | rfl | ⟨s, rfl⟩ | ⟨s, rfl⟩
  · exact ⟨rfl, z32_0⟩
  · exact ⟨rfl, Or.inl rfl⟩
  · exact ⟨rfl, Int.le_refl 0⟩
  · exact ⟨rfl, Int.le_refl 0⟩
theorem zS_push {A : Nat → Prop} {H0 H H1 : Heap} {locs : List Loc} (hS : va_S A H0 H locs) (hz : H1.size = H.size + 1) (ho : ∀ q, q < H.size → H1[q]? = H[q]?) : va_S A H0 H1 locs :=
  ⟨Nat.le_trans hS.1 (by omega), fun q h1 h2 => (ho q (Nat.lt_of_lt_of_le h1 hS.1)).trans (hS.2.1 q h1 h2), hS.2.2⟩
theorem zref_new (a : Nat) : zcv (zrv ((a : Int) + 1)) = .ref a := by
  show zref ((a : Int) + 1) = .ref a
  rw [zref_pos (by omega), show ((a : Int) + 1 - 1).toNat = a by omega]
theorem z_new {ci index : Nat} {q : vw_C} {N : Int} (hd : decode (zMb M) pc = .ok (.new index, 3)) (hq : vwCl[ci]? = some q) (hN : (q.2.2 : Int) = N) (hin : ∀ w ∈ u_ws q.1 q.2.1 q.2.2, w ∈ ztbl)
    (hty : ∀ k, k < q.2.2 → parseFieldDescriptor (q.2.1 k).2.2.1 = some (zty ci k)) (hsh : ∀ j, j < q.2.2 → (zty ci j = .int ∨ zty ci j = .boolean ∨ (∃ s, zty ci j = .object s) ∨ ∃ s, zty ci j = .array s))
    (hlink : Cond.classLink (zMy M).cls index q.1 ∈ ztbl) (hins : Cond.instantiable q.1 q.2.2 ∈ ztbl) (hini : Cond.initialized q.1 ∈ ztbl) (hcells : k + 1 ≤ R.cells) (hslots : n + q.2.2 ≤ R.slots)
    (h : ∀ r : Int, 0 < r → (S r).1 = 0 → Zr E X R M Q (k + 1) (n + q.2.2) (pc + 3) L (zrv r :: st) (zSn S r (3 + (ci : Int), N)) (zVn V r)) : Zr E X R M Q k n pc L st S V := by
  intro C H locs ls hR hS hl hL hst
  have hts := C.2.2.2.2.2.2.1
  have hKn := C.2.2.2.2.2.2.2.1.1 ci _ hq
  have hb : zEb E ≤ H.size := Nat.le_trans C.2.2.2.2.2.2.2.2.2 hS.1
  refine W.newcK C.1 C.2.1 C.2.2.2.2.1 (hts _ hlink) (hts _ hins) (hts _ hini) rfl hd hcells hslots hKn.2.1 rfl fun H1 kC hkC e1 z1 o1 => ?_
  have h2 := h ((H.size : Int) + 1) (by omega) hR.fresh C H1 locs ls (hR.push hb (k := (3 + (ci : Int), N)) (Or.inr (Or.inr ⟨ci, q, rfl, hq, (u_born (zty ci) hts hin hKn hkC e1 hty).to (fun j hj => (zdefault (hsh j hj)).1), fun j hj => (zdefault (hsh j hj)).2⟩)) o1) (zS_push hS z1 o1) hl hL (zall (by show (0 : Int) ≤ _; omega) hst)
  have e := zref_new H.size
  rw [List.map_cons, e] at h2
  exact h2
theorem zKIc (C : zC E X M) : (zXs X).vm.findClass ("[" ++ FieldType.int.toString) = some (zEI E) := (C.2.2.2.2.2.2.2.1.2 0 _ rfl).2
theorem zKJc (C : zC E X M) : (zXs X).vm.findClass ("[" ++ FieldType.long.toString) = some (zEJ E) := (C.2.2.2.2.2.2.2.1.2 1 _ rfl).2
theorem z_newi {N : Int} (hd : decode (zMb M) pc = .ok (.newarray .int, 2)) (harr : Cond.arrayClass .int ∈ ztbl) (h0 : 0 ≤ N) (h1 : N < 100000000) (hcells : k + 1 ≤ R.cells) (hslots : n + N.toNat ≤ R.slots)
    (h : ∀ r : Int, 0 < r → (S r).1 = 0 → Zr E X R M Q (k + 1) (n + N.toNat) (pc + 2) L (zrv r :: st) (zSn S r (1, N)) (zVn V r)) : Zr E X R M Q k n pc L (ziv N :: st) S V := by
  intro C H locs ls hR hS hl hL hst
  have hN : z32 N := zhead hst
  have hb : zEb E ≤ H.size := Nat.le_trans C.2.2.2.2.2.2.2.2.2 hS.1
  refine va_newaK C.1 C.2.1 (atype := .int) (C.2.2.2.2.2.2.1 _ harr) (n := Int32.ofInt N) (N := N.toNat) rfl hd rfl (zneg hN h0) (zclamp hN) (by show N.toNat * 4 ≤ _; omega) hcells hslots rfl fun H1 cA e1 z1 o1 hAr hNm => ?_
  have ec : cA = zEI E := Option.some.inj (hNm.symm.trans (zKIc C))
  subst ec
  have h2 := h ((H.size : Int) + 1) (by omega) hR.fresh C H1 locs ls (hR.push hb (k := (1, N)) (Or.inl ⟨rfl, h0, by show N < _; omega, e1, fun _ _ _ => z32_0⟩) o1) (zS_push hS z1 o1) hl hL (zall (by show (0 : Int) ≤ _; omega) (ztail hst))
  have e := zref_new H.size
  rw [List.map_cons, e] at h2
  exact h2
theorem z_newl {N : Int} (hd : decode (zMb M) pc = .ok (.newarray .long, 2)) (harr : Cond.arrayClass .long ∈ ztbl) (h0 : 0 ≤ N) (h1 : N < 60000000) (hcells : k + 1 ≤ R.cells) (hslots : n + N.toNat ≤ R.slots)
    (h : ∀ r : Int, 0 < r → (S r).1 = 0 → Zr E X R M Q (k + 1) (n + N.toNat) (pc + 2) L (zrv r :: st) (zSn S r (2, N)) (zVn V r)) : Zr E X R M Q k n pc L (ziv N :: st) S V := by
  intro C H locs ls hR hS hl hL hst
  have hN : z32 N := zhead hst
  have hb : zEb E ≤ H.size := Nat.le_trans C.2.2.2.2.2.2.2.2.2 hS.1
  refine va_newaK C.1 C.2.1 (atype := .long) (C.2.2.2.2.2.2.1 _ harr) (n := Int32.ofInt N) (N := N.toNat) rfl hd rfl (zneg hN h0) (zclamp hN) (by show N.toNat * 8 ≤ _; omega) hcells hslots rfl fun H1 cA e1 z1 o1 hAr hNm => ?_
  have ec : cA = zEJ E := Option.some.inj (hNm.symm.trans (zKJc C))
  subst ec
  have h2 := h ((H.size : Int) + 1) (by omega) hR.fresh C H1 locs ls (hR.push hb (k := (2, N)) (Or.inr (Or.inl ⟨rfl, h0, by show N < _; omega, e1, fun _ _ _ => (by unfold z64; omega : z64 0)⟩)) o1) (zS_push hS z1 o1) hl hL (zall (by show (0 : Int) ≤ _; omega) (ztail hst))
  have e := zref_new H.size
  rw [List.map_cons, e] at h2
  exact h2
end ZOBJ
end
section
/-! THE Z KIT, part 6: calls, returns, contracts -/
section ZCALL
variable {E : zE} {X : zX} {R : Room} {M : zM} {Q : State → Prop} {k n pc : Nat} {L : List (Nat × zV)} {st : List zV} {S : zS} {V : zH}
theorem zgood_warm {w : Cond} (h : zgood w = true) {s U : State} {a a' : Array Value} (hW : s.WarmedH U.vm) (hb : w.before a s = true) : w.before a' U = true := by
  by_cases hm : ∃ o i y t, w = .methodLinkNest o i y t
  · obtain ⟨o, i, y, t, rfl⟩ := hm
    exact va_Nw.use rfl (va_Nw.warmM hW (va_Nw.of rfl hb))
  · by_cases hf : ∃ o i b c d t, w = .fieldLinkNest o i b c d t
    · obtain ⟨o, i, b, c, d, t, rfl⟩ := hf
      exact va_Nw.use rfl (va_Nw.warmF hW (va_Nw.of rfl hb))
    · have hg : goodWord w = true := by
        cases w <;> first | exact h | skip
        · exact absurd ⟨_, _, _, _, rfl⟩ hm
        · exact absurd ⟨_, _, _, _, _, _, rfl⟩ hf
      exact word_at hW (good_of_word hg) hb
theorem zwarm (C : zC E X M) {w : Cond} (hw : w ∈ ztbl) (a' : Array Value) (U : State) (hW : (zXs X).WarmedH U.vm) : w.before a' U = true :=
  zgood_warm (List.mem_filter.mp hw).2 hW (C.2.2.2.2.2.2.1 w hw)
theorem zK.moved {u U : State} (hvm : u.vm.Alike U.vm) (h : zK E u) : zK E U := va_K.moved hvm h
/-- the facts of a callee that a program decides: its code among the words, its class ready, its parameters -/
def zcal (N : zM) (np : Nat) : Prop := Cond.code (zMy N) (zMb N) (zMl N) (zMr N) ∈ ztbl ∧ Cond.initialized (zMy N).cls ∈ ztbl ∧ ((zMy N).cls ≠ "java/lang/invoke/MethodHandle" ∧ (zMy N).cls ≠ "java/lang/invoke/VarHandle") ∧ (parseMethodDescriptor (zMy N).desc).map (fun d => d.parameters.length) = some np
theorem zback (C : zC E X M) {N : zM} {np d mc ms : Nat} (hN : zcal N np) {as : List zV} {P : Option zV → zS → zH → Prop} (hM : Sp E d mc ms N as S V P) (hr1 : d + 1 ≤ R.frames) (hr2 : 8 + (zMl N + 11) + 64 * d ≤ R.locals) :
    Back (zEl E) R (zXp X) (zXe X) (zXw X) (zXs X) (zXa X) (zMy N) 3 8 (PreOf R mc ms (zPc E as S V)) (PostOf (zQc E P) mc ms (zA E)) := by
  refine back_of (bytes := zMb N) (maxL := zMl N) (ret := zMr N) hM ?_ rfl rfl hr1 hr2 ?_ List.mem_cons_self ?_
  · intro a U g mk q
    obtain ⟨q1, q2, q3, q4, q5⟩ := q
    exact ⟨q1, q2, q3, zK.moved (u := U) (U := U.calling g mk a) (Vm.Alike.refl U.vm) q4, q5⟩
  · intro w hw a' U hW
    rcases List.mem_cons.mp hw with rfl | hw
    · exact zwarm C hN.1 a' U hW
    · exact zwarm C hw a' U hW
  · intro a' U hW
    exact zwarm C hN.2.1 a' U hW
theorem zPc_at (C : zC E X M) {H : Heap} {locs : List Loc} (hR : zR E S V H) (hS : va_S (zA E) (zXs X).heap H locs) {as : List zV} (hok : ∀ a ∈ as, zok a) {U : State} (hU : U.heap = H) (hW : (zXs X).WarmedH U.vm) : zPc E as S V (as.map zcv).toArray U :=
  ⟨rfl, hok, by rw [hU]; exact hR, zK.moved hW.alike C.2.2.2.2.2.2.2.1, by rw [hU]; exact Nat.le_trans C.2.2.2.2.2.2.2.2.2 hS.1⟩
theorem zlen {N : zM} {np : Nat} (hN : zcal N np) (sig : MethodDescriptor) (h : parseMethodDescriptor (zMy N).desc = some sig) : np = sig.parameters.length := by
  have h2 := hN.2.2.2
  rw [h] at h2
  exact (Option.some.inj h2).symm
/-- behind a call -/
theorem zafter (C : zC E X M) {H : Heap} {locs : List Loc} {ls : Array Slot} {mc ms : Nat} {P : Option zV → zS → zH → Prop} {a : Array Value} {st0 : List Value} (hS : va_S (zA E) (zXs X).heap H locs) (hl : lv_has ls (zMl M) (zL L)) (hL : ∀ q ∈ L, zok q.2) (hst : ∀ v ∈ st, zok v)
    (hr : va_Run (zXp X) (zEl E) (zXe X) R (zXs X) (zXm X) (zXa X) (zXw X) (zXh X) (zXc X) H locs k n mc ms (F0 (zXm X) pc ls st0) (st.map zcv) (zQc E P a) (zA E))
    (h : ∀ r S' V', P r S' V' → Zr E X R M Q (k + mc) (n + ms) (pc + 3) L (r.toList ++ st) S' V') :
    W (zXp X) (zEl E) (zXe X) R (zXs X) (zXm X) (zXa X) (zXw X) (zXh X) (zXc X) H locs k n Q (F0 (zXm X) pc ls st0) := by
  intro T hT Y
  obtain ⟨v, st₀, t, T', Ls, h0, Y', hLs, e1, e2, ⟨⟨r, S', V', hv, hrok, hp, hb⟩, hz, hk⟩, stp⟩ := hr T hT Y
  have hv' : v = r.map zcv := by cases hv; rfl
  subst hv'
  rw [h0] at hz hk
  have hS' : va_S (zA E) (zXs X).heap T'.heap (locs ++ Ls) := ⟨Nat.le_trans hS.1 (by rw [e1]; exact hz), fun q h1 h2 => by rw [e1, hk q (Nat.lt_of_lt_of_le h1 hS.1) h2]; exact hS.2.1 q h1 h2, fun q hq => by
      rcases List.mem_append.mp hq with h | h
      · exact hS.2.2 q h
      · exact hLs q h⟩
  have hst2 : ∀ v ∈ r.toList ++ st, zok v := by
    intro v hv
    rcases List.mem_append.mp hv with h | h
    · exact hrok v (Option.mem_toList.mp h)
    · exact hst v h
  have hw := h r S' V' hp C T'.heap (locs ++ Ls) ls (by rw [e1]; exact hb) hS' hl hL hst2 T' rfl Y'
  obtain ⟨t2, a1, b1⟩ := hw
  refine ⟨t2, stp t2 ?_, b1⟩
  have e3 : (r.map zcv).toList ++ st.map zcv = (r.toList ++ st).map zcv := by cases r <;> simp
  rw [e3]
  exact a1
theorem zrest {N : zM} (h : ((st.map zcv).map fun v => v.category).sum ≤ 8) {ls : Array Slot} {m : MethodId} {s0 : List Value} : 2 * (F0 m pc ls s0).monitorRoom + ((st.map zcv).map fun v => v.category).sum ≤ 8 := lv_room h
/-- words on the operand stack, by the values -/
def zcats (st : List zV) : Nat := (st.map fun v => if zcat2 v then 2 else 1).sum
theorem zcats_eq (st : List zV) : ((st.map zcv).map fun v => v.category).sum = zcats st := by
  unfold zcats
  rw [List.map_map]
  congr 1
  apply List.map_congr_left
  intro v _
  rcases v with x | x | x
  · rfl
  · rfl
  · show (zref x).category = _
    rw [zref_cat]; rfl
theorem z_callV {N : zM} {np d mc ms ci index : Nat} {r c : Int} {q : vw_C} {as st0 : List zV} {P : Option zV → zS → zH → Prop} (hd : decode (zMb M) pc = .ok (.invokevirtual index, 3)) (hN : zcal N np) (hlink : Cond.methodLink (zMy M).cls index (zMy N) ∈ ztbl) (hins : Cond.instanceMethod (zMy N) ∈ ztbl) (hsel : Cond.selects (zMy N).cls (zMy N) (zMy N) ∈ ztbl)
    (hk : S r = (3 + (ci : Int), c)) (hq : vwCl[ci]? = some q) (hcls : q.1 = (zMy N).cls) (hn : as.length = np) (hst0 : st0 = as.reverse ++ zrv r :: st) (hcat : zcats st ≤ 8) (hr1 : d + 1 ≤ R.frames) (hr2 : 8 + (zMl N + 11) + 64 * d ≤ R.locals) (hc1 : k + mc ≤ R.cells) (hc2 : n + ms ≤ R.slots)
    (hM : Sp E d mc ms N (zrv r :: as) S V P) (h : ∀ r S' V', P r S' V' → Zr E X R M Q (k + mc) (n + ms) (pc + 3) L (r.toList ++ st) S' V') : Zr E X R M Q k n pc L st0 S V := by
  subst hst0
  intro C H locs ls hR hS hl hL hst
  have hts := C.2.2.2.2.2.2.1
  obtain ⟨g1, g2, ⟨cell, c1, c2, c3, c4⟩, g4⟩ := hR.obj hk hq
  have e : zcv (zrv r) = .ref (r - 1).toNat := zref_pos g1
  have hst' : ∀ v ∈ st, zok v := fun v hv => hst v (List.mem_append_right _ (List.mem_cons_of_mem _ hv))
  have hok : ∀ a ∈ zrv r :: as, zok a := by
    intro a ha
    rcases List.mem_cons.mp ha with rfl | ha
    · exact hst _ (List.mem_append_right _ List.mem_cons_self)
    · exact hst _ (List.mem_append_left _ (List.mem_reverse.mpr ha))
  refine zafter C hS hl hL hst' ?_ h (mc := mc) (ms := ms) (P := P) (a := (Value.ref (r - 1).toNat :: as.map zcv).toArray)
  have hcl : (zXs X).vm.findClass (zMy N).cls = some cell.cls := by
    rw [c2, ← hcls]
    exact (C.2.2.2.2.2.2.2.1.1 ci _ hq).2.1
  intro T hT Y
  obtain ⟨v, vm₁, ⟨U', l2, k2, s2⟩, hW₁, Y', ⟨g', mk, t, Ls, e1, e2, hq', h1, hL', h2, h3⟩, stp⟩ := callV Y C.1 (C := (zMy N).cls) (bytes := zMb N) (maxL := zMl N) (ret := zMr N) C.2.2.2.2.1 (hts _ hlink) (hts _ hins) (hts _ hsel) (hts _ hN.1) hN.2.2.1 (zback C hN hM hr1 hr2) (by rw [hT]; exact c1) (by rw [c3]; rfl) hcl
    (g := F0 (zXm X) pc ls ((as.reverse ++ zrv r :: st).map zcv)) rfl (hl.1.trans C.2.2.1.symm) (argsL := as.map zcv) (rest := st.map zcv) (fun sig h => by rw [List.length_map, hn]; exact zlen hN sig h) (by simp [e]) (by rw [zcats_eq]; show 2 * 0 + _ ≤ 8; omega) (by rw [C.2.1]; exact hd)
    (fun vm₁ hW₁ => ⟨hc1, hc2, by
      have := zPc_at C hR hS hok (U := T.setVm vm₁) hT hW₁
      rw [List.map_cons, e] at this
      exact this⟩)
  dsimp only [Pt.U, Pt.locs, Pt.cells, Pt.slots] at Y' e1 e2 h1 h2 h3 stp
  subst h1; subst h2; subst h3
  exact ⟨v, (T.setVm vm₁).calling g' mk (Value.ref (r - 1).toNat :: as.map zcv).toArray, t, U', Ls, hT, Y', hL', e1, e2, hq', stp⟩
theorem z_callS {N : zM} {np d mc ms index : Nat} {as st0 : List zV} {P : Option zV → zS → zH → Prop} (hd : decode (zMb M) pc = .ok (.invokestatic index, 3)) (hN : zcal N np) (hlink : Cond.methodLink (zMy M).cls index (zMy N) ∈ ztbl) (hsta : Cond.static (zMy N) ∈ ztbl)
    (hn : as.length = np) (hst0 : st0 = as.reverse ++ st) (hcat : zcats st ≤ 8) (hr1 : d + 1 ≤ R.frames) (hr2 : 8 + (zMl N + 11) + 64 * d ≤ R.locals) (hc1 : k + mc ≤ R.cells) (hc2 : n + ms ≤ R.slots)
    (hM : Sp E d mc ms N as S V P) (h : ∀ r S' V', P r S' V' → Zr E X R M Q (k + mc) (n + ms) (pc + 3) L (r.toList ++ st) S' V') : Zr E X R M Q k n pc L st0 S V := by
  subst hst0
  intro C H locs ls hR hS hl hL hst
  have hts := C.2.2.2.2.2.2.1
  have hst' : ∀ v ∈ st, zok v := fun v hv => hst v (List.mem_append_right _ hv)
  have hok : ∀ a ∈ as, zok a := fun a ha => hst _ (List.mem_append_left _ (List.mem_reverse.mpr ha))
  refine zafter C hS hl hL hst' ?_ h (mc := mc) (ms := ms) (P := P) (a := (as.map zcv).toArray)
  intro T hT Y
  obtain ⟨v, vm₁, ⟨U', l2, k2, s2⟩, hW₁, Y', ⟨g', mk, t, Ls, e1, e2, hq', h1, hL', h2, h3⟩, stp⟩ := callS Y C.1 (bytes := zMb N) (maxL := zMl N) (ret := zMr N) C.2.2.2.2.1 (hts _ hlink) (hts _ hsta) (hts _ hN.2.1) (hts _ hN.1) hN.2.2.1 (zback C hN hM hr1 hr2)
    (g := F0 (zXm X) pc ls ((as.reverse ++ st).map zcv)) rfl (hl.1.trans C.2.2.1.symm) (argsL := as.map zcv) (rest := st.map zcv) (fun sig h => by rw [List.length_map, hn]; exact zlen hN sig h) (by simp) (by rw [zcats_eq]; show 2 * 0 + _ ≤ 8; omega) (by rw [C.2.1]; exact hd)
    (fun vm₁ hW₁ => ⟨hc1, hc2, zPc_at C hR hS hok (U := T.setVm vm₁) hT hW₁⟩)
  dsimp only [Pt.U, Pt.locs, Pt.cells, Pt.slots] at Y' e1 e2 h1 h2 h3 stp
  subst h1; subst h2; subst h3
  exact ⟨v, (T.setVm vm₁).calling g' mk (as.map zcv).toArray, t, U', Ls, hT, Y', hL', e1, e2, hq', stp⟩
theorem z_callI {N : zM} {np d mc ms index : Nat} {r : Int} {as st0 : List zV} {P : Option zV → zS → zH → Prop} (hd : decode (zMb M) pc = .ok (.invokespecial index, 3)) (hN : zcal N np) (hr0 : zMr N = none) (hnm : (zMy N).name = "<init>") (hlink : Cond.methodLink (zMy M).cls index (zMy N) ∈ ztbl) (hins : Cond.instanceMethod (zMy N) ∈ ztbl)
    (hr : 0 < r) (hn : as.length = np) (hst0 : st0 = as.reverse ++ zrv r :: st) (hcat : zcats st ≤ 8) (hr1 : d + 1 ≤ R.frames) (hr2 : 8 + (zMl N + 11) + 64 * d ≤ R.locals) (hc1 : k + mc ≤ R.cells) (hc2 : n + ms ≤ R.slots)
    (hM : Sp E d mc ms N (zrv r :: as) S V P) (h : ∀ r S' V', P r S' V' → Zr E X R M Q (k + mc) (n + ms) (pc + 3) L (r.toList ++ st) S' V') : Zr E X R M Q k n pc L st0 S V := by
  subst hst0
  intro C H locs ls hR hS hl hL hst
  have hts := C.2.2.2.2.2.2.1
  have e : zcv (zrv r) = .ref (r - 1).toNat := zref_pos hr
  have hst' : ∀ v ∈ st, zok v := fun v hv => hst v (List.mem_append_right _ (List.mem_cons_of_mem _ hv))
  have hok : ∀ a ∈ zrv r :: as, zok a := by
    intro a ha
    rcases List.mem_cons.mp ha with rfl | ha
    · exact hst _ (List.mem_append_right _ List.mem_cons_self)
    · exact hst _ (List.mem_append_left _ (List.mem_reverse.mpr ha))
  refine zafter C hS hl hL hst' ?_ h (mc := mc) (ms := ms) (P := P) (a := (Value.ref (r - 1).toNat :: as.map zcv).toArray)
  have hcode := hts _ hN.1
  rw [hr0] at hcode
  intro T hT Y
  obtain ⟨v, vm₁, ⟨U', l2, k2, s2⟩, hW₁, Y', ⟨g', mk, t, Ls, e1, e2, hq', h1, hL', h2, h3⟩, stp⟩ := callI Y C.1 (bytes := zMb N) (maxL := zMl N) C.2.2.2.2.1 hnm (hts _ hlink) (hts _ hins) hcode hN.2.2.1 (zback C hN hM hr1 hr2)
    (g := F0 (zXm X) pc ls ((as.reverse ++ zrv r :: st).map zcv)) rfl (hl.1.trans C.2.2.1.symm) (a := (r - 1).toNat) (argsL := as.map zcv) (rest := st.map zcv) (fun sig h => by rw [List.length_map, hn]; exact zlen hN sig h) (by simp [e]) (by rw [zcats_eq]; show 2 * 0 + _ ≤ 8; omega) (by rw [C.2.1]; exact hd)
    (fun vm₁ hW₁ => ⟨hc1, hc2, by
      have := zPc_at C hR hS hok (U := T.setVm vm₁) hT hW₁
      rw [List.map_cons, e] at this
      exact this⟩)
  dsimp only [Pt.U, Pt.locs, Pt.cells, Pt.slots] at Y' e1 e2 h1 h2 h3 stp
  subst h1; subst h2; subst h3
  exact ⟨v, (T.setVm vm₁).calling g' mk (Value.ref (r - 1).toNat :: as.map zcv).toArray, t, U', Ls, hT, Y', hL', e1, e2, hq', stp⟩
theorem z_callIN {N : zM} {np d mc ms index : Nat} {host : String} {r : Int} {as st0 : List zV} {P : Option zV → zS → zH → Prop} (hd : decode (zMb M) pc = .ok (.invokespecial index, 3)) (hN : zcal N np) (hr0 : zMr N = none) (hnm : (zMy N).name = "<init>") (hlink : Cond.methodLinkNest (zMy M).cls index (zMy N) host ∈ ztbl) (hins : Cond.instanceMethod (zMy N) ∈ ztbl)
    (hr : 0 < r) (hn : as.length = np) (hst0 : st0 = as.reverse ++ zrv r :: st) (hcat : zcats st ≤ 8) (hr1 : d + 1 ≤ R.frames) (hr2 : 8 + (zMl N + 11) + 64 * d ≤ R.locals) (hc1 : k + mc ≤ R.cells) (hc2 : n + ms ≤ R.slots)
    (hM : Sp E d mc ms N (zrv r :: as) S V P) (h : ∀ r S' V', P r S' V' → Zr E X R M Q (k + mc) (n + ms) (pc + 3) L (r.toList ++ st) S' V') : Zr E X R M Q k n pc L st0 S V := by
  subst hst0
  intro C H locs ls hR hS hl hL hst
  have hts := C.2.2.2.2.2.2.1
  have e : zcv (zrv r) = .ref (r - 1).toNat := zref_pos hr
  have hst' : ∀ v ∈ st, zok v := fun v hv => hst v (List.mem_append_right _ (List.mem_cons_of_mem _ hv))
  have hok : ∀ a ∈ zrv r :: as, zok a := by
    intro a ha
    rcases List.mem_cons.mp ha with rfl | ha
    · exact hst _ (List.mem_append_right _ List.mem_cons_self)
    · exact hst _ (List.mem_append_left _ (List.mem_reverse.mpr ha))
  refine zafter C hS hl hL hst' ?_ h (mc := mc) (ms := ms) (P := P) (a := (Value.ref (r - 1).toNat :: as.map zcv).toArray)
  have hcode := hts _ hN.1
  rw [hr0] at hcode
  have hws : ∀ w ∈ zws N, ∀ (a' : Array Value) (U : State), (zXs X).WarmedH U.vm → w.before a' U = true := by
    intro w hw a' U hW
    rcases List.mem_cons.mp hw with rfl | hw
    · exact zwarm C hN.1 a' U hW
    · exact zwarm C hw a' U hW
  have hfix : CallFix (zXp X) (zXm X) (zXc X) (zMb M) (zMl M) (zXs X) (zXa X) ztbl (zMy M).cls := ⟨C.1, C.2.1, C.2.2.1, C.2.2.2.2.1, hts⟩
  have hP : PreS (zXs X) H (zPc E (zrv r :: as) S V) (.ref (r - 1).toNat :: as.map zcv) := by
    refine ⟨fun a U g mk q => ?_, fun U hU hW => ?_⟩
    · obtain ⟨q1, q2, q3, q4, q5⟩ := q
      exact ⟨q1, q2, q3, zK.moved (u := U) (U := U.calling g mk a) (Vm.Alike.refl U.vm) q4, q5⟩
    · have := zPc_at C hR hS hok (U := U) hU hW
      rw [List.map_cons, e] at this
      exact this
  have hcn : va_CN R (zXs X) (zXa X) (zMy M).cls index (zMy N) host (zMb N) (zMl N) none (zws N) (zRoom d mc ms) mc ms np :=
    ⟨⟨rfl, rfl, hr1, hr2, hws, by rw [← hr0]; exact List.mem_cons_self⟩, hcode, hts _ hN.2.1, hN.2.2.1, fun sig h => zlen hN sig h, hts _ hlink⟩
  exact va_runIN (g := F0 (zXm X) pc ls ((as.reverse ++ zrv r :: st).map zcv)) hfix hM ⟨hcn, hnm, hts _ hins⟩ hP rfl (by rw [List.length_map, hn]) hl.1 (by simp [e]) (by rw [zcats_eq]; show 2 * 0 + _ ≤ 8; omega) hd ⟨hc1, hc2⟩
theorem z_objInit {index : Nat} {r : Int} (hd : decode (zMb M) pc = .ok (.invokespecial index, 3)) (hlink : Cond.methodLink (zMy M).cls index objectInit ∈ ztbl) (hins : Cond.instanceMethod objectInit ∈ ztbl) (hcode : Cond.code objectInit ⟨#[0xb1]⟩ 1 none ∈ ztbl) (hr : 0 < r) (hcat : zcats st ≤ 8) (hr1 : 1 ≤ R.frames) (hr2 : 20 ≤ R.locals) (h : Zr E X R M Q k n (pc + 3) L st S V) : Zr E X R M Q k n pc L (zrv r :: st) S V := by
  intro C H locs ls hR hS hl hL hst
  have hts := C.2.2.2.2.2.2.1
  have e : zcv (zrv r) = .ref (r - 1).toNat := zref_pos hr
  rw [List.map_cons, e]
  exact W.objInit C.1 C.2.1 C.2.2.2.2.1 (hts _ hlink) (hts _ hins) (hts _ hcode) rfl (hl.1.trans C.2.2.1.symm) rfl hd hr1 (by rw [zcats_eq]; show 2 * 0 + _ + 12 ≤ _; omega) (h C H locs ls hR hS hl hL (ztail hst))
theorem zF_of {H : Heap} {locs : List Loc} (hS : va_S (zA E) (zXs X).heap H locs) {t : State} (ht : t.heap = H) : va_F (zA E) (zXs X) t := hS.F ht
theorem z_iret {P : Option zV → zS → zH → Prop} {mc ms : Nat} {x : Int} (hd : decode (zMb M) pc = .ok (.ireturn, 1)) (hr : zMr M = some .int) (hk : k ≤ mc) (hn : n ≤ ms) (h : z32 x → P (some (ziv x)) S V) : Zr E X R M (zQm E X P mc ms) k n pc L [ziv x] S V := by
  intro C H locs ls hR hS hl hL hst
  refine W.widen hk hn ?_
  have hlocks := C.2.2.2.2.2.1
  have hx : z32 x := zhead hst
  exact W.iret (v := Int32.ofInt x) C.1 C.2.1 (C.2.2.2.1.trans hr) (fun t ht hW => ⟨⟨some (ziv x), S, V, rfl, fun v hv => by cases hv; exact hx, h hx, by rw [ht]; exact hR⟩, hS.F ht⟩) hS.2.2 hd hlocks
theorem z_zret {P : Option zV → zS → zH → Prop} {mc ms : Nat} {x : Int} (hd : decode (zMb M) pc = .ok (.ireturn, 1)) (hr : zMr M = some .boolean) (hk : k ≤ mc) (hn : n ≤ ms) (hx : x = 0 ∨ x = 1) (h : P (some (ziv x)) S V) : Zr E X R M (zQm E X P mc ms) k n pc L [ziv x] S V := by
  intro C H locs ls hR hS hl hL hst
  refine W.widen hk hn ?_
  have hlocks := C.2.2.2.2.2.1
  have hz : z32 x := zhead hst
  have hnar : narrow .boolean (.int (Int32.ofInt x)) = .int (Int32.ofInt x) := by rcases hx with rfl | rfl <;> decide
  exact W.zret (v := Int32.ofInt x) C.1 C.2.1 (C.2.2.2.1.trans hr) hnar (fun t ht hW => ⟨⟨some (ziv x), S, V, rfl, fun v hv => by cases hv; exact hz, h, by rw [ht]; exact hR⟩, hS.F ht⟩) hS.2.2 hd hlocks
theorem z_lret {P : Option zV → zS → zH → Prop} {mc ms : Nat} {x : Int} (hd : decode (zMb M) pc = .ok (.lreturn, 1)) (hr : zMr M = some .long) (hk : k ≤ mc) (hn : n ≤ ms) (h : z64 x → P (some (zjv x)) S V) : Zr E X R M (zQm E X P mc ms) k n pc L [zjv x] S V := by
  intro C H locs ls hR hS hl hL hst
  refine W.widen hk hn ?_
  have hlocks := C.2.2.2.2.2.1
  have hx : z64 x := zhead hst
  exact W.lret (v := Int64.ofInt x) C.1 C.2.1 (C.2.2.2.1.trans hr) (fun t ht hW => ⟨⟨some (zjv x), S, V, rfl, fun v hv => by cases hv; exact hx, h hx, by rw [ht]; exact hR⟩, hS.F ht⟩) hS.2.2 hd hlocks
theorem z_aret {P : Option zV → zS → zH → Prop} {mc ms : Nat} {x : Int} {rt : String} (hd : decode (zMb M) pc = .ok (.areturn, 1)) (hr : zMr M = some (.object rt)) (hk : k ≤ mc) (hn : n ≤ ms) (h : P (some (zrv x)) S V) : Zr E X R M (zQm E X P mc ms) k n pc L [zrv x] S V := by
  intro C H locs ls hR hS hl hL hst
  refine W.widen hk hn ?_
  have hlocks := C.2.2.2.2.2.1
  have hx : zok (zrv x) := zhead hst
  refine W.aret (v := zcv (zrv x)) C.1 C.2.1 (C.2.2.2.1.trans hr) (Or.inl ⟨_, rfl⟩) ?_ (fun t ht hW => ⟨⟨some (zrv x), S, V, rfl, fun v hv => by cases hv; exact hx, h, by rw [ht]; exact hR⟩, hS.F ht⟩) hS.2.2 hd hlocks
  show zref x = _ ∨ ∃ a, zref x = _
  unfold zref
  split
  · exact Or.inl rfl
  · exact Or.inr ⟨_, rfl⟩
theorem z_vret {P : Option zV → zS → zH → Prop} {mc ms : Nat} (hd : decode (zMb M) pc = .ok (.return_, 1)) (hr : zMr M = none) (hk : k ≤ mc) (hn : n ≤ ms) (h : P none S V) : Zr E X R M (zQm E X P mc ms) k n pc L [] S V := by
  intro C H locs ls hR hS hl hL hst
  refine W.widen hk hn ?_
  have hlocks := C.2.2.2.2.2.1
  exact W.vret C.1 C.2.1 (C.2.2.2.1.trans hr) (fun t ht hW => ⟨⟨none, S, V, rfl, fun v hv => (by cases hv), h, by rw [ht]; exact hR⟩, hS.F ht⟩) hS.2.2 hd hlocks
/-- the locals with which a method begins -/
def zargs : Nat → List zV → List (Nat × zV)
  | _, [] => []
  | i, v :: vs => (i, v) :: zargs (if zcat2 v then i + 2 else i + 1) vs
theorem zargs_eq (vs : List zV) : ∀ i, lv_args i (vs.map zcv) = zL (zargs i vs) := by
  induction vs with
  | nil => intro i; rfl
  | cons v vs ih =>
    intro i
    have e : (if (zcv v).category = 2 then i + 2 else i + 1) = if zcat2 v then i + 2 else i + 1 := by
      have h := zcat2_eq v
      by_cases hc : (zcv v).category = 2
      · have : zcat2 v = true := by rw [← h]; simp [hc]
        simp [hc, this]
      · have : zcat2 v = false := by rw [← h]; simp [hc]
        simp [hc, this]
    show (i, zcv v) :: lv_args _ (vs.map zcv) = (i, zcv v) :: zL (zargs _ vs)
    rw [e, ih]
theorem zargs_ok (vs : List zV) (h : ∀ a ∈ vs, zok a) : ∀ i, ∀ q ∈ zargs i vs, zok q.2 := by
  induction vs with
  | nil => intro i q hq; cases hq
  | cons v vs ih =>
    intro i q hq
    rcases List.mem_cons.mp hq with rfl | hq
    · exact h v List.mem_cons_self
    · exact ih (fun a ha => h a (List.mem_cons_of_mem _ ha)) _ q hq
/-- the words that arguments take -/
theorem zargs_len (vs : List zV) : (lg_sl (vs.map zcv)).length = zcats vs := by
  induction vs with
  | nil => rfl
  | cons v vs ih =>
    have h := zcat2_eq v
    have e : zcats (v :: vs) = (if zcat2 v then 2 else 1) + zcats vs := by simp [zcats]
    rw [e, ← ih]
    simp only [lg_sl, List.map_cons, List.flatMap_cons, List.length_append]
    by_cases hc : (zcv v).category = 2
    · have : zcat2 v = true := by rw [← h]; simp [hc]
      simp [hc, this]
    · have : zcat2 v = false := by rw [← h]; simp [hc]
      simp [hc, this]
/-- A CONTRACT OUT OF ONE WALK of the method's body -/
theorem Sp.of {N : zM} {d mc ms : Nat} {as : List zV} {P : Option zV → zS → zH → Prop} (hy : plainName (zMy N).cls = true) (ha : zcats as ≤ zMl N) (h : (∀ a ∈ as, zok a) → ∀ X : zX, Zr E X (zRoom d mc ms) N (zQm E X P mc ms) 0 0 0 (zargs 0 as) [] S V) : Sp E d mc ms N as S V P := by
  refine Met.ofW (cc := zMb N) (maxL := zMl N) (ret := zMr N) hy rfl ?_
  intro p e s m args below meth c s₁ B hml hv
  obtain ⟨rfl, hok, hR, hK, hb⟩ := hv
  have hts := atoms_spec (ws := zws N) B.pre
  have hC : zC E (p, e, s, m, (as.map zcv).toArray, below, meth, c) N := ⟨B.exec, B.bytes, hml, B.returns, findClass_of_methodNamed B.named, B.notSynchronized, fun w hw => hts w (List.mem_cons_of_mem _ hw), hK, (name_of_methodNamed B.named B.method).1, hb⟩
  have hl := lv_entry (as.map zcv) (n := zMl N) (by rw [zargs_len]; exact ha)
  rw [zargs_eq] at hl
  rw [lg_entry_eq]
  exact h hok (p, e, s, m, (as.map zcv).toArray, below, meth, c) hC s.heap [] _ hR va_S.rf hl (zargs_ok as hok 0) (fun v hv => by cases hv)
theorem Sp.mono {N : zM} {d mc ms : Nat} {as : List zV} {P P' : Option zV → zS → zH → Prop} (h : Sp E d mc ms N as S V P) (hp : ∀ r S' V', P r S' V' → P' r S' V') : Sp E d mc ms N as S V P' := by
  intro p e ha hc hk s m args below hf happ hP hT
  obtain ⟨n', o, h1, h2, h3, ⟨⟨⟨r, S', V', q1, q2, q3, q4⟩, q5⟩, q6⟩⟩ := h p e ha hc hk s m args below hf happ hP hT
  exact ⟨n', o, h1, h2, h3, ⟨⟨⟨r, S', V', q1, q2, hp _ _ _ q3, q4⟩, q5⟩, q6⟩⟩
end ZCALL
end
section
/-! THE Z KIT, part 7: System.arraycopy between int arrays -/
section ZCOPY
variable {E : zE} {X : zX} {R : Room} {M : zM} {Q : State → Prop} {k n pc : Nat} {L : List (Nat × zV)} {st : List zV} {S : zS} {V : zH}
def zcpy (V : zH) (src sp dst dp m : Int) : zH := fun q j => if q = dst ∧ dp ≤ j ∧ j < dp + m then V src (sp + (j - dp)) else V q j
theorem zcpy_ne (V : zH) {dst q : Int} (src sp dp m j : Int) (h : q ≠ dst) : zcpy V src sp dst dp m q j = V q j := by simp [zcpy, h]
theorem zcpy_row (V : zH) {dst q : Int} (src sp dp m : Int) (h : q ≠ dst) : zcpy V src sp dst dp m q = V q := by funext j; simp [zcpy, h]
theorem zcpy_in (V : zH) {src sp dst dp m j : Int} (h1 : dp ≤ j) (h2 : j < dp + m) : zcpy V src sp dst dp m dst j = V src (sp + (j - dp)) := by simp [zcpy, h1, h2]
theorem zcpy_out (V : zH) {src sp dst dp m q j : Int} (h : j < dp ∨ dp + m ≤ j) : zcpy V src sp dst dp m q j = V q j := by
  unfold zcpy
  rw [if_neg (by omega)]
theorem z_copyi {index : Nat} {src dst sp dp m N0 N1 : Int} (hd : decode (zMb M) pc = .ok (.invokestatic index, 3)) (hlink : Cond.methodLink (zMy M).cls index arraycopyName ∈ ztbl) (hnat : Cond.native arraycopyName ∈ ztbl) (hstat : Cond.static arraycopyName ∈ ztbl) (hini : Cond.initialized "java/lang/System" ∈ ztbl)
    (hk0 : S src = (1, N0)) (hk1 : S dst = (1, N1)) (h1 : 0 ≤ sp) (h2 : 0 ≤ dp) (h3 : 0 ≤ m) (h4 : sp + m ≤ N0) (h5 : dp + m ≤ N1) (hcat : zcats st ≤ 8) (hr1 : 1 ≤ R.frames) (hr2 : 64 ≤ R.locals)
    (h : Zr E X R M Q k n (pc + 3) L st S (zcpy V src sp dst dp m)) : Zr E X R M Q k n pc L (ziv m :: ziv dp :: zrv dst :: ziv sp :: zrv src :: st) S V := by
  intro C H locs ls hR hS hl hL hst
  have hts := C.2.2.2.2.2.2.1
  obtain ⟨a1, a2, a3, a4, a5, a6⟩ := hR.int hk0
  obtain ⟨b1, b2, b3, b4, b5, b6⟩ := hR.int hk1
  have hm : z32 m := zhead hst
  have hdp : z32 dp := zsnd hst
  have hsp : z32 sp := hst (ziv sp) (by simp)
  have e0 : zcv (zrv src) = .ref (src - 1).toNat := zref_pos a1
  have e1 : zcv (zrv dst) = .ref (dst - 1).toNat := zref_pos b1
  have hst' : ∀ v ∈ st, zok v := fun v hv => hst v (by simp [hv])
  simp only [List.map_cons, e0, e1]
  intro T hT Y
  obtain ⟨-, k0, hk0', cm0, hkk0⟩ := zKI C N0.toNat (fun j => .int (Int32.ofInt (V src j)))
  obtain ⟨-, k1, hk1', cm1, hkk1⟩ := zKI C N1.toNat (fun j => .int (Int32.ofInt (V dst j)))
  obtain ⟨vm', Y', step⟩ := Y.arraycopy C.1 C.2.2.2.2.1 (hts _ hlink) (hts _ hnat) (hts _ hstat) (hts _ hini) (src := (src - 1).toNat) (dst := (dst - 1).toNat) (cs := arrV (zEI E) N0.toNat (fun j => .int (Int32.ofInt (V src j)))) (cd := arrV (zEI E) N1.toNat (fun j => .int (Int32.ofInt (V dst j)))) (srcPos := Int32.ofInt sp) (destPos := Int32.ofInt dp) (n := Int32.ofInt m) (by rw [hT]; exact a5) (by rw [hT]; exact b5)
    (fun _ h => by cases h) (fun _ h => by cases h) (fun h => by cases h) (fun h => by cases h) hk0' hk1' hkk0 hkk1 (by simp [refKind]) (zneg hsp h1) (zneg hdp h2) (zneg hm h3)
    (by rw [z32_toInt hsp, z32_toInt hm, arrV_size]; omega)
    (by rw [z32_toInt hdp, z32_toInt hm, arrV_size]; omega)
    (fun vm₁ _ i hi => by
      have hi' : i < m.toNat := by rw [zclamp hm] at hi; exact hi
      have e : (arrV (zEI E) N0.toNat (fun j => .int (Int32.ofInt (V src j)))).slots.getD ((Int32.ofInt sp).toNatClampNeg + i) .null = .int (Int32.ofInt (V src (sp.toNat + i : Nat))) := by
        rw [Array.getD_eq_getD_getElem?, zclamp hsp, arrV_read _ _ (by omega)]
        rfl
      refine ⟨?_, ?_⟩
      · rw [e]; rfl
      · rw [e]; exact trivial)
    (g := F0 (zXm X) pc ls (.int (Int32.ofInt m) :: .int (Int32.ofInt dp) :: .ref (dst - 1).toNat :: .int (Int32.ofInt sp) :: .ref (src - 1).toNat :: st.map zcv)) rfl (hl.1.trans C.2.2.1.symm) (rest := st.map zcv) rfl (by rw [C.2.1]; exact hd) hr1 (by
      rw [zcats_eq]
      have : nativeFrameWords "java/lang/System" "arraycopy" 5 = 7 := by decide
      show 2 * 0 + _ + _ ≤ _
      rw [this]
      omega)
  have ec : copied (arrV (zEI E) N0.toNat (fun j => .int (Int32.ofInt (V src j)))) (arrV (zEI E) N1.toNat (fun j => .int (Int32.ofInt (V dst j)))) (Int32.ofInt sp) (Int32.ofInt dp) (Int32.ofInt m) = arrV (zEI E) N1.toNat (fun j => .int (Int32.ofInt (zcpy V src sp dst dp m dst j))) := by
    have hs : (Int32.ofInt sp).toNatClampNeg + (Int32.ofInt m).toNatClampNeg ≤ N0.toNat := by rw [zclamp hsp, zclamp hm]; omega
    have h9 := va_copied (fun z : Int => Value.int (Int32.ofInt z)) (zEI E) (zEI E) (n0 := N0.toNat) (n1 := N1.toNat) (sp := (Int32.ofInt sp).toNatClampNeg) (dp := (Int32.ofInt dp).toNatClampNeg) (n := (Int32.ofInt m).toNatClampNeg) (fun j => V src j) (fun j => V dst j) hs
    refine Eq.trans h9 ?_
    congr 1
    funext j
    congr 2
    rw [zclamp hsp, zclamp hdp, zclamp hm]
    unfold va_cpy zcpy
    by_cases hj : dp.toNat ≤ j ∧ j < dp.toNat + m.toNat
    · rw [if_pos hj, if_pos ⟨rfl, by omega, by omega⟩]
      show V src ((sp.toNat + (j - dp.toNat) : Nat) : Int) = _
      congr 1
      omega
    · rw [if_neg hj, if_neg (by omega)]
  rw [ec] at Y' step
  have hlt : (dst - 1).toNat < T.heap.size := by rw [hT]; exact (Array.getElem?_eq_some_iff.mp b5).1
  have oq : ∀ q : Nat, q ≠ (dst - 1).toNat → ((T.setVm vm').setCell (dst - 1).toNat (arrV (zEI E) N1.toNat (fun j => .int (Int32.ofInt (zcpy V src sp dst dp m dst j))))).heap[q]? = H[q]? := fun q hq => by
    rw [heapAt_setCell_ne _ (Ne.symm hq), ← hT]; rfl
  have hself : ((T.setVm vm').setCell (dst - 1).toNat (arrV (zEI E) N1.toNat (fun j => .int (Int32.ofInt (zcpy V src sp dst dp m dst j))))).heap[(dst - 1).toNat]? = some (arrV (zEI E) N1.toNat (fun j => .int (Int32.ofInt (zcpy V src sp dst dp m dst j)))) := heapAt_setCell_self _ hlt
  have hsz : ((T.setVm vm').setCell (dst - 1).toNat (arrV (zEI E) N1.toNat (fun j => .int (Int32.ofInt (zcpy V src sp dst dp m dst j))))).heap.size = H.size := by rw [size_setCell, ← hT]; rfl
  have hR' : zR E S (zcpy V src sp dst dp m) ((T.setVm vm').setCell (dst - 1).toNat (arrV (zEI E) N1.toNat (fun j => .int (Int32.ofInt (zcpy V src sp dst dp m dst j))))).heap := by
    refine hR.put b1 ?_ (fun q hq => zcpy_row V src sp dp m hq) oq
    rw [hk1]
    refine Or.inl ⟨rfl, b3, b4, hself, fun j j0 j1 => ?_⟩
    by_cases hj : dp ≤ j ∧ j < dp + m
    · rw [zcpy_in V hj.1 hj.2]
      exact a6 _ (by omega) (by omega)
    · rw [zcpy_out V (by omega)]
      exact b6 j j0 j1
  have key : ∀ Lq : List Loc, (∀ q ∈ Lq, q.base = (dst - 1).toNat) → Stand (zXp X) (zEl E) (zXe X) R (zXs X) (zXm X) (zXa X) (zXw X) (zXh X) (zXc X) ((T.setVm vm').setCell (dst - 1).toNat (arrV (zEI E) N1.toNat (fun j => .int (Int32.ofInt (zcpy V src sp dst dp m dst j))))) (locs ++ Lq) k n → _ := fun Lq hq Y2 => h C _ (locs ++ Lq) ls hR' ⟨by rw [hsz]; exact hS.1, fun q g1 g2 => by
      rw [oq q (fun e => g2 (by rw [e]; exact b2))]
      exact hS.2.1 q g1 g2, fun q hq2 => by
      rcases List.mem_append.mp hq2 with h | h
      · exact hS.2.2 q h
      · rw [hq q h]
        exact b2⟩ hl hL hst' _ rfl Y2
  obtain ⟨t, c1, d1⟩ := key _ (fun q hq => by obtain ⟨z, -, hz⟩ := List.mem_map.mp hq; rw [← hz]) Y'
  exact ⟨t, step t c1, d1⟩
end ZCOPY
end
