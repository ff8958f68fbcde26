-- ===== PART A: goes FIRST, ahead of the names: the tables' words, and 'selects' of the private methods out of them =====
/-- a private method of a class that the tables say can be made, by its rows of tables_1 -/
def lw_okq (q : MethodName × Nat) : Prop := (q.1.cls ≠ "java/lang/invoke/MethodHandle" ∧ q.1.cls ≠ "java/lang/invoke/VarHandle") ∧ Cond.instantiable q.1.cls q.2 ∈ tables_1 ∧ Cond.privateMethod q.1 ∈ tables_1 ∧ Cond.instanceMethod q.1 ∈ tables_1
theorem lw_p0 : lw_okq (⟨"GiantStair$Told", "build", "(I)V"⟩, 10) := ⟨⟨by decide +kernel, by decide +kernel⟩, List.mem_of_getElem? (i := 24) (by decide +kernel), List.mem_of_getElem? (i := 30) (by decide +kernel), List.mem_of_getElem? (i := 31) (by decide +kernel)⟩
theorem lw_p1 : lw_okq (⟨"GiantStair$Told", "copyStair", "(LGiantStair$Told;)V"⟩, 10) := ⟨⟨by decide +kernel, by decide +kernel⟩, List.mem_of_getElem? (i := 24) (by decide +kernel), List.mem_of_getElem? (i := 211) (by decide +kernel), List.mem_of_getElem? (i := 212) (by decide +kernel)⟩
theorem lw_p2 : lw_okq (⟨"GiantStair$Text", "readLine", "(LGiantStair$Told;)I"⟩, 5) := ⟨⟨by decide +kernel, by decide +kernel⟩, List.mem_of_getElem? (i := 78) (by decide +kernel), List.mem_of_getElem? (i := 222) (by decide +kernel), List.mem_of_getElem? (i := 223) (by decide +kernel)⟩
theorem lw_p3 : lw_okq (⟨"GiantStair$Text", "skipBlanks", "()V"⟩, 5) := ⟨⟨by decide +kernel, by decide +kernel⟩, List.mem_of_getElem? (i := 78) (by decide +kernel), List.mem_of_getElem? (i := 226) (by decide +kernel), List.mem_of_getElem? (i := 227) (by decide +kernel)⟩
theorem lw_p4 : lw_okq (⟨"GiantStair$Text", "sign", "()I"⟩, 5) := ⟨⟨by decide +kernel, by decide +kernel⟩, List.mem_of_getElem? (i := 78) (by decide +kernel), List.mem_of_getElem? (i := 230) (by decide +kernel), List.mem_of_getElem? (i := 231) (by decide +kernel)⟩
theorem lw_p5 : lw_okq (⟨"GiantStair$Text", "readWord", "()I"⟩, 5) := ⟨⟨by decide +kernel, by decide +kernel⟩, List.mem_of_getElem? (i := 78) (by decide +kernel), List.mem_of_getElem? (i := 234) (by decide +kernel), List.mem_of_getElem? (i := 235) (by decide +kernel)⟩
theorem lw_p6 : lw_okq (⟨"GiantStair$Text", "spells", "(ILjava/lang/String;)Z"⟩, 5) := ⟨⟨by decide +kernel, by decide +kernel⟩, List.mem_of_getElem? (i := 78) (by decide +kernel), List.mem_of_getElem? (i := 251) (by decide +kernel), List.mem_of_getElem? (i := 252) (by decide +kernel)⟩
theorem lw_p7 : lw_okq (⟨"GiantStair$Text", "readNumber", "()I"⟩, 5) := ⟨⟨by decide +kernel, by decide +kernel⟩, List.mem_of_getElem? (i := 78) (by decide +kernel), List.mem_of_getElem? (i := 310) (by decide +kernel), List.mem_of_getElem? (i := 311) (by decide +kernel)⟩
theorem lw_p8 : lw_okq (⟨"GiantStair$Told", "isStep", "(I)Z"⟩, 10) := ⟨⟨by decide +kernel, by decide +kernel⟩, List.mem_of_getElem? (i := 24) (by decide +kernel), List.mem_of_getElem? (i := 325) (by decide +kernel), List.mem_of_getElem? (i := 326) (by decide +kernel)⟩
theorem lw_p9 : lw_okq (⟨"GiantStair", "beginAnew", "()V"⟩, 11) := ⟨⟨by decide +kernel, by decide +kernel⟩, List.mem_of_getElem? (i := 16) (by decide +kernel), List.mem_of_getElem? (i := 338) (by decide +kernel), List.mem_of_getElem? (i := 339) (by decide +kernel)⟩
theorem lw_p10 : lw_okq (⟨"GiantStair$Told", "risesAlone", "(II)Z"⟩, 10) := ⟨⟨by decide +kernel, by decide +kernel⟩, List.mem_of_getElem? (i := 24) (by decide +kernel), List.mem_of_getElem? (i := 394) (by decide +kernel), List.mem_of_getElem? (i := 395) (by decide +kernel)⟩
theorem lw_p11 : lw_okq (⟨"GiantStair$Told", "standsFor", "(III[I)Z"⟩, 10) := ⟨⟨by decide +kernel, by decide +kernel⟩, List.mem_of_getElem? (i := 24) (by decide +kernel), List.mem_of_getElem? (i := 401) (by decide +kernel), List.mem_of_getElem? (i := 402) (by decide +kernel)⟩
theorem lw_p12 : lw_okq (⟨"GiantStair$Told", "standsAt", "(III[I)Z"⟩, 10) := ⟨⟨by decide +kernel, by decide +kernel⟩, List.mem_of_getElem? (i := 24) (by decide +kernel), List.mem_of_getElem? (i := 405) (by decide +kernel), List.mem_of_getElem? (i := 406) (by decide +kernel)⟩
theorem lw_p13 : lw_okq (⟨"GiantStair$Told", "bringUp", "(IIII)Z"⟩, 10) := ⟨⟨by decide +kernel, by decide +kernel⟩, List.mem_of_getElem? (i := 24) (by decide +kernel), List.mem_of_getElem? (i := 409) (by decide +kernel), List.mem_of_getElem? (i := 410) (by decide +kernel)⟩
theorem lw_p14 : lw_okq (⟨"GiantStair$Told", "hand", "(I)I"⟩, 10) := ⟨⟨by decide +kernel, by decide +kernel⟩, List.mem_of_getElem? (i := 24) (by decide +kernel), List.mem_of_getElem? (i := 413) (by decide +kernel), List.mem_of_getElem? (i := 414) (by decide +kernel)⟩
theorem lw_p15 : lw_okq (⟨"GiantStair$Told", "tallness", "(I)I"⟩, 10) := ⟨⟨by decide +kernel, by decide +kernel⟩, List.mem_of_getElem? (i := 24) (by decide +kernel), List.mem_of_getElem? (i := 417) (by decide +kernel), List.mem_of_getElem? (i := 418) (by decide +kernel)⟩
def lw_privs_1 : List (MethodName × Nat) := [(⟨"GiantStair$Told", "build", "(I)V"⟩, 10), (⟨"GiantStair$Told", "copyStair", "(LGiantStair$Told;)V"⟩, 10), (⟨"GiantStair$Text", "readLine", "(LGiantStair$Told;)I"⟩, 5), (⟨"GiantStair$Text", "skipBlanks", "()V"⟩, 5), (⟨"GiantStair$Text", "sign", "()I"⟩, 5), (⟨"GiantStair$Text", "readWord", "()I"⟩, 5), (⟨"GiantStair$Text", "spells", "(ILjava/lang/String;)Z"⟩, 5), (⟨"GiantStair$Text", "readNumber", "()I"⟩, 5), (⟨"GiantStair$Told", "isStep", "(I)Z"⟩, 10), (⟨"GiantStair", "beginAnew", "()V"⟩, 11), (⟨"GiantStair$Told", "risesAlone", "(II)Z"⟩, 10), (⟨"GiantStair$Told", "standsFor", "(III[I)Z"⟩, 10), (⟨"GiantStair$Told", "standsAt", "(III[I)Z"⟩, 10), (⟨"GiantStair$Told", "bringUp", "(IIII)Z"⟩, 10), (⟨"GiantStair$Told", "hand", "(I)I"⟩, 10), (⟨"GiantStair$Told", "tallness", "(I)I"⟩, 10)]
theorem lw_r1 : ∀ q ∈ lw_privs_1, lw_okq q := List.forall_mem_cons.mpr ⟨lw_p0, List.forall_mem_cons.mpr ⟨lw_p1, List.forall_mem_cons.mpr ⟨lw_p2, List.forall_mem_cons.mpr ⟨lw_p3, List.forall_mem_cons.mpr ⟨lw_p4, List.forall_mem_cons.mpr ⟨lw_p5, List.forall_mem_cons.mpr ⟨lw_p6, List.forall_mem_cons.mpr ⟨lw_p7, List.forall_mem_cons.mpr ⟨lw_p8, List.forall_mem_cons.mpr ⟨lw_p9, List.forall_mem_cons.mpr ⟨lw_p10, List.forall_mem_cons.mpr ⟨lw_p11, List.forall_mem_cons.mpr ⟨lw_p12, List.forall_mem_cons.mpr ⟨lw_p13, List.forall_mem_cons.mpr ⟨lw_p14, List.forall_mem_cons.mpr ⟨lw_p15, fun _ h => absurd h List.not_mem_nil⟩⟩⟩⟩⟩⟩⟩⟩⟩⟩⟩⟩⟩⟩⟩⟩
theorem lw_p16 : lw_okq (⟨"GiantStair$Told", "sinksAlone", "(II)Z"⟩, 10) := ⟨⟨by decide +kernel, by decide +kernel⟩, List.mem_of_getElem? (i := 24) (by decide +kernel), List.mem_of_getElem? (i := 425) (by decide +kernel), List.mem_of_getElem? (i := 426) (by decide +kernel)⟩
theorem lw_p17 : lw_okq (⟨"GiantStair$Told", "catches", "(II[I)Z"⟩, 10) := ⟨⟨by decide +kernel, by decide +kernel⟩, List.mem_of_getElem? (i := 24) (by decide +kernel), List.mem_of_getElem? (i := 429) (by decide +kernel), List.mem_of_getElem? (i := 430) (by decide +kernel)⟩
theorem lw_p18 : lw_okq (⟨"GiantStair", "mayBeAsked", "(II)Z"⟩, 11) := ⟨⟨by decide +kernel, by decide +kernel⟩, List.mem_of_getElem? (i := 16) (by decide +kernel), List.mem_of_getElem? (i := 437) (by decide +kernel), List.mem_of_getElem? (i := 438) (by decide +kernel)⟩
theorem lw_p19 : lw_okq (⟨"GiantStair", "go", "(II)I"⟩, 11) := ⟨⟨by decide +kernel, by decide +kernel⟩, List.mem_of_getElem? (i := 16) (by decide +kernel), List.mem_of_getElem? (i := 449) (by decide +kernel), List.mem_of_getElem? (i := 450) (by decide +kernel)⟩
theorem lw_p20 : lw_okq (⟨"GiantStair", "foresee", "()V"⟩, 11) := ⟨⟨by decide +kernel, by decide +kernel⟩, List.mem_of_getElem? (i := 16) (by decide +kernel), List.mem_of_getElem? (i := 493) (by decide +kernel), List.mem_of_getElem? (i := 494) (by decide +kernel)⟩
theorem lw_p21 : lw_okq (⟨"GiantStair$Search", "begin", "(LGiantStair$Told;[I)V"⟩, 6) := ⟨⟨by decide +kernel, by decide +kernel⟩, List.mem_of_getElem? (i := 124) (by decide +kernel), List.mem_of_getElem? (i := 501) (by decide +kernel), List.mem_of_getElem? (i := 502) (by decide +kernel)⟩
theorem lw_p22 : lw_okq (⟨"GiantStair$Search", "forget", "()V"⟩, 6) := ⟨⟨by decide +kernel, by decide +kernel⟩, List.mem_of_getElem? (i := 124) (by decide +kernel), List.mem_of_getElem? (i := 505) (by decide +kernel), List.mem_of_getElem? (i := 506) (by decide +kernel)⟩
theorem lw_p23 : lw_okq (⟨"GiantStair$Search", "reach", "(III)V"⟩, 6) := ⟨⟨by decide +kernel, by decide +kernel⟩, List.mem_of_getElem? (i := 124) (by decide +kernel), List.mem_of_getElem? (i := 515) (by decide +kernel), List.mem_of_getElem? (i := 516) (by decide +kernel)⟩
theorem lw_p24 : lw_okq (⟨"GiantStair$Search", "isNew", "(I)Z"⟩, 6) := ⟨⟨by decide +kernel, by decide +kernel⟩, List.mem_of_getElem? (i := 124) (by decide +kernel), List.mem_of_getElem? (i := 519) (by decide +kernel), List.mem_of_getElem? (i := 520) (by decide +kernel)⟩
theorem lw_p25 : lw_okq (⟨"GiantStair$Search", "awayOf", "(I)I"⟩, 6) := ⟨⟨by decide +kernel, by decide +kernel⟩, List.mem_of_getElem? (i := 124) (by decide +kernel), List.mem_of_getElem? (i := 523) (by decide +kernel), List.mem_of_getElem? (i := 524) (by decide +kernel)⟩
theorem lw_p26 : lw_okq (⟨"GiantStair$Search", "unfold", "(I)V"⟩, 6) := ⟨⟨by decide +kernel, by decide +kernel⟩, List.mem_of_getElem? (i := 124) (by decide +kernel), List.mem_of_getElem? (i := 527) (by decide +kernel), List.mem_of_getElem? (i := 528) (by decide +kernel)⟩
theorem lw_p27 : lw_okq (⟨"GiantStair$Search", "positionBehind", "(I)I"⟩, 6) := ⟨⟨by decide +kernel, by decide +kernel⟩, List.mem_of_getElem? (i := 124) (by decide +kernel), List.mem_of_getElem? (i := 545) (by decide +kernel), List.mem_of_getElem? (i := 546) (by decide +kernel)⟩
theorem lw_p28 : lw_okq (⟨"GiantStair$Search", "aheadOf", "(I)I"⟩, 6) := ⟨⟨by decide +kernel, by decide +kernel⟩, List.mem_of_getElem? (i := 124) (by decide +kernel), List.mem_of_getElem? (i := 550) (by decide +kernel), List.mem_of_getElem? (i := 551) (by decide +kernel)⟩
theorem lw_p29 : lw_okq (⟨"GiantStair", "chanceOf", "(II)I"⟩, 11) := ⟨⟨by decide +kernel, by decide +kernel⟩, List.mem_of_getElem? (i := 16) (by decide +kernel), List.mem_of_getElem? (i := 613) (by decide +kernel), List.mem_of_getElem? (i := 614) (by decide +kernel)⟩
theorem lw_p30 : lw_okq (⟨"GiantStair", "canAllBeUp", "(I)Z"⟩, 11) := ⟨⟨by decide +kernel, by decide +kernel⟩, List.mem_of_getElem? (i := 16) (by decide +kernel), List.mem_of_getElem? (i := 617) (by decide +kernel), List.mem_of_getElem? (i := 618) (by decide +kernel)⟩
theorem lw_p31 : lw_okq (⟨"GiantStairModel", "plain", "(I)V"⟩, 31) := ⟨⟨by decide +kernel, by decide +kernel⟩, List.mem_of_getElem? (i := 651) (by decide +kernel), List.mem_of_getElem? (i := 657) (by decide +kernel), List.mem_of_getElem? (i := 658) (by decide +kernel)⟩
def lw_privs_2 : List (MethodName × Nat) := [(⟨"GiantStair$Told", "sinksAlone", "(II)Z"⟩, 10), (⟨"GiantStair$Told", "catches", "(II[I)Z"⟩, 10), (⟨"GiantStair", "mayBeAsked", "(II)Z"⟩, 11), (⟨"GiantStair", "go", "(II)I"⟩, 11), (⟨"GiantStair", "foresee", "()V"⟩, 11), (⟨"GiantStair$Search", "begin", "(LGiantStair$Told;[I)V"⟩, 6), (⟨"GiantStair$Search", "forget", "()V"⟩, 6), (⟨"GiantStair$Search", "reach", "(III)V"⟩, 6), (⟨"GiantStair$Search", "isNew", "(I)Z"⟩, 6), (⟨"GiantStair$Search", "awayOf", "(I)I"⟩, 6), (⟨"GiantStair$Search", "unfold", "(I)V"⟩, 6), (⟨"GiantStair$Search", "positionBehind", "(I)I"⟩, 6), (⟨"GiantStair$Search", "aheadOf", "(I)I"⟩, 6), (⟨"GiantStair", "chanceOf", "(II)I"⟩, 11), (⟨"GiantStair", "canAllBeUp", "(I)Z"⟩, 11), (⟨"GiantStairModel", "plain", "(I)V"⟩, 31)]
theorem lw_r2 : ∀ q ∈ lw_privs_2, lw_okq q := List.forall_mem_cons.mpr ⟨lw_p16, List.forall_mem_cons.mpr ⟨lw_p17, List.forall_mem_cons.mpr ⟨lw_p18, List.forall_mem_cons.mpr ⟨lw_p19, List.forall_mem_cons.mpr ⟨lw_p20, List.forall_mem_cons.mpr ⟨lw_p21, List.forall_mem_cons.mpr ⟨lw_p22, List.forall_mem_cons.mpr ⟨lw_p23, List.forall_mem_cons.mpr ⟨lw_p24, List.forall_mem_cons.mpr ⟨lw_p25, List.forall_mem_cons.mpr ⟨lw_p26, List.forall_mem_cons.mpr ⟨lw_p27, List.forall_mem_cons.mpr ⟨lw_p28, List.forall_mem_cons.mpr ⟨lw_p29, List.forall_mem_cons.mpr ⟨lw_p30, List.forall_mem_cons.mpr ⟨lw_p31, fun _ h => absurd h List.not_mem_nil⟩⟩⟩⟩⟩⟩⟩⟩⟩⟩⟩⟩⟩⟩⟩⟩
theorem lw_p32 : lw_okq (⟨"GiantStairModel", "isRead", "()Z"⟩, 31) := ⟨⟨by decide +kernel, by decide +kernel⟩, List.mem_of_getElem? (i := 651) (by decide +kernel), List.mem_of_getElem? (i := 771) (by decide +kernel), List.mem_of_getElem? (i := 772) (by decide +kernel)⟩
theorem lw_p33 : lw_okq (⟨"GiantStairModel", "isLine", "(I)Z"⟩, 31) := ⟨⟨by decide +kernel, by decide +kernel⟩, List.mem_of_getElem? (i := 651) (by decide +kernel), List.mem_of_getElem? (i := 775) (by decide +kernel), List.mem_of_getElem? (i := 776) (by decide +kernel)⟩
theorem lw_p34 : lw_okq (⟨"GiantStairModel", "nextToken", "()V"⟩, 31) := ⟨⟨by decide +kernel, by decide +kernel⟩, List.mem_of_getElem? (i := 651) (by decide +kernel), List.mem_of_getElem? (i := 779) (by decide +kernel), List.mem_of_getElem? (i := 780) (by decide +kernel)⟩
theorem lw_p35 : lw_okq (⟨"GiantStairModel", "isOneLine", "(I)Z"⟩, 31) := ⟨⟨by decide +kernel, by decide +kernel⟩, List.mem_of_getElem? (i := 651) (by decide +kernel), List.mem_of_getElem? (i := 799) (by decide +kernel), List.mem_of_getElem? (i := 800) (by decide +kernel)⟩
theorem lw_p36 : lw_okq (⟨"GiantStairModel", "fails", "()Z"⟩, 31) := ⟨⟨by decide +kernel, by decide +kernel⟩, List.mem_of_getElem? (i := 651) (by decide +kernel), List.mem_of_getElem? (i := 803) (by decide +kernel), List.mem_of_getElem? (i := 804) (by decide +kernel)⟩
theorem lw_p37 : lw_okq (⟨"GiantStairModel", "isNumber", "(III)Z"⟩, 31) := ⟨⟨by decide +kernel, by decide +kernel⟩, List.mem_of_getElem? (i := 651) (by decide +kernel), List.mem_of_getElem? (i := 807) (by decide +kernel), List.mem_of_getElem? (i := 808) (by decide +kernel)⟩
theorem lw_p38 : lw_okq (⟨"GiantStairModel", "doLine", "(I)V"⟩, 31) := ⟨⟨by decide +kernel, by decide +kernel⟩, List.mem_of_getElem? (i := 651) (by decide +kernel), List.mem_of_getElem? (i := 815) (by decide +kernel), List.mem_of_getElem? (i := 816) (by decide +kernel)⟩
theorem lw_p39 : lw_okq (⟨"GiantStairModel", "isOne", "(I)Z"⟩, 31) := ⟨⟨by decide +kernel, by decide +kernel⟩, List.mem_of_getElem? (i := 651) (by decide +kernel), List.mem_of_getElem? (i := 827) (by decide +kernel), List.mem_of_getElem? (i := 828) (by decide +kernel)⟩
theorem lw_p40 : lw_okq (⟨"GiantStairModel", "burden", "(I)I"⟩, 31) := ⟨⟨by decide +kernel, by decide +kernel⟩, List.mem_of_getElem? (i := 651) (by decide +kernel), List.mem_of_getElem? (i := 831) (by decide +kernel), List.mem_of_getElem? (i := 832) (by decide +kernel)⟩
theorem lw_p41 : lw_okq (⟨"GiantStairModel", "canGo", "([III)Z"⟩, 31) := ⟨⟨by decide +kernel, by decide +kernel⟩, List.mem_of_getElem? (i := 651) (by decide +kernel), List.mem_of_getElem? (i := 839) (by decide +kernel), List.mem_of_getElem? (i := 840) (by decide +kernel)⟩
theorem lw_p42 : lw_okq (⟨"GiantStairModel", "helpOf", "([II)I"⟩, 31) := ⟨⟨by decide +kernel, by decide +kernel⟩, List.mem_of_getElem? (i := 651) (by decide +kernel), List.mem_of_getElem? (i := 843) (by decide +kernel), List.mem_of_getElem? (i := 844) (by decide +kernel)⟩
theorem lw_p43 : lw_okq (⟨"GiantStairModel", "canUp", "([IIII)Z"⟩, 31) := ⟨⟨by decide +kernel, by decide +kernel⟩, List.mem_of_getElem? (i := 651) (by decide +kernel), List.mem_of_getElem? (i := 847) (by decide +kernel), List.mem_of_getElem? (i := 848) (by decide +kernel)⟩
theorem lw_p44 : lw_okq (⟨"GiantStairModel", "isThere", "([III)Z"⟩, 31) := ⟨⟨by decide +kernel, by decide +kernel⟩, List.mem_of_getElem? (i := 651) (by decide +kernel), List.mem_of_getElem? (i := 854) (by decide +kernel), List.mem_of_getElem? (i := 855) (by decide +kernel)⟩
theorem lw_p45 : lw_okq (⟨"GiantStairModel", "hand", "(I)I"⟩, 31) := ⟨⟨by decide +kernel, by decide +kernel⟩, List.mem_of_getElem? (i := 651) (by decide +kernel), List.mem_of_getElem? (i := 858) (by decide +kernel), List.mem_of_getElem? (i := 859) (by decide +kernel)⟩
theorem lw_p46 : lw_okq (⟨"GiantStairModel", "canDown", "([III)Z"⟩, 31) := ⟨⟨by decide +kernel, by decide +kernel⟩, List.mem_of_getElem? (i := 651) (by decide +kernel), List.mem_of_getElem? (i := 862) (by decide +kernel), List.mem_of_getElem? (i := 863) (by decide +kernel)⟩
theorem lw_p47 : lw_okq (⟨"GiantStairModel", "isOther", "(II)Z"⟩, 31) := ⟨⟨by decide +kernel, by decide +kernel⟩, List.mem_of_getElem? (i := 651) (by decide +kernel), List.mem_of_getElem? (i := 870) (by decide +kernel), List.mem_of_getElem? (i := 871) (by decide +kernel)⟩
def lw_privs_3 : List (MethodName × Nat) := [(⟨"GiantStairModel", "isRead", "()Z"⟩, 31), (⟨"GiantStairModel", "isLine", "(I)Z"⟩, 31), (⟨"GiantStairModel", "nextToken", "()V"⟩, 31), (⟨"GiantStairModel", "isOneLine", "(I)Z"⟩, 31), (⟨"GiantStairModel", "fails", "()Z"⟩, 31), (⟨"GiantStairModel", "isNumber", "(III)Z"⟩, 31), (⟨"GiantStairModel", "doLine", "(I)V"⟩, 31), (⟨"GiantStairModel", "isOne", "(I)Z"⟩, 31), (⟨"GiantStairModel", "burden", "(I)I"⟩, 31), (⟨"GiantStairModel", "canGo", "([III)Z"⟩, 31), (⟨"GiantStairModel", "helpOf", "([II)I"⟩, 31), (⟨"GiantStairModel", "canUp", "([IIII)Z"⟩, 31), (⟨"GiantStairModel", "isThere", "([III)Z"⟩, 31), (⟨"GiantStairModel", "hand", "(I)I"⟩, 31), (⟨"GiantStairModel", "canDown", "([III)Z"⟩, 31), (⟨"GiantStairModel", "isOther", "(II)Z"⟩, 31)]
theorem lw_r3 : ∀ q ∈ lw_privs_3, lw_okq q := List.forall_mem_cons.mpr ⟨lw_p32, List.forall_mem_cons.mpr ⟨lw_p33, List.forall_mem_cons.mpr ⟨lw_p34, List.forall_mem_cons.mpr ⟨lw_p35, List.forall_mem_cons.mpr ⟨lw_p36, List.forall_mem_cons.mpr ⟨lw_p37, List.forall_mem_cons.mpr ⟨lw_p38, List.forall_mem_cons.mpr ⟨lw_p39, List.forall_mem_cons.mpr ⟨lw_p40, List.forall_mem_cons.mpr ⟨lw_p41, List.forall_mem_cons.mpr ⟨lw_p42, List.forall_mem_cons.mpr ⟨lw_p43, List.forall_mem_cons.mpr ⟨lw_p44, List.forall_mem_cons.mpr ⟨lw_p45, List.forall_mem_cons.mpr ⟨lw_p46, List.forall_mem_cons.mpr ⟨lw_p47, fun _ h => absurd h List.not_mem_nil⟩⟩⟩⟩⟩⟩⟩⟩⟩⟩⟩⟩⟩⟩⟩⟩
theorem lw_p48 : lw_okq (⟨"GiantStairModel", "thank", "(II)V"⟩, 31) := ⟨⟨by decide +kernel, by decide +kernel⟩, List.mem_of_getElem? (i := 651) (by decide +kernel), List.mem_of_getElem? (i := 874) (by decide +kernel), List.mem_of_getElem? (i := 875) (by decide +kernel)⟩
theorem lw_p49 : lw_okq (⟨"GiantStairModel", "soonestOf", "()I"⟩, 31) := ⟨⟨by decide +kernel, by decide +kernel⟩, List.mem_of_getElem? (i := 651) (by decide +kernel), List.mem_of_getElem? (i := 902) (by decide +kernel), List.mem_of_getElem? (i := 903) (by decide +kernel)⟩
theorem lw_p50 : lw_okq (⟨"GiantStairModel", "layLine", "()V"⟩, 31) := ⟨⟨by decide +kernel, by decide +kernel⟩, List.mem_of_getElem? (i := 651) (by decide +kernel), List.mem_of_getElem? (i := 906) (by decide +kernel), List.mem_of_getElem? (i := 907) (by decide +kernel)⟩
theorem lw_p51 : lw_okq (⟨"GiantStairModel", "codeOf", "([I)I"⟩, 31) := ⟨⟨by decide +kernel, by decide +kernel⟩, List.mem_of_getElem? (i := 651) (by decide +kernel), List.mem_of_getElem? (i := 910) (by decide +kernel), List.mem_of_getElem? (i := 911) (by decide +kernel)⟩
theorem lw_p52 : lw_okq (⟨"GiantStairModel", "place", "(I)V"⟩, 31) := ⟨⟨by decide +kernel, by decide +kernel⟩, List.mem_of_getElem? (i := 651) (by decide +kernel), List.mem_of_getElem? (i := 914) (by decide +kernel), List.mem_of_getElem? (i := 915) (by decide +kernel)⟩
theorem lw_p53 : lw_okq (⟨"GiantStairModel", "firstUp", "()I"⟩, 31) := ⟨⟨by decide +kernel, by decide +kernel⟩, List.mem_of_getElem? (i := 651) (by decide +kernel), List.mem_of_getElem? (i := 918) (by decide +kernel), List.mem_of_getElem? (i := 919) (by decide +kernel)⟩
theorem lw_p54 : lw_okq (⟨"GiantStairModel", "areUp", "([I)Z"⟩, 31) := ⟨⟨by decide +kernel, by decide +kernel⟩, List.mem_of_getElem? (i := 651) (by decide +kernel), List.mem_of_getElem? (i := 922) (by decide +kernel), List.mem_of_getElem? (i := 923) (by decide +kernel)⟩
def lw_privs_4 : List (MethodName × Nat) := [(⟨"GiantStairModel", "thank", "(II)V"⟩, 31), (⟨"GiantStairModel", "soonestOf", "()I"⟩, 31), (⟨"GiantStairModel", "layLine", "()V"⟩, 31), (⟨"GiantStairModel", "codeOf", "([I)I"⟩, 31), (⟨"GiantStairModel", "place", "(I)V"⟩, 31), (⟨"GiantStairModel", "firstUp", "()I"⟩, 31), (⟨"GiantStairModel", "areUp", "([I)Z"⟩, 31)]
theorem lw_r4 : ∀ q ∈ lw_privs_4, lw_okq q := List.forall_mem_cons.mpr ⟨lw_p48, List.forall_mem_cons.mpr ⟨lw_p49, List.forall_mem_cons.mpr ⟨lw_p50, List.forall_mem_cons.mpr ⟨lw_p51, List.forall_mem_cons.mpr ⟨lw_p52, List.forall_mem_cons.mpr ⟨lw_p53, List.forall_mem_cons.mpr ⟨lw_p54, fun _ h => absurd h List.not_mem_nil⟩⟩⟩⟩⟩⟩⟩
def lw_privs : List (MethodName × Nat) := lw_privs_1 ++ (lw_privs_2 ++ (lw_privs_3 ++ (lw_privs_4)))
def lw_tbl : List Cond := k2_sels lw_privs ++ tables_1
theorem lw_privs_ok : ∀ q ∈ lw_privs, lw_okq q := by
  show ∀ q ∈ lw_privs_1 ++ (lw_privs_2 ++ (lw_privs_3 ++ (lw_privs_4))), lw_okq q
  exact List.forall_mem_append.mpr ⟨lw_r1, List.forall_mem_append.mpr ⟨lw_r2, List.forall_mem_append.mpr ⟨lw_r3, lw_r4⟩⟩⟩
-- ===== end of PART A; then your names; then what follows =====
/-! kinds of objects, their fields by slot -/
def TX0 : u_T := fun k => match k with
  | 0 => ("GiantStair$Journey", "level", "[I", true)
  | 1 => ("GiantStair$Journey", "moves", "I", false)
  | 2 => ("GiantStair$Journey", "helps", "[I", true)
  | _ => ("GiantStair$Journey", "holds", "Z", false)
def tyX0 : Nat → FieldType := fun k => match k with
  | 0 => .array .int
  | 1 => .int
  | 2 => .array .int
  | _ => .boolean
theorem nmX0 : ∀ a, a < 4 → ∀ b, b < 4 → a ≠ b → (TX0 a).2.1 ≠ (TX0 b).2.1 := by decide +kernel
theorem tyX0_ok : ∀ k, k < 4 → parseFieldDescriptor (TX0 k).2.2.1 = some (tyX0 k) := by decide +kernel
def TX1 : u_T := fun k => match k with
  | 0 => ("GiantStair$Search", "away", "[I", true)
  | 1 => ("GiantStair$Search", "ahead", "[I", true)
  | 2 => ("GiantStair$Search", "found", "[I", true)
  | 3 => ("GiantStair$Search", "reached", "I", false)
  | 4 => ("GiantStair$Search", "goal", "I", false)
  | _ => ("GiantStair$Search", "level", "[I", true)
def tyX1 : Nat → FieldType := fun k => match k with
  | 0 => .array .int
  | 1 => .array .int
  | 2 => .array .int
  | 3 => .int
  | 4 => .int
  | _ => .array .int
theorem nmX1 : ∀ a, a < 6 → ∀ b, b < 6 → a ≠ b → (TX1 a).2.1 ≠ (TX1 b).2.1 := by decide +kernel
theorem tyX1_ok : ∀ k, k < 6 → parseFieldDescriptor (TX1 k).2.2.1 = some (tyX1 k) := by decide +kernel
def TX2 : u_T := fun k => match k with
  | 0 => ("GiantStair$Text", "signs", "[I", true)
  | 1 => ("GiantStair$Text", "length", "I", false)
  | 2 => ("GiantStair$Text", "lines", "I", false)
  | 3 => ("GiantStair$Text", "place", "I", false)
  | _ => ("GiantStair$Text", "numbers", "[I", true)
def tyX2 : Nat → FieldType := fun k => match k with
  | 0 => .array .int
  | 1 => .int
  | 2 => .int
  | 3 => .int
  | _ => .array .int
theorem nmX2 : ∀ a, a < 5 → ∀ b, b < 5 → a ≠ b → (TX2 a).2.1 ≠ (TX2 b).2.1 := by decide +kernel
theorem tyX2_ok : ∀ k, k < 5 → parseFieldDescriptor (TX2 k).2.2.1 = some (tyX2 k) := by decide +kernel
def TX3 : u_T := fun k => match k with
  | 0 => ("GiantStair$Told", "top", "I", false)
  | 1 => ("GiantStair$Told", "people", "I", false)
  | 2 => ("GiantStair$Told", "stepHeight", "[I", true)
  | 3 => ("GiantStair$Told", "rope", "[Z", true)
  | 4 => ("GiantStair$Told", "kind", "[I", true)
  | 5 => ("GiantStair$Told", "height", "[I", true)
  | 6 => ("GiantStair$Told", "weight", "[I", true)
  | 7 => ("GiantStair$Told", "burden", "[I", true)
  | 8 => ("GiantStair$Told", "strength", "[I", true)
  | _ => ("GiantStair$Told", "start", "[I", true)
def tyX3 : Nat → FieldType := fun k => match k with
  | 0 => .int
  | 1 => .int
  | 2 => .array .int
  | 3 => .array .boolean
  | 4 => .array .int
  | 5 => .array .int
  | 6 => .array .int
  | 7 => .array .int
  | 8 => .array .int
  | _ => .array .int
theorem nmX3 : ∀ a, a < 10 → ∀ b, b < 10 → a ≠ b → (TX3 a).2.1 ≠ (TX3 b).2.1 := by decide +kernel
theorem tyX3_ok : ∀ k, k < 10 → parseFieldDescriptor (TX3 k).2.2.1 = some (tyX3 k) := by decide +kernel
def TX4 : u_T := fun k => match k with
  | 0 => ("GiantStair", "told", "LGiantStair$Told;", true)
  | 1 => ("GiantStair", "draft", "LGiantStair$Told;", true)
  | 2 => ("GiantStair", "text", "LGiantStair$Text;", true)
  | 3 => ("GiantStair", "journey", "LGiantStair$Journey;", true)
  | 4 => ("GiantStair", "kept", "[LGiantStair$Journey;", true)
  | 5 => ("GiantStair", "search", "LGiantStair$Search;", true)
  | 6 => ("GiantStair", "foreseen", "Z", false)
  | 7 => ("GiantStair", "rowOne", "[I", true)
  | 8 => ("GiantStair", "rowUp", "[I", true)
  | 9 => ("GiantStair", "rowLength", "I", false)
  | _ => ("GiantStair", "judged", "[I", true)
def tyX4 : Nat → FieldType := fun k => match k with
  | 0 => .object "GiantStair$Told"
  | 1 => .object "GiantStair$Told"
  | 2 => .object "GiantStair$Text"
  | 3 => .object "GiantStair$Journey"
  | 4 => .array (.object "GiantStair$Journey")
  | 5 => .object "GiantStair$Search"
  | 6 => .boolean
  | 7 => .array .int
  | 8 => .array .int
  | 9 => .int
  | _ => .array .int
theorem nmX4 : ∀ a, a < 11 → ∀ b, b < 11 → a ≠ b → (TX4 a).2.1 ≠ (TX4 b).2.1 := by decide +kernel
theorem tyX4_ok : ∀ k, k < 11 → parseFieldDescriptor (TX4 k).2.2.1 = some (tyX4 k) := by decide +kernel
def TX5 : u_T := fun k => match k with
  | 0 => ("GiantStairModel", "top", "I", false)
  | 1 => ("GiantStairModel", "height", "[I", true)
  | 2 => ("GiantStairModel", "ropes", "I", false)
  | 3 => ("GiantStairModel", "people", "I", false)
  | 4 => ("GiantStairModel", "one", "[I", true)
  | 5 => ("GiantStairModel", "bytes", "I", false)
  | 6 => ("GiantStairModel", "text", "[I", true)
  | 7 => ("GiantStairModel", "position", "I", false)
  | 8 => ("GiantStairModel", "tokenAt", "I", false)
  | 9 => ("GiantStairModel", "token", "J", false)
  | 10 => ("GiantStairModel", "digits", "I", false)
  | 11 => ("GiantStairModel", "number", "I", false)
  | 12 => ("GiantStairModel", "faultAt", "I", false)
  | 13 => ("GiantStairModel", "readMany", "I", false)
  | 14 => ("GiantStairModel", "readTop", "I", false)
  | 15 => ("GiantStairModel", "readPeople", "I", false)
  | 16 => ("GiantStairModel", "read", "[I", true)
  | 17 => ("GiantStairModel", "level", "[I", true)
  | 18 => ("GiantStairModel", "moves", "I", false)
  | 19 => ("GiantStairModel", "helped", "[I", true)
  | 20 => ("GiantStairModel", "image", "[I", true)
  | 21 => ("GiantStairModel", "isKept", "[Z", true)
  | 22 => ("GiantStairModel", "rows", "I", false)
  | 23 => ("GiantStairModel", "row", "[I", true)
  | 24 => ("GiantStairModel", "far", "[I", true)
  | 25 => ("GiantStairModel", "line", "[I", true)
  | 26 => ("GiantStairModel", "from", "[I", true)
  | 27 => ("GiantStairModel", "by", "[I", true)
  | 28 => ("GiantStairModel", "lined", "I", false)
  | 29 => ("GiantStairModel", "tried", "[I", true)
  | _ => ("GiantStairModel", "comes", "I", false)
def tyX5 : Nat → FieldType := fun k => match k with
  | 0 => .int
  | 1 => .array .int
  | 2 => .int
  | 3 => .int
  | 4 => .array .int
  | 5 => .int
  | 6 => .array .int
  | 7 => .int
  | 8 => .int
  | 9 => .long
  | 10 => .int
  | 11 => .int
  | 12 => .int
  | 13 => .int
  | 14 => .int
  | 15 => .int
  | 16 => .array .int
  | 17 => .array .int
  | 18 => .int
  | 19 => .array .int
  | 20 => .array .int
  | 21 => .array .boolean
  | 22 => .int
  | 23 => .array .int
  | 24 => .array .int
  | 25 => .array .int
  | 26 => .array .int
  | 27 => .array .int
  | 28 => .int
  | 29 => .array .int
  | _ => .int
theorem nmX5 : ∀ a, a < 31 → ∀ b, b < 31 → a ≠ b → (TX5 a).2.1 ≠ (TX5 b).2.1 := by decide +kernel
theorem tyX5_ok : ∀ k, k < 31 → parseFieldDescriptor (TX5 k).2.2.1 = some (tyX5 k) := by decide +kernel
abbrev vwCl : List vw_C := [("GiantStair$Journey", TX0, 4), ("GiantStair$Search", TX1, 6), ("GiantStair$Text", TX2, 5), ("GiantStair$Told", TX3, 10), ("GiantStair", TX4, 11), ("GiantStairModel", TX5, 31)]
/-- all words of the tables that stay -/
def gT : List Cond := lw_tbl.filter goodWord
theorem gT_sub {w : Cond} (h : w ∈ gT) : w ∈ lw_tbl := (List.mem_filter.mp h).1
theorem gT_in {w : Cond} (h : w ∈ lw_tbl) (g : goodWord w = true) : w ∈ gT := List.mem_filter.mpr ⟨h, g⟩
theorem gT_good {ws : List Cond} (h : ∀ w ∈ ws, w ∈ gT) : GoodIn gT ws := fun w hw => ⟨h w hw, good_of_word (List.mem_filter.mp (h w hw)).2⟩
theorem gT_1 {i : Nat} {w : Cond} (h : tables_1_1[i]? = some w) (g : goodWord w = true) : w ∈ gT := gT_in (List.mem_append_right _ (by have h := List.mem_of_getElem? h; exact List.mem_append_left _ h)) g
theorem gT_2 {i : Nat} {w : Cond} (h : tables_1_2[i]? = some w) (g : goodWord w = true) : w ∈ gT := gT_in (List.mem_append_right _ (by have h := List.mem_of_getElem? h; exact List.mem_append_right _ (List.mem_append_left _ h))) g
theorem gT_3 {i : Nat} {w : Cond} (h : tables_1_3[i]? = some w) (g : goodWord w = true) : w ∈ gT := gT_in (List.mem_append_right _ (by have h := List.mem_of_getElem? h; exact List.mem_append_right _ (List.mem_append_right _ (List.mem_append_left _ h)))) g
theorem gT_4 {i : Nat} {w : Cond} (h : tables_1_4[i]? = some w) (g : goodWord w = true) : w ∈ gT := gT_in (List.mem_append_right _ (by have h := List.mem_of_getElem? h; exact List.mem_append_right _ (List.mem_append_right _ (List.mem_append_right _ (List.mem_append_left _ h))))) g
theorem gT_5 {i : Nat} {w : Cond} (h : tables_1_5[i]? = some w) (g : goodWord w = true) : w ∈ gT := gT_in (List.mem_append_right _ (by have h := List.mem_of_getElem? h; exact List.mem_append_right _ (List.mem_append_right _ (List.mem_append_right _ (List.mem_append_right _ h))))) g
theorem gL_1 {i : Nat} {w : Cond} (h : tables_1_1[i]? = some w) : w ∈ lw_tbl := List.mem_append_right _ (by have h := List.mem_of_getElem? h; exact List.mem_append_left _ h)
theorem gL_2 {i : Nat} {w : Cond} (h : tables_1_2[i]? = some w) : w ∈ lw_tbl := List.mem_append_right _ (by have h := List.mem_of_getElem? h; exact List.mem_append_right _ (List.mem_append_left _ h))
theorem gL_3 {i : Nat} {w : Cond} (h : tables_1_3[i]? = some w) : w ∈ lw_tbl := List.mem_append_right _ (by have h := List.mem_of_getElem? h; exact List.mem_append_right _ (List.mem_append_right _ (List.mem_append_left _ h)))
theorem gL_4 {i : Nat} {w : Cond} (h : tables_1_4[i]? = some w) : w ∈ lw_tbl := List.mem_append_right _ (by have h := List.mem_of_getElem? h; exact List.mem_append_right _ (List.mem_append_right _ (List.mem_append_right _ (List.mem_append_left _ h))))
theorem gL_5 {i : Nat} {w : Cond} (h : tables_1_5[i]? = some w) : w ∈ lw_tbl := List.mem_append_right _ (by have h := List.mem_of_getElem? h; exact List.mem_append_right _ (List.mem_append_right _ (List.mem_append_right _ (List.mem_append_right _ h))))
theorem gT_0 {i : Nat} {w : Cond} (h : (k2_sels lw_privs)[i]? = some w) (g : goodWord w = true) : w ∈ gT := gT_in (List.mem_append_left _ (List.mem_of_getElem? h)) g
theorem tw_0 : Cond.initialized "GiantStairLaw" ∈ gT := gT_1 (i := 0) rfl rfl
theorem tw_1 : Cond.initialized "GiantStair" ∈ gT := gT_1 (i := 1) rfl rfl
theorem tw_2 : Cond.initialized "GiantStair$Told" ∈ gT := gT_1 (i := 2) rfl rfl
theorem tw_3 : Cond.initialized "GiantStair$Text" ∈ gT := gT_1 (i := 3) rfl rfl
theorem tw_4 : Cond.initialized "GiantStair$Journey" ∈ gT := gT_1 (i := 4) rfl rfl
theorem tw_5 : Cond.initialized "GiantStair$Search" ∈ gT := gT_1 (i := 5) rfl rfl
theorem tw_6 : Cond.initialized "java/util/Arrays" ∈ gT := gT_1 (i := 6) rfl rfl
theorem tw_7 : Cond.initialized "GiantStairModel" ∈ gT := gT_1 (i := 7) rfl rfl
theorem tw_8 : Cond.initialized "java/lang/System" ∈ gT := gT_1 (i := 8) rfl rfl
theorem tw_9 : Cond.initialized "java/lang/String" ∈ gT := gT_1 (i := 9) rfl rfl
theorem tw_10 : Cond.initialized "java/lang/StringLatin1" ∈ gT := gT_1 (i := 10) rfl rfl
theorem tw_11 : Cond.initialized "jdk/internal/util/Preconditions" ∈ gT := gT_1 (i := 11) rfl rfl
theorem tw_12 : Cond.initialized "java/lang/StringUTF16" ∈ gT := gT_1 (i := 12) rfl rfl
theorem tw_13 : Cond.initialized "java/lang/Math" ∈ gT := gT_1 (i := 13) rfl rfl
theorem tw_14 : Cond.initialized "java/lang/Integer" ∈ gT := gT_1 (i := 14) rfl rfl
theorem tw_15 : Cond.classLink "GiantStairLaw" 7 "GiantStair" ∈ gT := gT_1 (i := 15) rfl rfl
theorem tw_16 : Cond.instantiable "GiantStair" 11 ∈ gT := gT_1 (i := 16) rfl rfl
theorem tw_17 : Cond.methodLink "GiantStairLaw" 9 (⟨"GiantStair", "<init>", "()V"⟩ : MethodName) ∈ gT := gT_1 (i := 17) rfl rfl
theorem tw_18 : Cond.instanceMethod (⟨"GiantStair", "<init>", "()V"⟩ : MethodName) ∈ gT := gT_1 (i := 18) rfl rfl
theorem tw_19 : Cond.code (⟨"GiantStair", "<init>", "()V"⟩ : MethodName) prog_1_method_1_code 2 (Option.none : Option FieldType) ∈ gT := gT_1 (i := 19) rfl rfl
theorem tw_20 : Cond.methodLink "GiantStair" 1 (⟨"java/lang/Object", "<init>", "()V"⟩ : MethodName) ∈ gT := gT_1 (i := 20) rfl rfl
theorem tw_21 : Cond.instanceMethod (⟨"java/lang/Object", "<init>", "()V"⟩ : MethodName) ∈ gT := gT_1 (i := 21) rfl rfl
theorem tw_22 : Cond.code (⟨"java/lang/Object", "<init>", "()V"⟩ : MethodName) object_method_1_code 1 (Option.none : Option FieldType) ∈ gT := gT_1 (i := 22) rfl rfl
theorem tw_23 : Cond.classLink "GiantStair" 7 "GiantStair$Told" ∈ gT := gT_1 (i := 23) rfl rfl
theorem tw_24 : Cond.instantiable "GiantStair$Told" 10 ∈ gT := gT_1 (i := 24) rfl rfl
theorem tw_25 : Cond.methodLink "GiantStair" 9 (⟨"GiantStair$Told", "<init>", "()V"⟩ : MethodName) ∈ gT := gT_1 (i := 25) rfl rfl
theorem tw_26 : Cond.instanceMethod (⟨"GiantStair$Told", "<init>", "()V"⟩ : MethodName) ∈ gT := gT_1 (i := 26) rfl rfl
theorem tw_27 : Cond.code (⟨"GiantStair$Told", "<init>", "()V"⟩ : MethodName) prog_5_method_1_code 1 (Option.none : Option FieldType) ∈ gT := gT_1 (i := 27) rfl rfl
theorem tw_28 : Cond.methodLink "GiantStair$Told" 3 (⟨"java/lang/Object", "<init>", "()V"⟩ : MethodName) ∈ gT := gT_1 (i := 28) rfl rfl
theorem tw_29 : Cond.methodLink "GiantStair$Told" 37 (⟨"GiantStair$Told", "build", "(I)V"⟩ : MethodName) ∈ gT := gT_1 (i := 29) rfl rfl
theorem tw_31 : Cond.instanceMethod (⟨"GiantStair$Told", "build", "(I)V"⟩ : MethodName) ∈ gT := gT_1 (i := 31) rfl rfl
theorem tw_32 : Cond.code (⟨"GiantStair$Told", "build", "(I)V"⟩ : MethodName) prog_5_method_2_code 3 (Option.none : Option FieldType) ∈ gT := gT_1 (i := 32) rfl rfl
theorem tw_33 : Cond.fieldLink "GiantStair$Told" 41 "GiantStair$Told" "top" "I" ∈ gT := gT_1 (i := 33) rfl rfl
theorem tw_34 : Cond.fieldLink "GiantStair$Search" 79 "GiantStair$Told" "top" "I" ∈ gT := gT_1 (i := 34) rfl rfl
theorem tw_35 : Cond.fieldLink "GiantStair" 82 "GiantStair$Told" "top" "I" ∈ gT := gT_1 (i := 35) rfl rfl
theorem tw_36 : Cond.fieldLink "GiantStair$Told" 45 "GiantStair$Told" "people" "I" ∈ gT := gT_1 (i := 36) rfl rfl
theorem tw_37 : Cond.fieldLink "GiantStair$Search" 46 "GiantStair$Told" "people" "I" ∈ gT := gT_1 (i := 37) rfl rfl
theorem tw_38 : Cond.fieldLink "GiantStair" 207 "GiantStair$Told" "people" "I" ∈ gT := gT_1 (i := 38) rfl rfl
theorem tw_39 : Cond.fieldLink "GiantStair$Told" 9 "GiantStair$Told" "stepHeight" "[I" ∈ gT := gT_1 (i := 39) rfl rfl
theorem tw_40 : Cond.fieldLink "GiantStair" 85 "GiantStair$Told" "stepHeight" "[I" ∈ gT := gT_1 (i := 40) rfl rfl
theorem tw_41 : Cond.fieldLink "GiantStair$Told" 15 "GiantStair$Told" "rope" "[Z" ∈ gT := gT_1 (i := 41) rfl rfl
theorem tw_42 : Cond.fieldLink "GiantStair" 88 "GiantStair$Told" "rope" "[Z" ∈ gT := gT_1 (i := 42) rfl rfl
theorem tw_43 : Cond.fieldLink "GiantStair$Told" 19 "GiantStair$Told" "kind" "[I" ∈ gT := gT_1 (i := 43) rfl rfl
theorem tw_44 : Cond.fieldLink "GiantStair" 96 "GiantStair$Told" "kind" "[I" ∈ gT := gT_1 (i := 44) rfl rfl
theorem tw_45 : Cond.fieldLink "GiantStair$Told" 22 "GiantStair$Told" "height" "[I" ∈ gT := gT_1 (i := 45) rfl rfl
theorem tw_46 : Cond.fieldLink "GiantStair" 99 "GiantStair$Told" "height" "[I" ∈ gT := gT_1 (i := 46) rfl rfl
theorem tw_47 : Cond.fieldLink "GiantStair$Told" 25 "GiantStair$Told" "weight" "[I" ∈ gT := gT_1 (i := 47) rfl rfl
theorem tw_48 : Cond.fieldLink "GiantStair$Told" 28 "GiantStair$Told" "burden" "[I" ∈ gT := gT_1 (i := 48) rfl rfl
theorem tw_49 : Cond.fieldLink "GiantStair" 102 "GiantStair$Told" "burden" "[I" ∈ gT := gT_1 (i := 49) rfl rfl
theorem tw_50 : Cond.fieldLink "GiantStair$Told" 31 "GiantStair$Told" "strength" "[I" ∈ gT := gT_1 (i := 50) rfl rfl
theorem tw_51 : Cond.fieldLink "GiantStair" 105 "GiantStair$Told" "strength" "[I" ∈ gT := gT_1 (i := 51) rfl rfl
theorem tw_52 : Cond.fieldLink "GiantStair$Told" 34 "GiantStair$Told" "start" "[I" ∈ gT := gT_1 (i := 52) rfl rfl
theorem tw_53 : Cond.fieldLink "GiantStair" 235 "GiantStair$Told" "start" "[I" ∈ gT := gT_1 (i := 53) rfl rfl
theorem tw_54 : Cond.lays "GiantStair$Told" "GiantStair$Told" "top" "I" ∈ gT := gT_1 (i := 54) rfl rfl
theorem tw_56 : Cond.lays "GiantStair$Told" "GiantStair$Told" "people" "I" ∈ gT := gT_1 (i := 56) rfl rfl
theorem tw_58 : Cond.laysFinal "GiantStair$Told" "GiantStair$Told" "stepHeight" "[I" ∈ gT := gT_1 (i := 58) rfl rfl
theorem tw_60 : Cond.laysFinal "GiantStair$Told" "GiantStair$Told" "rope" "[Z" ∈ gT := gT_1 (i := 60) rfl rfl
theorem tw_62 : Cond.laysFinal "GiantStair$Told" "GiantStair$Told" "kind" "[I" ∈ gT := gT_1 (i := 62) rfl rfl
theorem tw_64 : Cond.laysFinal "GiantStair$Told" "GiantStair$Told" "height" "[I" ∈ gT := gT_1 (i := 64) rfl rfl
theorem tw_66 : Cond.laysFinal "GiantStair$Told" "GiantStair$Told" "weight" "[I" ∈ gT := gT_1 (i := 66) rfl rfl
theorem tw_68 : Cond.laysFinal "GiantStair$Told" "GiantStair$Told" "burden" "[I" ∈ gT := gT_1 (i := 68) rfl rfl
theorem tw_70 : Cond.laysFinal "GiantStair$Told" "GiantStair$Told" "strength" "[I" ∈ gT := gT_1 (i := 70) rfl rfl
theorem tw_72 : Cond.laysFinal "GiantStair$Told" "GiantStair$Told" "start" "[I" ∈ gT := gT_1 (i := 72) rfl rfl
theorem tw_75 : Cond.arrayClass FieldType.int ∈ gT := gT_1 (i := 75) rfl rfl
theorem tw_76 : Cond.arrayClass FieldType.boolean ∈ gT := gT_1 (i := 76) rfl rfl
theorem tw_77 : Cond.classLink "GiantStair" 19 "GiantStair$Text" ∈ gT := gT_1 (i := 77) rfl rfl
theorem tw_78 : Cond.instantiable "GiantStair$Text" 5 ∈ gT := gT_1 (i := 78) rfl rfl
theorem tw_79 : Cond.methodLinkNest "GiantStair" 21 (⟨"GiantStair$Text", "<init>", "()V"⟩ : MethodName) "GiantStair" ∈ lw_tbl := gL_1 (i := 79) rfl
theorem tw_80 : Cond.instanceMethod (⟨"GiantStair$Text", "<init>", "()V"⟩ : MethodName) ∈ gT := gT_1 (i := 80) rfl rfl
theorem tw_81 : Cond.code (⟨"GiantStair$Text", "<init>", "()V"⟩ : MethodName) prog_4_method_1_code 1 (Option.none : Option FieldType) ∈ gT := gT_1 (i := 81) rfl rfl
theorem tw_82 : Cond.methodLink "GiantStair$Text" 3 (⟨"java/lang/Object", "<init>", "()V"⟩ : MethodName) ∈ gT := gT_1 (i := 82) rfl rfl
theorem tw_83 : Cond.fieldLink "GiantStair$Text" 11 "GiantStair$Text" "signs" "[I" ∈ gT := gT_1 (i := 83) rfl rfl
theorem tw_84 : Cond.fieldLink "GiantStair$Text" 18 "GiantStair$Text" "length" "I" ∈ gT := gT_1 (i := 84) rfl rfl
theorem tw_85 : Cond.fieldLink "GiantStair" 54 "GiantStair$Text" "length" "I" ∈ gT := gT_1 (i := 85) rfl rfl
theorem tw_86 : Cond.fieldLink "GiantStair$Text" 25 "GiantStair$Text" "lines" "I" ∈ gT := gT_1 (i := 86) rfl rfl
theorem tw_87 : Cond.fieldLink "GiantStair" 79 "GiantStair$Text" "lines" "I" ∈ gT := gT_1 (i := 87) rfl rfl
theorem tw_88 : Cond.fieldLink "GiantStair$Text" 22 "GiantStair$Text" "place" "I" ∈ gT := gT_1 (i := 88) rfl rfl
theorem tw_89 : Cond.fieldLink "GiantStair$Text" 15 "GiantStair$Text" "numbers" "[I" ∈ gT := gT_1 (i := 89) rfl rfl
theorem tw_90 : Cond.laysFinal "GiantStair$Text" "GiantStair$Text" "signs" "[I" ∈ gT := gT_1 (i := 90) rfl rfl
theorem tw_92 : Cond.lays "GiantStair$Text" "GiantStair$Text" "length" "I" ∈ gT := gT_1 (i := 92) rfl rfl
theorem tw_94 : Cond.lays "GiantStair$Text" "GiantStair$Text" "lines" "I" ∈ gT := gT_1 (i := 94) rfl rfl
theorem tw_96 : Cond.lays "GiantStair$Text" "GiantStair$Text" "place" "I" ∈ gT := gT_1 (i := 96) rfl rfl
theorem tw_98 : Cond.laysFinal "GiantStair$Text" "GiantStair$Text" "numbers" "[I" ∈ gT := gT_1 (i := 98) rfl rfl
theorem tw_101 : Cond.classLink "GiantStair" 26 "GiantStair$Journey" ∈ gT := gT_1 (i := 101) rfl rfl
theorem tw_102 : Cond.instantiable "GiantStair$Journey" 4 ∈ gT := gT_1 (i := 102) rfl rfl
theorem tw_103 : Cond.methodLinkNest "GiantStair" 28 (⟨"GiantStair$Journey", "<init>", "()V"⟩ : MethodName) "GiantStair" ∈ lw_tbl := gL_1 (i := 103) rfl
theorem tw_104 : Cond.instanceMethod (⟨"GiantStair$Journey", "<init>", "()V"⟩ : MethodName) ∈ gT := gT_1 (i := 104) rfl rfl
theorem tw_105 : Cond.code (⟨"GiantStair$Journey", "<init>", "()V"⟩ : MethodName) prog_2_method_1_code 1 (Option.none : Option FieldType) ∈ gT := gT_1 (i := 105) rfl rfl
theorem tw_106 : Cond.methodLink "GiantStair$Journey" 3 (⟨"java/lang/Object", "<init>", "()V"⟩ : MethodName) ∈ gT := gT_1 (i := 106) rfl rfl
theorem tw_107 : Cond.fieldLink "GiantStair$Journey" 9 "GiantStair$Journey" "level" "[I" ∈ gT := gT_1 (i := 107) rfl rfl
theorem tw_108 : Cond.fieldLink "GiantStair" 108 "GiantStair$Journey" "level" "[I" ∈ gT := gT_1 (i := 108) rfl rfl
theorem tw_109 : Cond.fieldLink "GiantStair$Journey" 24 "GiantStair$Journey" "moves" "I" ∈ gT := gT_1 (i := 109) rfl rfl
theorem tw_110 : Cond.fieldLink "GiantStair" 136 "GiantStair$Journey" "moves" "I" ∈ gT := gT_1 (i := 110) rfl rfl
theorem tw_111 : Cond.fieldLink "GiantStair$Journey" 15 "GiantStair$Journey" "helps" "[I" ∈ gT := gT_1 (i := 111) rfl rfl
theorem tw_112 : Cond.fieldLink "GiantStair" 157 "GiantStair$Journey" "holds" "Z" ∈ gT := gT_1 (i := 112) rfl rfl
theorem tw_113 : Cond.laysFinal "GiantStair$Journey" "GiantStair$Journey" "level" "[I" ∈ gT := gT_1 (i := 113) rfl rfl
theorem tw_115 : Cond.lays "GiantStair$Journey" "GiantStair$Journey" "moves" "I" ∈ gT := gT_1 (i := 115) rfl rfl
theorem tw_117 : Cond.laysFinal "GiantStair$Journey" "GiantStair$Journey" "helps" "[I" ∈ gT := gT_1 (i := 117) rfl rfl
theorem tw_119 : Cond.lays "GiantStair$Journey" "GiantStair$Journey" "holds" "Z" ∈ gT := gT_1 (i := 119) rfl rfl
theorem tw_122 : Cond.arrayOver (FieldType.object "GiantStair$Journey") ∈ lw_tbl := gL_1 (i := 122) rfl
theorem tw_123 : Cond.classLink "GiantStair" 37 "GiantStair$Search" ∈ gT := gT_1 (i := 123) rfl rfl
theorem tw_124 : Cond.instantiable "GiantStair$Search" 6 ∈ gT := gT_1 (i := 124) rfl rfl
theorem tw_125 : Cond.methodLink "GiantStair" 39 (⟨"GiantStair$Search", "<init>", "()V"⟩ : MethodName) ∈ gT := gT_1 (i := 125) rfl rfl
theorem tw_126 : Cond.instanceMethod (⟨"GiantStair$Search", "<init>", "()V"⟩ : MethodName) ∈ gT := gT_1 (i := 126) rfl rfl
theorem tw_127 : Cond.code (⟨"GiantStair$Search", "<init>", "()V"⟩ : MethodName) prog_3_method_1_code 1 (Option.none : Option FieldType) ∈ gT := gT_1 (i := 127) rfl rfl
theorem tw_128 : Cond.methodLink "GiantStair$Search" 3 (⟨"java/lang/Object", "<init>", "()V"⟩ : MethodName) ∈ gT := gT_1 (i := 128) rfl rfl
theorem tw_129 : Cond.methodLink "GiantStair$Search" 24 (⟨"java/util/Arrays", "fill", "([II)V"⟩ : MethodName) ∈ gT := gT_1 (i := 129) rfl rfl
theorem tw_130 : Cond.static (⟨"java/util/Arrays", "fill", "([II)V"⟩ : MethodName) ∈ gT := gT_1 (i := 130) rfl rfl
theorem tw_131 : Cond.code (⟨"java/util/Arrays", "fill", "([II)V"⟩ : MethodName) prog_14_method_103_code 4 (Option.none : Option FieldType) ∈ gT := gT_1 (i := 131) rfl rfl
theorem tw_132 : Cond.fieldLink "GiantStair$Search" 11 "GiantStair$Search" "away" "[I" ∈ gT := gT_1 (i := 132) rfl rfl
theorem tw_133 : Cond.fieldLink "GiantStair$Search" 15 "GiantStair$Search" "ahead" "[I" ∈ gT := gT_1 (i := 133) rfl rfl
theorem tw_134 : Cond.fieldLink "GiantStair$Search" 18 "GiantStair$Search" "found" "[I" ∈ gT := gT_1 (i := 134) rfl rfl
theorem tw_135 : Cond.fieldLink "GiantStair$Search" 34 "GiantStair$Search" "reached" "I" ∈ gT := gT_1 (i := 135) rfl rfl
theorem tw_136 : Cond.fieldLink "GiantStair$Search" 73 "GiantStair$Search" "goal" "I" ∈ gT := gT_1 (i := 136) rfl rfl
theorem tw_137 : Cond.fieldLink "GiantStair$Search" 21 "GiantStair$Search" "level" "[I" ∈ gT := gT_1 (i := 137) rfl rfl
theorem tw_138 : Cond.laysFinal "GiantStair$Search" "GiantStair$Search" "away" "[I" ∈ gT := gT_1 (i := 138) rfl rfl
theorem tw_140 : Cond.laysFinal "GiantStair$Search" "GiantStair$Search" "ahead" "[I" ∈ gT := gT_1 (i := 140) rfl rfl
theorem tw_142 : Cond.laysFinal "GiantStair$Search" "GiantStair$Search" "found" "[I" ∈ gT := gT_1 (i := 142) rfl rfl
theorem tw_144 : Cond.lays "GiantStair$Search" "GiantStair$Search" "reached" "I" ∈ gT := gT_1 (i := 144) rfl rfl
theorem tw_146 : Cond.lays "GiantStair$Search" "GiantStair$Search" "goal" "I" ∈ gT := gT_1 (i := 146) rfl rfl
theorem tw_148 : Cond.laysFinal "GiantStair$Search" "GiantStair$Search" "level" "[I" ∈ gT := gT_1 (i := 148) rfl rfl
theorem tw_151 : Cond.fieldLink "GiantStair" 10 "GiantStair" "told" "LGiantStair$Told;" ∈ gT := gT_1 (i := 151) rfl rfl
theorem tw_152 : Cond.fieldLink "GiantStair" 16 "GiantStair" "draft" "LGiantStair$Told;" ∈ gT := gT_1 (i := 152) rfl rfl
theorem tw_153 : Cond.fieldLink "GiantStair" 22 "GiantStair" "text" "LGiantStair$Text;" ∈ gT := gT_1 (i := 153) rfl rfl
theorem tw_154 : Cond.fieldLink "GiantStair" 29 "GiantStair" "journey" "LGiantStair$Journey;" ∈ gT := gT_1 (i := 154) rfl rfl
theorem tw_155 : Cond.fieldLink "GiantStair" 33 "GiantStair" "kept" "[LGiantStair$Journey;" ∈ gT := gT_1 (i := 155) rfl rfl
theorem tw_156 : Cond.fieldLink "GiantStair" 40 "GiantStair" "search" "LGiantStair$Search;" ∈ gT := gT_1 (i := 156) rfl rfl
theorem tw_157 : Cond.fieldLink "GiantStair" 161 "GiantStair" "foreseen" "Z" ∈ gT := gT_1 (i := 157) rfl rfl
theorem tw_158 : Cond.fieldLink "GiantStair" 44 "GiantStair" "rowOne" "[I" ∈ gT := gT_1 (i := 158) rfl rfl
theorem tw_159 : Cond.fieldLink "GiantStair" 48 "GiantStair" "rowUp" "[I" ∈ gT := gT_1 (i := 159) rfl rfl
theorem tw_160 : Cond.fieldLink "GiantStair" 219 "GiantStair" "rowLength" "I" ∈ gT := gT_1 (i := 160) rfl rfl
theorem tw_161 : Cond.fieldLink "GiantStair" 51 "GiantStair" "judged" "[I" ∈ gT := gT_1 (i := 161) rfl rfl
theorem tw_162 : Cond.laysFinal "GiantStair" "GiantStair" "told" "LGiantStair$Told;" ∈ gT := gT_1 (i := 162) rfl rfl
theorem tw_164 : Cond.laysFinal "GiantStair" "GiantStair" "draft" "LGiantStair$Told;" ∈ gT := gT_1 (i := 164) rfl rfl
theorem tw_166 : Cond.laysFinal "GiantStair" "GiantStair" "text" "LGiantStair$Text;" ∈ gT := gT_1 (i := 166) rfl rfl
theorem tw_168 : Cond.laysFinal "GiantStair" "GiantStair" "journey" "LGiantStair$Journey;" ∈ gT := gT_1 (i := 168) rfl rfl
theorem tw_170 : Cond.laysFinal "GiantStair" "GiantStair" "kept" "[LGiantStair$Journey;" ∈ gT := gT_1 (i := 170) rfl rfl
theorem tw_172 : Cond.laysFinal "GiantStair" "GiantStair" "search" "LGiantStair$Search;" ∈ gT := gT_1 (i := 172) rfl rfl
theorem tw_174 : Cond.lays "GiantStair" "GiantStair" "foreseen" "Z" ∈ gT := gT_1 (i := 174) rfl rfl
theorem tw_176 : Cond.laysFinal "GiantStair" "GiantStair" "rowOne" "[I" ∈ gT := gT_1 (i := 176) rfl rfl
theorem tw_178 : Cond.laysFinal "GiantStair" "GiantStair" "rowUp" "[I" ∈ gT := gT_1 (i := 178) rfl rfl
theorem tw_180 : Cond.lays "GiantStair" "GiantStair" "rowLength" "I" ∈ gT := gT_1 (i := 180) rfl rfl
theorem tw_182 : Cond.laysFinal "GiantStair" "GiantStair" "judged" "[I" ∈ gT := gT_1 (i := 182) rfl rfl
theorem tw_185 : Cond.methodLink "GiantStairLaw" 15 (⟨"GiantStair", "write", "(JI)I"⟩ : MethodName) ∈ gT := gT_1 (i := 185) rfl rfl
theorem tw_186 : Cond.instanceMethod (⟨"GiantStair", "write", "(JI)I"⟩ : MethodName) ∈ gT := gT_1 (i := 186) rfl rfl
theorem tw_187 : Cond.selects "GiantStair" (⟨"GiantStair", "write", "(JI)I"⟩ : MethodName) (⟨"GiantStair", "write", "(JI)I"⟩ : MethodName) ∈ gT := gT_1 (i := 187) rfl rfl
theorem tw_188 : Cond.code (⟨"GiantStair", "write", "(JI)I"⟩ : MethodName) prog_1_method_2_code 5 (Option.some FieldType.int) ∈ gT := gT_1 (i := 188) rfl rfl
theorem tw_189 : Cond.constantLong "GiantStair" 58 (255 : Int64) ∈ gT := gT_1 (i := 189) rfl rfl
theorem tw_190 : Cond.methodLink "GiantStair" 60 (⟨"GiantStair$Text", "append", "(I)V"⟩ : MethodName) ∈ gT := gT_1 (i := 190) rfl rfl
theorem tw_191 : Cond.instanceMethod (⟨"GiantStair$Text", "append", "(I)V"⟩ : MethodName) ∈ gT := gT_1 (i := 191) rfl rfl
theorem tw_192 : Cond.selects "GiantStair$Text" (⟨"GiantStair$Text", "append", "(I)V"⟩ : MethodName) (⟨"GiantStair$Text", "append", "(I)V"⟩ : MethodName) ∈ gT := gT_1 (i := 192) rfl rfl
theorem tw_193 : Cond.code (⟨"GiantStair$Text", "append", "(I)V"⟩ : MethodName) prog_4_method_2_code 2 (Option.none : Option FieldType) ∈ gT := gT_1 (i := 193) rfl rfl
theorem tw_194 : Cond.methodLink "GiantStairLaw" 20 (⟨"GiantStair", "erase", "()I"⟩ : MethodName) ∈ gT := gT_1 (i := 194) rfl rfl
theorem tw_195 : Cond.instanceMethod (⟨"GiantStair", "erase", "()I"⟩ : MethodName) ∈ gT := gT_1 (i := 195) rfl rfl
theorem tw_196 : Cond.selects "GiantStair" (⟨"GiantStair", "erase", "()I"⟩ : MethodName) (⟨"GiantStair", "erase", "()I"⟩ : MethodName) ∈ gT := gT_1 (i := 196) rfl rfl
theorem tw_197 : Cond.code (⟨"GiantStair", "erase", "()I"⟩ : MethodName) prog_1_method_3_code 1 (Option.some FieldType.int) ∈ gT := gT_1 (i := 197) rfl rfl
theorem tw_198 : Cond.methodLink "GiantStair" 64 (⟨"GiantStair$Text", "empty", "()I"⟩ : MethodName) ∈ gT := gT_1 (i := 198) rfl rfl
theorem tw_199 : Cond.instanceMethod (⟨"GiantStair$Text", "empty", "()I"⟩ : MethodName) ∈ gT := gT_1 (i := 199) rfl rfl
theorem tw_200 : Cond.selects "GiantStair$Text" (⟨"GiantStair$Text", "empty", "()I"⟩ : MethodName) (⟨"GiantStair$Text", "empty", "()I"⟩ : MethodName) ∈ gT := gT_1 (i := 200) rfl rfl
theorem tw_201 : Cond.code (⟨"GiantStair$Text", "empty", "()I"⟩ : MethodName) prog_4_method_3_code 2 (Option.some FieldType.int) ∈ gT := gT_1 (i := 201) rfl rfl
theorem tw_202 : Cond.methodLink "GiantStairLaw" 25 (⟨"GiantStair", "fault", "()I"⟩ : MethodName) ∈ gT := gT_1 (i := 202) rfl rfl
theorem tw_203 : Cond.instanceMethod (⟨"GiantStair", "fault", "()I"⟩ : MethodName) ∈ gT := gT_1 (i := 203) rfl rfl
theorem tw_204 : Cond.selects "GiantStair" (⟨"GiantStair", "fault", "()I"⟩ : MethodName) (⟨"GiantStair", "fault", "()I"⟩ : MethodName) ∈ gT := gT_1 (i := 204) rfl rfl
theorem tw_205 : Cond.code (⟨"GiantStair", "fault", "()I"⟩ : MethodName) prog_1_method_4_code 1 (Option.some FieldType.int) ∈ gT := gT_1 (i := 205) rfl rfl
theorem tw_206 : Cond.methodLink "GiantStair" 68 (⟨"GiantStair$Told", "copy", "(LGiantStair$Told;)V"⟩ : MethodName) ∈ gT := gT_1 (i := 206) rfl rfl
theorem tw_207 : Cond.instanceMethod (⟨"GiantStair$Told", "copy", "(LGiantStair$Told;)V"⟩ : MethodName) ∈ gT := gT_1 (i := 207) rfl rfl
theorem tw_208 : Cond.selects "GiantStair$Told" (⟨"GiantStair$Told", "copy", "(LGiantStair$Told;)V"⟩ : MethodName) (⟨"GiantStair$Told", "copy", "(LGiantStair$Told;)V"⟩ : MethodName) ∈ gT := gT_1 (i := 208) rfl rfl
theorem tw_209 : Cond.code (⟨"GiantStair$Told", "copy", "(LGiantStair$Told;)V"⟩ : MethodName) prog_5_method_3_code 2 (Option.none : Option FieldType) ∈ gT := gT_1 (i := 209) rfl rfl
theorem tw_210 : Cond.methodLink "GiantStair$Told" 48 (⟨"GiantStair$Told", "copyStair", "(LGiantStair$Told;)V"⟩ : MethodName) ∈ gT := gT_1 (i := 210) rfl rfl
theorem tw_212 : Cond.instanceMethod (⟨"GiantStair$Told", "copyStair", "(LGiantStair$Told;)V"⟩ : MethodName) ∈ gT := gT_1 (i := 212) rfl rfl
theorem tw_213 : Cond.code (⟨"GiantStair$Told", "copyStair", "(LGiantStair$Told;)V"⟩ : MethodName) prog_5_method_4_code 3 (Option.none : Option FieldType) ∈ gT := gT_1 (i := 213) rfl rfl
theorem tw_214 : Cond.methodLink "GiantStair$Told" 52 (⟨"java/lang/System", "arraycopy", "(Ljava/lang/Object;ILjava/lang/Object;II)V"⟩ : MethodName) ∈ gT := gT_1 (i := 214) rfl rfl
theorem tw_215 : Cond.static (⟨"java/lang/System", "arraycopy", "(Ljava/lang/Object;ILjava/lang/Object;II)V"⟩ : MethodName) ∈ gT := gT_1 (i := 215) rfl rfl
theorem tw_216 : Cond.native (⟨"java/lang/System", "arraycopy", "(Ljava/lang/Object;ILjava/lang/Object;II)V"⟩ : MethodName) ∈ gT := gT_1 (i := 216) rfl rfl
theorem tw_217 : Cond.methodLink "GiantStair" 72 (⟨"GiantStair$Text", "read", "(LGiantStair$Told;)I"⟩ : MethodName) ∈ gT := gT_1 (i := 217) rfl rfl
theorem tw_218 : Cond.instanceMethod (⟨"GiantStair$Text", "read", "(LGiantStair$Told;)I"⟩ : MethodName) ∈ gT := gT_1 (i := 218) rfl rfl
theorem tw_219 : Cond.selects "GiantStair$Text" (⟨"GiantStair$Text", "read", "(LGiantStair$Told;)I"⟩ : MethodName) (⟨"GiantStair$Text", "read", "(LGiantStair$Told;)I"⟩ : MethodName) ∈ gT := gT_1 (i := 219) rfl rfl
theorem tw_220 : Cond.code (⟨"GiantStair$Text", "read", "(LGiantStair$Told;)I"⟩ : MethodName) prog_4_method_4_code 4 (Option.some FieldType.int) ∈ gT := gT_1 (i := 220) rfl rfl
theorem tw_221 : Cond.methodLink "GiantStair$Text" 28 (⟨"GiantStair$Text", "readLine", "(LGiantStair$Told;)I"⟩ : MethodName) ∈ gT := gT_1 (i := 221) rfl rfl
theorem tw_223 : Cond.instanceMethod (⟨"GiantStair$Text", "readLine", "(LGiantStair$Told;)I"⟩ : MethodName) ∈ gT := gT_1 (i := 223) rfl rfl
theorem tw_224 : Cond.code (⟨"GiantStair$Text", "readLine", "(LGiantStair$Told;)I"⟩ : MethodName) prog_4_method_5_code 7 (Option.some FieldType.int) ∈ gT := gT_1 (i := 224) rfl rfl
theorem tw_225 : Cond.methodLink "GiantStair$Text" 32 (⟨"GiantStair$Text", "skipBlanks", "()V"⟩ : MethodName) ∈ gT := gT_1 (i := 225) rfl rfl
theorem tw_227 : Cond.instanceMethod (⟨"GiantStair$Text", "skipBlanks", "()V"⟩ : MethodName) ∈ gT := gT_1 (i := 227) rfl rfl
theorem tw_228 : Cond.code (⟨"GiantStair$Text", "skipBlanks", "()V"⟩ : MethodName) prog_4_method_7_code 1 (Option.none : Option FieldType) ∈ gT := gT_1 (i := 228) rfl rfl
theorem tw_229 : Cond.methodLink "GiantStair$Text" 35 (⟨"GiantStair$Text", "sign", "()I"⟩ : MethodName) ∈ gT := gT_1 (i := 229) rfl rfl
theorem tw_231 : Cond.instanceMethod (⟨"GiantStair$Text", "sign", "()I"⟩ : MethodName) ∈ gT := gT_1 (i := 231) rfl rfl
theorem tw_232 : Cond.code (⟨"GiantStair$Text", "sign", "()I"⟩ : MethodName) prog_4_method_6_code 1 (Option.some FieldType.int) ∈ gT := gT_1 (i := 232) rfl rfl
theorem tw_233 : Cond.methodLink "GiantStair$Text" 39 (⟨"GiantStair$Text", "readWord", "()I"⟩ : MethodName) ∈ gT := gT_1 (i := 233) rfl rfl
theorem tw_235 : Cond.instanceMethod (⟨"GiantStair$Text", "readWord", "()I"⟩ : MethodName) ∈ gT := gT_1 (i := 235) rfl rfl
theorem tw_236 : Cond.code (⟨"GiantStair$Text", "readWord", "()I"⟩ : MethodName) prog_4_method_8_code 3 (Option.some FieldType.int) ∈ gT := gT_1 (i := 236) rfl rfl
theorem tw_237 : Cond.methodLink "GiantStair$Text" 66 (⟨"GiantStair$Text", "spelling", "(I)Ljava/lang/String;"⟩ : MethodName) ∈ gT := gT_1 (i := 237) rfl rfl
theorem tw_238 : Cond.static (⟨"GiantStair$Text", "spelling", "(I)Ljava/lang/String;"⟩ : MethodName) ∈ gT := gT_1 (i := 238) rfl rfl
theorem tw_239 : Cond.code (⟨"GiantStair$Text", "spelling", "(I)Ljava/lang/String;"⟩ : MethodName) prog_4_method_11_code 1 (Option.some (FieldType.object "java/lang/String")) ∈ gT := gT_1 (i := 239) rfl rfl
theorem tw_240 : Cond.stringRef "GiantStair$Text" 82 "stair" ∈ lw_tbl := gL_2 (i := 0) rfl
theorem tw_241 : Cond.stringRef "GiantStair$Text" 84 "step" ∈ lw_tbl := gL_2 (i := 1) rfl
theorem tw_242 : Cond.stringRef "GiantStair$Text" 86 "rope" ∈ lw_tbl := gL_2 (i := 2) rfl
theorem tw_243 : Cond.stringRef "GiantStair$Text" 88 "load" ∈ lw_tbl := gL_2 (i := 3) rfl
theorem tw_244 : Cond.stringRef "GiantStair$Text" 90 "at" ∈ lw_tbl := gL_2 (i := 4) rfl
theorem tw_245 : Cond.stringRef "GiantStair$Text" 92 "nobody" ∈ lw_tbl := gL_2 (i := 5) rfl
theorem tw_246 : Cond.stringRef "GiantStair$Text" 94 "pilgrim" ∈ lw_tbl := gL_2 (i := 6) rfl
theorem tw_247 : Cond.stringRef "GiantStair$Text" 96 "porter" ∈ lw_tbl := gL_2 (i := 7) rfl
theorem tw_248 : Cond.stringRef "GiantStair$Text" 98 "proud" ∈ lw_tbl := gL_2 (i := 8) rfl
theorem tw_249 : Cond.stringRef "GiantStair$Text" 100 "saint" ∈ lw_tbl := gL_2 (i := 9) rfl
theorem tw_250 : Cond.methodLink "GiantStair$Text" 70 (⟨"GiantStair$Text", "spells", "(ILjava/lang/String;)Z"⟩ : MethodName) ∈ gT := gT_2 (i := 10) rfl rfl
theorem tw_252 : Cond.instanceMethod (⟨"GiantStair$Text", "spells", "(ILjava/lang/String;)Z"⟩ : MethodName) ∈ gT := gT_2 (i := 12) rfl rfl
theorem tw_253 : Cond.code (⟨"GiantStair$Text", "spells", "(ILjava/lang/String;)Z"⟩ : MethodName) prog_4_method_10_code 4 (Option.some FieldType.boolean) ∈ gT := gT_2 (i := 13) rfl rfl
theorem tw_254 : Cond.methodLink "GiantStair$Text" 74 (⟨"java/lang/String", "length", "()I"⟩ : MethodName) ∈ gT := gT_2 (i := 14) rfl rfl
theorem tw_255 : Cond.instanceMethod (⟨"java/lang/String", "length", "()I"⟩ : MethodName) ∈ gT := gT_2 (i := 15) rfl rfl
theorem tw_256 : Cond.selects "java/lang/String" (⟨"java/lang/String", "length", "()I"⟩ : MethodName) (⟨"java/lang/String", "length", "()I"⟩ : MethodName) ∈ gT := gT_2 (i := 16) rfl rfl
theorem tw_257 : Cond.code (⟨"java/lang/String", "length", "()I"⟩ : MethodName) prog_10_method_54_code 1 (Option.some FieldType.int) ∈ gT := gT_2 (i := 17) rfl rfl
theorem tw_258 : Cond.methodLink "java/lang/String" 335 (⟨"java/lang/String", "coder", "()B"⟩ : MethodName) ∈ gT := gT_2 (i := 18) rfl rfl
theorem tw_259 : Cond.instanceMethod (⟨"java/lang/String", "coder", "()B"⟩ : MethodName) ∈ gT := gT_2 (i := 19) rfl rfl
theorem tw_260 : Cond.selects "java/lang/String" (⟨"java/lang/String", "coder", "()B"⟩ : MethodName) (⟨"java/lang/String", "coder", "()B"⟩ : MethodName) ∈ gT := gT_2 (i := 20) rfl rfl
theorem tw_261 : Cond.code (⟨"java/lang/String", "coder", "()B"⟩ : MethodName) prog_10_method_152_code 1 (Option.some FieldType.byte) ∈ gT := gT_2 (i := 21) rfl rfl
theorem tw_262 : Cond.fieldLink "java/lang/String" 38 "java/lang/String" "COMPACT_STRINGS" "Z" ∈ gT := gT_2 (i := 22) rfl rfl
theorem tw_263 : Cond.laysStatic "java/lang/String" "COMPACT_STRINGS" "Z" ∈ lw_tbl := gL_2 (i := 23) rfl
theorem tw_264 : Cond.methodLink "GiantStair$Text" 78 (⟨"java/lang/String", "charAt", "(I)C"⟩ : MethodName) ∈ gT := gT_2 (i := 24) rfl rfl
theorem tw_265 : Cond.instanceMethod (⟨"java/lang/String", "charAt", "(I)C"⟩ : MethodName) ∈ gT := gT_2 (i := 25) rfl rfl
theorem tw_266 : Cond.selects "java/lang/String" (⟨"java/lang/String", "charAt", "(I)C"⟩ : MethodName) (⟨"java/lang/String", "charAt", "(I)C"⟩ : MethodName) ∈ gT := gT_2 (i := 26) rfl rfl
theorem tw_267 : Cond.code (⟨"java/lang/String", "charAt", "(I)C"⟩ : MethodName) prog_10_method_56_code 2 (Option.some FieldType.char) ∈ gT := gT_2 (i := 27) rfl rfl
theorem tw_268 : Cond.methodLink "java/lang/String" 492 (⟨"java/lang/String", "isLatin1", "()Z"⟩ : MethodName) ∈ gT := gT_2 (i := 28) rfl rfl
theorem tw_269 : Cond.instanceMethod (⟨"java/lang/String", "isLatin1", "()Z"⟩ : MethodName) ∈ gT := gT_2 (i := 29) rfl rfl
theorem tw_270 : Cond.selects "java/lang/String" (⟨"java/lang/String", "isLatin1", "()Z"⟩ : MethodName) (⟨"java/lang/String", "isLatin1", "()Z"⟩ : MethodName) ∈ gT := gT_2 (i := 30) rfl rfl
theorem tw_271 : Cond.code (⟨"java/lang/String", "isLatin1", "()Z"⟩ : MethodName) prog_10_method_154_code 1 (Option.some FieldType.boolean) ∈ gT := gT_2 (i := 31) rfl rfl
theorem tw_272 : Cond.methodLink "java/lang/String" 495 (⟨"java/lang/StringLatin1", "charAt", "([BI)C"⟩ : MethodName) ∈ gT := gT_2 (i := 32) rfl rfl
theorem tw_273 : Cond.static (⟨"java/lang/StringLatin1", "charAt", "([BI)C"⟩ : MethodName) ∈ gT := gT_2 (i := 33) rfl rfl
theorem tw_274 : Cond.code (⟨"java/lang/StringLatin1", "charAt", "([BI)C"⟩ : MethodName) prog_11_method_2_code 2 (Option.some FieldType.char) ∈ gT := gT_2 (i := 34) rfl rfl
theorem tw_275 : Cond.methodLink "java/lang/StringLatin1" 9 (⟨"java/lang/String", "checkIndex", "(II)V"⟩ : MethodName) ∈ gT := gT_2 (i := 35) rfl rfl
theorem tw_276 : Cond.static (⟨"java/lang/String", "checkIndex", "(II)V"⟩ : MethodName) ∈ gT := gT_2 (i := 36) rfl rfl
theorem tw_277 : Cond.code (⟨"java/lang/String", "checkIndex", "(II)V"⟩ : MethodName) prog_10_method_155_code 2 (Option.none : Option FieldType) ∈ gT := gT_2 (i := 37) rfl rfl
theorem tw_278 : Cond.fieldLink "java/lang/String" 1053 "jdk/internal/util/Preconditions" "SIOOBE_FORMATTER" "Ljava/util/function/BiFunction;" ∈ gT := gT_2 (i := 38) rfl rfl
theorem tw_279 : Cond.laysStatic "jdk/internal/util/Preconditions" "SIOOBE_FORMATTER" "Ljava/util/function/BiFunction;" ∈ lw_tbl := gL_2 (i := 39) rfl
theorem tw_280 : Cond.methodLink "java/lang/String" 1059 (⟨"jdk/internal/util/Preconditions", "checkIndex", "(IILjava/util/function/BiFunction;)I"⟩ : MethodName) ∈ gT := gT_2 (i := 40) rfl rfl
theorem tw_281 : Cond.static (⟨"jdk/internal/util/Preconditions", "checkIndex", "(IILjava/util/function/BiFunction;)I"⟩ : MethodName) ∈ gT := gT_2 (i := 41) rfl rfl
theorem tw_282 : Cond.code (⟨"jdk/internal/util/Preconditions", "checkIndex", "(IILjava/util/function/BiFunction;)I"⟩ : MethodName) prog_15_method_11_code 3 (Option.some FieldType.int) ∈ gT := gT_2 (i := 42) rfl rfl
theorem tw_283 : Cond.methodLink "java/lang/String" 498 (⟨"java/lang/StringUTF16", "charAt", "([BI)C"⟩ : MethodName) ∈ gT := gT_2 (i := 43) rfl rfl
theorem tw_284 : Cond.static (⟨"java/lang/StringUTF16", "charAt", "([BI)C"⟩ : MethodName) ∈ gT := gT_2 (i := 44) rfl rfl
theorem tw_285 : Cond.code (⟨"java/lang/StringUTF16", "charAt", "([BI)C"⟩ : MethodName) prog_12_method_83_code 2 (Option.some FieldType.char) ∈ gT := gT_2 (i := 45) rfl rfl
theorem tw_286 : Cond.methodLink "java/lang/StringUTF16" 67 (⟨"java/lang/StringUTF16", "checkIndex", "(I[B)V"⟩ : MethodName) ∈ gT := gT_2 (i := 46) rfl rfl
theorem tw_287 : Cond.static (⟨"java/lang/StringUTF16", "checkIndex", "(I[B)V"⟩ : MethodName) ∈ gT := gT_2 (i := 47) rfl rfl
theorem tw_288 : Cond.code (⟨"java/lang/StringUTF16", "checkIndex", "(I[B)V"⟩ : MethodName) prog_12_method_91_code 2 (Option.none : Option FieldType) ∈ gT := gT_2 (i := 48) rfl rfl
theorem tw_289 : Cond.methodLink "java/lang/StringUTF16" 48 (⟨"java/lang/StringUTF16", "length", "([B)I"⟩ : MethodName) ∈ gT := gT_2 (i := 49) rfl rfl
theorem tw_290 : Cond.static (⟨"java/lang/StringUTF16", "length", "([B)I"⟩ : MethodName) ∈ gT := gT_2 (i := 50) rfl rfl
theorem tw_291 : Cond.code (⟨"java/lang/StringUTF16", "length", "([B)I"⟩ : MethodName) prog_12_method_6_code 1 (Option.some FieldType.int) ∈ gT := gT_2 (i := 51) rfl rfl
theorem tw_292 : Cond.methodLink "java/lang/StringUTF16" 414 (⟨"java/lang/String", "checkIndex", "(II)V"⟩ : MethodName) ∈ gT := gT_2 (i := 52) rfl rfl
theorem tw_293 : Cond.methodLink "java/lang/StringUTF16" 71 (⟨"java/lang/StringUTF16", "getChar", "([BI)C"⟩ : MethodName) ∈ gT := gT_2 (i := 53) rfl rfl
theorem tw_294 : Cond.static (⟨"java/lang/StringUTF16", "getChar", "([BI)C"⟩ : MethodName) ∈ gT := gT_2 (i := 54) rfl rfl
theorem tw_295 : Cond.code (⟨"java/lang/StringUTF16", "getChar", "([BI)C"⟩ : MethodName) prog_12_method_5_code 2 (Option.some FieldType.char) ∈ gT := gT_2 (i := 55) rfl rfl
theorem tw_296 : Cond.fieldLink "java/lang/StringUTF16" 44 "java/lang/StringUTF16" "$assertionsDisabled" "Z" ∈ gT := gT_2 (i := 56) rfl rfl
theorem tw_297 : Cond.laysStatic "java/lang/StringUTF16" "$assertionsDisabled" "Z" ∈ lw_tbl := gL_2 (i := 57) rfl
theorem tw_298 : Cond.fieldLink "java/lang/StringUTF16" 59 "java/lang/StringUTF16" "HI_BYTE_SHIFT" "I" ∈ gT := gT_2 (i := 58) rfl rfl
theorem tw_299 : Cond.laysStatic "java/lang/StringUTF16" "HI_BYTE_SHIFT" "I" ∈ lw_tbl := gL_2 (i := 59) rfl
theorem tw_300 : Cond.fieldLink "java/lang/StringUTF16" 63 "java/lang/StringUTF16" "LO_BYTE_SHIFT" "I" ∈ gT := gT_2 (i := 60) rfl rfl
theorem tw_301 : Cond.laysStatic "java/lang/StringUTF16" "LO_BYTE_SHIFT" "I" ∈ lw_tbl := gL_2 (i := 61) rfl
theorem tw_302 : Cond.methodLink "GiantStair$Text" 42 (⟨"GiantStair$Told", "allows", "(I)Z"⟩ : MethodName) ∈ gT := gT_2 (i := 62) rfl rfl
theorem tw_303 : Cond.instanceMethod (⟨"GiantStair$Told", "allows", "(I)Z"⟩ : MethodName) ∈ gT := gT_2 (i := 63) rfl rfl
theorem tw_304 : Cond.selects "GiantStair$Told" (⟨"GiantStair$Told", "allows", "(I)Z"⟩ : MethodName) (⟨"GiantStair$Told", "allows", "(I)Z"⟩ : MethodName) ∈ gT := gT_2 (i := 64) rfl rfl
theorem tw_305 : Cond.code (⟨"GiantStair$Told", "allows", "(I)Z"⟩ : MethodName) prog_5_method_6_code 2 (Option.some FieldType.boolean) ∈ gT := gT_2 (i := 65) rfl rfl
theorem tw_306 : Cond.methodLink "GiantStair$Text" 48 (⟨"GiantStair$Told", "numbersBehind", "(I)I"⟩ : MethodName) ∈ gT := gT_2 (i := 66) rfl rfl
theorem tw_307 : Cond.static (⟨"GiantStair$Told", "numbersBehind", "(I)I"⟩ : MethodName) ∈ gT := gT_2 (i := 67) rfl rfl
theorem tw_308 : Cond.code (⟨"GiantStair$Told", "numbersBehind", "(I)I"⟩ : MethodName) prog_5_method_7_code 1 (Option.some FieldType.int) ∈ gT := gT_2 (i := 68) rfl rfl
theorem tw_309 : Cond.methodLink "GiantStair$Text" 52 (⟨"GiantStair$Text", "readNumber", "()I"⟩ : MethodName) ∈ gT := gT_2 (i := 69) rfl rfl
theorem tw_311 : Cond.instanceMethod (⟨"GiantStair$Text", "readNumber", "()I"⟩ : MethodName) ∈ gT := gT_2 (i := 71) rfl rfl
theorem tw_312 : Cond.code (⟨"GiantStair$Text", "readNumber", "()I"⟩ : MethodName) prog_4_method_9_code 4 (Option.some FieldType.int) ∈ gT := gT_2 (i := 72) rfl rfl
theorem tw_313 : Cond.methodLink "GiantStair$Text" 55 (⟨"GiantStair$Told", "least", "(II)I"⟩ : MethodName) ∈ gT := gT_2 (i := 73) rfl rfl
theorem tw_314 : Cond.static (⟨"GiantStair$Told", "least", "(II)I"⟩ : MethodName) ∈ gT := gT_2 (i := 74) rfl rfl
theorem tw_315 : Cond.code (⟨"GiantStair$Told", "least", "(II)I"⟩ : MethodName) prog_5_method_8_code 2 (Option.some FieldType.int) ∈ gT := gT_2 (i := 75) rfl rfl
theorem tw_316 : Cond.methodLink "GiantStair$Text" 59 (⟨"GiantStair$Told", "greatest", "(II)I"⟩ : MethodName) ∈ gT := gT_2 (i := 76) rfl rfl
theorem tw_317 : Cond.instanceMethod (⟨"GiantStair$Told", "greatest", "(II)I"⟩ : MethodName) ∈ gT := gT_2 (i := 77) rfl rfl
theorem tw_318 : Cond.selects "GiantStair$Told" (⟨"GiantStair$Told", "greatest", "(II)I"⟩ : MethodName) (⟨"GiantStair$Told", "greatest", "(II)I"⟩ : MethodName) ∈ gT := gT_2 (i := 78) rfl rfl
theorem tw_319 : Cond.code (⟨"GiantStair$Told", "greatest", "(II)I"⟩ : MethodName) prog_5_method_9_code 3 (Option.some FieldType.int) ∈ gT := gT_2 (i := 79) rfl rfl
theorem tw_320 : Cond.methodLink "GiantStair$Text" 62 (⟨"GiantStair$Told", "tell", "(IIII)V"⟩ : MethodName) ∈ gT := gT_2 (i := 80) rfl rfl
theorem tw_321 : Cond.instanceMethod (⟨"GiantStair$Told", "tell", "(IIII)V"⟩ : MethodName) ∈ gT := gT_2 (i := 81) rfl rfl
theorem tw_322 : Cond.selects "GiantStair$Told" (⟨"GiantStair$Told", "tell", "(IIII)V"⟩ : MethodName) (⟨"GiantStair$Told", "tell", "(IIII)V"⟩ : MethodName) ∈ gT := gT_2 (i := 82) rfl rfl
theorem tw_323 : Cond.code (⟨"GiantStair$Told", "tell", "(IIII)V"⟩ : MethodName) prog_5_method_10_code 5 (Option.none : Option FieldType) ∈ gT := gT_2 (i := 83) rfl rfl
theorem tw_324 : Cond.methodLink "GiantStair$Told" 58 (⟨"GiantStair$Told", "isStep", "(I)Z"⟩ : MethodName) ∈ gT := gT_2 (i := 84) rfl rfl
theorem tw_326 : Cond.instanceMethod (⟨"GiantStair$Told", "isStep", "(I)Z"⟩ : MethodName) ∈ gT := gT_2 (i := 86) rfl rfl
theorem tw_327 : Cond.code (⟨"GiantStair$Told", "isStep", "(I)Z"⟩ : MethodName) prog_5_method_12_code 2 (Option.some FieldType.boolean) ∈ gT := gT_2 (i := 87) rfl rfl
theorem tw_328 : Cond.methodLink "GiantStair$Told" 62 (⟨"GiantStair$Told", "isOne", "(I)Z"⟩ : MethodName) ∈ gT := gT_2 (i := 88) rfl rfl
theorem tw_329 : Cond.instanceMethod (⟨"GiantStair$Told", "isOne", "(I)Z"⟩ : MethodName) ∈ gT := gT_2 (i := 89) rfl rfl
theorem tw_330 : Cond.selects "GiantStair$Told" (⟨"GiantStair$Told", "isOne", "(I)Z"⟩ : MethodName) (⟨"GiantStair$Told", "isOne", "(I)Z"⟩ : MethodName) ∈ gT := gT_2 (i := 90) rfl rfl
theorem tw_331 : Cond.code (⟨"GiantStair$Told", "isOne", "(I)Z"⟩ : MethodName) prog_5_method_11_code 2 (Option.some FieldType.boolean) ∈ gT := gT_2 (i := 91) rfl rfl
theorem tw_332 : Cond.arrayClass FieldType.byte ∈ gT := gT_2 (i := 92) rfl rfl
theorem tw_333 : Cond.methodLink "GiantStairLaw" 29 (⟨"GiantStair", "stair", "()I"⟩ : MethodName) ∈ gT := gT_2 (i := 93) rfl rfl
theorem tw_334 : Cond.instanceMethod (⟨"GiantStair", "stair", "()I"⟩ : MethodName) ∈ gT := gT_2 (i := 94) rfl rfl
theorem tw_335 : Cond.selects "GiantStair" (⟨"GiantStair", "stair", "()I"⟩ : MethodName) (⟨"GiantStair", "stair", "()I"⟩ : MethodName) ∈ gT := gT_2 (i := 95) rfl rfl
theorem tw_336 : Cond.code (⟨"GiantStair", "stair", "()I"⟩ : MethodName) prog_1_method_5_code 1 (Option.some FieldType.int) ∈ gT := gT_2 (i := 96) rfl rfl
theorem tw_337 : Cond.methodLink "GiantStair" 76 (⟨"GiantStair", "beginAnew", "()V"⟩ : MethodName) ∈ gT := gT_2 (i := 97) rfl rfl
theorem tw_339 : Cond.instanceMethod (⟨"GiantStair", "beginAnew", "()V"⟩ : MethodName) ∈ gT := gT_2 (i := 99) rfl rfl
theorem tw_340 : Cond.code (⟨"GiantStair", "beginAnew", "()V"⟩ : MethodName) prog_1_method_29_code 2 (Option.none : Option FieldType) ∈ gT := gT_2 (i := 100) rfl rfl
theorem tw_341 : Cond.methodLink "GiantStair" 238 (⟨"GiantStair$Journey", "begin", "([I)V"⟩ : MethodName) ∈ gT := gT_2 (i := 101) rfl rfl
theorem tw_342 : Cond.instanceMethod (⟨"GiantStair$Journey", "begin", "([I)V"⟩ : MethodName) ∈ gT := gT_2 (i := 102) rfl rfl
theorem tw_343 : Cond.selects "GiantStair$Journey" (⟨"GiantStair$Journey", "begin", "([I)V"⟩ : MethodName) (⟨"GiantStair$Journey", "begin", "([I)V"⟩ : MethodName) ∈ gT := gT_2 (i := 103) rfl rfl
theorem tw_344 : Cond.code (⟨"GiantStair$Journey", "begin", "([I)V"⟩ : MethodName) prog_2_method_2_code 2 (Option.none : Option FieldType) ∈ gT := gT_2 (i := 104) rfl rfl
theorem tw_345 : Cond.methodLink "GiantStair$Journey" 18 (⟨"java/lang/System", "arraycopy", "(Ljava/lang/Object;ILjava/lang/Object;II)V"⟩ : MethodName) ∈ gT := gT_2 (i := 105) rfl rfl
theorem tw_346 : Cond.methodLink "GiantStair$Journey" 28 (⟨"java/util/Arrays", "fill", "([II)V"⟩ : MethodName) ∈ gT := gT_2 (i := 106) rfl rfl
theorem tw_347 : Cond.methodLink "GiantStairLaw" 33 (⟨"GiantStair", "step", "(II)I"⟩ : MethodName) ∈ gT := gT_2 (i := 107) rfl rfl
theorem tw_348 : Cond.instanceMethod (⟨"GiantStair", "step", "(II)I"⟩ : MethodName) ∈ gT := gT_2 (i := 108) rfl rfl
theorem tw_349 : Cond.selects "GiantStair" (⟨"GiantStair", "step", "(II)I"⟩ : MethodName) (⟨"GiantStair", "step", "(II)I"⟩ : MethodName) ∈ gT := gT_2 (i := 109) rfl rfl
theorem tw_350 : Cond.code (⟨"GiantStair", "step", "(II)I"⟩ : MethodName) prog_1_method_6_code 3 (Option.some FieldType.int) ∈ gT := gT_2 (i := 110) rfl rfl
theorem tw_351 : Cond.methodLink "GiantStairLaw" 38 (⟨"GiantStair", "one", "(II)I"⟩ : MethodName) ∈ gT := gT_2 (i := 111) rfl rfl
theorem tw_352 : Cond.instanceMethod (⟨"GiantStair", "one", "(II)I"⟩ : MethodName) ∈ gT := gT_2 (i := 112) rfl rfl
theorem tw_353 : Cond.selects "GiantStair" (⟨"GiantStair", "one", "(II)I"⟩ : MethodName) (⟨"GiantStair", "one", "(II)I"⟩ : MethodName) ∈ gT := gT_2 (i := 113) rfl rfl
theorem tw_354 : Cond.code (⟨"GiantStair", "one", "(II)I"⟩ : MethodName) prog_1_method_7_code 3 (Option.some FieldType.int) ∈ gT := gT_2 (i := 114) rfl rfl
theorem tw_355 : Cond.methodLink "GiantStair" 92 (⟨"GiantStair$Told", "isOne", "(I)Z"⟩ : MethodName) ∈ gT := gT_2 (i := 115) rfl rfl
theorem tw_356 : Cond.methodLink "GiantStair" 111 (⟨"GiantStair$Journey", "helpGiven", "(I)I"⟩ : MethodName) ∈ gT := gT_2 (i := 116) rfl rfl
theorem tw_357 : Cond.instanceMethod (⟨"GiantStair$Journey", "helpGiven", "(I)I"⟩ : MethodName) ∈ gT := gT_2 (i := 117) rfl rfl
theorem tw_358 : Cond.selects "GiantStair$Journey" (⟨"GiantStair$Journey", "helpGiven", "(I)I"⟩ : MethodName) (⟨"GiantStair$Journey", "helpGiven", "(I)I"⟩ : MethodName) ∈ gT := gT_2 (i := 118) rfl rfl
theorem tw_359 : Cond.code (⟨"GiantStair$Journey", "helpGiven", "(I)I"⟩ : MethodName) prog_2_method_7_code 4 (Option.some FieldType.int) ∈ gT := gT_2 (i := 119) rfl rfl
theorem tw_360 : Cond.methodLink "GiantStair$Journey" 38 (⟨"GiantStair$Journey", "helpBetween", "(II)I"⟩ : MethodName) ∈ gT := gT_2 (i := 120) rfl rfl
theorem tw_361 : Cond.instanceMethod (⟨"GiantStair$Journey", "helpBetween", "(II)I"⟩ : MethodName) ∈ gT := gT_2 (i := 121) rfl rfl
theorem tw_362 : Cond.selects "GiantStair$Journey" (⟨"GiantStair$Journey", "helpBetween", "(II)I"⟩ : MethodName) (⟨"GiantStair$Journey", "helpBetween", "(II)I"⟩ : MethodName) ∈ gT := gT_2 (i := 122) rfl rfl
theorem tw_363 : Cond.code (⟨"GiantStair$Journey", "helpBetween", "(II)I"⟩ : MethodName) prog_2_method_6_code 3 (Option.some FieldType.int) ∈ gT := gT_2 (i := 123) rfl rfl
theorem tw_364 : Cond.methodLink "GiantStair$Journey" 34 (⟨"GiantStair$Journey", "isPair", "(II)Z"⟩ : MethodName) ∈ gT := gT_2 (i := 124) rfl rfl
theorem tw_365 : Cond.static (⟨"GiantStair$Journey", "isPair", "(II)Z"⟩ : MethodName) ∈ gT := gT_2 (i := 125) rfl rfl
theorem tw_366 : Cond.code (⟨"GiantStair$Journey", "isPair", "(II)Z"⟩ : MethodName) prog_2_method_4_code 2 (Option.some FieldType.boolean) ∈ gT := gT_2 (i := 126) rfl rfl
theorem tw_367 : Cond.methodLink "GiantStair" 115 (⟨"GiantStair$Journey", "helpTaken", "(I)I"⟩ : MethodName) ∈ gT := gT_2 (i := 127) rfl rfl
theorem tw_368 : Cond.instanceMethod (⟨"GiantStair$Journey", "helpTaken", "(I)I"⟩ : MethodName) ∈ gT := gT_2 (i := 128) rfl rfl
theorem tw_369 : Cond.selects "GiantStair$Journey" (⟨"GiantStair$Journey", "helpTaken", "(I)I"⟩ : MethodName) (⟨"GiantStair$Journey", "helpTaken", "(I)I"⟩ : MethodName) ∈ gT := gT_2 (i := 129) rfl rfl
theorem tw_370 : Cond.code (⟨"GiantStair$Journey", "helpTaken", "(I)I"⟩ : MethodName) prog_2_method_8_code 4 (Option.some FieldType.int) ∈ gT := gT_2 (i := 130) rfl rfl
theorem tw_371 : Cond.methodLink "GiantStairLaw" 42 (⟨"GiantStair", "as", "(II)I"⟩ : MethodName) ∈ gT := gT_2 (i := 131) rfl rfl
theorem tw_372 : Cond.instanceMethod (⟨"GiantStair", "as", "(II)I"⟩ : MethodName) ∈ gT := gT_2 (i := 132) rfl rfl
theorem tw_373 : Cond.selects "GiantStair" (⟨"GiantStair", "as", "(II)I"⟩ : MethodName) (⟨"GiantStair", "as", "(II)I"⟩ : MethodName) ∈ gT := gT_2 (i := 133) rfl rfl
theorem tw_374 : Cond.code (⟨"GiantStair", "as", "(II)I"⟩ : MethodName) prog_1_method_8_code 4 (Option.some FieldType.int) ∈ gT := gT_2 (i := 134) rfl rfl
theorem tw_375 : Cond.methodLink "GiantStair" 118 (⟨"GiantStair$Told", "isSuch", "(II)Z"⟩ : MethodName) ∈ gT := gT_2 (i := 135) rfl rfl
theorem tw_376 : Cond.instanceMethod (⟨"GiantStair$Told", "isSuch", "(II)Z"⟩ : MethodName) ∈ gT := gT_2 (i := 136) rfl rfl
theorem tw_377 : Cond.selects "GiantStair$Told" (⟨"GiantStair$Told", "isSuch", "(II)Z"⟩ : MethodName) (⟨"GiantStair$Told", "isSuch", "(II)Z"⟩ : MethodName) ∈ gT := gT_2 (i := 137) rfl rfl
theorem tw_378 : Cond.code (⟨"GiantStair$Told", "isSuch", "(II)Z"⟩ : MethodName) prog_5_method_13_code 5 (Option.some FieldType.boolean) ∈ gT := gT_2 (i := 138) rfl rfl
theorem tw_379 : Cond.fieldLink "GiantStair$Told" 65 "GiantStair$Told" "OVER" "[I" ∈ gT := gT_2 (i := 139) rfl rfl
theorem tw_380 : Cond.laysStatic "GiantStair$Told" "OVER" "[I" ∈ lw_tbl := gL_2 (i := 140) rfl
theorem tw_381 : Cond.methodLink "GiantStair" 122 (⟨"GiantStair$Told", "canRise", "(I[I)Z"⟩ : MethodName) ∈ gT := gT_2 (i := 141) rfl rfl
theorem tw_382 : Cond.instanceMethod (⟨"GiantStair$Told", "canRise", "(I[I)Z"⟩ : MethodName) ∈ gT := gT_2 (i := 142) rfl rfl
theorem tw_383 : Cond.selects "GiantStair$Told" (⟨"GiantStair$Told", "canRise", "(I[I)Z"⟩ : MethodName) (⟨"GiantStair$Told", "canRise", "(I[I)Z"⟩ : MethodName) ∈ gT := gT_2 (i := 143) rfl rfl
theorem tw_384 : Cond.code (⟨"GiantStair$Told", "canRise", "(I[I)Z"⟩ : MethodName) prog_5_method_18_code 3 (Option.some FieldType.boolean) ∈ gT := gT_2 (i := 144) rfl rfl
theorem tw_385 : Cond.methodLink "GiantStair$Told" 68 (⟨"GiantStair$Told", "firstHelp", "(I[I)I"⟩ : MethodName) ∈ gT := gT_2 (i := 145) rfl rfl
theorem tw_386 : Cond.instanceMethod (⟨"GiantStair$Told", "firstHelp", "(I[I)I"⟩ : MethodName) ∈ gT := gT_2 (i := 146) rfl rfl
theorem tw_387 : Cond.selects "GiantStair$Told" (⟨"GiantStair$Told", "firstHelp", "(I[I)I"⟩ : MethodName) (⟨"GiantStair$Told", "firstHelp", "(I[I)I"⟩ : MethodName) ∈ gT := gT_2 (i := 147) rfl rfl
theorem tw_388 : Cond.code (⟨"GiantStair$Told", "firstHelp", "(I[I)I"⟩ : MethodName) prog_5_method_20_code 6 (Option.some FieldType.int) ∈ gT := gT_2 (i := 148) rfl rfl
theorem tw_389 : Cond.methodLink "GiantStair$Told" 72 (⟨"GiantStair$Told", "goes", "(I)Z"⟩ : MethodName) ∈ gT := gT_2 (i := 149) rfl rfl
theorem tw_390 : Cond.instanceMethod (⟨"GiantStair$Told", "goes", "(I)Z"⟩ : MethodName) ∈ gT := gT_2 (i := 150) rfl rfl
theorem tw_391 : Cond.selects "GiantStair$Told" (⟨"GiantStair$Told", "goes", "(I)Z"⟩ : MethodName) (⟨"GiantStair$Told", "goes", "(I)Z"⟩ : MethodName) ∈ gT := gT_2 (i := 151) rfl rfl
theorem tw_392 : Cond.code (⟨"GiantStair$Told", "goes", "(I)Z"⟩ : MethodName) prog_5_method_14_code 2 (Option.some FieldType.boolean) ∈ gT := gT_2 (i := 152) rfl rfl
theorem tw_393 : Cond.methodLink "GiantStair$Told" 83 (⟨"GiantStair$Told", "risesAlone", "(II)Z"⟩ : MethodName) ∈ gT := gT_2 (i := 153) rfl rfl
theorem tw_395 : Cond.instanceMethod (⟨"GiantStair$Told", "risesAlone", "(II)Z"⟩ : MethodName) ∈ gT := gT_2 (i := 155) rfl rfl
theorem tw_396 : Cond.code (⟨"GiantStair$Told", "risesAlone", "(II)Z"⟩ : MethodName) prog_5_method_26_code 3 (Option.some FieldType.boolean) ∈ gT := gT_2 (i := 156) rfl rfl
theorem tw_397 : Cond.methodLink "GiantStair$Told" 86 (⟨"GiantStair$Told", "pairOf", "(II)I"⟩ : MethodName) ∈ gT := gT_2 (i := 157) rfl rfl
theorem tw_398 : Cond.static (⟨"GiantStair$Told", "pairOf", "(II)I"⟩ : MethodName) ∈ gT := gT_2 (i := 158) rfl rfl
theorem tw_399 : Cond.code (⟨"GiantStair$Told", "pairOf", "(II)I"⟩ : MethodName) prog_5_method_21_code 2 (Option.some FieldType.int) ∈ gT := gT_2 (i := 159) rfl rfl
theorem tw_400 : Cond.methodLink "GiantStair$Told" 90 (⟨"GiantStair$Told", "standsFor", "(III[I)Z"⟩ : MethodName) ∈ gT := gT_2 (i := 160) rfl rfl
theorem tw_402 : Cond.instanceMethod (⟨"GiantStair$Told", "standsFor", "(III[I)Z"⟩ : MethodName) ∈ gT := gT_2 (i := 162) rfl rfl
theorem tw_403 : Cond.code (⟨"GiantStair$Told", "standsFor", "(III[I)Z"⟩ : MethodName) prog_5_method_30_code 5 (Option.some FieldType.boolean) ∈ gT := gT_2 (i := 163) rfl rfl
theorem tw_404 : Cond.methodLink "GiantStair$Told" 105 (⟨"GiantStair$Told", "standsAt", "(III[I)Z"⟩ : MethodName) ∈ gT := gT_2 (i := 164) rfl rfl
theorem tw_406 : Cond.instanceMethod (⟨"GiantStair$Told", "standsAt", "(III[I)Z"⟩ : MethodName) ∈ gT := gT_2 (i := 166) rfl rfl
theorem tw_407 : Cond.code (⟨"GiantStair$Told", "standsAt", "(III[I)Z"⟩ : MethodName) prog_5_method_31_code 5 (Option.some FieldType.boolean) ∈ gT := gT_2 (i := 167) rfl rfl
theorem tw_408 : Cond.methodLink "GiantStair$Told" 94 (⟨"GiantStair$Told", "bringUp", "(IIII)Z"⟩ : MethodName) ∈ gT := gT_2 (i := 168) rfl rfl
theorem tw_410 : Cond.instanceMethod (⟨"GiantStair$Told", "bringUp", "(IIII)Z"⟩ : MethodName) ∈ gT := gT_2 (i := 170) rfl rfl
theorem tw_411 : Cond.code (⟨"GiantStair$Told", "bringUp", "(IIII)Z"⟩ : MethodName) prog_5_method_28_code 5 (Option.some FieldType.boolean) ∈ gT := gT_2 (i := 171) rfl rfl
theorem tw_412 : Cond.methodLink "GiantStair$Told" 98 (⟨"GiantStair$Told", "hand", "(I)I"⟩ : MethodName) ∈ gT := gT_2 (i := 172) rfl rfl
theorem tw_414 : Cond.instanceMethod (⟨"GiantStair$Told", "hand", "(I)I"⟩ : MethodName) ∈ gT := gT_2 (i := 174) rfl rfl
theorem tw_415 : Cond.code (⟨"GiantStair$Told", "hand", "(I)I"⟩ : MethodName) prog_5_method_15_code 2 (Option.some FieldType.int) ∈ gT := gT_2 (i := 175) rfl rfl
theorem tw_416 : Cond.methodLink "GiantStair$Told" 102 (⟨"GiantStair$Told", "tallness", "(I)I"⟩ : MethodName) ∈ gT := gT_2 (i := 176) rfl rfl
theorem tw_418 : Cond.instanceMethod (⟨"GiantStair$Told", "tallness", "(I)I"⟩ : MethodName) ∈ gT := gT_2 (i := 178) rfl rfl
theorem tw_419 : Cond.code (⟨"GiantStair$Told", "tallness", "(I)I"⟩ : MethodName) prog_5_method_16_code 2 (Option.some FieldType.int) ∈ gT := gT_2 (i := 179) rfl rfl
theorem tw_420 : Cond.methodLink "GiantStair" 126 (⟨"GiantStair$Told", "canSink", "(I[I)Z"⟩ : MethodName) ∈ gT := gT_2 (i := 180) rfl rfl
theorem tw_421 : Cond.instanceMethod (⟨"GiantStair$Told", "canSink", "(I[I)Z"⟩ : MethodName) ∈ gT := gT_2 (i := 181) rfl rfl
theorem tw_422 : Cond.selects "GiantStair$Told" (⟨"GiantStair$Told", "canSink", "(I[I)Z"⟩ : MethodName) (⟨"GiantStair$Told", "canSink", "(I[I)Z"⟩ : MethodName) ∈ gT := gT_2 (i := 182) rfl rfl
theorem tw_423 : Cond.code (⟨"GiantStair$Told", "canSink", "(I[I)Z"⟩ : MethodName) prog_5_method_19_code 4 (Option.some FieldType.boolean) ∈ gT := gT_2 (i := 183) rfl rfl
theorem tw_424 : Cond.methodLink "GiantStair$Told" 75 (⟨"GiantStair$Told", "sinksAlone", "(II)Z"⟩ : MethodName) ∈ gT := gT_2 (i := 184) rfl rfl
theorem tw_426 : Cond.instanceMethod (⟨"GiantStair$Told", "sinksAlone", "(II)Z"⟩ : MethodName) ∈ gT := gT_2 (i := 186) rfl rfl
theorem tw_427 : Cond.code (⟨"GiantStair$Told", "sinksAlone", "(II)Z"⟩ : MethodName) prog_5_method_27_code 3 (Option.some FieldType.boolean) ∈ gT := gT_2 (i := 187) rfl rfl
theorem tw_428 : Cond.methodLink "GiantStair$Told" 79 (⟨"GiantStair$Told", "catches", "(II[I)Z"⟩ : MethodName) ∈ gT := gT_2 (i := 188) rfl rfl
theorem tw_430 : Cond.instanceMethod (⟨"GiantStair$Told", "catches", "(II[I)Z"⟩ : MethodName) ∈ gT := gT_2 (i := 190) rfl rfl
theorem tw_431 : Cond.code (⟨"GiantStair$Told", "catches", "(II[I)Z"⟩ : MethodName) prog_5_method_29_code 4 (Option.some FieldType.boolean) ∈ gT := gT_2 (i := 191) rfl rfl
theorem tw_432 : Cond.methodLink "GiantStairLaw" 46 (⟨"GiantStair", "up", "(III)I"⟩ : MethodName) ∈ gT := gT_2 (i := 192) rfl rfl
theorem tw_433 : Cond.instanceMethod (⟨"GiantStair", "up", "(III)I"⟩ : MethodName) ∈ gT := gT_2 (i := 193) rfl rfl
theorem tw_434 : Cond.selects "GiantStair" (⟨"GiantStair", "up", "(III)I"⟩ : MethodName) (⟨"GiantStair", "up", "(III)I"⟩ : MethodName) ∈ gT := gT_2 (i := 194) rfl rfl
theorem tw_435 : Cond.code (⟨"GiantStair", "up", "(III)I"⟩ : MethodName) prog_1_method_9_code 4 (Option.some FieldType.int) ∈ gT := gT_2 (i := 195) rfl rfl
theorem tw_436 : Cond.methodLink "GiantStair" 129 (⟨"GiantStair", "mayBeAsked", "(II)Z"⟩ : MethodName) ∈ gT := gT_2 (i := 196) rfl rfl
theorem tw_438 : Cond.instanceMethod (⟨"GiantStair", "mayBeAsked", "(II)Z"⟩ : MethodName) ∈ gT := gT_2 (i := 198) rfl rfl
theorem tw_439 : Cond.code (⟨"GiantStair", "mayBeAsked", "(II)Z"⟩ : MethodName) prog_1_method_27_code 3 (Option.some FieldType.boolean) ∈ gT := gT_2 (i := 199) rfl rfl
theorem tw_440 : Cond.methodLink "GiantStair" 132 (⟨"GiantStair$Told", "risesBy", "(III[I)Z"⟩ : MethodName) ∈ gT := gT_2 (i := 200) rfl rfl
theorem tw_441 : Cond.instanceMethod (⟨"GiantStair$Told", "risesBy", "(III[I)Z"⟩ : MethodName) ∈ gT := gT_2 (i := 201) rfl rfl
theorem tw_442 : Cond.selects "GiantStair$Told" (⟨"GiantStair$Told", "risesBy", "(III[I)Z"⟩ : MethodName) (⟨"GiantStair$Told", "risesBy", "(III[I)Z"⟩ : MethodName) ∈ gT := gT_2 (i := 202) rfl rfl
theorem tw_443 : Cond.code (⟨"GiantStair$Told", "risesBy", "(III[I)Z"⟩ : MethodName) prog_5_method_24_code 5 (Option.some FieldType.boolean) ∈ gT := gT_2 (i := 203) rfl rfl
theorem tw_444 : Cond.methodLink "GiantStair" 139 (⟨"GiantStair$Journey", "addHelp", "(II)V"⟩ : MethodName) ∈ gT := gT_2 (i := 204) rfl rfl
theorem tw_445 : Cond.instanceMethod (⟨"GiantStair$Journey", "addHelp", "(II)V"⟩ : MethodName) ∈ gT := gT_2 (i := 205) rfl rfl
theorem tw_446 : Cond.selects "GiantStair$Journey" (⟨"GiantStair$Journey", "addHelp", "(II)V"⟩ : MethodName) (⟨"GiantStair$Journey", "addHelp", "(II)V"⟩ : MethodName) ∈ gT := gT_2 (i := 206) rfl rfl
theorem tw_447 : Cond.code (⟨"GiantStair$Journey", "addHelp", "(II)V"⟩ : MethodName) prog_2_method_5_code 3 (Option.none : Option FieldType) ∈ gT := gT_2 (i := 207) rfl rfl
theorem tw_448 : Cond.methodLink "GiantStair" 143 (⟨"GiantStair", "go", "(II)I"⟩ : MethodName) ∈ gT := gT_2 (i := 208) rfl rfl
theorem tw_450 : Cond.instanceMethod (⟨"GiantStair", "go", "(II)I"⟩ : MethodName) ∈ gT := gT_2 (i := 210) rfl rfl
theorem tw_451 : Cond.code (⟨"GiantStair", "go", "(II)I"⟩ : MethodName) prog_1_method_28_code 3 (Option.some FieldType.int) ∈ gT := gT_2 (i := 211) rfl rfl
theorem tw_452 : Cond.methodLink "GiantStairLaw" 51 (⟨"GiantStair", "down", "(II)I"⟩ : MethodName) ∈ gT := gT_2 (i := 212) rfl rfl
theorem tw_453 : Cond.instanceMethod (⟨"GiantStair", "down", "(II)I"⟩ : MethodName) ∈ gT := gT_2 (i := 213) rfl rfl
theorem tw_454 : Cond.selects "GiantStair" (⟨"GiantStair", "down", "(II)I"⟩ : MethodName) (⟨"GiantStair", "down", "(II)I"⟩ : MethodName) ∈ gT := gT_2 (i := 214) rfl rfl
theorem tw_455 : Cond.code (⟨"GiantStair", "down", "(II)I"⟩ : MethodName) prog_1_method_10_code 3 (Option.some FieldType.int) ∈ gT := gT_2 (i := 215) rfl rfl
theorem tw_456 : Cond.methodLink "GiantStair" 147 (⟨"GiantStair$Told", "sinksBy", "(II[I)Z"⟩ : MethodName) ∈ gT := gT_2 (i := 216) rfl rfl
theorem tw_457 : Cond.instanceMethod (⟨"GiantStair$Told", "sinksBy", "(II[I)Z"⟩ : MethodName) ∈ gT := gT_2 (i := 217) rfl rfl
theorem tw_458 : Cond.selects "GiantStair$Told" (⟨"GiantStair$Told", "sinksBy", "(II[I)Z"⟩ : MethodName) (⟨"GiantStair$Told", "sinksBy", "(II[I)Z"⟩ : MethodName) ∈ gT := gT_2 (i := 218) rfl rfl
theorem tw_459 : Cond.code (⟨"GiantStair$Told", "sinksBy", "(II[I)Z"⟩ : MethodName) prog_5_method_25_code 4 (Option.some FieldType.boolean) ∈ gT := gT_2 (i := 219) rfl rfl
theorem tw_460 : Cond.methodLink "GiantStairLaw" 55 (⟨"GiantStair", "helped", "(II)I"⟩ : MethodName) ∈ gT := gT_2 (i := 220) rfl rfl
theorem tw_461 : Cond.instanceMethod (⟨"GiantStair", "helped", "(II)I"⟩ : MethodName) ∈ gT := gT_2 (i := 221) rfl rfl
theorem tw_462 : Cond.selects "GiantStair" (⟨"GiantStair", "helped", "(II)I"⟩ : MethodName) (⟨"GiantStair", "helped", "(II)I"⟩ : MethodName) ∈ gT := gT_2 (i := 222) rfl rfl
theorem tw_463 : Cond.code (⟨"GiantStair", "helped", "(II)I"⟩ : MethodName) prog_1_method_11_code 3 (Option.some FieldType.int) ∈ gT := gT_2 (i := 223) rfl rfl
theorem tw_464 : Cond.methodLink "GiantStair" 151 (⟨"GiantStair$Journey", "helpBetween", "(II)I"⟩ : MethodName) ∈ gT := gT_2 (i := 224) rfl rfl
theorem tw_465 : Cond.methodLink "GiantStairLaw" 59 (⟨"GiantStair", "keep", "(I)I"⟩ : MethodName) ∈ gT := gT_2 (i := 225) rfl rfl
theorem tw_466 : Cond.instanceMethod (⟨"GiantStair", "keep", "(I)I"⟩ : MethodName) ∈ gT := gT_2 (i := 226) rfl rfl
theorem tw_467 : Cond.selects "GiantStair" (⟨"GiantStair", "keep", "(I)I"⟩ : MethodName) (⟨"GiantStair", "keep", "(I)I"⟩ : MethodName) ∈ gT := gT_2 (i := 227) rfl rfl
theorem tw_468 : Cond.code (⟨"GiantStair", "keep", "(I)I"⟩ : MethodName) prog_1_method_12_code 2 (Option.some FieldType.int) ∈ gT := gT_2 (i := 228) rfl rfl
theorem tw_469 : Cond.methodLink "GiantStair" 154 (⟨"GiantStair$Journey", "copy", "(LGiantStair$Journey;)V"⟩ : MethodName) ∈ gT := gT_2 (i := 229) rfl rfl
theorem tw_470 : Cond.instanceMethod (⟨"GiantStair$Journey", "copy", "(LGiantStair$Journey;)V"⟩ : MethodName) ∈ gT := gT_2 (i := 230) rfl rfl
theorem tw_471 : Cond.selects "GiantStair$Journey" (⟨"GiantStair$Journey", "copy", "(LGiantStair$Journey;)V"⟩ : MethodName) (⟨"GiantStair$Journey", "copy", "(LGiantStair$Journey;)V"⟩ : MethodName) ∈ gT := gT_2 (i := 231) rfl rfl
theorem tw_472 : Cond.code (⟨"GiantStair$Journey", "copy", "(LGiantStair$Journey;)V"⟩ : MethodName) prog_2_method_3_code 2 (Option.none : Option FieldType) ∈ gT := gT_2 (i := 232) rfl rfl
theorem tw_473 : Cond.methodLink "GiantStairLaw" 64 (⟨"GiantStair", "back", "(I)I"⟩ : MethodName) ∈ gT := gT_2 (i := 233) rfl rfl
theorem tw_474 : Cond.instanceMethod (⟨"GiantStair", "back", "(I)I"⟩ : MethodName) ∈ gT := gT_2 (i := 234) rfl rfl
theorem tw_475 : Cond.selects "GiantStair" (⟨"GiantStair", "back", "(I)I"⟩ : MethodName) (⟨"GiantStair", "back", "(I)I"⟩ : MethodName) ∈ gT := gT_2 (i := 235) rfl rfl
theorem tw_476 : Cond.code (⟨"GiantStair", "back", "(I)I"⟩ : MethodName) prog_1_method_13_code 2 (Option.some FieldType.int) ∈ gT := gT_2 (i := 236) rfl rfl
theorem tw_477 : Cond.methodLink "GiantStairLaw" 68 (⟨"GiantStair", "help", "(II)I"⟩ : MethodName) ∈ gT := gT_2 (i := 237) rfl rfl
theorem tw_478 : Cond.instanceMethod (⟨"GiantStair", "help", "(II)I"⟩ : MethodName) ∈ gT := gT_2 (i := 238) rfl rfl
theorem tw_479 : Cond.selects "GiantStair" (⟨"GiantStair", "help", "(II)I"⟩ : MethodName) (⟨"GiantStair", "help", "(II)I"⟩ : MethodName) ∈ gT := gT_2 (i := 239) rfl rfl
theorem tw_480 : Cond.code (⟨"GiantStair", "help", "(II)I"⟩ : MethodName) prog_1_method_14_code 4 (Option.some FieldType.int) ∈ gT := gT_3 (i := 0) rfl rfl
theorem tw_481 : Cond.methodLink "GiantStair" 164 (⟨"GiantStair$Told", "firstHelp", "(I[I)I"⟩ : MethodName) ∈ gT := gT_3 (i := 1) rfl rfl
theorem tw_482 : Cond.methodLink "GiantStair" 168 (⟨"GiantStair$Told", "lifterOf", "(I)I"⟩ : MethodName) ∈ gT := gT_3 (i := 2) rfl rfl
theorem tw_483 : Cond.static (⟨"GiantStair$Told", "lifterOf", "(I)I"⟩ : MethodName) ∈ gT := gT_3 (i := 3) rfl rfl
theorem tw_484 : Cond.code (⟨"GiantStair$Told", "lifterOf", "(I)I"⟩ : MethodName) prog_5_method_22_code 1 (Option.some FieldType.int) ∈ gT := gT_3 (i := 4) rfl rfl
theorem tw_485 : Cond.methodLink "GiantStair" 171 (⟨"GiantStair$Told", "pullerOf", "(I)I"⟩ : MethodName) ∈ gT := gT_3 (i := 5) rfl rfl
theorem tw_486 : Cond.static (⟨"GiantStair$Told", "pullerOf", "(I)I"⟩ : MethodName) ∈ gT := gT_3 (i := 6) rfl rfl
theorem tw_487 : Cond.code (⟨"GiantStair$Told", "pullerOf", "(I)I"⟩ : MethodName) prog_5_method_23_code 1 (Option.some FieldType.int) ∈ gT := gT_3 (i := 7) rfl rfl
theorem tw_488 : Cond.methodLink "GiantStairLaw" 72 (⟨"GiantStair", "soonest", "()I"⟩ : MethodName) ∈ gT := gT_3 (i := 8) rfl rfl
theorem tw_489 : Cond.instanceMethod (⟨"GiantStair", "soonest", "()I"⟩ : MethodName) ∈ gT := gT_3 (i := 9) rfl rfl
theorem tw_490 : Cond.selects "GiantStair" (⟨"GiantStair", "soonest", "()I"⟩ : MethodName) (⟨"GiantStair", "soonest", "()I"⟩ : MethodName) ∈ gT := gT_3 (i := 10) rfl rfl
theorem tw_491 : Cond.code (⟨"GiantStair", "soonest", "()I"⟩ : MethodName) prog_1_method_15_code 1 (Option.some FieldType.int) ∈ gT := gT_3 (i := 11) rfl rfl
theorem tw_492 : Cond.methodLink "GiantStair" 174 (⟨"GiantStair", "foresee", "()V"⟩ : MethodName) ∈ gT := gT_3 (i := 12) rfl rfl
theorem tw_494 : Cond.instanceMethod (⟨"GiantStair", "foresee", "()V"⟩ : MethodName) ∈ gT := gT_3 (i := 14) rfl rfl
theorem tw_495 : Cond.code (⟨"GiantStair", "foresee", "()V"⟩ : MethodName) prog_1_method_30_code 1 (Option.none : Option FieldType) ∈ gT := gT_3 (i := 15) rfl rfl
theorem tw_496 : Cond.methodLink "GiantStair" 203 (⟨"GiantStair$Search", "look", "(LGiantStair$Told;[I)V"⟩ : MethodName) ∈ gT := gT_3 (i := 16) rfl rfl
theorem tw_497 : Cond.instanceMethod (⟨"GiantStair$Search", "look", "(LGiantStair$Told;[I)V"⟩ : MethodName) ∈ gT := gT_3 (i := 17) rfl rfl
theorem tw_498 : Cond.selects "GiantStair$Search" (⟨"GiantStair$Search", "look", "(LGiantStair$Told;[I)V"⟩ : MethodName) (⟨"GiantStair$Search", "look", "(LGiantStair$Told;[I)V"⟩ : MethodName) ∈ gT := gT_3 (i := 18) rfl rfl
theorem tw_499 : Cond.code (⟨"GiantStair$Search", "look", "(LGiantStair$Told;[I)V"⟩ : MethodName) prog_3_method_2_code 9 (Option.none : Option FieldType) ∈ gT := gT_3 (i := 19) rfl rfl
theorem tw_500 : Cond.methodLink "GiantStair$Search" 30 (⟨"GiantStair$Search", "begin", "(LGiantStair$Told;[I)V"⟩ : MethodName) ∈ gT := gT_3 (i := 20) rfl rfl
theorem tw_502 : Cond.instanceMethod (⟨"GiantStair$Search", "begin", "(LGiantStair$Told;[I)V"⟩ : MethodName) ∈ gT := gT_3 (i := 22) rfl rfl
theorem tw_503 : Cond.code (⟨"GiantStair$Search", "begin", "(LGiantStair$Told;[I)V"⟩ : MethodName) prog_3_method_3_code 5 (Option.none : Option FieldType) ∈ gT := gT_3 (i := 23) rfl rfl
theorem tw_504 : Cond.methodLink "GiantStair$Search" 70 (⟨"GiantStair$Search", "forget", "()V"⟩ : MethodName) ∈ gT := gT_3 (i := 24) rfl rfl
theorem tw_506 : Cond.instanceMethod (⟨"GiantStair$Search", "forget", "()V"⟩ : MethodName) ∈ gT := gT_3 (i := 26) rfl rfl
theorem tw_507 : Cond.code (⟨"GiantStair$Search", "forget", "()V"⟩ : MethodName) prog_3_method_4_code 2 (Option.none : Option FieldType) ∈ gT := gT_3 (i := 27) rfl rfl
theorem tw_508 : Cond.methodLink "GiantStair$Search" 82 (⟨"GiantStair$Search", "isPosition", "(I)Z"⟩ : MethodName) ∈ gT := gT_3 (i := 28) rfl rfl
theorem tw_509 : Cond.static (⟨"GiantStair$Search", "isPosition", "(I)Z"⟩ : MethodName) ∈ gT := gT_3 (i := 29) rfl rfl
theorem tw_510 : Cond.code (⟨"GiantStair$Search", "isPosition", "(I)Z"⟩ : MethodName) prog_3_method_7_code 1 (Option.some FieldType.boolean) ∈ gT := gT_3 (i := 30) rfl rfl
theorem tw_511 : Cond.fieldLink "GiantStair$Search" 51 "GiantStair$Search" "PLACE_VALUE" "[I" ∈ gT := gT_3 (i := 31) rfl rfl
theorem tw_512 : Cond.laysStatic "GiantStair$Search" "PLACE_VALUE" "[I" ∈ lw_tbl := gL_3 (i := 32) rfl
theorem tw_513 : Cond.methodLink "GiantStair$Search" 76 (⟨"GiantStair$Told", "goes", "(I)Z"⟩ : MethodName) ∈ gT := gT_3 (i := 33) rfl rfl
theorem tw_514 : Cond.methodLink "GiantStair$Search" 62 (⟨"GiantStair$Search", "reach", "(III)V"⟩ : MethodName) ∈ gT := gT_3 (i := 34) rfl rfl
theorem tw_516 : Cond.instanceMethod (⟨"GiantStair$Search", "reach", "(III)V"⟩ : MethodName) ∈ gT := gT_3 (i := 36) rfl rfl
theorem tw_517 : Cond.code (⟨"GiantStair$Search", "reach", "(III)V"⟩ : MethodName) prog_3_method_6_code 4 (Option.none : Option FieldType) ∈ gT := gT_3 (i := 37) rfl rfl
theorem tw_518 : Cond.methodLink "GiantStair$Search" 54 (⟨"GiantStair$Search", "isNew", "(I)Z"⟩ : MethodName) ∈ gT := gT_3 (i := 38) rfl rfl
theorem tw_520 : Cond.instanceMethod (⟨"GiantStair$Search", "isNew", "(I)Z"⟩ : MethodName) ∈ gT := gT_3 (i := 40) rfl rfl
theorem tw_521 : Cond.code (⟨"GiantStair$Search", "isNew", "(I)Z"⟩ : MethodName) prog_3_method_5_code 2 (Option.some FieldType.boolean) ∈ gT := gT_3 (i := 41) rfl rfl
theorem tw_522 : Cond.methodLink "GiantStair$Search" 38 (⟨"GiantStair$Search", "awayOf", "(I)I"⟩ : MethodName) ∈ gT := gT_3 (i := 42) rfl rfl
theorem tw_524 : Cond.instanceMethod (⟨"GiantStair$Search", "awayOf", "(I)I"⟩ : MethodName) ∈ gT := gT_3 (i := 44) rfl rfl
theorem tw_525 : Cond.code (⟨"GiantStair$Search", "awayOf", "(I)I"⟩ : MethodName) prog_3_method_8_code 2 (Option.some FieldType.int) ∈ gT := gT_3 (i := 45) rfl rfl
theorem tw_526 : Cond.methodLink "GiantStair$Search" 42 (⟨"GiantStair$Search", "unfold", "(I)V"⟩ : MethodName) ∈ gT := gT_3 (i := 46) rfl rfl
theorem tw_528 : Cond.instanceMethod (⟨"GiantStair$Search", "unfold", "(I)V"⟩ : MethodName) ∈ gT := gT_3 (i := 48) rfl rfl
theorem tw_529 : Cond.code (⟨"GiantStair$Search", "unfold", "(I)V"⟩ : MethodName) prog_3_method_10_code 4 (Option.none : Option FieldType) ∈ gT := gT_3 (i := 49) rfl rfl
theorem tw_530 : Cond.methodLink "GiantStair$Search" 58 (⟨"GiantStair$Told", "firstHelp", "(I[I)I"⟩ : MethodName) ∈ gT := gT_3 (i := 50) rfl rfl
theorem tw_531 : Cond.methodLink "GiantStair$Search" 66 (⟨"GiantStair$Told", "canSink", "(I[I)Z"⟩ : MethodName) ∈ gT := gT_3 (i := 51) rfl rfl
theorem tw_532 : Cond.methodLink "GiantStair" 177 (⟨"GiantStair$Search", "fewest", "()I"⟩ : MethodName) ∈ gT := gT_3 (i := 52) rfl rfl
theorem tw_533 : Cond.instanceMethod (⟨"GiantStair$Search", "fewest", "()I"⟩ : MethodName) ∈ gT := gT_3 (i := 53) rfl rfl
theorem tw_534 : Cond.selects "GiantStair$Search" (⟨"GiantStair$Search", "fewest", "()I"⟩ : MethodName) (⟨"GiantStair$Search", "fewest", "()I"⟩ : MethodName) ∈ gT := gT_3 (i := 54) rfl rfl
theorem tw_535 : Cond.code (⟨"GiantStair$Search", "fewest", "()I"⟩ : MethodName) prog_3_method_11_code 1 (Option.some FieldType.int) ∈ gT := gT_3 (i := 55) rfl rfl
theorem tw_536 : Cond.methodLink "GiantStairLaw" 76 (⟨"GiantStair", "way", "(II)I"⟩ : MethodName) ∈ gT := gT_3 (i := 56) rfl rfl
theorem tw_537 : Cond.instanceMethod (⟨"GiantStair", "way", "(II)I"⟩ : MethodName) ∈ gT := gT_3 (i := 57) rfl rfl
theorem tw_538 : Cond.selects "GiantStair" (⟨"GiantStair", "way", "(II)I"⟩ : MethodName) (⟨"GiantStair", "way", "(II)I"⟩ : MethodName) ∈ gT := gT_3 (i := 58) rfl rfl
theorem tw_539 : Cond.code (⟨"GiantStair", "way", "(II)I"⟩ : MethodName) prog_1_method_16_code 3 (Option.some FieldType.int) ∈ gT := gT_3 (i := 59) rfl rfl
theorem tw_540 : Cond.methodLink "GiantStair" 180 (⟨"GiantStair$Search", "mover", "(I)I"⟩ : MethodName) ∈ gT := gT_3 (i := 60) rfl rfl
theorem tw_541 : Cond.instanceMethod (⟨"GiantStair$Search", "mover", "(I)I"⟩ : MethodName) ∈ gT := gT_3 (i := 61) rfl rfl
theorem tw_542 : Cond.selects "GiantStair$Search" (⟨"GiantStair$Search", "mover", "(I)I"⟩ : MethodName) (⟨"GiantStair$Search", "mover", "(I)I"⟩ : MethodName) ∈ gT := gT_3 (i := 62) rfl rfl
theorem tw_543 : Cond.code (⟨"GiantStair$Search", "mover", "(I)I"⟩ : MethodName) prog_3_method_13_code 5 (Option.some FieldType.int) ∈ gT := gT_3 (i := 63) rfl rfl
theorem tw_544 : Cond.methodLink "GiantStair$Search" 92 (⟨"GiantStair$Search", "positionBehind", "(I)I"⟩ : MethodName) ∈ gT := gT_3 (i := 64) rfl rfl
theorem tw_546 : Cond.instanceMethod (⟨"GiantStair$Search", "positionBehind", "(I)I"⟩ : MethodName) ∈ gT := gT_3 (i := 66) rfl rfl
theorem tw_547 : Cond.code (⟨"GiantStair$Search", "positionBehind", "(I)I"⟩ : MethodName) prog_3_method_12_code 4 (Option.some FieldType.int) ∈ gT := gT_3 (i := 67) rfl rfl
theorem tw_548 : Cond.methodLink "GiantStair$Search" 85 (⟨"GiantStair$Search", "fewest", "()I"⟩ : MethodName) ∈ gT := gT_3 (i := 68) rfl rfl
theorem tw_549 : Cond.methodLink "GiantStair$Search" 89 (⟨"GiantStair$Search", "aheadOf", "(I)I"⟩ : MethodName) ∈ gT := gT_3 (i := 69) rfl rfl
theorem tw_551 : Cond.instanceMethod (⟨"GiantStair$Search", "aheadOf", "(I)I"⟩ : MethodName) ∈ gT := gT_3 (i := 71) rfl rfl
theorem tw_552 : Cond.code (⟨"GiantStair$Search", "aheadOf", "(I)I"⟩ : MethodName) prog_3_method_9_code 2 (Option.some FieldType.int) ∈ gT := gT_3 (i := 72) rfl rfl
theorem tw_553 : Cond.methodLink "GiantStair$Search" 95 (⟨"java/lang/Math", "abs", "(I)I"⟩ : MethodName) ∈ gT := gT_3 (i := 73) rfl rfl
theorem tw_554 : Cond.static (⟨"java/lang/Math", "abs", "(I)I"⟩ : MethodName) ∈ gT := gT_3 (i := 74) rfl rfl
theorem tw_555 : Cond.code (⟨"java/lang/Math", "abs", "(I)I"⟩ : MethodName) prog_9_method_59_code 1 (Option.some FieldType.int) ∈ gT := gT_3 (i := 75) rfl rfl
theorem tw_556 : Cond.methodLink "GiantStair" 183 (⟨"GiantStair$Search", "rises", "(I)Z"⟩ : MethodName) ∈ gT := gT_3 (i := 76) rfl rfl
theorem tw_557 : Cond.instanceMethod (⟨"GiantStair$Search", "rises", "(I)Z"⟩ : MethodName) ∈ gT := gT_3 (i := 77) rfl rfl
theorem tw_558 : Cond.selects "GiantStair$Search" (⟨"GiantStair$Search", "rises", "(I)Z"⟩ : MethodName) (⟨"GiantStair$Search", "rises", "(I)Z"⟩ : MethodName) ∈ gT := gT_3 (i := 78) rfl rfl
theorem tw_559 : Cond.code (⟨"GiantStair$Search", "rises", "(I)Z"⟩ : MethodName) prog_3_method_14_code 3 (Option.some FieldType.boolean) ∈ gT := gT_3 (i := 79) rfl rfl
theorem tw_560 : Cond.methodLink "GiantStairLaw" 80 (⟨"GiantStair", "lasts", "()I"⟩ : MethodName) ∈ gT := gT_3 (i := 80) rfl rfl
theorem tw_561 : Cond.instanceMethod (⟨"GiantStair", "lasts", "()I"⟩ : MethodName) ∈ gT := gT_3 (i := 81) rfl rfl
theorem tw_562 : Cond.selects "GiantStair" (⟨"GiantStair", "lasts", "()I"⟩ : MethodName) (⟨"GiantStair", "lasts", "()I"⟩ : MethodName) ∈ gT := gT_3 (i := 82) rfl rfl
theorem tw_563 : Cond.code (⟨"GiantStair", "lasts", "()I"⟩ : MethodName) prog_1_method_17_code 1 (Option.some FieldType.int) ∈ gT := gT_3 (i := 83) rfl rfl
theorem tw_564 : Cond.methodLink "GiantStair" 186 (⟨"GiantStair$Search", "lastMovers", "(LGiantStair$Told;)I"⟩ : MethodName) ∈ gT := gT_3 (i := 84) rfl rfl
theorem tw_565 : Cond.instanceMethod (⟨"GiantStair$Search", "lastMovers", "(LGiantStair$Told;)I"⟩ : MethodName) ∈ gT := gT_3 (i := 85) rfl rfl
theorem tw_566 : Cond.selects "GiantStair$Search" (⟨"GiantStair$Search", "lastMovers", "(LGiantStair$Told;)I"⟩ : MethodName) (⟨"GiantStair$Search", "lastMovers", "(LGiantStair$Told;)I"⟩ : MethodName) ∈ gT := gT_3 (i := 86) rfl rfl
theorem tw_567 : Cond.code (⟨"GiantStair$Search", "lastMovers", "(LGiantStair$Told;)I"⟩ : MethodName) prog_3_method_15_code 6 (Option.some FieldType.int) ∈ gT := gT_3 (i := 87) rfl rfl
theorem tw_568 : Cond.methodLink "GiantStair$Search" 100 (⟨"GiantStair$Told", "canRise", "(I[I)Z"⟩ : MethodName) ∈ gT := gT_3 (i := 88) rfl rfl
theorem tw_569 : Cond.methodLink "GiantStairLaw" 84 (⟨"GiantStair", "most", "(I)I"⟩ : MethodName) ∈ gT := gT_3 (i := 89) rfl rfl
theorem tw_570 : Cond.instanceMethod (⟨"GiantStair", "most", "(I)I"⟩ : MethodName) ∈ gT := gT_3 (i := 90) rfl rfl
theorem tw_571 : Cond.selects "GiantStair" (⟨"GiantStair", "most", "(I)I"⟩ : MethodName) (⟨"GiantStair", "most", "(I)I"⟩ : MethodName) ∈ gT := gT_3 (i := 91) rfl rfl
theorem tw_572 : Cond.code (⟨"GiantStair", "most", "(I)I"⟩ : MethodName) prog_1_method_18_code 3 (Option.some FieldType.int) ∈ gT := gT_3 (i := 92) rfl rfl
theorem tw_573 : Cond.methodLink "GiantStair" 189 (⟨"GiantStair$Search", "fullestTop", "(LGiantStair$Told;)I"⟩ : MethodName) ∈ gT := gT_3 (i := 93) rfl rfl
theorem tw_574 : Cond.instanceMethod (⟨"GiantStair$Search", "fullestTop", "(LGiantStair$Told;)I"⟩ : MethodName) ∈ gT := gT_3 (i := 94) rfl rfl
theorem tw_575 : Cond.selects "GiantStair$Search" (⟨"GiantStair$Search", "fullestTop", "(LGiantStair$Told;)I"⟩ : MethodName) (⟨"GiantStair$Search", "fullestTop", "(LGiantStair$Told;)I"⟩ : MethodName) ∈ gT := gT_3 (i := 95) rfl rfl
theorem tw_576 : Cond.code (⟨"GiantStair$Search", "fullestTop", "(LGiantStair$Told;)I"⟩ : MethodName) prog_3_method_16_code 6 (Option.some FieldType.int) ∈ gT := gT_3 (i := 96) rfl rfl
theorem tw_577 : Cond.methodLink "GiantStair$Search" 103 (⟨"GiantStair$Told", "setAtTop", "([I)I"⟩ : MethodName) ∈ gT := gT_3 (i := 97) rfl rfl
theorem tw_578 : Cond.instanceMethod (⟨"GiantStair$Told", "setAtTop", "([I)I"⟩ : MethodName) ∈ gT := gT_3 (i := 98) rfl rfl
theorem tw_579 : Cond.selects "GiantStair$Told" (⟨"GiantStair$Told", "setAtTop", "([I)I"⟩ : MethodName) (⟨"GiantStair$Told", "setAtTop", "([I)I"⟩ : MethodName) ∈ gT := gT_3 (i := 99) rfl rfl
theorem tw_580 : Cond.code (⟨"GiantStair$Told", "setAtTop", "([I)I"⟩ : MethodName) prog_5_method_17_code 4 (Option.some FieldType.int) ∈ gT := gT_3 (i := 100) rfl rfl
theorem tw_581 : Cond.methodLink "GiantStair$Search" 107 (⟨"java/lang/Integer", "bitCount", "(I)I"⟩ : MethodName) ∈ gT := gT_3 (i := 101) rfl rfl
theorem tw_582 : Cond.static (⟨"java/lang/Integer", "bitCount", "(I)I"⟩ : MethodName) ∈ gT := gT_3 (i := 102) rfl rfl
theorem tw_583 : Cond.code (⟨"java/lang/Integer", "bitCount", "(I)I"⟩ : MethodName) prog_8_method_49_code 1 (Option.some FieldType.int) ∈ gT := gT_3 (i := 103) rfl rfl
theorem tw_584 : Cond.constant "java/lang/Integer" 265 (1431655765 : Int32) ∈ gT := gT_3 (i := 104) rfl rfl
theorem tw_585 : Cond.constant "java/lang/Integer" 266 (858993459 : Int32) ∈ gT := gT_3 (i := 105) rfl rfl
theorem tw_586 : Cond.constant "java/lang/Integer" 267 (252645135 : Int32) ∈ gT := gT_3 (i := 106) rfl rfl
theorem tw_587 : Cond.methodLink "GiantStair" 192 (⟨"java/lang/Integer", "bitCount", "(I)I"⟩ : MethodName) ∈ gT := gT_3 (i := 107) rfl rfl
theorem tw_588 : Cond.methodLink "GiantStairLaw" 88 (⟨"GiantStair", "soon", "(I)I"⟩ : MethodName) ∈ gT := gT_3 (i := 108) rfl rfl
theorem tw_589 : Cond.instanceMethod (⟨"GiantStair", "soon", "(I)I"⟩ : MethodName) ∈ gT := gT_3 (i := 109) rfl rfl
theorem tw_590 : Cond.selects "GiantStair" (⟨"GiantStair", "soon", "(I)I"⟩ : MethodName) (⟨"GiantStair", "soon", "(I)I"⟩ : MethodName) ∈ gT := gT_3 (i := 110) rfl rfl
theorem tw_591 : Cond.code (⟨"GiantStair", "soon", "(I)I"⟩ : MethodName) prog_1_method_19_code 2 (Option.some FieldType.int) ∈ gT := gT_3 (i := 111) rfl rfl
theorem tw_592 : Cond.methodLink "GiantStair" 197 (⟨"GiantStair$Search", "fewestFor", "(II)I"⟩ : MethodName) ∈ gT := gT_3 (i := 112) rfl rfl
theorem tw_593 : Cond.instanceMethod (⟨"GiantStair$Search", "fewestFor", "(II)I"⟩ : MethodName) ∈ gT := gT_3 (i := 113) rfl rfl
theorem tw_594 : Cond.selects "GiantStair$Search" (⟨"GiantStair$Search", "fewestFor", "(II)I"⟩ : MethodName) (⟨"GiantStair$Search", "fewestFor", "(II)I"⟩ : MethodName) ∈ gT := gT_3 (i := 114) rfl rfl
theorem tw_595 : Cond.code (⟨"GiantStair$Search", "fewestFor", "(II)I"⟩ : MethodName) prog_3_method_17_code 4 (Option.some FieldType.int) ∈ gT := gT_3 (i := 115) rfl rfl
theorem tw_596 : Cond.methodLink "GiantStairLaw" 92 (⟨"GiantStair", "many", "(I)I"⟩ : MethodName) ∈ gT := gT_3 (i := 116) rfl rfl
theorem tw_597 : Cond.instanceMethod (⟨"GiantStair", "many", "(I)I"⟩ : MethodName) ∈ gT := gT_3 (i := 117) rfl rfl
theorem tw_598 : Cond.selects "GiantStair" (⟨"GiantStair", "many", "(I)I"⟩ : MethodName) (⟨"GiantStair", "many", "(I)I"⟩ : MethodName) ∈ gT := gT_3 (i := 118) rfl rfl
theorem tw_599 : Cond.code (⟨"GiantStair", "many", "(I)I"⟩ : MethodName) prog_1_method_20_code 2 (Option.some FieldType.int) ∈ gT := gT_3 (i := 119) rfl rfl
theorem tw_600 : Cond.methodLink "GiantStair" 200 (⟨"GiantStair$Search", "positionsBehind", "(I)I"⟩ : MethodName) ∈ gT := gT_3 (i := 120) rfl rfl
theorem tw_601 : Cond.instanceMethod (⟨"GiantStair$Search", "positionsBehind", "(I)I"⟩ : MethodName) ∈ gT := gT_3 (i := 121) rfl rfl
theorem tw_602 : Cond.selects "GiantStair$Search" (⟨"GiantStair$Search", "positionsBehind", "(I)I"⟩ : MethodName) (⟨"GiantStair$Search", "positionsBehind", "(I)I"⟩ : MethodName) ∈ gT := gT_3 (i := 122) rfl rfl
theorem tw_603 : Cond.code (⟨"GiantStair$Search", "positionsBehind", "(I)I"⟩ : MethodName) prog_3_method_18_code 4 (Option.some FieldType.int) ∈ gT := gT_3 (i := 123) rfl rfl
theorem tw_604 : Cond.methodLink "GiantStairLaw" 96 (⟨"GiantStair", "roped", "(I)I"⟩ : MethodName) ∈ gT := gT_3 (i := 124) rfl rfl
theorem tw_605 : Cond.instanceMethod (⟨"GiantStair", "roped", "(I)I"⟩ : MethodName) ∈ gT := gT_3 (i := 125) rfl rfl
theorem tw_606 : Cond.selects "GiantStair" (⟨"GiantStair", "roped", "(I)I"⟩ : MethodName) (⟨"GiantStair", "roped", "(I)I"⟩ : MethodName) ∈ gT := gT_3 (i := 126) rfl rfl
theorem tw_607 : Cond.code (⟨"GiantStair", "roped", "(I)I"⟩ : MethodName) prog_1_method_21_code 6 (Option.some FieldType.int) ∈ gT := gT_3 (i := 127) rfl rfl
theorem tw_608 : Cond.methodLink "GiantStairLaw" 100 (⟨"GiantStair", "odds", "(II)I"⟩ : MethodName) ∈ gT := gT_3 (i := 128) rfl rfl
theorem tw_609 : Cond.instanceMethod (⟨"GiantStair", "odds", "(II)I"⟩ : MethodName) ∈ gT := gT_3 (i := 129) rfl rfl
theorem tw_610 : Cond.selects "GiantStair" (⟨"GiantStair", "odds", "(II)I"⟩ : MethodName) (⟨"GiantStair", "odds", "(II)I"⟩ : MethodName) ∈ gT := gT_3 (i := 130) rfl rfl
theorem tw_611 : Cond.code (⟨"GiantStair", "odds", "(II)I"⟩ : MethodName) prog_1_method_22_code 7 (Option.some FieldType.int) ∈ gT := gT_3 (i := 131) rfl rfl
theorem tw_612 : Cond.methodLink "GiantStair" 210 (⟨"GiantStair", "chanceOf", "(II)I"⟩ : MethodName) ∈ gT := gT_3 (i := 132) rfl rfl
theorem tw_614 : Cond.instanceMethod (⟨"GiantStair", "chanceOf", "(II)I"⟩ : MethodName) ∈ gT := gT_3 (i := 134) rfl rfl
theorem tw_615 : Cond.code (⟨"GiantStair", "chanceOf", "(II)I"⟩ : MethodName) prog_1_method_31_code 5 (Option.some FieldType.int) ∈ gT := gT_3 (i := 135) rfl rfl
theorem tw_616 : Cond.methodLink "GiantStair" 213 (⟨"GiantStair", "canAllBeUp", "(I)Z"⟩ : MethodName) ∈ gT := gT_3 (i := 136) rfl rfl
theorem tw_618 : Cond.instanceMethod (⟨"GiantStair", "canAllBeUp", "(I)Z"⟩ : MethodName) ∈ gT := gT_3 (i := 138) rfl rfl
theorem tw_619 : Cond.code (⟨"GiantStair", "canAllBeUp", "(I)Z"⟩ : MethodName) prog_1_method_32_code 2 (Option.some FieldType.boolean) ∈ gT := gT_3 (i := 139) rfl rfl
theorem tw_620 : Cond.methodLink "GiantStair" 242 (⟨"GiantStair$Told", "copySome", "(LGiantStair$Told;I[I)V"⟩ : MethodName) ∈ gT := gT_3 (i := 140) rfl rfl
theorem tw_621 : Cond.instanceMethod (⟨"GiantStair$Told", "copySome", "(LGiantStair$Told;I[I)V"⟩ : MethodName) ∈ gT := gT_3 (i := 141) rfl rfl
theorem tw_622 : Cond.selects "GiantStair$Told" (⟨"GiantStair$Told", "copySome", "(LGiantStair$Told;I[I)V"⟩ : MethodName) (⟨"GiantStair$Told", "copySome", "(LGiantStair$Told;I[I)V"⟩ : MethodName) ∈ gT := gT_3 (i := 142) rfl rfl
theorem tw_623 : Cond.code (⟨"GiantStair$Told", "copySome", "(LGiantStair$Told;I[I)V"⟩ : MethodName) prog_5_method_5_code 5 (Option.none : Option FieldType) ∈ gT := gT_3 (i := 143) rfl rfl
theorem tw_624 : Cond.methodLink "GiantStair" 216 (⟨"GiantStair", "commonDivisor", "(II)I"⟩ : MethodName) ∈ gT := gT_3 (i := 144) rfl rfl
theorem tw_625 : Cond.static (⟨"GiantStair", "commonDivisor", "(II)I"⟩ : MethodName) ∈ gT := gT_3 (i := 145) rfl rfl
theorem tw_626 : Cond.code (⟨"GiantStair", "commonDivisor", "(II)I"⟩ : MethodName) prog_1_method_33_code 6 (Option.some FieldType.int) ∈ gT := gT_3 (i := 146) rfl rfl
theorem tw_627 : Cond.methodLink "GiantStairLaw" 104 (⟨"GiantStair", "row", "(II)I"⟩ : MethodName) ∈ gT := gT_3 (i := 147) rfl rfl
theorem tw_628 : Cond.instanceMethod (⟨"GiantStair", "row", "(II)I"⟩ : MethodName) ∈ gT := gT_3 (i := 148) rfl rfl
theorem tw_629 : Cond.selects "GiantStair" (⟨"GiantStair", "row", "(II)I"⟩ : MethodName) (⟨"GiantStair", "row", "(II)I"⟩ : MethodName) ∈ gT := gT_3 (i := 149) rfl rfl
theorem tw_630 : Cond.code (⟨"GiantStair", "row", "(II)I"⟩ : MethodName) prog_1_method_23_code 3 (Option.some FieldType.int) ∈ gT := gT_3 (i := 150) rfl rfl
theorem tw_631 : Cond.methodLink "GiantStairLaw" 108 (⟨"GiantStair", "burn", "()I"⟩ : MethodName) ∈ gT := gT_3 (i := 151) rfl rfl
theorem tw_632 : Cond.instanceMethod (⟨"GiantStair", "burn", "()I"⟩ : MethodName) ∈ gT := gT_3 (i := 152) rfl rfl
theorem tw_633 : Cond.selects "GiantStair" (⟨"GiantStair", "burn", "()I"⟩ : MethodName) (⟨"GiantStair", "burn", "()I"⟩ : MethodName) ∈ gT := gT_3 (i := 153) rfl rfl
theorem tw_634 : Cond.code (⟨"GiantStair", "burn", "()I"⟩ : MethodName) prog_1_method_24_code 2 (Option.some FieldType.int) ∈ gT := gT_3 (i := 154) rfl rfl
theorem tw_635 : Cond.methodLink "GiantStairLaw" 112 (⟨"GiantStair", "judge", "()I"⟩ : MethodName) ∈ gT := gT_3 (i := 155) rfl rfl
theorem tw_636 : Cond.instanceMethod (⟨"GiantStair", "judge", "()I"⟩ : MethodName) ∈ gT := gT_3 (i := 156) rfl rfl
theorem tw_637 : Cond.selects "GiantStair" (⟨"GiantStair", "judge", "()I"⟩ : MethodName) (⟨"GiantStair", "judge", "()I"⟩ : MethodName) ∈ gT := gT_3 (i := 157) rfl rfl
theorem tw_638 : Cond.code (⟨"GiantStair", "judge", "()I"⟩ : MethodName) prog_1_method_25_code 5 (Option.some FieldType.int) ∈ gT := gT_3 (i := 158) rfl rfl
theorem tw_639 : Cond.methodLink "GiantStair" 222 (⟨"java/lang/System", "arraycopy", "(Ljava/lang/Object;ILjava/lang/Object;II)V"⟩ : MethodName) ∈ gT := gT_3 (i := 159) rfl rfl
theorem tw_640 : Cond.methodLink "GiantStairLaw" 116 (⟨"GiantStair", "count", "(I)I"⟩ : MethodName) ∈ gT := gT_3 (i := 160) rfl rfl
theorem tw_641 : Cond.instanceMethod (⟨"GiantStair", "count", "(I)I"⟩ : MethodName) ∈ gT := gT_3 (i := 161) rfl rfl
theorem tw_642 : Cond.selects "GiantStair" (⟨"GiantStair", "count", "(I)I"⟩ : MethodName) (⟨"GiantStair", "count", "(I)I"⟩ : MethodName) ∈ gT := gT_3 (i := 162) rfl rfl
theorem tw_643 : Cond.code (⟨"GiantStair", "count", "(I)I"⟩ : MethodName) prog_1_method_26_code 2 (Option.some FieldType.int) ∈ gT := gT_3 (i := 163) rfl rfl
theorem tw_644 : Cond.methodLink "GiantStair" 228 (⟨"GiantStair$Told", "setAtTop", "([I)I"⟩ : MethodName) ∈ gT := gT_3 (i := 164) rfl rfl
theorem tw_645 : Cond.methodLink "GiantStair" 232 (⟨"GiantStair$Journey", "helpInAll", "()I"⟩ : MethodName) ∈ gT := gT_3 (i := 165) rfl rfl
theorem tw_646 : Cond.instanceMethod (⟨"GiantStair$Journey", "helpInAll", "()I"⟩ : MethodName) ∈ gT := gT_3 (i := 166) rfl rfl
theorem tw_647 : Cond.selects "GiantStair$Journey" (⟨"GiantStair$Journey", "helpInAll", "()I"⟩ : MethodName) (⟨"GiantStair$Journey", "helpInAll", "()I"⟩ : MethodName) ∈ gT := gT_3 (i := 167) rfl rfl
theorem tw_648 : Cond.code (⟨"GiantStair$Journey", "helpInAll", "()I"⟩ : MethodName) prog_2_method_9_code 3 (Option.some FieldType.int) ∈ gT := gT_3 (i := 168) rfl rfl
theorem tw_649 : Cond.methodLink "GiantStair$Journey" 42 (⟨"GiantStair$Journey", "helpGiven", "(I)I"⟩ : MethodName) ∈ gT := gT_3 (i := 169) rfl rfl
theorem tw_650 : Cond.classLink "GiantStairLaw" 10 "GiantStairModel" ∈ gT := gT_3 (i := 170) rfl rfl
theorem tw_651 : Cond.instantiable "GiantStairModel" 31 ∈ gT := gT_3 (i := 171) rfl rfl
theorem tw_652 : Cond.methodLink "GiantStairLaw" 12 (⟨"GiantStairModel", "<init>", "()V"⟩ : MethodName) ∈ gT := gT_3 (i := 172) rfl rfl
theorem tw_653 : Cond.instanceMethod (⟨"GiantStairModel", "<init>", "()V"⟩ : MethodName) ∈ gT := gT_3 (i := 173) rfl rfl
theorem tw_654 : Cond.code (⟨"GiantStairModel", "<init>", "()V"⟩ : MethodName) prog_7_method_1_code 1 (Option.none : Option FieldType) ∈ gT := gT_3 (i := 174) rfl rfl
theorem tw_655 : Cond.methodLink "GiantStairModel" 1 (⟨"java/lang/Object", "<init>", "()V"⟩ : MethodName) ∈ gT := gT_3 (i := 175) rfl rfl
theorem tw_656 : Cond.methodLink "GiantStairModel" 60 (⟨"GiantStairModel", "plain", "(I)V"⟩ : MethodName) ∈ gT := gT_3 (i := 176) rfl rfl
theorem tw_658 : Cond.instanceMethod (⟨"GiantStairModel", "plain", "(I)V"⟩ : MethodName) ∈ gT := gT_3 (i := 178) rfl rfl
theorem tw_659 : Cond.code (⟨"GiantStairModel", "plain", "(I)V"⟩ : MethodName) prog_7_method_6_code 3 (Option.none : Option FieldType) ∈ gT := gT_3 (i := 179) rfl rfl
theorem tw_660 : Cond.fieldLink "GiantStairModel" 7 "GiantStairModel" "top" "I" ∈ gT := gT_3 (i := 180) rfl rfl
theorem tw_661 : Cond.fieldLink "GiantStairModel" 13 "GiantStairModel" "height" "[I" ∈ gT := gT_3 (i := 181) rfl rfl
theorem tw_662 : Cond.fieldLink "GiantStairModel" 71 "GiantStairModel" "ropes" "I" ∈ gT := gT_3 (i := 182) rfl rfl
theorem tw_663 : Cond.fieldLink "GiantStairModel" 64 "GiantStairModel" "people" "I" ∈ gT := gT_3 (i := 183) rfl rfl
theorem tw_664 : Cond.fieldLink "GiantStairModel" 17 "GiantStairModel" "one" "[I" ∈ gT := gT_3 (i := 184) rfl rfl
theorem tw_665 : Cond.fieldLink "GiantStairModel" 74 "GiantStairModel" "bytes" "I" ∈ gT := gT_3 (i := 185) rfl rfl
theorem tw_666 : Cond.fieldLink "GiantStairModel" 20 "GiantStairModel" "text" "[I" ∈ gT := gT_3 (i := 186) rfl rfl
theorem tw_667 : Cond.fieldLink "GiantStairModel" 79 "GiantStairModel" "position" "I" ∈ gT := gT_3 (i := 187) rfl rfl
theorem tw_668 : Cond.fieldLink "GiantStairModel" 82 "GiantStairModel" "tokenAt" "I" ∈ gT := gT_3 (i := 188) rfl rfl
theorem tw_669 : Cond.fieldLink "GiantStairModel" 93 "GiantStairModel" "token" "J" ∈ gT := gT_3 (i := 189) rfl rfl
theorem tw_670 : Cond.fieldLink "GiantStairModel" 85 "GiantStairModel" "digits" "I" ∈ gT := gT_3 (i := 190) rfl rfl
theorem tw_671 : Cond.fieldLink "GiantStairModel" 88 "GiantStairModel" "number" "I" ∈ gT := gT_3 (i := 191) rfl rfl
theorem tw_672 : Cond.fieldLink "GiantStairModel" 107 "GiantStairModel" "faultAt" "I" ∈ gT := gT_3 (i := 192) rfl rfl
theorem tw_673 : Cond.fieldLink "GiantStairModel" 150 "GiantStairModel" "readMany" "I" ∈ gT := gT_3 (i := 193) rfl rfl
theorem tw_674 : Cond.fieldLink "GiantStairModel" 147 "GiantStairModel" "readTop" "I" ∈ gT := gT_3 (i := 194) rfl rfl
theorem tw_675 : Cond.fieldLink "GiantStairModel" 117 "GiantStairModel" "readPeople" "I" ∈ gT := gT_3 (i := 195) rfl rfl
theorem tw_676 : Cond.fieldLink "GiantStairModel" 23 "GiantStairModel" "read" "[I" ∈ gT := gT_3 (i := 196) rfl rfl
theorem tw_677 : Cond.fieldLink "GiantStairModel" 26 "GiantStairModel" "level" "[I" ∈ gT := gT_3 (i := 197) rfl rfl
theorem tw_678 : Cond.fieldLink "GiantStairModel" 162 "GiantStairModel" "moves" "I" ∈ gT := gT_3 (i := 198) rfl rfl
theorem tw_679 : Cond.fieldLink "GiantStairModel" 29 "GiantStairModel" "helped" "[I" ∈ gT := gT_3 (i := 199) rfl rfl
theorem tw_680 : Cond.fieldLink "GiantStairModel" 32 "GiantStairModel" "image" "[I" ∈ gT := gT_3 (i := 200) rfl rfl
theorem tw_681 : Cond.fieldLink "GiantStairModel" 35 "GiantStairModel" "isKept" "[Z" ∈ gT := gT_3 (i := 201) rfl rfl
theorem tw_682 : Cond.fieldLink "GiantStairModel" 165 "GiantStairModel" "rows" "I" ∈ gT := gT_3 (i := 202) rfl rfl
theorem tw_683 : Cond.fieldLink "GiantStairModel" 39 "GiantStairModel" "row" "[I" ∈ gT := gT_3 (i := 203) rfl rfl
theorem tw_684 : Cond.fieldLink "GiantStairModel" 42 "GiantStairModel" "far" "[I" ∈ gT := gT_3 (i := 204) rfl rfl
theorem tw_685 : Cond.fieldLink "GiantStairModel" 45 "GiantStairModel" "line" "[I" ∈ gT := gT_3 (i := 205) rfl rfl
theorem tw_686 : Cond.fieldLink "GiantStairModel" 48 "GiantStairModel" "from" "[I" ∈ gT := gT_3 (i := 206) rfl rfl
theorem tw_687 : Cond.fieldLink "GiantStairModel" 51 "GiantStairModel" "by" "[I" ∈ gT := gT_3 (i := 207) rfl rfl
theorem tw_688 : Cond.fieldLink "GiantStairModel" 211 "GiantStairModel" "lined" "I" ∈ gT := gT_3 (i := 208) rfl rfl
theorem tw_689 : Cond.fieldLink "GiantStairModel" 54 "GiantStairModel" "tried" "[I" ∈ gT := gT_3 (i := 209) rfl rfl
theorem tw_690 : Cond.fieldLink "GiantStairModel" 57 "GiantStairModel" "comes" "I" ∈ gT := gT_3 (i := 210) rfl rfl
theorem tw_691 : Cond.lays "GiantStairModel" "GiantStairModel" "top" "I" ∈ gT := gT_3 (i := 211) rfl rfl
theorem tw_693 : Cond.laysFinal "GiantStairModel" "GiantStairModel" "height" "[I" ∈ gT := gT_3 (i := 213) rfl rfl
theorem tw_695 : Cond.lays "GiantStairModel" "GiantStairModel" "ropes" "I" ∈ gT := gT_3 (i := 215) rfl rfl
theorem tw_697 : Cond.lays "GiantStairModel" "GiantStairModel" "people" "I" ∈ gT := gT_3 (i := 217) rfl rfl
theorem tw_699 : Cond.laysFinal "GiantStairModel" "GiantStairModel" "one" "[I" ∈ gT := gT_3 (i := 219) rfl rfl
theorem tw_701 : Cond.lays "GiantStairModel" "GiantStairModel" "bytes" "I" ∈ gT := gT_3 (i := 221) rfl rfl
theorem tw_703 : Cond.laysFinal "GiantStairModel" "GiantStairModel" "text" "[I" ∈ gT := gT_3 (i := 223) rfl rfl
theorem tw_705 : Cond.lays "GiantStairModel" "GiantStairModel" "position" "I" ∈ gT := gT_3 (i := 225) rfl rfl
theorem tw_707 : Cond.lays "GiantStairModel" "GiantStairModel" "tokenAt" "I" ∈ gT := gT_3 (i := 227) rfl rfl
theorem tw_709 : Cond.lays "GiantStairModel" "GiantStairModel" "token" "J" ∈ gT := gT_3 (i := 229) rfl rfl
theorem tw_711 : Cond.lays "GiantStairModel" "GiantStairModel" "digits" "I" ∈ gT := gT_3 (i := 231) rfl rfl
theorem tw_713 : Cond.lays "GiantStairModel" "GiantStairModel" "number" "I" ∈ gT := gT_3 (i := 233) rfl rfl
theorem tw_715 : Cond.lays "GiantStairModel" "GiantStairModel" "faultAt" "I" ∈ gT := gT_3 (i := 235) rfl rfl
theorem tw_717 : Cond.lays "GiantStairModel" "GiantStairModel" "readMany" "I" ∈ gT := gT_3 (i := 237) rfl rfl
theorem tw_719 : Cond.lays "GiantStairModel" "GiantStairModel" "readTop" "I" ∈ gT := gT_3 (i := 239) rfl rfl
theorem tw_721 : Cond.lays "GiantStairModel" "GiantStairModel" "readPeople" "I" ∈ gT := gT_4 (i := 1) rfl rfl
theorem tw_723 : Cond.laysFinal "GiantStairModel" "GiantStairModel" "read" "[I" ∈ gT := gT_4 (i := 3) rfl rfl
theorem tw_725 : Cond.laysFinal "GiantStairModel" "GiantStairModel" "level" "[I" ∈ gT := gT_4 (i := 5) rfl rfl
theorem tw_727 : Cond.lays "GiantStairModel" "GiantStairModel" "moves" "I" ∈ gT := gT_4 (i := 7) rfl rfl
theorem tw_729 : Cond.laysFinal "GiantStairModel" "GiantStairModel" "helped" "[I" ∈ gT := gT_4 (i := 9) rfl rfl
theorem tw_731 : Cond.laysFinal "GiantStairModel" "GiantStairModel" "image" "[I" ∈ gT := gT_4 (i := 11) rfl rfl
theorem tw_733 : Cond.laysFinal "GiantStairModel" "GiantStairModel" "isKept" "[Z" ∈ gT := gT_4 (i := 13) rfl rfl
theorem tw_735 : Cond.lays "GiantStairModel" "GiantStairModel" "rows" "I" ∈ gT := gT_4 (i := 15) rfl rfl
theorem tw_737 : Cond.laysFinal "GiantStairModel" "GiantStairModel" "row" "[I" ∈ gT := gT_4 (i := 17) rfl rfl
theorem tw_739 : Cond.laysFinal "GiantStairModel" "GiantStairModel" "far" "[I" ∈ gT := gT_4 (i := 19) rfl rfl
theorem tw_741 : Cond.laysFinal "GiantStairModel" "GiantStairModel" "line" "[I" ∈ gT := gT_4 (i := 21) rfl rfl
theorem tw_743 : Cond.laysFinal "GiantStairModel" "GiantStairModel" "from" "[I" ∈ gT := gT_4 (i := 23) rfl rfl
theorem tw_745 : Cond.laysFinal "GiantStairModel" "GiantStairModel" "by" "[I" ∈ gT := gT_4 (i := 25) rfl rfl
theorem tw_747 : Cond.lays "GiantStairModel" "GiantStairModel" "lined" "I" ∈ gT := gT_4 (i := 27) rfl rfl
theorem tw_749 : Cond.laysFinal "GiantStairModel" "GiantStairModel" "tried" "[I" ∈ gT := gT_4 (i := 29) rfl rfl
theorem tw_751 : Cond.lays "GiantStairModel" "GiantStairModel" "comes" "I" ∈ gT := gT_4 (i := 31) rfl rfl
theorem tw_754 : Cond.methodLink "GiantStairLaw" 19 (⟨"GiantStairModel", "write", "(JI)I"⟩ : MethodName) ∈ gT := gT_4 (i := 34) rfl rfl
theorem tw_755 : Cond.instanceMethod (⟨"GiantStairModel", "write", "(JI)I"⟩ : MethodName) ∈ gT := gT_4 (i := 35) rfl rfl
theorem tw_756 : Cond.selects "GiantStairModel" (⟨"GiantStairModel", "write", "(JI)I"⟩ : MethodName) (⟨"GiantStairModel", "write", "(JI)I"⟩ : MethodName) ∈ gT := gT_4 (i := 36) rfl rfl
theorem tw_757 : Cond.code (⟨"GiantStairModel", "write", "(JI)I"⟩ : MethodName) prog_7_method_7_code 5 (Option.some FieldType.int) ∈ gT := gT_4 (i := 37) rfl rfl
theorem tw_758 : Cond.methodLink "GiantStairModel" 67 (⟨"GiantStairModel", "in", "(III)Z"⟩ : MethodName) ∈ gT := gT_4 (i := 38) rfl rfl
theorem tw_759 : Cond.static (⟨"GiantStairModel", "in", "(III)Z"⟩ : MethodName) ∈ gT := gT_4 (i := 39) rfl rfl
theorem tw_760 : Cond.code (⟨"GiantStairModel", "in", "(III)Z"⟩ : MethodName) prog_7_method_2_code 3 (Option.some FieldType.boolean) ∈ gT := gT_4 (i := 40) rfl rfl
theorem tw_761 : Cond.constantLong "GiantStairModel" 77 (255 : Int64) ∈ gT := gT_4 (i := 41) rfl rfl
theorem tw_762 : Cond.methodLink "GiantStairLaw" 24 (⟨"GiantStairModel", "erase", "()I"⟩ : MethodName) ∈ gT := gT_4 (i := 42) rfl rfl
theorem tw_763 : Cond.instanceMethod (⟨"GiantStairModel", "erase", "()I"⟩ : MethodName) ∈ gT := gT_4 (i := 43) rfl rfl
theorem tw_764 : Cond.selects "GiantStairModel" (⟨"GiantStairModel", "erase", "()I"⟩ : MethodName) (⟨"GiantStairModel", "erase", "()I"⟩ : MethodName) ∈ gT := gT_4 (i := 44) rfl rfl
theorem tw_765 : Cond.code (⟨"GiantStairModel", "erase", "()I"⟩ : MethodName) prog_7_method_8_code 2 (Option.some FieldType.int) ∈ gT := gT_4 (i := 45) rfl rfl
theorem tw_766 : Cond.methodLink "GiantStairLaw" 28 (⟨"GiantStairModel", "fault", "()I"⟩ : MethodName) ∈ gT := gT_4 (i := 46) rfl rfl
theorem tw_767 : Cond.instanceMethod (⟨"GiantStairModel", "fault", "()I"⟩ : MethodName) ∈ gT := gT_4 (i := 47) rfl rfl
theorem tw_768 : Cond.selects "GiantStairModel" (⟨"GiantStairModel", "fault", "()I"⟩ : MethodName) (⟨"GiantStairModel", "fault", "()I"⟩ : MethodName) ∈ gT := gT_4 (i := 48) rfl rfl
theorem tw_769 : Cond.code (⟨"GiantStairModel", "fault", "()I"⟩ : MethodName) prog_7_method_15_code 1 (Option.some FieldType.int) ∈ gT := gT_4 (i := 49) rfl rfl
theorem tw_770 : Cond.methodLink "GiantStairModel" 156 (⟨"GiantStairModel", "isRead", "()Z"⟩ : MethodName) ∈ gT := gT_4 (i := 50) rfl rfl
theorem tw_772 : Cond.instanceMethod (⟨"GiantStairModel", "isRead", "()Z"⟩ : MethodName) ∈ gT := gT_4 (i := 52) rfl rfl
theorem tw_773 : Cond.code (⟨"GiantStairModel", "isRead", "()Z"⟩ : MethodName) prog_7_method_14_code 2 (Option.some FieldType.boolean) ∈ gT := gT_4 (i := 53) rfl rfl
theorem tw_774 : Cond.methodLink "GiantStairModel" 153 (⟨"GiantStairModel", "isLine", "(I)Z"⟩ : MethodName) ∈ gT := gT_4 (i := 54) rfl rfl
theorem tw_776 : Cond.instanceMethod (⟨"GiantStairModel", "isLine", "(I)Z"⟩ : MethodName) ∈ gT := gT_4 (i := 56) rfl rfl
theorem tw_777 : Cond.code (⟨"GiantStairModel", "isLine", "(I)Z"⟩ : MethodName) prog_7_method_13_code 4 (Option.some FieldType.boolean) ∈ gT := gT_4 (i := 57) rfl rfl
theorem tw_778 : Cond.methodLink "GiantStairModel" 110 (⟨"GiantStairModel", "nextToken", "()V"⟩ : MethodName) ∈ gT := gT_4 (i := 58) rfl rfl
theorem tw_780 : Cond.instanceMethod (⟨"GiantStairModel", "nextToken", "()V"⟩ : MethodName) ∈ gT := gT_4 (i := 60) rfl rfl
theorem tw_781 : Cond.code (⟨"GiantStairModel", "nextToken", "()V"⟩ : MethodName) prog_7_method_9_code 1 (Option.none : Option FieldType) ∈ gT := gT_4 (i := 61) rfl rfl
theorem tw_782 : Cond.constantLong "GiantStairModel" 91 (-2 : Int64) ∈ gT := gT_4 (i := 62) rfl rfl
theorem tw_783 : Cond.constantLong "GiantStairModel" 97 (27 : Int64) ∈ gT := gT_4 (i := 63) rfl rfl
theorem tw_784 : Cond.constantLong "GiantStairModel" 99 (96 : Int64) ∈ gT := gT_4 (i := 64) rfl rfl
theorem tw_785 : Cond.constantLong "GiantStairModel" 101 (-4 : Int64) ∈ gT := gT_4 (i := 65) rfl rfl
theorem tw_786 : Cond.constantLong "GiantStairModel" 103 (-1 : Int64) ∈ gT := gT_4 (i := 66) rfl rfl
theorem tw_787 : Cond.constantLong "GiantStairModel" 105 (-3 : Int64) ∈ gT := gT_4 (i := 67) rfl rfl
theorem tw_788 : Cond.constantLong "GiantStairModel" 123 (6334396438 : Int64) ∈ gT := gT_4 (i := 68) rfl rfl
theorem tw_789 : Cond.constantLong "GiantStairModel" 125 (237923154 : Int64) ∈ gT := gT_4 (i := 69) rfl rfl
theorem tw_790 : Cond.constantLong "GiantStairModel" 127 (8868856 : Int64) ∈ gT := gT_4 (i := 70) rfl rfl
theorem tw_791 : Cond.constantLong "GiantStairModel" 129 (10124021 : Int64) ∈ gT := gT_4 (i := 71) rfl rfl
theorem tw_792 : Cond.constantLong "GiantStairModel" 131 (10492029 : Int64) ∈ gT := gT_4 (i := 72) rfl rfl
theorem tw_793 : Cond.constantLong "GiantStairModel" 133 (388708 : Int64) ∈ gT := gT_4 (i := 73) rfl rfl
theorem tw_794 : Cond.constantLong "GiantStairModel" 135 (365666 : Int64) ∈ gT := gT_4 (i := 74) rfl rfl
theorem tw_795 : Cond.constantLong "GiantStairModel" 137 (247162 : Int64) ∈ gT := gT_4 (i := 75) rfl rfl
theorem tw_796 : Cond.constantLong "GiantStairModel" 139 (47 : Int64) ∈ gT := gT_4 (i := 76) rfl rfl
theorem tw_797 : Cond.constantLong "GiantStairModel" 141 (208906747 : Int64) ∈ gT := gT_4 (i := 77) rfl rfl
theorem tw_798 : Cond.methodLink "GiantStairModel" 143 (⟨"GiantStairModel", "isOneLine", "(I)Z"⟩ : MethodName) ∈ gT := gT_4 (i := 78) rfl rfl
theorem tw_800 : Cond.instanceMethod (⟨"GiantStairModel", "isOneLine", "(I)Z"⟩ : MethodName) ∈ gT := gT_4 (i := 80) rfl rfl
theorem tw_801 : Cond.code (⟨"GiantStairModel", "isOneLine", "(I)Z"⟩ : MethodName) prog_7_method_12_code 2 (Option.some FieldType.boolean) ∈ gT := gT_4 (i := 81) rfl rfl
theorem tw_802 : Cond.methodLink "GiantStairModel" 113 (⟨"GiantStairModel", "fails", "()Z"⟩ : MethodName) ∈ gT := gT_4 (i := 82) rfl rfl
theorem tw_804 : Cond.instanceMethod (⟨"GiantStairModel", "fails", "()Z"⟩ : MethodName) ∈ gT := gT_4 (i := 84) rfl rfl
theorem tw_805 : Cond.code (⟨"GiantStairModel", "fails", "()Z"⟩ : MethodName) prog_7_method_10_code 1 (Option.some FieldType.boolean) ∈ gT := gT_4 (i := 85) rfl rfl
theorem tw_806 : Cond.methodLink "GiantStairModel" 120 (⟨"GiantStairModel", "isNumber", "(III)Z"⟩ : MethodName) ∈ gT := gT_4 (i := 86) rfl rfl
theorem tw_808 : Cond.instanceMethod (⟨"GiantStairModel", "isNumber", "(III)Z"⟩ : MethodName) ∈ gT := gT_4 (i := 88) rfl rfl
theorem tw_809 : Cond.code (⟨"GiantStairModel", "isNumber", "(III)Z"⟩ : MethodName) prog_7_method_11_code 4 (Option.some FieldType.boolean) ∈ gT := gT_4 (i := 89) rfl rfl
theorem tw_810 : Cond.methodLink "GiantStairLaw" 32 (⟨"GiantStairModel", "stair", "()I"⟩ : MethodName) ∈ gT := gT_4 (i := 90) rfl rfl
theorem tw_811 : Cond.instanceMethod (⟨"GiantStairModel", "stair", "()I"⟩ : MethodName) ∈ gT := gT_4 (i := 91) rfl rfl
theorem tw_812 : Cond.selects "GiantStairModel" (⟨"GiantStairModel", "stair", "()I"⟩ : MethodName) (⟨"GiantStairModel", "stair", "()I"⟩ : MethodName) ∈ gT := gT_4 (i := 92) rfl rfl
theorem tw_813 : Cond.code (⟨"GiantStairModel", "stair", "()I"⟩ : MethodName) prog_7_method_17_code 2 (Option.some FieldType.int) ∈ gT := gT_4 (i := 93) rfl rfl
theorem tw_814 : Cond.methodLink "GiantStairModel" 159 (⟨"GiantStairModel", "doLine", "(I)V"⟩ : MethodName) ∈ gT := gT_4 (i := 94) rfl rfl
theorem tw_816 : Cond.instanceMethod (⟨"GiantStairModel", "doLine", "(I)V"⟩ : MethodName) ∈ gT := gT_4 (i := 96) rfl rfl
theorem tw_817 : Cond.code (⟨"GiantStairModel", "doLine", "(I)V"⟩ : MethodName) prog_7_method_16_code 5 (Option.none : Option FieldType) ∈ gT := gT_4 (i := 97) rfl rfl
theorem tw_818 : Cond.methodLink "GiantStairLaw" 37 (⟨"GiantStairModel", "step", "(II)I"⟩ : MethodName) ∈ gT := gT_4 (i := 98) rfl rfl
theorem tw_819 : Cond.instanceMethod (⟨"GiantStairModel", "step", "(II)I"⟩ : MethodName) ∈ gT := gT_4 (i := 99) rfl rfl
theorem tw_820 : Cond.selects "GiantStairModel" (⟨"GiantStairModel", "step", "(II)I"⟩ : MethodName) (⟨"GiantStairModel", "step", "(II)I"⟩ : MethodName) ∈ gT := gT_4 (i := 100) rfl rfl
theorem tw_821 : Cond.code (⟨"GiantStairModel", "step", "(II)I"⟩ : MethodName) prog_7_method_18_code 3 (Option.some FieldType.int) ∈ gT := gT_4 (i := 101) rfl rfl
theorem tw_822 : Cond.methodLink "GiantStairLaw" 41 (⟨"GiantStairModel", "one", "(II)I"⟩ : MethodName) ∈ gT := gT_4 (i := 102) rfl rfl
theorem tw_823 : Cond.instanceMethod (⟨"GiantStairModel", "one", "(II)I"⟩ : MethodName) ∈ gT := gT_4 (i := 103) rfl rfl
theorem tw_824 : Cond.selects "GiantStairModel" (⟨"GiantStairModel", "one", "(II)I"⟩ : MethodName) (⟨"GiantStairModel", "one", "(II)I"⟩ : MethodName) ∈ gT := gT_4 (i := 104) rfl rfl
theorem tw_825 : Cond.code (⟨"GiantStairModel", "one", "(II)I"⟩ : MethodName) prog_7_method_21_code 6 (Option.some FieldType.int) ∈ gT := gT_4 (i := 105) rfl rfl
theorem tw_826 : Cond.methodLink "GiantStairModel" 168 (⟨"GiantStairModel", "isOne", "(I)Z"⟩ : MethodName) ∈ gT := gT_4 (i := 106) rfl rfl
theorem tw_828 : Cond.instanceMethod (⟨"GiantStairModel", "isOne", "(I)Z"⟩ : MethodName) ∈ gT := gT_4 (i := 108) rfl rfl
theorem tw_829 : Cond.code (⟨"GiantStairModel", "isOne", "(I)Z"⟩ : MethodName) prog_7_method_5_code 2 (Option.some FieldType.boolean) ∈ gT := gT_4 (i := 109) rfl rfl
theorem tw_830 : Cond.methodLink "GiantStairModel" 171 (⟨"GiantStairModel", "burden", "(I)I"⟩ : MethodName) ∈ gT := gT_4 (i := 110) rfl rfl
theorem tw_832 : Cond.instanceMethod (⟨"GiantStairModel", "burden", "(I)I"⟩ : MethodName) ∈ gT := gT_4 (i := 112) rfl rfl
theorem tw_833 : Cond.code (⟨"GiantStairModel", "burden", "(I)I"⟩ : MethodName) prog_7_method_19_code 2 (Option.some FieldType.int) ∈ gT := gT_4 (i := 113) rfl rfl
theorem tw_834 : Cond.methodLink "GiantStairLaw" 45 (⟨"GiantStairModel", "as", "(II)I"⟩ : MethodName) ∈ gT := gT_4 (i := 114) rfl rfl
theorem tw_835 : Cond.instanceMethod (⟨"GiantStairModel", "as", "(II)I"⟩ : MethodName) ∈ gT := gT_4 (i := 115) rfl rfl
theorem tw_836 : Cond.selects "GiantStairModel" (⟨"GiantStairModel", "as", "(II)I"⟩ : MethodName) (⟨"GiantStairModel", "as", "(II)I"⟩ : MethodName) ∈ gT := gT_4 (i := 116) rfl rfl
theorem tw_837 : Cond.code (⟨"GiantStairModel", "as", "(II)I"⟩ : MethodName) prog_7_method_27_code 5 (Option.some FieldType.int) ∈ gT := gT_4 (i := 117) rfl rfl
theorem tw_838 : Cond.methodLink "GiantStairModel" 197 (⟨"GiantStairModel", "canGo", "([III)Z"⟩ : MethodName) ∈ gT := gT_4 (i := 118) rfl rfl
theorem tw_840 : Cond.instanceMethod (⟨"GiantStairModel", "canGo", "([III)Z"⟩ : MethodName) ∈ gT := gT_4 (i := 120) rfl rfl
theorem tw_841 : Cond.code (⟨"GiantStairModel", "canGo", "([III)Z"⟩ : MethodName) prog_7_method_26_code 6 (Option.some FieldType.boolean) ∈ gT := gT_4 (i := 121) rfl rfl
theorem tw_842 : Cond.methodLink "GiantStairModel" 190 (⟨"GiantStairModel", "helpOf", "([II)I"⟩ : MethodName) ∈ gT := gT_4 (i := 122) rfl rfl
theorem tw_844 : Cond.instanceMethod (⟨"GiantStairModel", "helpOf", "([II)I"⟩ : MethodName) ∈ gT := gT_4 (i := 124) rfl rfl
theorem tw_845 : Cond.code (⟨"GiantStairModel", "helpOf", "([II)I"⟩ : MethodName) prog_7_method_25_code 5 (Option.some FieldType.int) ∈ gT := gT_4 (i := 125) rfl rfl
theorem tw_846 : Cond.methodLink "GiantStairModel" 186 (⟨"GiantStairModel", "canUp", "([IIII)Z"⟩ : MethodName) ∈ gT := gT_4 (i := 126) rfl rfl
theorem tw_848 : Cond.instanceMethod (⟨"GiantStairModel", "canUp", "([IIII)Z"⟩ : MethodName) ∈ gT := gT_4 (i := 128) rfl rfl
theorem tw_849 : Cond.code (⟨"GiantStairModel", "canUp", "([IIII)Z"⟩ : MethodName) prog_7_method_23_code 9 (Option.some FieldType.boolean) ∈ gT := gT_4 (i := 129) rfl rfl
theorem tw_850 : Cond.methodLink "GiantStairModel" 175 (⟨"GiantStairModel", "has", "(II)Z"⟩ : MethodName) ∈ gT := gT_4 (i := 130) rfl rfl
theorem tw_851 : Cond.static (⟨"GiantStairModel", "has", "(II)Z"⟩ : MethodName) ∈ gT := gT_4 (i := 131) rfl rfl
theorem tw_852 : Cond.code (⟨"GiantStairModel", "has", "(II)Z"⟩ : MethodName) prog_7_method_3_code 2 (Option.some FieldType.boolean) ∈ gT := gT_4 (i := 132) rfl rfl
theorem tw_853 : Cond.methodLink "GiantStairModel" 179 (⟨"GiantStairModel", "isThere", "([III)Z"⟩ : MethodName) ∈ gT := gT_4 (i := 133) rfl rfl
theorem tw_855 : Cond.instanceMethod (⟨"GiantStairModel", "isThere", "([III)Z"⟩ : MethodName) ∈ gT := gT_4 (i := 135) rfl rfl
theorem tw_856 : Cond.code (⟨"GiantStairModel", "isThere", "([III)Z"⟩ : MethodName) prog_7_method_22_code 4 (Option.some FieldType.boolean) ∈ gT := gT_4 (i := 136) rfl rfl
theorem tw_857 : Cond.methodLink "GiantStairModel" 183 (⟨"GiantStairModel", "hand", "(I)I"⟩ : MethodName) ∈ gT := gT_4 (i := 137) rfl rfl
theorem tw_859 : Cond.instanceMethod (⟨"GiantStairModel", "hand", "(I)I"⟩ : MethodName) ∈ gT := gT_4 (i := 139) rfl rfl
theorem tw_860 : Cond.code (⟨"GiantStairModel", "hand", "(I)I"⟩ : MethodName) prog_7_method_20_code 2 (Option.some FieldType.int) ∈ gT := gT_4 (i := 140) rfl rfl
theorem tw_861 : Cond.methodLink "GiantStairModel" 194 (⟨"GiantStairModel", "canDown", "([III)Z"⟩ : MethodName) ∈ gT := gT_4 (i := 141) rfl rfl
theorem tw_863 : Cond.instanceMethod (⟨"GiantStairModel", "canDown", "([III)Z"⟩ : MethodName) ∈ gT := gT_4 (i := 143) rfl rfl
theorem tw_864 : Cond.code (⟨"GiantStairModel", "canDown", "([III)Z"⟩ : MethodName) prog_7_method_24_code 6 (Option.some FieldType.boolean) ∈ gT := gT_4 (i := 144) rfl rfl
theorem tw_865 : Cond.methodLink "GiantStairLaw" 50 (⟨"GiantStairModel", "up", "(III)I"⟩ : MethodName) ∈ gT := gT_4 (i := 145) rfl rfl
theorem tw_866 : Cond.instanceMethod (⟨"GiantStairModel", "up", "(III)I"⟩ : MethodName) ∈ gT := gT_4 (i := 146) rfl rfl
theorem tw_867 : Cond.selects "GiantStairModel" (⟨"GiantStairModel", "up", "(III)I"⟩ : MethodName) (⟨"GiantStairModel", "up", "(III)I"⟩ : MethodName) ∈ gT := gT_4 (i := 147) rfl rfl
theorem tw_868 : Cond.code (⟨"GiantStairModel", "up", "(III)I"⟩ : MethodName) prog_7_method_30_code 4 (Option.some FieldType.int) ∈ gT := gT_4 (i := 148) rfl rfl
theorem tw_869 : Cond.methodLink "GiantStairModel" 200 (⟨"GiantStairModel", "isOther", "(II)Z"⟩ : MethodName) ∈ gT := gT_4 (i := 149) rfl rfl
theorem tw_871 : Cond.instanceMethod (⟨"GiantStairModel", "isOther", "(II)Z"⟩ : MethodName) ∈ gT := gT_4 (i := 151) rfl rfl
theorem tw_872 : Cond.code (⟨"GiantStairModel", "isOther", "(II)Z"⟩ : MethodName) prog_7_method_28_code 3 (Option.some FieldType.boolean) ∈ gT := gT_4 (i := 152) rfl rfl
theorem tw_873 : Cond.methodLink "GiantStairModel" 203 (⟨"GiantStairModel", "thank", "(II)V"⟩ : MethodName) ∈ gT := gT_4 (i := 153) rfl rfl
theorem tw_875 : Cond.instanceMethod (⟨"GiantStairModel", "thank", "(II)V"⟩ : MethodName) ∈ gT := gT_4 (i := 155) rfl rfl
theorem tw_876 : Cond.code (⟨"GiantStairModel", "thank", "(II)V"⟩ : MethodName) prog_7_method_29_code 3 (Option.none : Option FieldType) ∈ gT := gT_4 (i := 156) rfl rfl
theorem tw_877 : Cond.methodLink "GiantStairLaw" 54 (⟨"GiantStairModel", "down", "(II)I"⟩ : MethodName) ∈ gT := gT_4 (i := 157) rfl rfl
theorem tw_878 : Cond.instanceMethod (⟨"GiantStairModel", "down", "(II)I"⟩ : MethodName) ∈ gT := gT_4 (i := 158) rfl rfl
theorem tw_879 : Cond.selects "GiantStairModel" (⟨"GiantStairModel", "down", "(II)I"⟩ : MethodName) (⟨"GiantStairModel", "down", "(II)I"⟩ : MethodName) ∈ gT := gT_4 (i := 159) rfl rfl
theorem tw_880 : Cond.code (⟨"GiantStairModel", "down", "(II)I"⟩ : MethodName) prog_7_method_31_code 3 (Option.some FieldType.int) ∈ gT := gT_4 (i := 160) rfl rfl
theorem tw_881 : Cond.methodLink "GiantStairLaw" 58 (⟨"GiantStairModel", "helped", "(II)I"⟩ : MethodName) ∈ gT := gT_4 (i := 161) rfl rfl
theorem tw_882 : Cond.instanceMethod (⟨"GiantStairModel", "helped", "(II)I"⟩ : MethodName) ∈ gT := gT_4 (i := 162) rfl rfl
theorem tw_883 : Cond.selects "GiantStairModel" (⟨"GiantStairModel", "helped", "(II)I"⟩ : MethodName) (⟨"GiantStairModel", "helped", "(II)I"⟩ : MethodName) ∈ gT := gT_4 (i := 163) rfl rfl
theorem tw_884 : Cond.code (⟨"GiantStairModel", "helped", "(II)I"⟩ : MethodName) prog_7_method_32_code 3 (Option.some FieldType.int) ∈ gT := gT_4 (i := 164) rfl rfl
theorem tw_885 : Cond.methodLink "GiantStairLaw" 63 (⟨"GiantStairModel", "keep", "(I)I"⟩ : MethodName) ∈ gT := gT_4 (i := 165) rfl rfl
theorem tw_886 : Cond.instanceMethod (⟨"GiantStairModel", "keep", "(I)I"⟩ : MethodName) ∈ gT := gT_4 (i := 166) rfl rfl
theorem tw_887 : Cond.selects "GiantStairModel" (⟨"GiantStairModel", "keep", "(I)I"⟩ : MethodName) (⟨"GiantStairModel", "keep", "(I)I"⟩ : MethodName) ∈ gT := gT_4 (i := 167) rfl rfl
theorem tw_888 : Cond.code (⟨"GiantStairModel", "keep", "(I)I"⟩ : MethodName) prog_7_method_33_code 3 (Option.some FieldType.int) ∈ gT := gT_4 (i := 168) rfl rfl
theorem tw_889 : Cond.methodLink "GiantStairLaw" 67 (⟨"GiantStairModel", "back", "(I)I"⟩ : MethodName) ∈ gT := gT_4 (i := 169) rfl rfl
theorem tw_890 : Cond.instanceMethod (⟨"GiantStairModel", "back", "(I)I"⟩ : MethodName) ∈ gT := gT_4 (i := 170) rfl rfl
theorem tw_891 : Cond.selects "GiantStairModel" (⟨"GiantStairModel", "back", "(I)I"⟩ : MethodName) (⟨"GiantStairModel", "back", "(I)I"⟩ : MethodName) ∈ gT := gT_4 (i := 171) rfl rfl
theorem tw_892 : Cond.code (⟨"GiantStairModel", "back", "(I)I"⟩ : MethodName) prog_7_method_34_code 3 (Option.some FieldType.int) ∈ gT := gT_4 (i := 172) rfl rfl
theorem tw_893 : Cond.methodLink "GiantStairLaw" 71 (⟨"GiantStairModel", "help", "(II)I"⟩ : MethodName) ∈ gT := gT_4 (i := 173) rfl rfl
theorem tw_894 : Cond.instanceMethod (⟨"GiantStairModel", "help", "(II)I"⟩ : MethodName) ∈ gT := gT_4 (i := 174) rfl rfl
theorem tw_895 : Cond.selects "GiantStairModel" (⟨"GiantStairModel", "help", "(II)I"⟩ : MethodName) (⟨"GiantStairModel", "help", "(II)I"⟩ : MethodName) ∈ gT := gT_4 (i := 175) rfl rfl
theorem tw_896 : Cond.code (⟨"GiantStairModel", "help", "(II)I"⟩ : MethodName) prog_7_method_35_code 4 (Option.some FieldType.int) ∈ gT := gT_4 (i := 176) rfl rfl
theorem tw_897 : Cond.methodLink "GiantStairLaw" 75 (⟨"GiantStairModel", "soonest", "()I"⟩ : MethodName) ∈ gT := gT_4 (i := 177) rfl rfl
theorem tw_898 : Cond.instanceMethod (⟨"GiantStairModel", "soonest", "()I"⟩ : MethodName) ∈ gT := gT_4 (i := 178) rfl rfl
theorem tw_899 : Cond.selects "GiantStairModel" (⟨"GiantStairModel", "soonest", "()I"⟩ : MethodName) (⟨"GiantStairModel", "soonest", "()I"⟩ : MethodName) ∈ gT := gT_4 (i := 179) rfl rfl
theorem tw_900 : Cond.code (⟨"GiantStairModel", "soonest", "()I"⟩ : MethodName) prog_7_method_42_code 1 (Option.some FieldType.int) ∈ gT := gT_4 (i := 180) rfl rfl
theorem tw_901 : Cond.methodLink "GiantStairModel" 228 (⟨"GiantStairModel", "soonestOf", "()I"⟩ : MethodName) ∈ gT := gT_4 (i := 181) rfl rfl
theorem tw_903 : Cond.instanceMethod (⟨"GiantStairModel", "soonestOf", "()I"⟩ : MethodName) ∈ gT := gT_4 (i := 183) rfl rfl
theorem tw_904 : Cond.code (⟨"GiantStairModel", "soonestOf", "()I"⟩ : MethodName) prog_7_method_41_code 2 (Option.some FieldType.int) ∈ gT := gT_4 (i := 184) rfl rfl
theorem tw_905 : Cond.methodLink "GiantStairModel" 221 (⟨"GiantStairModel", "layLine", "()V"⟩ : MethodName) ∈ gT := gT_4 (i := 185) rfl rfl
theorem tw_907 : Cond.instanceMethod (⟨"GiantStairModel", "layLine", "()V"⟩ : MethodName) ∈ gT := gT_4 (i := 187) rfl rfl
theorem tw_908 : Cond.code (⟨"GiantStairModel", "layLine", "()V"⟩ : MethodName) prog_7_method_38_code 6 (Option.none : Option FieldType) ∈ gT := gT_4 (i := 188) rfl rfl
theorem tw_909 : Cond.methodLink "GiantStairModel" 207 (⟨"GiantStairModel", "codeOf", "([I)I"⟩ : MethodName) ∈ gT := gT_4 (i := 189) rfl rfl
theorem tw_911 : Cond.instanceMethod (⟨"GiantStairModel", "codeOf", "([I)I"⟩ : MethodName) ∈ gT := gT_4 (i := 191) rfl rfl
theorem tw_912 : Cond.code (⟨"GiantStairModel", "codeOf", "([I)I"⟩ : MethodName) prog_7_method_36_code 4 (Option.some FieldType.int) ∈ gT := gT_4 (i := 192) rfl rfl
theorem tw_913 : Cond.methodLink "GiantStairModel" 214 (⟨"GiantStairModel", "place", "(I)V"⟩ : MethodName) ∈ gT := gT_4 (i := 193) rfl rfl
theorem tw_915 : Cond.instanceMethod (⟨"GiantStairModel", "place", "(I)V"⟩ : MethodName) ∈ gT := gT_4 (i := 195) rfl rfl
theorem tw_916 : Cond.code (⟨"GiantStairModel", "place", "(I)V"⟩ : MethodName) prog_7_method_37_code 4 (Option.none : Option FieldType) ∈ gT := gT_4 (i := 196) rfl rfl
theorem tw_917 : Cond.methodLink "GiantStairModel" 224 (⟨"GiantStairModel", "firstUp", "()I"⟩ : MethodName) ∈ gT := gT_4 (i := 197) rfl rfl
theorem tw_919 : Cond.instanceMethod (⟨"GiantStairModel", "firstUp", "()I"⟩ : MethodName) ∈ gT := gT_4 (i := 199) rfl rfl
theorem tw_920 : Cond.code (⟨"GiantStairModel", "firstUp", "()I"⟩ : MethodName) prog_7_method_40_code 2 (Option.some FieldType.int) ∈ gT := gT_4 (i := 200) rfl rfl
theorem tw_921 : Cond.methodLink "GiantStairModel" 217 (⟨"GiantStairModel", "areUp", "([I)Z"⟩ : MethodName) ∈ gT := gT_4 (i := 201) rfl rfl
theorem tw_923 : Cond.instanceMethod (⟨"GiantStairModel", "areUp", "([I)Z"⟩ : MethodName) ∈ gT := gT_4 (i := 203) rfl rfl
theorem tw_924 : Cond.code (⟨"GiantStairModel", "areUp", "([I)Z"⟩ : MethodName) prog_7_method_39_code 4 (Option.some FieldType.boolean) ∈ gT := gT_4 (i := 204) rfl rfl
theorem tw_925 : Cond.methodLink "GiantStairLaw" 79 (⟨"GiantStairModel", "way", "(II)I"⟩ : MethodName) ∈ gT := gT_4 (i := 205) rfl rfl
theorem tw_926 : Cond.instanceMethod (⟨"GiantStairModel", "way", "(II)I"⟩ : MethodName) ∈ gT := gT_4 (i := 206) rfl rfl
theorem tw_927 : Cond.selects "GiantStairModel" (⟨"GiantStairModel", "way", "(II)I"⟩ : MethodName) (⟨"GiantStairModel", "way", "(II)I"⟩ : MethodName) ∈ gT := gT_4 (i := 207) rfl rfl
theorem tw_928 : Cond.code (⟨"GiantStairModel", "way", "(II)I"⟩ : MethodName) prog_7_method_43_code 4 (Option.some FieldType.int) ∈ gT := gT_4 (i := 208) rfl rfl
theorem tw_929 : Cond.methodLink "GiantStairLaw" 83 (⟨"GiantStairModel", "lasts", "()I"⟩ : MethodName) ∈ gT := gT_4 (i := 209) rfl rfl
theorem tw_930 : Cond.instanceMethod (⟨"GiantStairModel", "lasts", "()I"⟩ : MethodName) ∈ gT := gT_4 (i := 210) rfl rfl
theorem tw_931 : Cond.selects "GiantStairModel" (⟨"GiantStairModel", "lasts", "()I"⟩ : MethodName) (⟨"GiantStairModel", "lasts", "()I"⟩ : MethodName) ∈ gT := gT_4 (i := 211) rfl rfl
theorem tw_932 : Cond.code (⟨"GiantStairModel", "lasts", "()I"⟩ : MethodName) prog_7_method_44_code 6 (Option.some FieldType.int) ∈ gT := gT_4 (i := 212) rfl rfl
theorem tw_933 : Cond.methodLink "GiantStairLaw" 87 (⟨"GiantStairModel", "most", "(I)I"⟩ : MethodName) ∈ gT := gT_4 (i := 213) rfl rfl
theorem tw_934 : Cond.instanceMethod (⟨"GiantStairModel", "most", "(I)I"⟩ : MethodName) ∈ gT := gT_4 (i := 214) rfl rfl
theorem tw_935 : Cond.selects "GiantStairModel" (⟨"GiantStairModel", "most", "(I)I"⟩ : MethodName) (⟨"GiantStairModel", "most", "(I)I"⟩ : MethodName) ∈ gT := gT_4 (i := 215) rfl rfl
theorem tw_936 : Cond.code (⟨"GiantStairModel", "most", "(I)I"⟩ : MethodName) prog_7_method_45_code 7 (Option.some FieldType.int) ∈ gT := gT_4 (i := 216) rfl rfl
theorem tw_937 : Cond.methodLink "GiantStairModel" 231 (⟨"GiantStairModel", "bits", "(I)I"⟩ : MethodName) ∈ gT := gT_4 (i := 217) rfl rfl
theorem tw_938 : Cond.static (⟨"GiantStairModel", "bits", "(I)I"⟩ : MethodName) ∈ gT := gT_4 (i := 218) rfl rfl
theorem tw_939 : Cond.code (⟨"GiantStairModel", "bits", "(I)I"⟩ : MethodName) prog_7_method_4_code 3 (Option.some FieldType.int) ∈ gT := gT_4 (i := 219) rfl rfl
theorem tw_940 : Cond.methodLink "GiantStairLaw" 91 (⟨"GiantStairModel", "soon", "(I)I"⟩ : MethodName) ∈ gT := gT_4 (i := 220) rfl rfl
theorem tw_941 : Cond.instanceMethod (⟨"GiantStairModel", "soon", "(I)I"⟩ : MethodName) ∈ gT := gT_4 (i := 221) rfl rfl
theorem tw_942 : Cond.selects "GiantStairModel" (⟨"GiantStairModel", "soon", "(I)I"⟩ : MethodName) (⟨"GiantStairModel", "soon", "(I)I"⟩ : MethodName) ∈ gT := gT_4 (i := 222) rfl rfl
theorem tw_943 : Cond.code (⟨"GiantStairModel", "soon", "(I)I"⟩ : MethodName) prog_7_method_46_code 3 (Option.some FieldType.int) ∈ gT := gT_4 (i := 223) rfl rfl
theorem tw_944 : Cond.methodLink "GiantStairLaw" 95 (⟨"GiantStairModel", "many", "(I)I"⟩ : MethodName) ∈ gT := gT_4 (i := 224) rfl rfl
theorem tw_945 : Cond.instanceMethod (⟨"GiantStairModel", "many", "(I)I"⟩ : MethodName) ∈ gT := gT_4 (i := 225) rfl rfl
theorem tw_946 : Cond.selects "GiantStairModel" (⟨"GiantStairModel", "many", "(I)I"⟩ : MethodName) (⟨"GiantStairModel", "many", "(I)I"⟩ : MethodName) ∈ gT := gT_4 (i := 226) rfl rfl
theorem tw_947 : Cond.code (⟨"GiantStairModel", "many", "(I)I"⟩ : MethodName) prog_7_method_47_code 4 (Option.some FieldType.int) ∈ gT := gT_4 (i := 227) rfl rfl
theorem tw_948 : Cond.methodLink "GiantStairLaw" 99 (⟨"GiantStairModel", "roped", "(I)I"⟩ : MethodName) ∈ gT := gT_4 (i := 228) rfl rfl
theorem tw_949 : Cond.instanceMethod (⟨"GiantStairModel", "roped", "(I)I"⟩ : MethodName) ∈ gT := gT_4 (i := 229) rfl rfl
theorem tw_950 : Cond.selects "GiantStairModel" (⟨"GiantStairModel", "roped", "(I)I"⟩ : MethodName) (⟨"GiantStairModel", "roped", "(I)I"⟩ : MethodName) ∈ gT := gT_4 (i := 230) rfl rfl
theorem tw_951 : Cond.code (⟨"GiantStairModel", "roped", "(I)I"⟩ : MethodName) prog_7_method_48_code 8 (Option.some FieldType.int) ∈ gT := gT_4 (i := 231) rfl rfl
theorem tw_952 : Cond.methodLink "GiantStairLaw" 103 (⟨"GiantStairModel", "odds", "(II)I"⟩ : MethodName) ∈ gT := gT_4 (i := 232) rfl rfl
theorem tw_953 : Cond.instanceMethod (⟨"GiantStairModel", "odds", "(II)I"⟩ : MethodName) ∈ gT := gT_4 (i := 233) rfl rfl
theorem tw_954 : Cond.selects "GiantStairModel" (⟨"GiantStairModel", "odds", "(II)I"⟩ : MethodName) (⟨"GiantStairModel", "odds", "(II)I"⟩ : MethodName) ∈ gT := gT_4 (i := 234) rfl rfl
theorem tw_955 : Cond.code (⟨"GiantStairModel", "odds", "(II)I"⟩ : MethodName) prog_7_method_49_code 8 (Option.some FieldType.int) ∈ gT := gT_4 (i := 235) rfl rfl
theorem tw_956 : Cond.methodLink "GiantStairLaw" 107 (⟨"GiantStairModel", "row", "(II)I"⟩ : MethodName) ∈ gT := gT_4 (i := 236) rfl rfl
theorem tw_957 : Cond.instanceMethod (⟨"GiantStairModel", "row", "(II)I"⟩ : MethodName) ∈ gT := gT_4 (i := 237) rfl rfl
theorem tw_958 : Cond.selects "GiantStairModel" (⟨"GiantStairModel", "row", "(II)I"⟩ : MethodName) (⟨"GiantStairModel", "row", "(II)I"⟩ : MethodName) ∈ gT := gT_4 (i := 238) rfl rfl
theorem tw_959 : Cond.code (⟨"GiantStairModel", "row", "(II)I"⟩ : MethodName) prog_7_method_50_code 3 (Option.some FieldType.int) ∈ gT := gT_4 (i := 239) rfl rfl
theorem tw_960 : Cond.methodLink "GiantStairLaw" 111 (⟨"GiantStairModel", "burn", "()I"⟩ : MethodName) ∈ gT := gT_5 (i := 0) rfl rfl
theorem tw_961 : Cond.instanceMethod (⟨"GiantStairModel", "burn", "()I"⟩ : MethodName) ∈ gT := gT_5 (i := 1) rfl rfl
theorem tw_962 : Cond.selects "GiantStairModel" (⟨"GiantStairModel", "burn", "()I"⟩ : MethodName) (⟨"GiantStairModel", "burn", "()I"⟩ : MethodName) ∈ gT := gT_5 (i := 2) rfl rfl
theorem tw_963 : Cond.code (⟨"GiantStairModel", "burn", "()I"⟩ : MethodName) prog_7_method_51_code 2 (Option.some FieldType.int) ∈ gT := gT_5 (i := 3) rfl rfl
theorem tw_964 : Cond.methodLink "GiantStairLaw" 115 (⟨"GiantStairModel", "judge", "()I"⟩ : MethodName) ∈ gT := gT_5 (i := 4) rfl rfl
theorem tw_965 : Cond.instanceMethod (⟨"GiantStairModel", "judge", "()I"⟩ : MethodName) ∈ gT := gT_5 (i := 5) rfl rfl
theorem tw_966 : Cond.selects "GiantStairModel" (⟨"GiantStairModel", "judge", "()I"⟩ : MethodName) (⟨"GiantStairModel", "judge", "()I"⟩ : MethodName) ∈ gT := gT_5 (i := 6) rfl rfl
theorem tw_967 : Cond.code (⟨"GiantStairModel", "judge", "()I"⟩ : MethodName) prog_7_method_52_code 3 (Option.some FieldType.int) ∈ gT := gT_5 (i := 7) rfl rfl
theorem tw_968 : Cond.methodLink "GiantStairLaw" 119 (⟨"GiantStairModel", "count", "(I)I"⟩ : MethodName) ∈ gT := gT_5 (i := 8) rfl rfl
theorem tw_969 : Cond.instanceMethod (⟨"GiantStairModel", "count", "(I)I"⟩ : MethodName) ∈ gT := gT_5 (i := 9) rfl rfl
theorem tw_970 : Cond.selects "GiantStairModel" (⟨"GiantStairModel", "count", "(I)I"⟩ : MethodName) (⟨"GiantStairModel", "count", "(I)I"⟩ : MethodName) ∈ gT := gT_5 (i := 10) rfl rfl
theorem tw_971 : Cond.code (⟨"GiantStairModel", "count", "(I)I"⟩ : MethodName) prog_7_method_53_code 5 (Option.some FieldType.int) ∈ gT := gT_5 (i := 11) rfl rfl
theorem tw_972 : Cond.constantLong "GiantStairLaw" 13 (4294967295 : Int64) ∈ gT := gT_5 (i := 12) rfl rfl
theorem tw_973 : Cond.fieldLink "java/lang/String" 9 "java/lang/String" "value" "[B" ∈ gT := gT_5 (i := 13) rfl rfl
theorem tw_974 : Cond.fieldLink "java/lang/String" 15 "java/lang/String" "coder" "B" ∈ gT := gT_5 (i := 14) rfl rfl
theorem sl_0 : Cond.selects "GiantStair$Told" (⟨"GiantStair$Told", "build", "(I)V"⟩ : MethodName) (⟨"GiantStair$Told", "build", "(I)V"⟩ : MethodName) ∈ gT := gT_0 (i := 0) rfl rfl
theorem sl_1 : Cond.selects "GiantStair$Told" (⟨"GiantStair$Told", "copyStair", "(LGiantStair$Told;)V"⟩ : MethodName) (⟨"GiantStair$Told", "copyStair", "(LGiantStair$Told;)V"⟩ : MethodName) ∈ gT := gT_0 (i := 1) rfl rfl
theorem sl_2 : Cond.selects "GiantStair$Text" (⟨"GiantStair$Text", "readLine", "(LGiantStair$Told;)I"⟩ : MethodName) (⟨"GiantStair$Text", "readLine", "(LGiantStair$Told;)I"⟩ : MethodName) ∈ gT := gT_0 (i := 2) rfl rfl
theorem sl_3 : Cond.selects "GiantStair$Text" (⟨"GiantStair$Text", "skipBlanks", "()V"⟩ : MethodName) (⟨"GiantStair$Text", "skipBlanks", "()V"⟩ : MethodName) ∈ gT := gT_0 (i := 3) rfl rfl
theorem sl_4 : Cond.selects "GiantStair$Text" (⟨"GiantStair$Text", "sign", "()I"⟩ : MethodName) (⟨"GiantStair$Text", "sign", "()I"⟩ : MethodName) ∈ gT := gT_0 (i := 4) rfl rfl
theorem sl_5 : Cond.selects "GiantStair$Text" (⟨"GiantStair$Text", "readWord", "()I"⟩ : MethodName) (⟨"GiantStair$Text", "readWord", "()I"⟩ : MethodName) ∈ gT := gT_0 (i := 5) rfl rfl
theorem sl_6 : Cond.selects "GiantStair$Text" (⟨"GiantStair$Text", "spells", "(ILjava/lang/String;)Z"⟩ : MethodName) (⟨"GiantStair$Text", "spells", "(ILjava/lang/String;)Z"⟩ : MethodName) ∈ gT := gT_0 (i := 6) rfl rfl
theorem sl_7 : Cond.selects "GiantStair$Text" (⟨"GiantStair$Text", "readNumber", "()I"⟩ : MethodName) (⟨"GiantStair$Text", "readNumber", "()I"⟩ : MethodName) ∈ gT := gT_0 (i := 7) rfl rfl
theorem sl_8 : Cond.selects "GiantStair$Told" (⟨"GiantStair$Told", "isStep", "(I)Z"⟩ : MethodName) (⟨"GiantStair$Told", "isStep", "(I)Z"⟩ : MethodName) ∈ gT := gT_0 (i := 8) rfl rfl
theorem sl_9 : Cond.selects "GiantStair" (⟨"GiantStair", "beginAnew", "()V"⟩ : MethodName) (⟨"GiantStair", "beginAnew", "()V"⟩ : MethodName) ∈ gT := gT_0 (i := 9) rfl rfl
theorem sl_10 : Cond.selects "GiantStair$Told" (⟨"GiantStair$Told", "risesAlone", "(II)Z"⟩ : MethodName) (⟨"GiantStair$Told", "risesAlone", "(II)Z"⟩ : MethodName) ∈ gT := gT_0 (i := 10) rfl rfl
theorem sl_11 : Cond.selects "GiantStair$Told" (⟨"GiantStair$Told", "standsFor", "(III[I)Z"⟩ : MethodName) (⟨"GiantStair$Told", "standsFor", "(III[I)Z"⟩ : MethodName) ∈ gT := gT_0 (i := 11) rfl rfl
theorem sl_12 : Cond.selects "GiantStair$Told" (⟨"GiantStair$Told", "standsAt", "(III[I)Z"⟩ : MethodName) (⟨"GiantStair$Told", "standsAt", "(III[I)Z"⟩ : MethodName) ∈ gT := gT_0 (i := 12) rfl rfl
theorem sl_13 : Cond.selects "GiantStair$Told" (⟨"GiantStair$Told", "bringUp", "(IIII)Z"⟩ : MethodName) (⟨"GiantStair$Told", "bringUp", "(IIII)Z"⟩ : MethodName) ∈ gT := gT_0 (i := 13) rfl rfl
theorem sl_14 : Cond.selects "GiantStair$Told" (⟨"GiantStair$Told", "hand", "(I)I"⟩ : MethodName) (⟨"GiantStair$Told", "hand", "(I)I"⟩ : MethodName) ∈ gT := gT_0 (i := 14) rfl rfl
theorem sl_15 : Cond.selects "GiantStair$Told" (⟨"GiantStair$Told", "tallness", "(I)I"⟩ : MethodName) (⟨"GiantStair$Told", "tallness", "(I)I"⟩ : MethodName) ∈ gT := gT_0 (i := 15) rfl rfl
theorem sl_16 : Cond.selects "GiantStair$Told" (⟨"GiantStair$Told", "sinksAlone", "(II)Z"⟩ : MethodName) (⟨"GiantStair$Told", "sinksAlone", "(II)Z"⟩ : MethodName) ∈ gT := gT_0 (i := 16) rfl rfl
theorem sl_17 : Cond.selects "GiantStair$Told" (⟨"GiantStair$Told", "catches", "(II[I)Z"⟩ : MethodName) (⟨"GiantStair$Told", "catches", "(II[I)Z"⟩ : MethodName) ∈ gT := gT_0 (i := 17) rfl rfl
theorem sl_18 : Cond.selects "GiantStair" (⟨"GiantStair", "mayBeAsked", "(II)Z"⟩ : MethodName) (⟨"GiantStair", "mayBeAsked", "(II)Z"⟩ : MethodName) ∈ gT := gT_0 (i := 18) rfl rfl
theorem sl_19 : Cond.selects "GiantStair" (⟨"GiantStair", "go", "(II)I"⟩ : MethodName) (⟨"GiantStair", "go", "(II)I"⟩ : MethodName) ∈ gT := gT_0 (i := 19) rfl rfl
theorem sl_20 : Cond.selects "GiantStair" (⟨"GiantStair", "foresee", "()V"⟩ : MethodName) (⟨"GiantStair", "foresee", "()V"⟩ : MethodName) ∈ gT := gT_0 (i := 20) rfl rfl
theorem sl_21 : Cond.selects "GiantStair$Search" (⟨"GiantStair$Search", "begin", "(LGiantStair$Told;[I)V"⟩ : MethodName) (⟨"GiantStair$Search", "begin", "(LGiantStair$Told;[I)V"⟩ : MethodName) ∈ gT := gT_0 (i := 21) rfl rfl
theorem sl_22 : Cond.selects "GiantStair$Search" (⟨"GiantStair$Search", "forget", "()V"⟩ : MethodName) (⟨"GiantStair$Search", "forget", "()V"⟩ : MethodName) ∈ gT := gT_0 (i := 22) rfl rfl
theorem sl_23 : Cond.selects "GiantStair$Search" (⟨"GiantStair$Search", "reach", "(III)V"⟩ : MethodName) (⟨"GiantStair$Search", "reach", "(III)V"⟩ : MethodName) ∈ gT := gT_0 (i := 23) rfl rfl
theorem sl_24 : Cond.selects "GiantStair$Search" (⟨"GiantStair$Search", "isNew", "(I)Z"⟩ : MethodName) (⟨"GiantStair$Search", "isNew", "(I)Z"⟩ : MethodName) ∈ gT := gT_0 (i := 24) rfl rfl
theorem sl_25 : Cond.selects "GiantStair$Search" (⟨"GiantStair$Search", "awayOf", "(I)I"⟩ : MethodName) (⟨"GiantStair$Search", "awayOf", "(I)I"⟩ : MethodName) ∈ gT := gT_0 (i := 25) rfl rfl
theorem sl_26 : Cond.selects "GiantStair$Search" (⟨"GiantStair$Search", "unfold", "(I)V"⟩ : MethodName) (⟨"GiantStair$Search", "unfold", "(I)V"⟩ : MethodName) ∈ gT := gT_0 (i := 26) rfl rfl
theorem sl_27 : Cond.selects "GiantStair$Search" (⟨"GiantStair$Search", "positionBehind", "(I)I"⟩ : MethodName) (⟨"GiantStair$Search", "positionBehind", "(I)I"⟩ : MethodName) ∈ gT := gT_0 (i := 27) rfl rfl
theorem sl_28 : Cond.selects "GiantStair$Search" (⟨"GiantStair$Search", "aheadOf", "(I)I"⟩ : MethodName) (⟨"GiantStair$Search", "aheadOf", "(I)I"⟩ : MethodName) ∈ gT := gT_0 (i := 28) rfl rfl
theorem sl_29 : Cond.selects "GiantStair" (⟨"GiantStair", "chanceOf", "(II)I"⟩ : MethodName) (⟨"GiantStair", "chanceOf", "(II)I"⟩ : MethodName) ∈ gT := gT_0 (i := 29) rfl rfl
theorem sl_30 : Cond.selects "GiantStair" (⟨"GiantStair", "canAllBeUp", "(I)Z"⟩ : MethodName) (⟨"GiantStair", "canAllBeUp", "(I)Z"⟩ : MethodName) ∈ gT := gT_0 (i := 30) rfl rfl
theorem sl_31 : Cond.selects "GiantStairModel" (⟨"GiantStairModel", "plain", "(I)V"⟩ : MethodName) (⟨"GiantStairModel", "plain", "(I)V"⟩ : MethodName) ∈ gT := gT_0 (i := 31) rfl rfl
theorem sl_32 : Cond.selects "GiantStairModel" (⟨"GiantStairModel", "isRead", "()Z"⟩ : MethodName) (⟨"GiantStairModel", "isRead", "()Z"⟩ : MethodName) ∈ gT := gT_0 (i := 32) rfl rfl
theorem sl_33 : Cond.selects "GiantStairModel" (⟨"GiantStairModel", "isLine", "(I)Z"⟩ : MethodName) (⟨"GiantStairModel", "isLine", "(I)Z"⟩ : MethodName) ∈ gT := gT_0 (i := 33) rfl rfl
theorem sl_34 : Cond.selects "GiantStairModel" (⟨"GiantStairModel", "nextToken", "()V"⟩ : MethodName) (⟨"GiantStairModel", "nextToken", "()V"⟩ : MethodName) ∈ gT := gT_0 (i := 34) rfl rfl
theorem sl_35 : Cond.selects "GiantStairModel" (⟨"GiantStairModel", "isOneLine", "(I)Z"⟩ : MethodName) (⟨"GiantStairModel", "isOneLine", "(I)Z"⟩ : MethodName) ∈ gT := gT_0 (i := 35) rfl rfl
theorem sl_36 : Cond.selects "GiantStairModel" (⟨"GiantStairModel", "fails", "()Z"⟩ : MethodName) (⟨"GiantStairModel", "fails", "()Z"⟩ : MethodName) ∈ gT := gT_0 (i := 36) rfl rfl
theorem sl_37 : Cond.selects "GiantStairModel" (⟨"GiantStairModel", "isNumber", "(III)Z"⟩ : MethodName) (⟨"GiantStairModel", "isNumber", "(III)Z"⟩ : MethodName) ∈ gT := gT_0 (i := 37) rfl rfl
theorem sl_38 : Cond.selects "GiantStairModel" (⟨"GiantStairModel", "doLine", "(I)V"⟩ : MethodName) (⟨"GiantStairModel", "doLine", "(I)V"⟩ : MethodName) ∈ gT := gT_0 (i := 38) rfl rfl
theorem sl_39 : Cond.selects "GiantStairModel" (⟨"GiantStairModel", "isOne", "(I)Z"⟩ : MethodName) (⟨"GiantStairModel", "isOne", "(I)Z"⟩ : MethodName) ∈ gT := gT_0 (i := 39) rfl rfl
theorem sl_40 : Cond.selects "GiantStairModel" (⟨"GiantStairModel", "burden", "(I)I"⟩ : MethodName) (⟨"GiantStairModel", "burden", "(I)I"⟩ : MethodName) ∈ gT := gT_0 (i := 40) rfl rfl
theorem sl_41 : Cond.selects "GiantStairModel" (⟨"GiantStairModel", "canGo", "([III)Z"⟩ : MethodName) (⟨"GiantStairModel", "canGo", "([III)Z"⟩ : MethodName) ∈ gT := gT_0 (i := 41) rfl rfl
theorem sl_42 : Cond.selects "GiantStairModel" (⟨"GiantStairModel", "helpOf", "([II)I"⟩ : MethodName) (⟨"GiantStairModel", "helpOf", "([II)I"⟩ : MethodName) ∈ gT := gT_0 (i := 42) rfl rfl
theorem sl_43 : Cond.selects "GiantStairModel" (⟨"GiantStairModel", "canUp", "([IIII)Z"⟩ : MethodName) (⟨"GiantStairModel", "canUp", "([IIII)Z"⟩ : MethodName) ∈ gT := gT_0 (i := 43) rfl rfl
theorem sl_44 : Cond.selects "GiantStairModel" (⟨"GiantStairModel", "isThere", "([III)Z"⟩ : MethodName) (⟨"GiantStairModel", "isThere", "([III)Z"⟩ : MethodName) ∈ gT := gT_0 (i := 44) rfl rfl
theorem sl_45 : Cond.selects "GiantStairModel" (⟨"GiantStairModel", "hand", "(I)I"⟩ : MethodName) (⟨"GiantStairModel", "hand", "(I)I"⟩ : MethodName) ∈ gT := gT_0 (i := 45) rfl rfl
theorem sl_46 : Cond.selects "GiantStairModel" (⟨"GiantStairModel", "canDown", "([III)Z"⟩ : MethodName) (⟨"GiantStairModel", "canDown", "([III)Z"⟩ : MethodName) ∈ gT := gT_0 (i := 46) rfl rfl
theorem sl_47 : Cond.selects "GiantStairModel" (⟨"GiantStairModel", "isOther", "(II)Z"⟩ : MethodName) (⟨"GiantStairModel", "isOther", "(II)Z"⟩ : MethodName) ∈ gT := gT_0 (i := 47) rfl rfl
theorem sl_48 : Cond.selects "GiantStairModel" (⟨"GiantStairModel", "thank", "(II)V"⟩ : MethodName) (⟨"GiantStairModel", "thank", "(II)V"⟩ : MethodName) ∈ gT := gT_0 (i := 48) rfl rfl
theorem sl_49 : Cond.selects "GiantStairModel" (⟨"GiantStairModel", "soonestOf", "()I"⟩ : MethodName) (⟨"GiantStairModel", "soonestOf", "()I"⟩ : MethodName) ∈ gT := gT_0 (i := 49) rfl rfl
theorem sl_50 : Cond.selects "GiantStairModel" (⟨"GiantStairModel", "layLine", "()V"⟩ : MethodName) (⟨"GiantStairModel", "layLine", "()V"⟩ : MethodName) ∈ gT := gT_0 (i := 50) rfl rfl
theorem sl_51 : Cond.selects "GiantStairModel" (⟨"GiantStairModel", "codeOf", "([I)I"⟩ : MethodName) (⟨"GiantStairModel", "codeOf", "([I)I"⟩ : MethodName) ∈ gT := gT_0 (i := 51) rfl rfl
theorem sl_52 : Cond.selects "GiantStairModel" (⟨"GiantStairModel", "place", "(I)V"⟩ : MethodName) (⟨"GiantStairModel", "place", "(I)V"⟩ : MethodName) ∈ gT := gT_0 (i := 52) rfl rfl
theorem sl_53 : Cond.selects "GiantStairModel" (⟨"GiantStairModel", "firstUp", "()I"⟩ : MethodName) (⟨"GiantStairModel", "firstUp", "()I"⟩ : MethodName) ∈ gT := gT_0 (i := 53) rfl rfl
theorem sl_54 : Cond.selects "GiantStairModel" (⟨"GiantStairModel", "areUp", "([I)Z"⟩ : MethodName) (⟨"GiantStairModel", "areUp", "([I)Z"⟩ : MethodName) ∈ gT := gT_0 (i := 54) rfl rfl
theorem in_X0 : ∀ w ∈ u_ws "GiantStair$Journey" TX0 4, w ∈ gT := List.forall_mem_cons.mpr ⟨tw_113, List.forall_mem_cons.mpr ⟨tw_115, List.forall_mem_cons.mpr ⟨tw_117, List.forall_mem_cons.mpr ⟨tw_119, fun _ h => absurd h List.not_mem_nil⟩⟩⟩⟩
theorem in_X1 : ∀ w ∈ u_ws "GiantStair$Search" TX1 6, w ∈ gT := List.forall_mem_cons.mpr ⟨tw_138, List.forall_mem_cons.mpr ⟨tw_140, List.forall_mem_cons.mpr ⟨tw_142, List.forall_mem_cons.mpr ⟨tw_144, List.forall_mem_cons.mpr ⟨tw_146, List.forall_mem_cons.mpr ⟨tw_148, fun _ h => absurd h List.not_mem_nil⟩⟩⟩⟩⟩⟩
theorem in_X2 : ∀ w ∈ u_ws "GiantStair$Text" TX2 5, w ∈ gT := List.forall_mem_cons.mpr ⟨tw_90, List.forall_mem_cons.mpr ⟨tw_92, List.forall_mem_cons.mpr ⟨tw_94, List.forall_mem_cons.mpr ⟨tw_96, List.forall_mem_cons.mpr ⟨tw_98, fun _ h => absurd h List.not_mem_nil⟩⟩⟩⟩⟩
theorem in_X3 : ∀ w ∈ u_ws "GiantStair$Told" TX3 10, w ∈ gT := List.forall_mem_cons.mpr ⟨tw_54, List.forall_mem_cons.mpr ⟨tw_56, List.forall_mem_cons.mpr ⟨tw_58, List.forall_mem_cons.mpr ⟨tw_60, List.forall_mem_cons.mpr ⟨tw_62, List.forall_mem_cons.mpr ⟨tw_64, List.forall_mem_cons.mpr ⟨tw_66, List.forall_mem_cons.mpr ⟨tw_68, List.forall_mem_cons.mpr ⟨tw_70, List.forall_mem_cons.mpr ⟨tw_72, fun _ h => absurd h List.not_mem_nil⟩⟩⟩⟩⟩⟩⟩⟩⟩⟩
theorem in_X4 : ∀ w ∈ u_ws "GiantStair" TX4 11, w ∈ gT := List.forall_mem_cons.mpr ⟨tw_162, List.forall_mem_cons.mpr ⟨tw_164, List.forall_mem_cons.mpr ⟨tw_166, List.forall_mem_cons.mpr ⟨tw_168, List.forall_mem_cons.mpr ⟨tw_170, List.forall_mem_cons.mpr ⟨tw_172, List.forall_mem_cons.mpr ⟨tw_174, List.forall_mem_cons.mpr ⟨tw_176, List.forall_mem_cons.mpr ⟨tw_178, List.forall_mem_cons.mpr ⟨tw_180, List.forall_mem_cons.mpr ⟨tw_182, fun _ h => absurd h List.not_mem_nil⟩⟩⟩⟩⟩⟩⟩⟩⟩⟩⟩
theorem in_X5 : ∀ w ∈ u_ws "GiantStairModel" TX5 31, w ∈ gT := List.forall_mem_cons.mpr ⟨tw_691, List.forall_mem_cons.mpr ⟨tw_693, List.forall_mem_cons.mpr ⟨tw_695, List.forall_mem_cons.mpr ⟨tw_697, List.forall_mem_cons.mpr ⟨tw_699, List.forall_mem_cons.mpr ⟨tw_701, List.forall_mem_cons.mpr ⟨tw_703, List.forall_mem_cons.mpr ⟨tw_705, List.forall_mem_cons.mpr ⟨tw_707, List.forall_mem_cons.mpr ⟨tw_709, List.forall_mem_cons.mpr ⟨tw_711, List.forall_mem_cons.mpr ⟨tw_713, List.forall_mem_cons.mpr ⟨tw_715, List.forall_mem_cons.mpr ⟨tw_717, List.forall_mem_cons.mpr ⟨tw_719, List.forall_mem_cons.mpr ⟨tw_721, List.forall_mem_cons.mpr ⟨tw_723, List.forall_mem_cons.mpr ⟨tw_725, List.forall_mem_cons.mpr ⟨tw_727, List.forall_mem_cons.mpr ⟨tw_729, List.forall_mem_cons.mpr ⟨tw_731, List.forall_mem_cons.mpr ⟨tw_733, List.forall_mem_cons.mpr ⟨tw_735, List.forall_mem_cons.mpr ⟨tw_737, List.forall_mem_cons.mpr ⟨tw_739, List.forall_mem_cons.mpr ⟨tw_741, List.forall_mem_cons.mpr ⟨tw_743, List.forall_mem_cons.mpr ⟨tw_745, List.forall_mem_cons.mpr ⟨tw_747, List.forall_mem_cons.mpr ⟨tw_749, List.forall_mem_cons.mpr ⟨tw_751, fun _ h => absurd h List.not_mem_nil⟩⟩⟩⟩⟩⟩⟩⟩⟩⟩⟩⟩⟩⟩⟩⟩⟩⟩⟩⟩⟩⟩⟩⟩⟩⟩⟩⟩⟩⟩⟩
