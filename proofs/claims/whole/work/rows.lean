section
-- ===== PART A: goes FIRST, ahead of the names: the tables' words, and 'selects' of the private methods out of them =====
/-- a private method of a class that the tables say can be made, by its rows of tables_1 -/
def lw_okq (q : MethodName × Nat) : Prop := (q.1.cls ≠ "java/lang/invoke/MethodHandle" ∧ q.1.cls ≠ "java/lang/invoke/VarHandle") ∧ Cond.instantiable q.1.cls q.2 ∈ tables_1 ∧ Cond.privateMethod q.1 ∈ tables_1 ∧ Cond.instanceMethod q.1 ∈ tables_1
theorem lw_p0 : lw_okq (⟨"GiantStair$Told", "build", "(I)V"⟩, 10) := ⟨⟨by decide +kernel, by decide +kernel⟩, List.mem_of_getElem? (i := 24) (by decide +kernel), List.mem_of_getElem? (i := 30) (by decide +kernel), List.mem_of_getElem? (i := 31) (by decide +kernel)⟩
theorem lw_p1 : lw_okq (⟨"GiantStair$Told", "copyStair", "(LGiantStair$Told;)V"⟩, 10) := ⟨⟨by decide +kernel, by decide +kernel⟩, List.mem_of_getElem? (i := 24) (by decide +kernel), List.mem_of_getElem? (i := 211) (by decide +kernel), List.mem_of_getElem? (i := 212) (by decide +kernel)⟩
theorem lw_p2 : lw_okq (⟨"GiantStair$Text", "readLine", "(LGiantStair$Told;)I"⟩, 5) := ⟨⟨by decide +kernel, by decide +kernel⟩, List.mem_of_getElem? (i := 78) (by decide +kernel), List.mem_of_getElem? (i := 222) (by decide +kernel), List.mem_of_getElem? (i := 223) (by decide +kernel)⟩
theorem lw_p3 : lw_okq (⟨"GiantStair$Text", "skipBlanks", "()V"⟩, 5) := ⟨⟨by decide +kernel, by decide +kernel⟩, List.mem_of_getElem? (i := 78) (by decide +kernel), List.mem_of_getElem? (i := 226) (by decide +kernel), List.mem_of_getElem? (i := 227) (by decide +kernel)⟩
theorem lw_p4 : lw_okq (⟨"GiantStair$Text", "sign", "()I"⟩, 5) := ⟨⟨by decide +kernel, by decide +kernel⟩, List.mem_of_getElem? (i := 78) (by decide +kernel), List.mem_of_getElem? (i := 230) (by decide +kernel), List.mem_of_getElem? (i := 231) (by decide +kernel)⟩
theorem lw_p5 : lw_okq (⟨"GiantStair$Text", "readWord", "()I"⟩, 5) := ⟨⟨by decide +kernel, by decide +kernel⟩, List.mem_of_getElem? (i := 78) (by decide +kernel), List.mem_of_getElem? (i := 234) (by decide +kernel), List.mem_of_getElem? (i := 235) (by decide +kernel)⟩
theorem lw_p6 : lw_okq (⟨"GiantStair$Text", "spells", "(ILjava/lang/String;)Z"⟩, 5) := ⟨⟨by decide +kernel, by decide +kernel⟩, List.mem_of_getElem? (i := 78) (by decide +kernel), List.mem_of_getElem? (i := 251) (by decide +kernel), List.mem_of_getElem? (i := 252) (by decide +kernel)⟩
theorem lw_p7 : lw_okq (⟨"GiantStair$Text", "readNumber", "()I"⟩, 5) := ⟨⟨by decide +kernel, by decide +kernel⟩, List.mem_of_getElem? (i := 78) (by decide +kernel), List.mem_of_getElem? (i := 310) (by decide +kernel), List.mem_of_getElem? (i := 311) (by decide +kernel)⟩
theorem lw_p8 : lw_okq (⟨"GiantStair$Told", "isStep", "(I)Z"⟩, 10) := ⟨⟨by decide +kernel, by decide +kernel⟩, List.mem_of_getElem? (i := 24) (by decide +kernel), List.mem_of_getElem? (i := 325) (by decide +kernel), List.mem_of_getElem? (i := 326) (by decide +kernel)⟩
theorem lw_p9 : lw_okq (⟨"GiantStair", "beginAnew", "()V"⟩, 11) := ⟨⟨by decide +kernel, by decide +kernel⟩, List.mem_of_getElem? (i := 16) (by decide +kernel), List.mem_of_getElem? (i := 338) (by decide +kernel), List.mem_of_getElem? (i := 339) (by decide +kernel)⟩
theorem lw_p10 : lw_okq (⟨"GiantStair$Told", "standsAt", "(III[I)Z"⟩, 10) := ⟨⟨by decide +kernel, by decide +kernel⟩, List.mem_of_getElem? (i := 24) (by decide +kernel), List.mem_of_getElem? (i := 394) (by decide +kernel), List.mem_of_getElem? (i := 395) (by decide +kernel)⟩
theorem lw_p11 : lw_okq (⟨"GiantStair$Told", "hand", "(I)I"⟩, 10) := ⟨⟨by decide +kernel, by decide +kernel⟩, List.mem_of_getElem? (i := 24) (by decide +kernel), List.mem_of_getElem? (i := 402) (by decide +kernel), List.mem_of_getElem? (i := 403) (by decide +kernel)⟩
theorem lw_p12 : lw_okq (⟨"GiantStair$Told", "tallness", "(I)I"⟩, 10) := ⟨⟨by decide +kernel, by decide +kernel⟩, List.mem_of_getElem? (i := 24) (by decide +kernel), List.mem_of_getElem? (i := 406) (by decide +kernel), List.mem_of_getElem? (i := 407) (by decide +kernel)⟩
theorem lw_p13 : lw_okq (⟨"GiantStair", "mayBeAsked", "(II)Z"⟩, 11) := ⟨⟨by decide +kernel, by decide +kernel⟩, List.mem_of_getElem? (i := 16) (by decide +kernel), List.mem_of_getElem? (i := 422) (by decide +kernel), List.mem_of_getElem? (i := 423) (by decide +kernel)⟩
theorem lw_p14 : lw_okq (⟨"GiantStair", "go", "(II)I"⟩, 11) := ⟨⟨by decide +kernel, by decide +kernel⟩, List.mem_of_getElem? (i := 16) (by decide +kernel), List.mem_of_getElem? (i := 431) (by decide +kernel), List.mem_of_getElem? (i := 432) (by decide +kernel)⟩
theorem lw_p15 : lw_okq (⟨"GiantStair", "foresee", "()V"⟩, 11) := ⟨⟨by decide +kernel, by decide +kernel⟩, List.mem_of_getElem? (i := 16) (by decide +kernel), List.mem_of_getElem? (i := 472) (by decide +kernel), List.mem_of_getElem? (i := 473) (by decide +kernel)⟩
def lw_privs_1 : List (MethodName × Nat) := [(⟨"GiantStair$Told", "build", "(I)V"⟩, 10), (⟨"GiantStair$Told", "copyStair", "(LGiantStair$Told;)V"⟩, 10), (⟨"GiantStair$Text", "readLine", "(LGiantStair$Told;)I"⟩, 5), (⟨"GiantStair$Text", "skipBlanks", "()V"⟩, 5), (⟨"GiantStair$Text", "sign", "()I"⟩, 5), (⟨"GiantStair$Text", "readWord", "()I"⟩, 5), (⟨"GiantStair$Text", "spells", "(ILjava/lang/String;)Z"⟩, 5), (⟨"GiantStair$Text", "readNumber", "()I"⟩, 5), (⟨"GiantStair$Told", "isStep", "(I)Z"⟩, 10), (⟨"GiantStair", "beginAnew", "()V"⟩, 11), (⟨"GiantStair$Told", "standsAt", "(III[I)Z"⟩, 10), (⟨"GiantStair$Told", "hand", "(I)I"⟩, 10), (⟨"GiantStair$Told", "tallness", "(I)I"⟩, 10), (⟨"GiantStair", "mayBeAsked", "(II)Z"⟩, 11), (⟨"GiantStair", "go", "(II)I"⟩, 11), (⟨"GiantStair", "foresee", "()V"⟩, 11)]
theorem lw_r1 : ∀ q ∈ lw_privs_1, lw_okq q := List.forall_mem_cons.mpr ⟨lw_p0, List.forall_mem_cons.mpr ⟨lw_p1, List.forall_mem_cons.mpr ⟨lw_p2, List.forall_mem_cons.mpr ⟨lw_p3, List.forall_mem_cons.mpr ⟨lw_p4, List.forall_mem_cons.mpr ⟨lw_p5, List.forall_mem_cons.mpr ⟨lw_p6, List.forall_mem_cons.mpr ⟨lw_p7, List.forall_mem_cons.mpr ⟨lw_p8, List.forall_mem_cons.mpr ⟨lw_p9, List.forall_mem_cons.mpr ⟨lw_p10, List.forall_mem_cons.mpr ⟨lw_p11, List.forall_mem_cons.mpr ⟨lw_p12, List.forall_mem_cons.mpr ⟨lw_p13, List.forall_mem_cons.mpr ⟨lw_p14, List.forall_mem_cons.mpr ⟨lw_p15, fun _ h => absurd h List.not_mem_nil⟩⟩⟩⟩⟩⟩⟩⟩⟩⟩⟩⟩⟩⟩⟩⟩
theorem lw_p16 : lw_okq (⟨"GiantStair$Search", "begin", "(LGiantStair$Told;[I)V"⟩, 6) := ⟨⟨by decide +kernel, by decide +kernel⟩, List.mem_of_getElem? (i := 124) (by decide +kernel), List.mem_of_getElem? (i := 480) (by decide +kernel), List.mem_of_getElem? (i := 481) (by decide +kernel)⟩
theorem lw_p17 : lw_okq (⟨"GiantStair$Search", "forget", "()V"⟩, 6) := ⟨⟨by decide +kernel, by decide +kernel⟩, List.mem_of_getElem? (i := 124) (by decide +kernel), List.mem_of_getElem? (i := 484) (by decide +kernel), List.mem_of_getElem? (i := 485) (by decide +kernel)⟩
theorem lw_p18 : lw_okq (⟨"GiantStair$Search", "reach", "(III)V"⟩, 6) := ⟨⟨by decide +kernel, by decide +kernel⟩, List.mem_of_getElem? (i := 124) (by decide +kernel), List.mem_of_getElem? (i := 494) (by decide +kernel), List.mem_of_getElem? (i := 495) (by decide +kernel)⟩
theorem lw_p19 : lw_okq (⟨"GiantStair$Search", "awayOf", "(I)I"⟩, 6) := ⟨⟨by decide +kernel, by decide +kernel⟩, List.mem_of_getElem? (i := 124) (by decide +kernel), List.mem_of_getElem? (i := 498) (by decide +kernel), List.mem_of_getElem? (i := 499) (by decide +kernel)⟩
theorem lw_p20 : lw_okq (⟨"GiantStair$Search", "unfold", "(I)V"⟩, 6) := ⟨⟨by decide +kernel, by decide +kernel⟩, List.mem_of_getElem? (i := 124) (by decide +kernel), List.mem_of_getElem? (i := 502) (by decide +kernel), List.mem_of_getElem? (i := 503) (by decide +kernel)⟩
theorem lw_p21 : lw_okq (⟨"GiantStair$Search", "positionBehind", "(I)I"⟩, 6) := ⟨⟨by decide +kernel, by decide +kernel⟩, List.mem_of_getElem? (i := 124) (by decide +kernel), List.mem_of_getElem? (i := 520) (by decide +kernel), List.mem_of_getElem? (i := 521) (by decide +kernel)⟩
theorem lw_p22 : lw_okq (⟨"GiantStair$Search", "aheadOf", "(I)I"⟩, 6) := ⟨⟨by decide +kernel, by decide +kernel⟩, List.mem_of_getElem? (i := 124) (by decide +kernel), List.mem_of_getElem? (i := 525) (by decide +kernel), List.mem_of_getElem? (i := 526) (by decide +kernel)⟩
theorem lw_p23 : lw_okq (⟨"GiantStair", "chanceOf", "(II)I"⟩, 11) := ⟨⟨by decide +kernel, by decide +kernel⟩, List.mem_of_getElem? (i := 16) (by decide +kernel), List.mem_of_getElem? (i := 592) (by decide +kernel), List.mem_of_getElem? (i := 593) (by decide +kernel)⟩
theorem lw_p24 : lw_okq (⟨"GiantStairModel", "plain", "(I)V"⟩, 31) := ⟨⟨by decide +kernel, by decide +kernel⟩, List.mem_of_getElem? (i := 622) (by decide +kernel), List.mem_of_getElem? (i := 628) (by decide +kernel), List.mem_of_getElem? (i := 629) (by decide +kernel)⟩
theorem lw_p25 : lw_okq (⟨"GiantStairModel", "isRead", "()Z"⟩, 31) := ⟨⟨by decide +kernel, by decide +kernel⟩, List.mem_of_getElem? (i := 622) (by decide +kernel), List.mem_of_getElem? (i := 742) (by decide +kernel), List.mem_of_getElem? (i := 743) (by decide +kernel)⟩
theorem lw_p26 : lw_okq (⟨"GiantStairModel", "isLine", "(I)Z"⟩, 31) := ⟨⟨by decide +kernel, by decide +kernel⟩, List.mem_of_getElem? (i := 622) (by decide +kernel), List.mem_of_getElem? (i := 746) (by decide +kernel), List.mem_of_getElem? (i := 747) (by decide +kernel)⟩
theorem lw_p27 : lw_okq (⟨"GiantStairModel", "nextToken", "()V"⟩, 31) := ⟨⟨by decide +kernel, by decide +kernel⟩, List.mem_of_getElem? (i := 622) (by decide +kernel), List.mem_of_getElem? (i := 750) (by decide +kernel), List.mem_of_getElem? (i := 751) (by decide +kernel)⟩
theorem lw_p28 : lw_okq (⟨"GiantStairModel", "isOneLine", "(I)Z"⟩, 31) := ⟨⟨by decide +kernel, by decide +kernel⟩, List.mem_of_getElem? (i := 622) (by decide +kernel), List.mem_of_getElem? (i := 770) (by decide +kernel), List.mem_of_getElem? (i := 771) (by decide +kernel)⟩
theorem lw_p29 : lw_okq (⟨"GiantStairModel", "fails", "()Z"⟩, 31) := ⟨⟨by decide +kernel, by decide +kernel⟩, List.mem_of_getElem? (i := 622) (by decide +kernel), List.mem_of_getElem? (i := 774) (by decide +kernel), List.mem_of_getElem? (i := 775) (by decide +kernel)⟩
theorem lw_p30 : lw_okq (⟨"GiantStairModel", "isNumber", "(III)Z"⟩, 31) := ⟨⟨by decide +kernel, by decide +kernel⟩, List.mem_of_getElem? (i := 622) (by decide +kernel), List.mem_of_getElem? (i := 778) (by decide +kernel), List.mem_of_getElem? (i := 779) (by decide +kernel)⟩
theorem lw_p31 : lw_okq (⟨"GiantStairModel", "doLine", "(I)V"⟩, 31) := ⟨⟨by decide +kernel, by decide +kernel⟩, List.mem_of_getElem? (i := 622) (by decide +kernel), List.mem_of_getElem? (i := 786) (by decide +kernel), List.mem_of_getElem? (i := 787) (by decide +kernel)⟩
def lw_privs_2 : List (MethodName × Nat) := [(⟨"GiantStair$Search", "begin", "(LGiantStair$Told;[I)V"⟩, 6), (⟨"GiantStair$Search", "forget", "()V"⟩, 6), (⟨"GiantStair$Search", "reach", "(III)V"⟩, 6), (⟨"GiantStair$Search", "awayOf", "(I)I"⟩, 6), (⟨"GiantStair$Search", "unfold", "(I)V"⟩, 6), (⟨"GiantStair$Search", "positionBehind", "(I)I"⟩, 6), (⟨"GiantStair$Search", "aheadOf", "(I)I"⟩, 6), (⟨"GiantStair", "chanceOf", "(II)I"⟩, 11), (⟨"GiantStairModel", "plain", "(I)V"⟩, 31), (⟨"GiantStairModel", "isRead", "()Z"⟩, 31), (⟨"GiantStairModel", "isLine", "(I)Z"⟩, 31), (⟨"GiantStairModel", "nextToken", "()V"⟩, 31), (⟨"GiantStairModel", "isOneLine", "(I)Z"⟩, 31), (⟨"GiantStairModel", "fails", "()Z"⟩, 31), (⟨"GiantStairModel", "isNumber", "(III)Z"⟩, 31), (⟨"GiantStairModel", "doLine", "(I)V"⟩, 31)]
theorem lw_r2 : ∀ q ∈ lw_privs_2, lw_okq q := List.forall_mem_cons.mpr ⟨lw_p16, List.forall_mem_cons.mpr ⟨lw_p17, List.forall_mem_cons.mpr ⟨lw_p18, List.forall_mem_cons.mpr ⟨lw_p19, List.forall_mem_cons.mpr ⟨lw_p20, List.forall_mem_cons.mpr ⟨lw_p21, List.forall_mem_cons.mpr ⟨lw_p22, List.forall_mem_cons.mpr ⟨lw_p23, List.forall_mem_cons.mpr ⟨lw_p24, List.forall_mem_cons.mpr ⟨lw_p25, List.forall_mem_cons.mpr ⟨lw_p26, List.forall_mem_cons.mpr ⟨lw_p27, List.forall_mem_cons.mpr ⟨lw_p28, List.forall_mem_cons.mpr ⟨lw_p29, List.forall_mem_cons.mpr ⟨lw_p30, List.forall_mem_cons.mpr ⟨lw_p31, fun _ h => absurd h List.not_mem_nil⟩⟩⟩⟩⟩⟩⟩⟩⟩⟩⟩⟩⟩⟩⟩⟩
theorem lw_p32 : lw_okq (⟨"GiantStairModel", "isOne", "(I)Z"⟩, 31) := ⟨⟨by decide +kernel, by decide +kernel⟩, List.mem_of_getElem? (i := 622) (by decide +kernel), List.mem_of_getElem? (i := 798) (by decide +kernel), List.mem_of_getElem? (i := 799) (by decide +kernel)⟩
theorem lw_p33 : lw_okq (⟨"GiantStairModel", "burden", "(I)I"⟩, 31) := ⟨⟨by decide +kernel, by decide +kernel⟩, List.mem_of_getElem? (i := 622) (by decide +kernel), List.mem_of_getElem? (i := 802) (by decide +kernel), List.mem_of_getElem? (i := 803) (by decide +kernel)⟩
theorem lw_p34 : lw_okq (⟨"GiantStairModel", "canGo", "([III)Z"⟩, 31) := ⟨⟨by decide +kernel, by decide +kernel⟩, List.mem_of_getElem? (i := 622) (by decide +kernel), List.mem_of_getElem? (i := 810) (by decide +kernel), List.mem_of_getElem? (i := 811) (by decide +kernel)⟩
theorem lw_p35 : lw_okq (⟨"GiantStairModel", "helpOf", "([II)I"⟩, 31) := ⟨⟨by decide +kernel, by decide +kernel⟩, List.mem_of_getElem? (i := 622) (by decide +kernel), List.mem_of_getElem? (i := 814) (by decide +kernel), List.mem_of_getElem? (i := 815) (by decide +kernel)⟩
theorem lw_p36 : lw_okq (⟨"GiantStairModel", "canUp", "([IIII)Z"⟩, 31) := ⟨⟨by decide +kernel, by decide +kernel⟩, List.mem_of_getElem? (i := 622) (by decide +kernel), List.mem_of_getElem? (i := 818) (by decide +kernel), List.mem_of_getElem? (i := 819) (by decide +kernel)⟩
theorem lw_p37 : lw_okq (⟨"GiantStairModel", "isThere", "([III)Z"⟩, 31) := ⟨⟨by decide +kernel, by decide +kernel⟩, List.mem_of_getElem? (i := 622) (by decide +kernel), List.mem_of_getElem? (i := 825) (by decide +kernel), List.mem_of_getElem? (i := 826) (by decide +kernel)⟩
theorem lw_p38 : lw_okq (⟨"GiantStairModel", "hand", "(I)I"⟩, 31) := ⟨⟨by decide +kernel, by decide +kernel⟩, List.mem_of_getElem? (i := 622) (by decide +kernel), List.mem_of_getElem? (i := 829) (by decide +kernel), List.mem_of_getElem? (i := 830) (by decide +kernel)⟩
theorem lw_p39 : lw_okq (⟨"GiantStairModel", "canDown", "([III)Z"⟩, 31) := ⟨⟨by decide +kernel, by decide +kernel⟩, List.mem_of_getElem? (i := 622) (by decide +kernel), List.mem_of_getElem? (i := 833) (by decide +kernel), List.mem_of_getElem? (i := 834) (by decide +kernel)⟩
theorem lw_p40 : lw_okq (⟨"GiantStairModel", "isOther", "(II)Z"⟩, 31) := ⟨⟨by decide +kernel, by decide +kernel⟩, List.mem_of_getElem? (i := 622) (by decide +kernel), List.mem_of_getElem? (i := 841) (by decide +kernel), List.mem_of_getElem? (i := 842) (by decide +kernel)⟩
theorem lw_p41 : lw_okq (⟨"GiantStairModel", "thank", "(II)V"⟩, 31) := ⟨⟨by decide +kernel, by decide +kernel⟩, List.mem_of_getElem? (i := 622) (by decide +kernel), List.mem_of_getElem? (i := 845) (by decide +kernel), List.mem_of_getElem? (i := 846) (by decide +kernel)⟩
theorem lw_p42 : lw_okq (⟨"GiantStairModel", "soonestOf", "()I"⟩, 31) := ⟨⟨by decide +kernel, by decide +kernel⟩, List.mem_of_getElem? (i := 622) (by decide +kernel), List.mem_of_getElem? (i := 873) (by decide +kernel), List.mem_of_getElem? (i := 874) (by decide +kernel)⟩
theorem lw_p43 : lw_okq (⟨"GiantStairModel", "layLine", "()V"⟩, 31) := ⟨⟨by decide +kernel, by decide +kernel⟩, List.mem_of_getElem? (i := 622) (by decide +kernel), List.mem_of_getElem? (i := 877) (by decide +kernel), List.mem_of_getElem? (i := 878) (by decide +kernel)⟩
theorem lw_p44 : lw_okq (⟨"GiantStairModel", "codeOf", "([I)I"⟩, 31) := ⟨⟨by decide +kernel, by decide +kernel⟩, List.mem_of_getElem? (i := 622) (by decide +kernel), List.mem_of_getElem? (i := 881) (by decide +kernel), List.mem_of_getElem? (i := 882) (by decide +kernel)⟩
theorem lw_p45 : lw_okq (⟨"GiantStairModel", "place", "(I)V"⟩, 31) := ⟨⟨by decide +kernel, by decide +kernel⟩, List.mem_of_getElem? (i := 622) (by decide +kernel), List.mem_of_getElem? (i := 885) (by decide +kernel), List.mem_of_getElem? (i := 886) (by decide +kernel)⟩
theorem lw_p46 : lw_okq (⟨"GiantStairModel", "firstUp", "()I"⟩, 31) := ⟨⟨by decide +kernel, by decide +kernel⟩, List.mem_of_getElem? (i := 622) (by decide +kernel), List.mem_of_getElem? (i := 889) (by decide +kernel), List.mem_of_getElem? (i := 890) (by decide +kernel)⟩
theorem lw_p47 : lw_okq (⟨"GiantStairModel", "areUp", "([I)Z"⟩, 31) := ⟨⟨by decide +kernel, by decide +kernel⟩, List.mem_of_getElem? (i := 622) (by decide +kernel), List.mem_of_getElem? (i := 893) (by decide +kernel), List.mem_of_getElem? (i := 894) (by decide +kernel)⟩
def lw_privs_3 : List (MethodName × Nat) := [(⟨"GiantStairModel", "isOne", "(I)Z"⟩, 31), (⟨"GiantStairModel", "burden", "(I)I"⟩, 31), (⟨"GiantStairModel", "canGo", "([III)Z"⟩, 31), (⟨"GiantStairModel", "helpOf", "([II)I"⟩, 31), (⟨"GiantStairModel", "canUp", "([IIII)Z"⟩, 31), (⟨"GiantStairModel", "isThere", "([III)Z"⟩, 31), (⟨"GiantStairModel", "hand", "(I)I"⟩, 31), (⟨"GiantStairModel", "canDown", "([III)Z"⟩, 31), (⟨"GiantStairModel", "isOther", "(II)Z"⟩, 31), (⟨"GiantStairModel", "thank", "(II)V"⟩, 31), (⟨"GiantStairModel", "soonestOf", "()I"⟩, 31), (⟨"GiantStairModel", "layLine", "()V"⟩, 31), (⟨"GiantStairModel", "codeOf", "([I)I"⟩, 31), (⟨"GiantStairModel", "place", "(I)V"⟩, 31), (⟨"GiantStairModel", "firstUp", "()I"⟩, 31), (⟨"GiantStairModel", "areUp", "([I)Z"⟩, 31)]
theorem lw_r3 : ∀ q ∈ lw_privs_3, lw_okq q := List.forall_mem_cons.mpr ⟨lw_p32, List.forall_mem_cons.mpr ⟨lw_p33, List.forall_mem_cons.mpr ⟨lw_p34, List.forall_mem_cons.mpr ⟨lw_p35, List.forall_mem_cons.mpr ⟨lw_p36, List.forall_mem_cons.mpr ⟨lw_p37, List.forall_mem_cons.mpr ⟨lw_p38, List.forall_mem_cons.mpr ⟨lw_p39, List.forall_mem_cons.mpr ⟨lw_p40, List.forall_mem_cons.mpr ⟨lw_p41, List.forall_mem_cons.mpr ⟨lw_p42, List.forall_mem_cons.mpr ⟨lw_p43, List.forall_mem_cons.mpr ⟨lw_p44, List.forall_mem_cons.mpr ⟨lw_p45, List.forall_mem_cons.mpr ⟨lw_p46, List.forall_mem_cons.mpr ⟨lw_p47, fun _ h => absurd h List.not_mem_nil⟩⟩⟩⟩⟩⟩⟩⟩⟩⟩⟩⟩⟩⟩⟩⟩
def lw_privs : List (MethodName × Nat) := lw_privs_1 ++ (lw_privs_2 ++ (lw_privs_3))
def lw_tbl : List Cond := k2_sels lw_privs ++ tables_1
theorem lw_privs_ok : ∀ q ∈ lw_privs, lw_okq q := by
  show ∀ q ∈ lw_privs_1 ++ (lw_privs_2 ++ (lw_privs_3)), lw_okq q
  exact List.forall_mem_append.mpr ⟨lw_r1, List.forall_mem_append.mpr ⟨lw_r2, lw_r3⟩⟩
-- ===== end of PART A; then your names; then what follows =====
/-! kinds of objects, their fields by slot -/
def TX0 : u_T := fun k => match k with
  | 0 => ("GiantStair$Journey", "level", "[I", true)
  | 1 => ("GiantStair$Journey", "moves", "I", false)
  | 2 => ("GiantStair$Journey", "helps", "[I", true)
  | _ => ("GiantStair$Journey", "holds", "Z", false)
def tyX0 : Nat → FieldType := fun k => match k with
  | 0 => .array .int
  | 1 => .int
  | 2 => .array .int
  | _ => .boolean
theorem nmX0 : ∀ a, a < 4 → ∀ b, b < 4 → a ≠ b → (TX0 a).2.1 ≠ (TX0 b).2.1 := by decide +kernel
theorem tyX0_ok : ∀ k, k < 4 → parseFieldDescriptor (TX0 k).2.2.1 = some (tyX0 k) := by decide +kernel
def TX1 : u_T := fun k => match k with
  | 0 => ("GiantStair$Search", "away", "[I", true)
  | 1 => ("GiantStair$Search", "ahead", "[I", true)
  | 2 => ("GiantStair$Search", "found", "[I", true)
  | 3 => ("GiantStair$Search", "reached", "I", false)
  | 4 => ("GiantStair$Search", "goal", "I", false)
  | _ => ("GiantStair$Search", "level", "[I", true)
def tyX1 : Nat → FieldType := fun k => match k with
  | 0 => .array .int
  | 1 => .array .int
  | 2 => .array .int
  | 3 => .int
  | 4 => .int
  | _ => .array .int
theorem nmX1 : ∀ a, a < 6 → ∀ b, b < 6 → a ≠ b → (TX1 a).2.1 ≠ (TX1 b).2.1 := by decide +kernel
theorem tyX1_ok : ∀ k, k < 6 → parseFieldDescriptor (TX1 k).2.2.1 = some (tyX1 k) := by decide +kernel
def TX2 : u_T := fun k => match k with
  | 0 => ("GiantStair$Text", "signs", "[I", true)
  | 1 => ("GiantStair$Text", "length", "I", false)
  | 2 => ("GiantStair$Text", "lines", "I", false)
  | 3 => ("GiantStair$Text", "place", "I", false)
  | _ => ("GiantStair$Text", "numbers", "[I", true)
def tyX2 : Nat → FieldType := fun k => match k with
  | 0 => .array .int
  | 1 => .int
  | 2 => .int
  | 3 => .int
  | _ => .array .int
theorem nmX2 : ∀ a, a < 5 → ∀ b, b < 5 → a ≠ b → (TX2 a).2.1 ≠ (TX2 b).2.1 := by decide +kernel
theorem tyX2_ok : ∀ k, k < 5 → parseFieldDescriptor (TX2 k).2.2.1 = some (tyX2 k) := by decide +kernel
def TX3 : u_T := fun k => match k with
  | 0 => ("GiantStair$Told", "top", "I", false)
  | 1 => ("GiantStair$Told", "people", "I", false)
  | 2 => ("GiantStair$Told", "stepHeight", "[I", true)
  | 3 => ("GiantStair$Told", "rope", "[Z", true)
  | 4 => ("GiantStair$Told", "kind", "[I", true)
  | 5 => ("GiantStair$Told", "height", "[I", true)
  | 6 => ("GiantStair$Told", "weight", "[I", true)
  | 7 => ("GiantStair$Told", "burden", "[I", true)
  | 8 => ("GiantStair$Told", "strength", "[I", true)
  | _ => ("GiantStair$Told", "start", "[I", true)
def tyX3 : Nat → FieldType := fun k => match k with
  | 0 => .int
  | 1 => .int
  | 2 => .array .int
  | 3 => .array .boolean
  | 4 => .array .int
  | 5 => .array .int
  | 6 => .array .int
  | 7 => .array .int
  | 8 => .array .int
  | _ => .array .int
theorem nmX3 : ∀ a, a < 10 → ∀ b, b < 10 → a ≠ b → (TX3 a).2.1 ≠ (TX3 b).2.1 := by decide +kernel
theorem tyX3_ok : ∀ k, k < 10 → parseFieldDescriptor (TX3 k).2.2.1 = some (tyX3 k) := by decide +kernel
def TX4 : u_T := fun k => match k with
  | 0 => ("GiantStair", "told", "LGiantStair$Told;", true)
  | 1 => ("GiantStair", "draft", "LGiantStair$Told;", true)
  | 2 => ("GiantStair", "text", "LGiantStair$Text;", true)
  | 3 => ("GiantStair", "journey", "LGiantStair$Journey;", true)
  | 4 => ("GiantStair", "kept", "[LGiantStair$Journey;", true)
  | 5 => ("GiantStair", "search", "LGiantStair$Search;", true)
  | 6 => ("GiantStair", "foreseen", "Z", false)
  | 7 => ("GiantStair", "rowOne", "[I", true)
  | 8 => ("GiantStair", "rowUp", "[I", true)
  | 9 => ("GiantStair", "rowLength", "I", false)
  | _ => ("GiantStair", "judged", "[I", true)
def tyX4 : Nat → FieldType := fun k => match k with
  | 0 => .object "GiantStair$Told"
  | 1 => .object "GiantStair$Told"
  | 2 => .object "GiantStair$Text"
  | 3 => .object "GiantStair$Journey"
  | 4 => .array (.object "GiantStair$Journey")
  | 5 => .object "GiantStair$Search"
  | 6 => .boolean
  | 7 => .array .int
  | 8 => .array .int
  | 9 => .int
  | _ => .array .int
theorem nmX4 : ∀ a, a < 11 → ∀ b, b < 11 → a ≠ b → (TX4 a).2.1 ≠ (TX4 b).2.1 := by decide +kernel
theorem tyX4_ok : ∀ k, k < 11 → parseFieldDescriptor (TX4 k).2.2.1 = some (tyX4 k) := by decide +kernel
def TX5 : u_T := fun k => match k with
  | 0 => ("GiantStairModel", "top", "I", false)
  | 1 => ("GiantStairModel", "height", "[I", true)
  | 2 => ("GiantStairModel", "ropes", "I", false)
  | 3 => ("GiantStairModel", "people", "I", false)
  | 4 => ("GiantStairModel", "one", "[I", true)
  | 5 => ("GiantStairModel", "bytes", "I", false)
  | 6 => ("GiantStairModel", "text", "[I", true)
  | 7 => ("GiantStairModel", "position", "I", false)
  | 8 => ("GiantStairModel", "tokenAt", "I", false)
  | 9 => ("GiantStairModel", "token", "J", false)
  | 10 => ("GiantStairModel", "digits", "I", false)
  | 11 => ("GiantStairModel", "number", "I", false)
  | 12 => ("GiantStairModel", "faultAt", "I", false)
  | 13 => ("GiantStairModel", "readMany", "I", false)
  | 14 => ("GiantStairModel", "readTop", "I", false)
  | 15 => ("GiantStairModel", "readPeople", "I", false)
  | 16 => ("GiantStairModel", "read", "[I", true)
  | 17 => ("GiantStairModel", "level", "[I", true)
  | 18 => ("GiantStairModel", "moves", "I", false)
  | 19 => ("GiantStairModel", "helped", "[I", true)
  | 20 => ("GiantStairModel", "image", "[I", true)
  | 21 => ("GiantStairModel", "isKept", "[Z", true)
  | 22 => ("GiantStairModel", "rows", "I", false)
  | 23 => ("GiantStairModel", "row", "[I", true)
  | 24 => ("GiantStairModel", "far", "[I", true)
  | 25 => ("GiantStairModel", "line", "[I", true)
  | 26 => ("GiantStairModel", "from", "[I", true)
  | 27 => ("GiantStairModel", "by", "[I", true)
  | 28 => ("GiantStairModel", "lined", "I", false)
  | 29 => ("GiantStairModel", "tried", "[I", true)
  | _ => ("GiantStairModel", "comes", "I", false)
def tyX5 : Nat → FieldType := fun k => match k with
  | 0 => .int
  | 1 => .array .int
  | 2 => .int
  | 3 => .int
  | 4 => .array .int
  | 5 => .int
  | 6 => .array .int
  | 7 => .int
  | 8 => .int
  | 9 => .long
  | 10 => .int
  | 11 => .int
  | 12 => .int
  | 13 => .int
  | 14 => .int
  | 15 => .int
  | 16 => .array .int
  | 17 => .array .int
  | 18 => .int
  | 19 => .array .int
  | 20 => .array .int
  | 21 => .array .boolean
  | 22 => .int
  | 23 => .array .int
  | 24 => .array .int
  | 25 => .array .int
  | 26 => .array .int
  | 27 => .array .int
  | 28 => .int
  | 29 => .array .int
  | _ => .int
theorem nmX5 : ∀ a, a < 31 → ∀ b, b < 31 → a ≠ b → (TX5 a).2.1 ≠ (TX5 b).2.1 := by decide +kernel
theorem tyX5_ok : ∀ k, k < 31 → parseFieldDescriptor (TX5 k).2.2.1 = some (tyX5 k) := by decide +kernel
abbrev vwCl : List vw_C := [("GiantStair$Journey", TX0, 4), ("GiantStair$Search", TX1, 6), ("GiantStair$Text", TX2, 5), ("GiantStair$Told", TX3, 10), ("GiantStair", TX4, 11), ("GiantStairModel", TX5, 31)]
/-- all words of the tables that stay -/
def gT : List Cond := lw_tbl.filter goodWord
theorem gT_sub {w : Cond} (h : w ∈ gT) : w ∈ lw_tbl := (List.mem_filter.mp h).1
theorem gT_in {w : Cond} (h : w ∈ lw_tbl) (g : goodWord w = true) : w ∈ gT := List.mem_filter.mpr ⟨h, g⟩
theorem gT_good {ws : List Cond} (h : ∀ w ∈ ws, w ∈ gT) : GoodIn gT ws := fun w hw => ⟨h w hw, good_of_word (List.mem_filter.mp (h w hw)).2⟩
theorem gT_1 {i : Nat} {w : Cond} (h : tables_1_1[i]? = some w) (g : goodWord w = true) : w ∈ gT := gT_in (List.mem_append_right _ (by have h := List.mem_of_getElem? h; exact List.mem_append_left _ h)) g
theorem gT_2 {i : Nat} {w : Cond} (h : tables_1_2[i]? = some w) (g : goodWord w = true) : w ∈ gT := gT_in (List.mem_append_right _ (by have h := List.mem_of_getElem? h; exact List.mem_append_right _ (List.mem_append_left _ h))) g
theorem gT_3 {i : Nat} {w : Cond} (h : tables_1_3[i]? = some w) (g : goodWord w = true) : w ∈ gT := gT_in (List.mem_append_right _ (by have h := List.mem_of_getElem? h; exact List.mem_append_right _ (List.mem_append_right _ (List.mem_append_left _ h)))) g
theorem gT_4 {i : Nat} {w : Cond} (h : tables_1_4[i]? = some w) (g : goodWord w = true) : w ∈ gT := gT_in (List.mem_append_right _ (by have h := List.mem_of_getElem? h; exact List.mem_append_right _ (List.mem_append_right _ (List.mem_append_right _ h)))) g
theorem gL_1 {i : Nat} {w : Cond} (h : tables_1_1[i]? = some w) : w ∈ lw_tbl := List.mem_append_right _ (by have h := List.mem_of_getElem? h; exact List.mem_append_left _ h)
theorem gL_2 {i : Nat} {w : Cond} (h : tables_1_2[i]? = some w) : w ∈ lw_tbl := List.mem_append_right _ (by have h := List.mem_of_getElem? h; exact List.mem_append_right _ (List.mem_append_left _ h))
theorem gL_3 {i : Nat} {w : Cond} (h : tables_1_3[i]? = some w) : w ∈ lw_tbl := List.mem_append_right _ (by have h := List.mem_of_getElem? h; exact List.mem_append_right _ (List.mem_append_right _ (List.mem_append_left _ h)))
theorem gL_4 {i : Nat} {w : Cond} (h : tables_1_4[i]? = some w) : w ∈ lw_tbl := List.mem_append_right _ (by have h := List.mem_of_getElem? h; exact List.mem_append_right _ (List.mem_append_right _ (List.mem_append_right _ h)))
theorem gT_0 {i : Nat} {w : Cond} (h : (k2_sels lw_privs)[i]? = some w) (g : goodWord w = true) : w ∈ gT := gT_in (List.mem_append_left _ (List.mem_of_getElem? h)) g
theorem tw_0 : Cond.initialized "GiantStairLaw" ∈ gT := gT_1 (i := 0) rfl rfl
theorem tw_1 : Cond.initialized "GiantStair" ∈ gT := gT_1 (i := 1) rfl rfl
theorem tw_2 : Cond.initialized "GiantStair$Told" ∈ gT := gT_1 (i := 2) rfl rfl
theorem tw_3 : Cond.initialized "GiantStair$Text" ∈ gT := gT_1 (i := 3) rfl rfl
theorem tw_4 : Cond.initialized "GiantStair$Journey" ∈ gT := gT_1 (i := 4) rfl rfl
theorem tw_5 : Cond.initialized "GiantStair$Search" ∈ gT := gT_1 (i := 5) rfl rfl
theorem tw_6 : Cond.initialized "java/util/Arrays" ∈ gT := gT_1 (i := 6) rfl rfl
theorem tw_7 : Cond.initialized "GiantStairModel" ∈ gT := gT_1 (i := 7) rfl rfl
theorem tw_8 : Cond.initialized "java/lang/System" ∈ gT := gT_1 (i := 8) rfl rfl
theorem tw_9 : Cond.initialized "java/lang/String" ∈ gT := gT_1 (i := 9) rfl rfl
theorem tw_10 : Cond.initialized "java/lang/StringLatin1" ∈ gT := gT_1 (i := 10) rfl rfl
theorem tw_11 : Cond.initialized "jdk/internal/util/Preconditions" ∈ gT := gT_1 (i := 11) rfl rfl
theorem tw_12 : Cond.initialized "java/lang/StringUTF16" ∈ gT := gT_1 (i := 12) rfl rfl
theorem tw_13 : Cond.initialized "java/lang/Math" ∈ gT := gT_1 (i := 13) rfl rfl
theorem tw_14 : Cond.initialized "java/lang/Integer" ∈ gT := gT_1 (i := 14) rfl rfl
theorem tw_15 : Cond.classLink "GiantStairLaw" 7 "GiantStair" ∈ gT := gT_1 (i := 15) rfl rfl
theorem tw_16 : Cond.instantiable "GiantStair" 11 ∈ gT := gT_1 (i := 16) rfl rfl
theorem tw_17 : Cond.methodLink "GiantStairLaw" 9 (⟨"GiantStair", "<init>", "()V"⟩ : MethodName) ∈ gT := gT_1 (i := 17) rfl rfl
theorem tw_18 : Cond.instanceMethod (⟨"GiantStair", "<init>", "()V"⟩ : MethodName) ∈ gT := gT_1 (i := 18) rfl rfl
theorem tw_19 : Cond.code (⟨"GiantStair", "<init>", "()V"⟩ : MethodName) prog_1_method_1_code 2 (Option.none : Option FieldType) ∈ gT := gT_1 (i := 19) rfl rfl
theorem tw_20 : Cond.methodLink "GiantStair" 1 (⟨"java/lang/Object", "<init>", "()V"⟩ : MethodName) ∈ gT := gT_1 (i := 20) rfl rfl
theorem tw_21 : Cond.instanceMethod (⟨"java/lang/Object", "<init>", "()V"⟩ : MethodName) ∈ gT := gT_1 (i := 21) rfl rfl
theorem tw_22 : Cond.code (⟨"java/lang/Object", "<init>", "()V"⟩ : MethodName) object_method_1_code 1 (Option.none : Option FieldType) ∈ gT := gT_1 (i := 22) rfl rfl
theorem tw_23 : Cond.classLink "GiantStair" 7 "GiantStair$Told" ∈ gT := gT_1 (i := 23) rfl rfl
theorem tw_24 : Cond.instantiable "GiantStair$Told" 10 ∈ gT := gT_1 (i := 24) rfl rfl
theorem tw_25 : Cond.methodLink "GiantStair" 9 (⟨"GiantStair$Told", "<init>", "()V"⟩ : MethodName) ∈ gT := gT_1 (i := 25) rfl rfl
theorem tw_26 : Cond.instanceMethod (⟨"GiantStair$Told", "<init>", "()V"⟩ : MethodName) ∈ gT := gT_1 (i := 26) rfl rfl
theorem tw_27 : Cond.code (⟨"GiantStair$Told", "<init>", "()V"⟩ : MethodName) prog_5_method_1_code 1 (Option.none : Option FieldType) ∈ gT := gT_1 (i := 27) rfl rfl
theorem tw_28 : Cond.methodLink "GiantStair$Told" 3 (⟨"java/lang/Object", "<init>", "()V"⟩ : MethodName) ∈ gT := gT_1 (i := 28) rfl rfl
theorem tw_29 : Cond.methodLink "GiantStair$Told" 37 (⟨"GiantStair$Told", "build", "(I)V"⟩ : MethodName) ∈ gT := gT_1 (i := 29) rfl rfl
theorem tw_31 : Cond.instanceMethod (⟨"GiantStair$Told", "build", "(I)V"⟩ : MethodName) ∈ gT := gT_1 (i := 31) rfl rfl
theorem tw_32 : Cond.code (⟨"GiantStair$Told", "build", "(I)V"⟩ : MethodName) prog_5_method_2_code 3 (Option.none : Option FieldType) ∈ gT := gT_1 (i := 32) rfl rfl
theorem tw_33 : Cond.fieldLink "GiantStair$Told" 41 "GiantStair$Told" "top" "I" ∈ gT := gT_1 (i := 33) rfl rfl
theorem tw_34 : Cond.fieldLink "GiantStair$Search" 76 "GiantStair$Told" "top" "I" ∈ gT := gT_1 (i := 34) rfl rfl
theorem tw_35 : Cond.fieldLink "GiantStair" 82 "GiantStair$Told" "top" "I" ∈ gT := gT_1 (i := 35) rfl rfl
theorem tw_36 : Cond.fieldLink "GiantStair$Told" 45 "GiantStair$Told" "people" "I" ∈ gT := gT_1 (i := 36) rfl rfl
theorem tw_37 : Cond.fieldLink "GiantStair$Search" 46 "GiantStair$Told" "people" "I" ∈ gT := gT_1 (i := 37) rfl rfl
theorem tw_38 : Cond.fieldLink "GiantStair" 207 "GiantStair$Told" "people" "I" ∈ gT := gT_1 (i := 38) rfl rfl
theorem tw_39 : Cond.fieldLink "GiantStair$Told" 9 "GiantStair$Told" "stepHeight" "[I" ∈ gT := gT_1 (i := 39) rfl rfl
theorem tw_40 : Cond.fieldLink "GiantStair" 85 "GiantStair$Told" "stepHeight" "[I" ∈ gT := gT_1 (i := 40) rfl rfl
theorem tw_41 : Cond.fieldLink "GiantStair$Told" 15 "GiantStair$Told" "rope" "[Z" ∈ gT := gT_1 (i := 41) rfl rfl
theorem tw_42 : Cond.fieldLink "GiantStair" 88 "GiantStair$Told" "rope" "[Z" ∈ gT := gT_1 (i := 42) rfl rfl
theorem tw_43 : Cond.fieldLink "GiantStair$Told" 19 "GiantStair$Told" "kind" "[I" ∈ gT := gT_1 (i := 43) rfl rfl
theorem tw_44 : Cond.fieldLink "GiantStair" 96 "GiantStair$Told" "kind" "[I" ∈ gT := gT_1 (i := 44) rfl rfl
theorem tw_45 : Cond.fieldLink "GiantStair$Told" 22 "GiantStair$Told" "height" "[I" ∈ gT := gT_1 (i := 45) rfl rfl
theorem tw_46 : Cond.fieldLink "GiantStair" 99 "GiantStair$Told" "height" "[I" ∈ gT := gT_1 (i := 46) rfl rfl
theorem tw_47 : Cond.fieldLink "GiantStair$Told" 25 "GiantStair$Told" "weight" "[I" ∈ gT := gT_1 (i := 47) rfl rfl
theorem tw_48 : Cond.fieldLink "GiantStair$Told" 28 "GiantStair$Told" "burden" "[I" ∈ gT := gT_1 (i := 48) rfl rfl
theorem tw_49 : Cond.fieldLink "GiantStair" 102 "GiantStair$Told" "burden" "[I" ∈ gT := gT_1 (i := 49) rfl rfl
theorem tw_50 : Cond.fieldLink "GiantStair$Told" 31 "GiantStair$Told" "strength" "[I" ∈ gT := gT_1 (i := 50) rfl rfl
theorem tw_51 : Cond.fieldLink "GiantStair" 105 "GiantStair$Told" "strength" "[I" ∈ gT := gT_1 (i := 51) rfl rfl
theorem tw_52 : Cond.fieldLink "GiantStair$Told" 34 "GiantStair$Told" "start" "[I" ∈ gT := gT_1 (i := 52) rfl rfl
theorem tw_53 : Cond.fieldLink "GiantStair" 214 "GiantStair$Told" "start" "[I" ∈ gT := gT_1 (i := 53) rfl rfl
theorem tw_54 : Cond.lays "GiantStair$Told" "GiantStair$Told" "top" "I" ∈ gT := gT_1 (i := 54) rfl rfl
theorem tw_56 : Cond.lays "GiantStair$Told" "GiantStair$Told" "people" "I" ∈ gT := gT_1 (i := 56) rfl rfl
theorem tw_58 : Cond.laysFinal "GiantStair$Told" "GiantStair$Told" "stepHeight" "[I" ∈ gT := gT_1 (i := 58) rfl rfl
theorem tw_60 : Cond.laysFinal "GiantStair$Told" "GiantStair$Told" "rope" "[Z" ∈ gT := gT_1 (i := 60) rfl rfl
theorem tw_62 : Cond.laysFinal "GiantStair$Told" "GiantStair$Told" "kind" "[I" ∈ gT := gT_1 (i := 62) rfl rfl
theorem tw_64 : Cond.laysFinal "GiantStair$Told" "GiantStair$Told" "height" "[I" ∈ gT := gT_1 (i := 64) rfl rfl
theorem tw_66 : Cond.laysFinal "GiantStair$Told" "GiantStair$Told" "weight" "[I" ∈ gT := gT_1 (i := 66) rfl rfl
theorem tw_68 : Cond.laysFinal "GiantStair$Told" "GiantStair$Told" "burden" "[I" ∈ gT := gT_1 (i := 68) rfl rfl
theorem tw_70 : Cond.laysFinal "GiantStair$Told" "GiantStair$Told" "strength" "[I" ∈ gT := gT_1 (i := 70) rfl rfl
theorem tw_72 : Cond.laysFinal "GiantStair$Told" "GiantStair$Told" "start" "[I" ∈ gT := gT_1 (i := 72) rfl rfl
theorem tw_75 : Cond.arrayClass FieldType.int ∈ gT := gT_1 (i := 75) rfl rfl
theorem tw_76 : Cond.arrayClass FieldType.boolean ∈ gT := gT_1 (i := 76) rfl rfl
theorem tw_77 : Cond.classLink "GiantStair" 19 "GiantStair$Text" ∈ gT := gT_1 (i := 77) rfl rfl
theorem tw_78 : Cond.instantiable "GiantStair$Text" 5 ∈ gT := gT_1 (i := 78) rfl rfl
theorem tw_79 : Cond.methodLinkNest "GiantStair" 21 (⟨"GiantStair$Text", "<init>", "()V"⟩ : MethodName) "GiantStair" ∈ lw_tbl := gL_1 (i := 79) rfl
theorem tw_80 : Cond.instanceMethod (⟨"GiantStair$Text", "<init>", "()V"⟩ : MethodName) ∈ gT := gT_1 (i := 80) rfl rfl
theorem tw_81 : Cond.code (⟨"GiantStair$Text", "<init>", "()V"⟩ : MethodName) prog_4_method_1_code 1 (Option.none : Option FieldType) ∈ gT := gT_1 (i := 81) rfl rfl
theorem tw_82 : Cond.methodLink "GiantStair$Text" 3 (⟨"java/lang/Object", "<init>", "()V"⟩ : MethodName) ∈ gT := gT_1 (i := 82) rfl rfl
theorem tw_83 : Cond.fieldLink "GiantStair$Text" 11 "GiantStair$Text" "signs" "[I" ∈ gT := gT_1 (i := 83) rfl rfl
theorem tw_84 : Cond.fieldLink "GiantStair$Text" 18 "GiantStair$Text" "length" "I" ∈ gT := gT_1 (i := 84) rfl rfl
theorem tw_85 : Cond.fieldLink "GiantStair" 54 "GiantStair$Text" "length" "I" ∈ gT := gT_1 (i := 85) rfl rfl
theorem tw_86 : Cond.fieldLink "GiantStair$Text" 25 "GiantStair$Text" "lines" "I" ∈ gT := gT_1 (i := 86) rfl rfl
theorem tw_87 : Cond.fieldLink "GiantStair" 79 "GiantStair$Text" "lines" "I" ∈ gT := gT_1 (i := 87) rfl rfl
theorem tw_88 : Cond.fieldLink "GiantStair$Text" 22 "GiantStair$Text" "place" "I" ∈ gT := gT_1 (i := 88) rfl rfl
theorem tw_89 : Cond.fieldLink "GiantStair$Text" 15 "GiantStair$Text" "numbers" "[I" ∈ gT := gT_1 (i := 89) rfl rfl
theorem tw_90 : Cond.laysFinal "GiantStair$Text" "GiantStair$Text" "signs" "[I" ∈ gT := gT_1 (i := 90) rfl rfl
theorem tw_92 : Cond.lays "GiantStair$Text" "GiantStair$Text" "length" "I" ∈ gT := gT_1 (i := 92) rfl rfl
theorem tw_94 : Cond.lays "GiantStair$Text" "GiantStair$Text" "lines" "I" ∈ gT := gT_1 (i := 94) rfl rfl
theorem tw_96 : Cond.lays "GiantStair$Text" "GiantStair$Text" "place" "I" ∈ gT := gT_1 (i := 96) rfl rfl
theorem tw_98 : Cond.laysFinal "GiantStair$Text" "GiantStair$Text" "numbers" "[I" ∈ gT := gT_1 (i := 98) rfl rfl
theorem tw_101 : Cond.classLink "GiantStair" 26 "GiantStair$Journey" ∈ gT := gT_1 (i := 101) rfl rfl
theorem tw_102 : Cond.instantiable "GiantStair$Journey" 4 ∈ gT := gT_1 (i := 102) rfl rfl
theorem tw_103 : Cond.methodLinkNest "GiantStair" 28 (⟨"GiantStair$Journey", "<init>", "()V"⟩ : MethodName) "GiantStair" ∈ lw_tbl := gL_1 (i := 103) rfl
theorem tw_104 : Cond.instanceMethod (⟨"GiantStair$Journey", "<init>", "()V"⟩ : MethodName) ∈ gT := gT_1 (i := 104) rfl rfl
theorem tw_105 : Cond.code (⟨"GiantStair$Journey", "<init>", "()V"⟩ : MethodName) prog_2_method_1_code 1 (Option.none : Option FieldType) ∈ gT := gT_1 (i := 105) rfl rfl
theorem tw_106 : Cond.methodLink "GiantStair$Journey" 3 (⟨"java/lang/Object", "<init>", "()V"⟩ : MethodName) ∈ gT := gT_1 (i := 106) rfl rfl
theorem tw_107 : Cond.fieldLink "GiantStair$Journey" 9 "GiantStair$Journey" "level" "[I" ∈ gT := gT_1 (i := 107) rfl rfl
theorem tw_108 : Cond.fieldLink "GiantStair" 108 "GiantStair$Journey" "level" "[I" ∈ gT := gT_1 (i := 108) rfl rfl
theorem tw_109 : Cond.fieldLink "GiantStair$Journey" 24 "GiantStair$Journey" "moves" "I" ∈ gT := gT_1 (i := 109) rfl rfl
theorem tw_110 : Cond.fieldLink "GiantStair" 136 "GiantStair$Journey" "moves" "I" ∈ gT := gT_1 (i := 110) rfl rfl
theorem tw_111 : Cond.fieldLink "GiantStair$Journey" 15 "GiantStair$Journey" "helps" "[I" ∈ gT := gT_1 (i := 111) rfl rfl
theorem tw_112 : Cond.fieldLink "GiantStair" 157 "GiantStair$Journey" "holds" "Z" ∈ gT := gT_1 (i := 112) rfl rfl
theorem tw_113 : Cond.laysFinal "GiantStair$Journey" "GiantStair$Journey" "level" "[I" ∈ gT := gT_1 (i := 113) rfl rfl
theorem tw_115 : Cond.lays "GiantStair$Journey" "GiantStair$Journey" "moves" "I" ∈ gT := gT_1 (i := 115) rfl rfl
theorem tw_117 : Cond.laysFinal "GiantStair$Journey" "GiantStair$Journey" "helps" "[I" ∈ gT := gT_1 (i := 117) rfl rfl
theorem tw_119 : Cond.lays "GiantStair$Journey" "GiantStair$Journey" "holds" "Z" ∈ gT := gT_1 (i := 119) rfl rfl
theorem tw_122 : Cond.arrayOver (FieldType.object "GiantStair$Journey") ∈ lw_tbl := gL_1 (i := 122) rfl
theorem tw_123 : Cond.classLink "GiantStair" 37 "GiantStair$Search" ∈ gT := gT_1 (i := 123) rfl rfl
theorem tw_124 : Cond.instantiable "GiantStair$Search" 6 ∈ gT := gT_1 (i := 124) rfl rfl
theorem tw_125 : Cond.methodLink "GiantStair" 39 (⟨"GiantStair$Search", "<init>", "()V"⟩ : MethodName) ∈ gT := gT_1 (i := 125) rfl rfl
theorem tw_126 : Cond.instanceMethod (⟨"GiantStair$Search", "<init>", "()V"⟩ : MethodName) ∈ gT := gT_1 (i := 126) rfl rfl
theorem tw_127 : Cond.code (⟨"GiantStair$Search", "<init>", "()V"⟩ : MethodName) prog_3_method_1_code 1 (Option.none : Option FieldType) ∈ gT := gT_1 (i := 127) rfl rfl
theorem tw_128 : Cond.methodLink "GiantStair$Search" 3 (⟨"java/lang/Object", "<init>", "()V"⟩ : MethodName) ∈ gT := gT_1 (i := 128) rfl rfl
theorem tw_129 : Cond.methodLink "GiantStair$Search" 24 (⟨"java/util/Arrays", "fill", "([II)V"⟩ : MethodName) ∈ gT := gT_1 (i := 129) rfl rfl
theorem tw_130 : Cond.static (⟨"java/util/Arrays", "fill", "([II)V"⟩ : MethodName) ∈ gT := gT_1 (i := 130) rfl rfl
theorem tw_131 : Cond.code (⟨"java/util/Arrays", "fill", "([II)V"⟩ : MethodName) prog_14_method_103_code 4 (Option.none : Option FieldType) ∈ gT := gT_1 (i := 131) rfl rfl
theorem tw_132 : Cond.fieldLink "GiantStair$Search" 11 "GiantStair$Search" "away" "[I" ∈ gT := gT_1 (i := 132) rfl rfl
theorem tw_133 : Cond.fieldLink "GiantStair$Search" 15 "GiantStair$Search" "ahead" "[I" ∈ gT := gT_1 (i := 133) rfl rfl
theorem tw_134 : Cond.fieldLink "GiantStair$Search" 18 "GiantStair$Search" "found" "[I" ∈ gT := gT_1 (i := 134) rfl rfl
theorem tw_135 : Cond.fieldLink "GiantStair$Search" 34 "GiantStair$Search" "reached" "I" ∈ gT := gT_1 (i := 135) rfl rfl
theorem tw_136 : Cond.fieldLink "GiantStair$Search" 69 "GiantStair$Search" "goal" "I" ∈ gT := gT_1 (i := 136) rfl rfl
theorem tw_137 : Cond.fieldLink "GiantStair$Search" 21 "GiantStair$Search" "level" "[I" ∈ gT := gT_1 (i := 137) rfl rfl
theorem tw_138 : Cond.laysFinal "GiantStair$Search" "GiantStair$Search" "away" "[I" ∈ gT := gT_1 (i := 138) rfl rfl
theorem tw_140 : Cond.laysFinal "GiantStair$Search" "GiantStair$Search" "ahead" "[I" ∈ gT := gT_1 (i := 140) rfl rfl
theorem tw_142 : Cond.laysFinal "GiantStair$Search" "GiantStair$Search" "found" "[I" ∈ gT := gT_1 (i := 142) rfl rfl
theorem tw_144 : Cond.lays "GiantStair$Search" "GiantStair$Search" "reached" "I" ∈ gT := gT_1 (i := 144) rfl rfl
theorem tw_146 : Cond.lays "GiantStair$Search" "GiantStair$Search" "goal" "I" ∈ gT := gT_1 (i := 146) rfl rfl
theorem tw_148 : Cond.laysFinal "GiantStair$Search" "GiantStair$Search" "level" "[I" ∈ gT := gT_1 (i := 148) rfl rfl
theorem tw_151 : Cond.fieldLink "GiantStair" 10 "GiantStair" "told" "LGiantStair$Told;" ∈ gT := gT_1 (i := 151) rfl rfl
theorem tw_152 : Cond.fieldLink "GiantStair" 16 "GiantStair" "draft" "LGiantStair$Told;" ∈ gT := gT_1 (i := 152) rfl rfl
theorem tw_153 : Cond.fieldLink "GiantStair" 22 "GiantStair" "text" "LGiantStair$Text;" ∈ gT := gT_1 (i := 153) rfl rfl
theorem tw_154 : Cond.fieldLink "GiantStair" 29 "GiantStair" "journey" "LGiantStair$Journey;" ∈ gT := gT_1 (i := 154) rfl rfl
theorem tw_155 : Cond.fieldLink "GiantStair" 33 "GiantStair" "kept" "[LGiantStair$Journey;" ∈ gT := gT_1 (i := 155) rfl rfl
theorem tw_156 : Cond.fieldLink "GiantStair" 40 "GiantStair" "search" "LGiantStair$Search;" ∈ gT := gT_1 (i := 156) rfl rfl
theorem tw_157 : Cond.fieldLink "GiantStair" 161 "GiantStair" "foreseen" "Z" ∈ gT := gT_1 (i := 157) rfl rfl
theorem tw_158 : Cond.fieldLink "GiantStair" 44 "GiantStair" "rowOne" "[I" ∈ gT := gT_1 (i := 158) rfl rfl
theorem tw_159 : Cond.fieldLink "GiantStair" 48 "GiantStair" "rowUp" "[I" ∈ gT := gT_1 (i := 159) rfl rfl
theorem tw_160 : Cond.fieldLink "GiantStair" 223 "GiantStair" "rowLength" "I" ∈ gT := gT_1 (i := 160) rfl rfl
theorem tw_161 : Cond.fieldLink "GiantStair" 51 "GiantStair" "judged" "[I" ∈ gT := gT_1 (i := 161) rfl rfl
theorem tw_162 : Cond.laysFinal "GiantStair" "GiantStair" "told" "LGiantStair$Told;" ∈ gT := gT_1 (i := 162) rfl rfl
theorem tw_164 : Cond.laysFinal "GiantStair" "GiantStair" "draft" "LGiantStair$Told;" ∈ gT := gT_1 (i := 164) rfl rfl
theorem tw_166 : Cond.laysFinal "GiantStair" "GiantStair" "text" "LGiantStair$Text;" ∈ gT := gT_1 (i := 166) rfl rfl
theorem tw_168 : Cond.laysFinal "GiantStair" "GiantStair" "journey" "LGiantStair$Journey;" ∈ gT := gT_1 (i := 168) rfl rfl
theorem tw_170 : Cond.laysFinal "GiantStair" "GiantStair" "kept" "[LGiantStair$Journey;" ∈ gT := gT_1 (i := 170) rfl rfl
theorem tw_172 : Cond.laysFinal "GiantStair" "GiantStair" "search" "LGiantStair$Search;" ∈ gT := gT_1 (i := 172) rfl rfl
theorem tw_174 : Cond.lays "GiantStair" "GiantStair" "foreseen" "Z" ∈ gT := gT_1 (i := 174) rfl rfl
theorem tw_176 : Cond.laysFinal "GiantStair" "GiantStair" "rowOne" "[I" ∈ gT := gT_1 (i := 176) rfl rfl
theorem tw_178 : Cond.laysFinal "GiantStair" "GiantStair" "rowUp" "[I" ∈ gT := gT_1 (i := 178) rfl rfl
theorem tw_180 : Cond.lays "GiantStair" "GiantStair" "rowLength" "I" ∈ gT := gT_1 (i := 180) rfl rfl
theorem tw_182 : Cond.laysFinal "GiantStair" "GiantStair" "judged" "[I" ∈ gT := gT_1 (i := 182) rfl rfl
theorem tw_185 : Cond.methodLink "GiantStairLaw" 15 (⟨"GiantStair", "write", "(JI)I"⟩ : MethodName) ∈ gT := gT_1 (i := 185) rfl rfl
theorem tw_186 : Cond.instanceMethod (⟨"GiantStair", "write", "(JI)I"⟩ : MethodName) ∈ gT := gT_1 (i := 186) rfl rfl
theorem tw_187 : Cond.selects "GiantStair" (⟨"GiantStair", "write", "(JI)I"⟩ : MethodName) (⟨"GiantStair", "write", "(JI)I"⟩ : MethodName) ∈ gT := gT_1 (i := 187) rfl rfl
theorem tw_188 : Cond.code (⟨"GiantStair", "write", "(JI)I"⟩ : MethodName) prog_1_method_2_code 5 (Option.some FieldType.int) ∈ gT := gT_1 (i := 188) rfl rfl
theorem tw_189 : Cond.constantLong "GiantStair" 58 (255 : Int64) ∈ gT := gT_1 (i := 189) rfl rfl
theorem tw_190 : Cond.methodLink "GiantStair" 60 (⟨"GiantStair$Text", "append", "(I)V"⟩ : MethodName) ∈ gT := gT_1 (i := 190) rfl rfl
theorem tw_191 : Cond.instanceMethod (⟨"GiantStair$Text", "append", "(I)V"⟩ : MethodName) ∈ gT := gT_1 (i := 191) rfl rfl
theorem tw_192 : Cond.selects "GiantStair$Text" (⟨"GiantStair$Text", "append", "(I)V"⟩ : MethodName) (⟨"GiantStair$Text", "append", "(I)V"⟩ : MethodName) ∈ gT := gT_1 (i := 192) rfl rfl
theorem tw_193 : Cond.code (⟨"GiantStair$Text", "append", "(I)V"⟩ : MethodName) prog_4_method_2_code 2 (Option.none : Option FieldType) ∈ gT := gT_1 (i := 193) rfl rfl
theorem tw_194 : Cond.methodLink "GiantStairLaw" 20 (⟨"GiantStair", "erase", "()I"⟩ : MethodName) ∈ gT := gT_1 (i := 194) rfl rfl
theorem tw_195 : Cond.instanceMethod (⟨"GiantStair", "erase", "()I"⟩ : MethodName) ∈ gT := gT_1 (i := 195) rfl rfl
theorem tw_196 : Cond.selects "GiantStair" (⟨"GiantStair", "erase", "()I"⟩ : MethodName) (⟨"GiantStair", "erase", "()I"⟩ : MethodName) ∈ gT := gT_1 (i := 196) rfl rfl
theorem tw_197 : Cond.code (⟨"GiantStair", "erase", "()I"⟩ : MethodName) prog_1_method_3_code 1 (Option.some FieldType.int) ∈ gT := gT_1 (i := 197) rfl rfl
theorem tw_198 : Cond.methodLink "GiantStair" 64 (⟨"GiantStair$Text", "empty", "()I"⟩ : MethodName) ∈ gT := gT_1 (i := 198) rfl rfl
theorem tw_199 : Cond.instanceMethod (⟨"GiantStair$Text", "empty", "()I"⟩ : MethodName) ∈ gT := gT_1 (i := 199) rfl rfl
theorem tw_200 : Cond.selects "GiantStair$Text" (⟨"GiantStair$Text", "empty", "()I"⟩ : MethodName) (⟨"GiantStair$Text", "empty", "()I"⟩ : MethodName) ∈ gT := gT_1 (i := 200) rfl rfl
theorem tw_201 : Cond.code (⟨"GiantStair$Text", "empty", "()I"⟩ : MethodName) prog_4_method_3_code 2 (Option.some FieldType.int) ∈ gT := gT_1 (i := 201) rfl rfl
theorem tw_202 : Cond.methodLink "GiantStairLaw" 25 (⟨"GiantStair", "fault", "()I"⟩ : MethodName) ∈ gT := gT_1 (i := 202) rfl rfl
theorem tw_203 : Cond.instanceMethod (⟨"GiantStair", "fault", "()I"⟩ : MethodName) ∈ gT := gT_1 (i := 203) rfl rfl
theorem tw_204 : Cond.selects "GiantStair" (⟨"GiantStair", "fault", "()I"⟩ : MethodName) (⟨"GiantStair", "fault", "()I"⟩ : MethodName) ∈ gT := gT_1 (i := 204) rfl rfl
theorem tw_205 : Cond.code (⟨"GiantStair", "fault", "()I"⟩ : MethodName) prog_1_method_4_code 1 (Option.some FieldType.int) ∈ gT := gT_1 (i := 205) rfl rfl
theorem tw_206 : Cond.methodLink "GiantStair" 68 (⟨"GiantStair$Told", "copy", "(LGiantStair$Told;)V"⟩ : MethodName) ∈ gT := gT_1 (i := 206) rfl rfl
theorem tw_207 : Cond.instanceMethod (⟨"GiantStair$Told", "copy", "(LGiantStair$Told;)V"⟩ : MethodName) ∈ gT := gT_1 (i := 207) rfl rfl
theorem tw_208 : Cond.selects "GiantStair$Told" (⟨"GiantStair$Told", "copy", "(LGiantStair$Told;)V"⟩ : MethodName) (⟨"GiantStair$Told", "copy", "(LGiantStair$Told;)V"⟩ : MethodName) ∈ gT := gT_1 (i := 208) rfl rfl
theorem tw_209 : Cond.code (⟨"GiantStair$Told", "copy", "(LGiantStair$Told;)V"⟩ : MethodName) prog_5_method_3_code 2 (Option.none : Option FieldType) ∈ gT := gT_1 (i := 209) rfl rfl
theorem tw_210 : Cond.methodLink "GiantStair$Told" 48 (⟨"GiantStair$Told", "copyStair", "(LGiantStair$Told;)V"⟩ : MethodName) ∈ gT := gT_1 (i := 210) rfl rfl
theorem tw_212 : Cond.instanceMethod (⟨"GiantStair$Told", "copyStair", "(LGiantStair$Told;)V"⟩ : MethodName) ∈ gT := gT_1 (i := 212) rfl rfl
theorem tw_213 : Cond.code (⟨"GiantStair$Told", "copyStair", "(LGiantStair$Told;)V"⟩ : MethodName) prog_5_method_4_code 3 (Option.none : Option FieldType) ∈ gT := gT_1 (i := 213) rfl rfl
theorem tw_214 : Cond.methodLink "GiantStair$Told" 52 (⟨"java/lang/System", "arraycopy", "(Ljava/lang/Object;ILjava/lang/Object;II)V"⟩ : MethodName) ∈ gT := gT_1 (i := 214) rfl rfl
theorem tw_215 : Cond.static (⟨"java/lang/System", "arraycopy", "(Ljava/lang/Object;ILjava/lang/Object;II)V"⟩ : MethodName) ∈ gT := gT_1 (i := 215) rfl rfl
theorem tw_216 : Cond.native (⟨"java/lang/System", "arraycopy", "(Ljava/lang/Object;ILjava/lang/Object;II)V"⟩ : MethodName) ∈ gT := gT_1 (i := 216) rfl rfl
theorem tw_217 : Cond.methodLink "GiantStair" 72 (⟨"GiantStair$Text", "read", "(LGiantStair$Told;)I"⟩ : MethodName) ∈ gT := gT_1 (i := 217) rfl rfl
theorem tw_218 : Cond.instanceMethod (⟨"GiantStair$Text", "read", "(LGiantStair$Told;)I"⟩ : MethodName) ∈ gT := gT_1 (i := 218) rfl rfl
theorem tw_219 : Cond.selects "GiantStair$Text" (⟨"GiantStair$Text", "read", "(LGiantStair$Told;)I"⟩ : MethodName) (⟨"GiantStair$Text", "read", "(LGiantStair$Told;)I"⟩ : MethodName) ∈ gT := gT_1 (i := 219) rfl rfl
theorem tw_220 : Cond.code (⟨"GiantStair$Text", "read", "(LGiantStair$Told;)I"⟩ : MethodName) prog_4_method_4_code 4 (Option.some FieldType.int) ∈ gT := gT_1 (i := 220) rfl rfl
theorem tw_221 : Cond.methodLink "GiantStair$Text" 28 (⟨"GiantStair$Text", "readLine", "(LGiantStair$Told;)I"⟩ : MethodName) ∈ gT := gT_1 (i := 221) rfl rfl
theorem tw_223 : Cond.instanceMethod (⟨"GiantStair$Text", "readLine", "(LGiantStair$Told;)I"⟩ : MethodName) ∈ gT := gT_1 (i := 223) rfl rfl
theorem tw_224 : Cond.code (⟨"GiantStair$Text", "readLine", "(LGiantStair$Told;)I"⟩ : MethodName) prog_4_method_5_code 7 (Option.some FieldType.int) ∈ gT := gT_1 (i := 224) rfl rfl
theorem tw_225 : Cond.methodLink "GiantStair$Text" 32 (⟨"GiantStair$Text", "skipBlanks", "()V"⟩ : MethodName) ∈ gT := gT_1 (i := 225) rfl rfl
theorem tw_227 : Cond.instanceMethod (⟨"GiantStair$Text", "skipBlanks", "()V"⟩ : MethodName) ∈ gT := gT_1 (i := 227) rfl rfl
theorem tw_228 : Cond.code (⟨"GiantStair$Text", "skipBlanks", "()V"⟩ : MethodName) prog_4_method_7_code 1 (Option.none : Option FieldType) ∈ gT := gT_1 (i := 228) rfl rfl
theorem tw_229 : Cond.methodLink "GiantStair$Text" 35 (⟨"GiantStair$Text", "sign", "()I"⟩ : MethodName) ∈ gT := gT_1 (i := 229) rfl rfl
theorem tw_231 : Cond.instanceMethod (⟨"GiantStair$Text", "sign", "()I"⟩ : MethodName) ∈ gT := gT_1 (i := 231) rfl rfl
theorem tw_232 : Cond.code (⟨"GiantStair$Text", "sign", "()I"⟩ : MethodName) prog_4_method_6_code 1 (Option.some FieldType.int) ∈ gT := gT_1 (i := 232) rfl rfl
theorem tw_233 : Cond.methodLink "GiantStair$Text" 39 (⟨"GiantStair$Text", "readWord", "()I"⟩ : MethodName) ∈ gT := gT_1 (i := 233) rfl rfl
theorem tw_235 : Cond.instanceMethod (⟨"GiantStair$Text", "readWord", "()I"⟩ : MethodName) ∈ gT := gT_1 (i := 235) rfl rfl
theorem tw_236 : Cond.code (⟨"GiantStair$Text", "readWord", "()I"⟩ : MethodName) prog_4_method_8_code 3 (Option.some FieldType.int) ∈ gT := gT_1 (i := 236) rfl rfl
theorem tw_237 : Cond.methodLink "GiantStair$Text" 66 (⟨"GiantStair$Text", "spelling", "(I)Ljava/lang/String;"⟩ : MethodName) ∈ gT := gT_1 (i := 237) rfl rfl
theorem tw_238 : Cond.static (⟨"GiantStair$Text", "spelling", "(I)Ljava/lang/String;"⟩ : MethodName) ∈ gT := gT_1 (i := 238) rfl rfl
theorem tw_239 : Cond.code (⟨"GiantStair$Text", "spelling", "(I)Ljava/lang/String;"⟩ : MethodName) prog_4_method_11_code 1 (Option.some (FieldType.object "java/lang/String")) ∈ gT := gT_1 (i := 239) rfl rfl
theorem tw_240 : Cond.stringRef "GiantStair$Text" 82 "stair" ∈ lw_tbl := gL_2 (i := 0) rfl
theorem tw_241 : Cond.stringRef "GiantStair$Text" 84 "step" ∈ lw_tbl := gL_2 (i := 1) rfl
theorem tw_242 : Cond.stringRef "GiantStair$Text" 86 "rope" ∈ lw_tbl := gL_2 (i := 2) rfl
theorem tw_243 : Cond.stringRef "GiantStair$Text" 88 "load" ∈ lw_tbl := gL_2 (i := 3) rfl
theorem tw_244 : Cond.stringRef "GiantStair$Text" 90 "at" ∈ lw_tbl := gL_2 (i := 4) rfl
theorem tw_245 : Cond.stringRef "GiantStair$Text" 92 "nobody" ∈ lw_tbl := gL_2 (i := 5) rfl
theorem tw_246 : Cond.stringRef "GiantStair$Text" 94 "pilgrim" ∈ lw_tbl := gL_2 (i := 6) rfl
theorem tw_247 : Cond.stringRef "GiantStair$Text" 96 "porter" ∈ lw_tbl := gL_2 (i := 7) rfl
theorem tw_248 : Cond.stringRef "GiantStair$Text" 98 "proud" ∈ lw_tbl := gL_2 (i := 8) rfl
theorem tw_249 : Cond.stringRef "GiantStair$Text" 100 "saint" ∈ lw_tbl := gL_2 (i := 9) rfl
theorem tw_250 : Cond.methodLink "GiantStair$Text" 70 (⟨"GiantStair$Text", "spells", "(ILjava/lang/String;)Z"⟩ : MethodName) ∈ gT := gT_2 (i := 10) rfl rfl
theorem tw_252 : Cond.instanceMethod (⟨"GiantStair$Text", "spells", "(ILjava/lang/String;)Z"⟩ : MethodName) ∈ gT := gT_2 (i := 12) rfl rfl
theorem tw_253 : Cond.code (⟨"GiantStair$Text", "spells", "(ILjava/lang/String;)Z"⟩ : MethodName) prog_4_method_10_code 4 (Option.some FieldType.boolean) ∈ gT := gT_2 (i := 13) rfl rfl
theorem tw_254 : Cond.methodLink "GiantStair$Text" 74 (⟨"java/lang/String", "length", "()I"⟩ : MethodName) ∈ gT := gT_2 (i := 14) rfl rfl
theorem tw_255 : Cond.instanceMethod (⟨"java/lang/String", "length", "()I"⟩ : MethodName) ∈ gT := gT_2 (i := 15) rfl rfl
theorem tw_256 : Cond.selects "java/lang/String" (⟨"java/lang/String", "length", "()I"⟩ : MethodName) (⟨"java/lang/String", "length", "()I"⟩ : MethodName) ∈ gT := gT_2 (i := 16) rfl rfl
theorem tw_257 : Cond.code (⟨"java/lang/String", "length", "()I"⟩ : MethodName) prog_10_method_54_code 1 (Option.some FieldType.int) ∈ gT := gT_2 (i := 17) rfl rfl
theorem tw_258 : Cond.methodLink "java/lang/String" 335 (⟨"java/lang/String", "coder", "()B"⟩ : MethodName) ∈ gT := gT_2 (i := 18) rfl rfl
theorem tw_259 : Cond.instanceMethod (⟨"java/lang/String", "coder", "()B"⟩ : MethodName) ∈ gT := gT_2 (i := 19) rfl rfl
theorem tw_260 : Cond.selects "java/lang/String" (⟨"java/lang/String", "coder", "()B"⟩ : MethodName) (⟨"java/lang/String", "coder", "()B"⟩ : MethodName) ∈ gT := gT_2 (i := 20) rfl rfl
theorem tw_261 : Cond.code (⟨"java/lang/String", "coder", "()B"⟩ : MethodName) prog_10_method_152_code 1 (Option.some FieldType.byte) ∈ gT := gT_2 (i := 21) rfl rfl
theorem tw_262 : Cond.fieldLink "java/lang/String" 38 "java/lang/String" "COMPACT_STRINGS" "Z" ∈ gT := gT_2 (i := 22) rfl rfl
theorem tw_263 : Cond.laysStatic "java/lang/String" "COMPACT_STRINGS" "Z" ∈ lw_tbl := gL_2 (i := 23) rfl
theorem tw_264 : Cond.methodLink "GiantStair$Text" 78 (⟨"java/lang/String", "charAt", "(I)C"⟩ : MethodName) ∈ gT := gT_2 (i := 24) rfl rfl
theorem tw_265 : Cond.instanceMethod (⟨"java/lang/String", "charAt", "(I)C"⟩ : MethodName) ∈ gT := gT_2 (i := 25) rfl rfl
theorem tw_266 : Cond.selects "java/lang/String" (⟨"java/lang/String", "charAt", "(I)C"⟩ : MethodName) (⟨"java/lang/String", "charAt", "(I)C"⟩ : MethodName) ∈ gT := gT_2 (i := 26) rfl rfl
theorem tw_267 : Cond.code (⟨"java/lang/String", "charAt", "(I)C"⟩ : MethodName) prog_10_method_56_code 2 (Option.some FieldType.char) ∈ gT := gT_2 (i := 27) rfl rfl
theorem tw_268 : Cond.methodLink "java/lang/String" 492 (⟨"java/lang/String", "isLatin1", "()Z"⟩ : MethodName) ∈ gT := gT_2 (i := 28) rfl rfl
theorem tw_269 : Cond.instanceMethod (⟨"java/lang/String", "isLatin1", "()Z"⟩ : MethodName) ∈ gT := gT_2 (i := 29) rfl rfl
theorem tw_270 : Cond.selects "java/lang/String" (⟨"java/lang/String", "isLatin1", "()Z"⟩ : MethodName) (⟨"java/lang/String", "isLatin1", "()Z"⟩ : MethodName) ∈ gT := gT_2 (i := 30) rfl rfl
theorem tw_271 : Cond.code (⟨"java/lang/String", "isLatin1", "()Z"⟩ : MethodName) prog_10_method_154_code 1 (Option.some FieldType.boolean) ∈ gT := gT_2 (i := 31) rfl rfl
theorem tw_272 : Cond.methodLink "java/lang/String" 495 (⟨"java/lang/StringLatin1", "charAt", "([BI)C"⟩ : MethodName) ∈ gT := gT_2 (i := 32) rfl rfl
theorem tw_273 : Cond.static (⟨"java/lang/StringLatin1", "charAt", "([BI)C"⟩ : MethodName) ∈ gT := gT_2 (i := 33) rfl rfl
theorem tw_274 : Cond.code (⟨"java/lang/StringLatin1", "charAt", "([BI)C"⟩ : MethodName) prog_11_method_2_code 2 (Option.some FieldType.char) ∈ gT := gT_2 (i := 34) rfl rfl
theorem tw_275 : Cond.methodLink "java/lang/StringLatin1" 9 (⟨"java/lang/String", "checkIndex", "(II)V"⟩ : MethodName) ∈ gT := gT_2 (i := 35) rfl rfl
theorem tw_276 : Cond.static (⟨"java/lang/String", "checkIndex", "(II)V"⟩ : MethodName) ∈ gT := gT_2 (i := 36) rfl rfl
theorem tw_277 : Cond.code (⟨"java/lang/String", "checkIndex", "(II)V"⟩ : MethodName) prog_10_method_155_code 2 (Option.none : Option FieldType) ∈ gT := gT_2 (i := 37) rfl rfl
theorem tw_278 : Cond.fieldLink "java/lang/String" 1053 "jdk/internal/util/Preconditions" "SIOOBE_FORMATTER" "Ljava/util/function/BiFunction;" ∈ gT := gT_2 (i := 38) rfl rfl
theorem tw_279 : Cond.laysStatic "jdk/internal/util/Preconditions" "SIOOBE_FORMATTER" "Ljava/util/function/BiFunction;" ∈ lw_tbl := gL_2 (i := 39) rfl
theorem tw_280 : Cond.methodLink "java/lang/String" 1059 (⟨"jdk/internal/util/Preconditions", "checkIndex", "(IILjava/util/function/BiFunction;)I"⟩ : MethodName) ∈ gT := gT_2 (i := 40) rfl rfl
theorem tw_281 : Cond.static (⟨"jdk/internal/util/Preconditions", "checkIndex", "(IILjava/util/function/BiFunction;)I"⟩ : MethodName) ∈ gT := gT_2 (i := 41) rfl rfl
theorem tw_282 : Cond.code (⟨"jdk/internal/util/Preconditions", "checkIndex", "(IILjava/util/function/BiFunction;)I"⟩ : MethodName) prog_15_method_11_code 3 (Option.some FieldType.int) ∈ gT := gT_2 (i := 42) rfl rfl
theorem tw_283 : Cond.methodLink "java/lang/String" 498 (⟨"java/lang/StringUTF16", "charAt", "([BI)C"⟩ : MethodName) ∈ gT := gT_2 (i := 43) rfl rfl
theorem tw_284 : Cond.static (⟨"java/lang/StringUTF16", "charAt", "([BI)C"⟩ : MethodName) ∈ gT := gT_2 (i := 44) rfl rfl
theorem tw_285 : Cond.code (⟨"java/lang/StringUTF16", "charAt", "([BI)C"⟩ : MethodName) prog_12_method_83_code 2 (Option.some FieldType.char) ∈ gT := gT_2 (i := 45) rfl rfl
theorem tw_286 : Cond.methodLink "java/lang/StringUTF16" 67 (⟨"java/lang/StringUTF16", "checkIndex", "(I[B)V"⟩ : MethodName) ∈ gT := gT_2 (i := 46) rfl rfl
theorem tw_287 : Cond.static (⟨"java/lang/StringUTF16", "checkIndex", "(I[B)V"⟩ : MethodName) ∈ gT := gT_2 (i := 47) rfl rfl
theorem tw_288 : Cond.code (⟨"java/lang/StringUTF16", "checkIndex", "(I[B)V"⟩ : MethodName) prog_12_method_91_code 2 (Option.none : Option FieldType) ∈ gT := gT_2 (i := 48) rfl rfl
theorem tw_289 : Cond.methodLink "java/lang/StringUTF16" 48 (⟨"java/lang/StringUTF16", "length", "([B)I"⟩ : MethodName) ∈ gT := gT_2 (i := 49) rfl rfl
theorem tw_290 : Cond.static (⟨"java/lang/StringUTF16", "length", "([B)I"⟩ : MethodName) ∈ gT := gT_2 (i := 50) rfl rfl
theorem tw_291 : Cond.code (⟨"java/lang/StringUTF16", "length", "([B)I"⟩ : MethodName) prog_12_method_6_code 1 (Option.some FieldType.int) ∈ gT := gT_2 (i := 51) rfl rfl
theorem tw_292 : Cond.methodLink "java/lang/StringUTF16" 414 (⟨"java/lang/String", "checkIndex", "(II)V"⟩ : MethodName) ∈ gT := gT_2 (i := 52) rfl rfl
theorem tw_293 : Cond.methodLink "java/lang/StringUTF16" 71 (⟨"java/lang/StringUTF16", "getChar", "([BI)C"⟩ : MethodName) ∈ gT := gT_2 (i := 53) rfl rfl
theorem tw_294 : Cond.static (⟨"java/lang/StringUTF16", "getChar", "([BI)C"⟩ : MethodName) ∈ gT := gT_2 (i := 54) rfl rfl
theorem tw_295 : Cond.code (⟨"java/lang/StringUTF16", "getChar", "([BI)C"⟩ : MethodName) prog_12_method_5_code 2 (Option.some FieldType.char) ∈ gT := gT_2 (i := 55) rfl rfl
theorem tw_296 : Cond.fieldLink "java/lang/StringUTF16" 44 "java/lang/StringUTF16" "$assertionsDisabled" "Z" ∈ gT := gT_2 (i := 56) rfl rfl
theorem tw_297 : Cond.laysStatic "java/lang/StringUTF16" "$assertionsDisabled" "Z" ∈ lw_tbl := gL_2 (i := 57) rfl
theorem tw_298 : Cond.fieldLink "java/lang/StringUTF16" 59 "java/lang/StringUTF16" "HI_BYTE_SHIFT" "I" ∈ gT := gT_2 (i := 58) rfl rfl
theorem tw_299 : Cond.laysStatic "java/lang/StringUTF16" "HI_BYTE_SHIFT" "I" ∈ lw_tbl := gL_2 (i := 59) rfl
theorem tw_300 : Cond.fieldLink "java/lang/StringUTF16" 63 "java/lang/StringUTF16" "LO_BYTE_SHIFT" "I" ∈ gT := gT_2 (i := 60) rfl rfl
theorem tw_301 : Cond.laysStatic "java/lang/StringUTF16" "LO_BYTE_SHIFT" "I" ∈ lw_tbl := gL_2 (i := 61) rfl
theorem tw_302 : Cond.methodLink "GiantStair$Text" 42 (⟨"GiantStair$Told", "allows", "(I)Z"⟩ : MethodName) ∈ gT := gT_2 (i := 62) rfl rfl
theorem tw_303 : Cond.instanceMethod (⟨"GiantStair$Told", "allows", "(I)Z"⟩ : MethodName) ∈ gT := gT_2 (i := 63) rfl rfl
theorem tw_304 : Cond.selects "GiantStair$Told" (⟨"GiantStair$Told", "allows", "(I)Z"⟩ : MethodName) (⟨"GiantStair$Told", "allows", "(I)Z"⟩ : MethodName) ∈ gT := gT_2 (i := 64) rfl rfl
theorem tw_305 : Cond.code (⟨"GiantStair$Told", "allows", "(I)Z"⟩ : MethodName) prog_5_method_6_code 2 (Option.some FieldType.boolean) ∈ gT := gT_2 (i := 65) rfl rfl
theorem tw_306 : Cond.methodLink "GiantStair$Text" 48 (⟨"GiantStair$Told", "numbersBehind", "(I)I"⟩ : MethodName) ∈ gT := gT_2 (i := 66) rfl rfl
theorem tw_307 : Cond.static (⟨"GiantStair$Told", "numbersBehind", "(I)I"⟩ : MethodName) ∈ gT := gT_2 (i := 67) rfl rfl
theorem tw_308 : Cond.code (⟨"GiantStair$Told", "numbersBehind", "(I)I"⟩ : MethodName) prog_5_method_7_code 1 (Option.some FieldType.int) ∈ gT := gT_2 (i := 68) rfl rfl
theorem tw_309 : Cond.methodLink "GiantStair$Text" 52 (⟨"GiantStair$Text", "readNumber", "()I"⟩ : MethodName) ∈ gT := gT_2 (i := 69) rfl rfl
theorem tw_311 : Cond.instanceMethod (⟨"GiantStair$Text", "readNumber", "()I"⟩ : MethodName) ∈ gT := gT_2 (i := 71) rfl rfl
theorem tw_312 : Cond.code (⟨"GiantStair$Text", "readNumber", "()I"⟩ : MethodName) prog_4_method_9_code 4 (Option.some FieldType.int) ∈ gT := gT_2 (i := 72) rfl rfl
theorem tw_313 : Cond.methodLink "GiantStair$Text" 55 (⟨"GiantStair$Told", "least", "(II)I"⟩ : MethodName) ∈ gT := gT_2 (i := 73) rfl rfl
theorem tw_314 : Cond.static (⟨"GiantStair$Told", "least", "(II)I"⟩ : MethodName) ∈ gT := gT_2 (i := 74) rfl rfl
theorem tw_315 : Cond.code (⟨"GiantStair$Told", "least", "(II)I"⟩ : MethodName) prog_5_method_8_code 2 (Option.some FieldType.int) ∈ gT := gT_2 (i := 75) rfl rfl
theorem tw_316 : Cond.methodLink "GiantStair$Text" 59 (⟨"GiantStair$Told", "greatest", "(II)I"⟩ : MethodName) ∈ gT := gT_2 (i := 76) rfl rfl
theorem tw_317 : Cond.instanceMethod (⟨"GiantStair$Told", "greatest", "(II)I"⟩ : MethodName) ∈ gT := gT_2 (i := 77) rfl rfl
theorem tw_318 : Cond.selects "GiantStair$Told" (⟨"GiantStair$Told", "greatest", "(II)I"⟩ : MethodName) (⟨"GiantStair$Told", "greatest", "(II)I"⟩ : MethodName) ∈ gT := gT_2 (i := 78) rfl rfl
theorem tw_319 : Cond.code (⟨"GiantStair$Told", "greatest", "(II)I"⟩ : MethodName) prog_5_method_9_code 3 (Option.some FieldType.int) ∈ gT := gT_2 (i := 79) rfl rfl
theorem tw_320 : Cond.methodLink "GiantStair$Text" 62 (⟨"GiantStair$Told", "tell", "(IIII)V"⟩ : MethodName) ∈ gT := gT_2 (i := 80) rfl rfl
theorem tw_321 : Cond.instanceMethod (⟨"GiantStair$Told", "tell", "(IIII)V"⟩ : MethodName) ∈ gT := gT_2 (i := 81) rfl rfl
theorem tw_322 : Cond.selects "GiantStair$Told" (⟨"GiantStair$Told", "tell", "(IIII)V"⟩ : MethodName) (⟨"GiantStair$Told", "tell", "(IIII)V"⟩ : MethodName) ∈ gT := gT_2 (i := 82) rfl rfl
theorem tw_323 : Cond.code (⟨"GiantStair$Told", "tell", "(IIII)V"⟩ : MethodName) prog_5_method_10_code 5 (Option.none : Option FieldType) ∈ gT := gT_2 (i := 83) rfl rfl
theorem tw_324 : Cond.methodLink "GiantStair$Told" 58 (⟨"GiantStair$Told", "isStep", "(I)Z"⟩ : MethodName) ∈ gT := gT_2 (i := 84) rfl rfl
theorem tw_326 : Cond.instanceMethod (⟨"GiantStair$Told", "isStep", "(I)Z"⟩ : MethodName) ∈ gT := gT_2 (i := 86) rfl rfl
theorem tw_327 : Cond.code (⟨"GiantStair$Told", "isStep", "(I)Z"⟩ : MethodName) prog_5_method_12_code 2 (Option.some FieldType.boolean) ∈ gT := gT_2 (i := 87) rfl rfl
theorem tw_328 : Cond.methodLink "GiantStair$Told" 62 (⟨"GiantStair$Told", "isOne", "(I)Z"⟩ : MethodName) ∈ gT := gT_2 (i := 88) rfl rfl
theorem tw_329 : Cond.instanceMethod (⟨"GiantStair$Told", "isOne", "(I)Z"⟩ : MethodName) ∈ gT := gT_2 (i := 89) rfl rfl
theorem tw_330 : Cond.selects "GiantStair$Told" (⟨"GiantStair$Told", "isOne", "(I)Z"⟩ : MethodName) (⟨"GiantStair$Told", "isOne", "(I)Z"⟩ : MethodName) ∈ gT := gT_2 (i := 90) rfl rfl
theorem tw_331 : Cond.code (⟨"GiantStair$Told", "isOne", "(I)Z"⟩ : MethodName) prog_5_method_11_code 2 (Option.some FieldType.boolean) ∈ gT := gT_2 (i := 91) rfl rfl
theorem tw_332 : Cond.arrayClass FieldType.byte ∈ gT := gT_2 (i := 92) rfl rfl
theorem tw_333 : Cond.methodLink "GiantStairLaw" 29 (⟨"GiantStair", "stair", "()I"⟩ : MethodName) ∈ gT := gT_2 (i := 93) rfl rfl
theorem tw_334 : Cond.instanceMethod (⟨"GiantStair", "stair", "()I"⟩ : MethodName) ∈ gT := gT_2 (i := 94) rfl rfl
theorem tw_335 : Cond.selects "GiantStair" (⟨"GiantStair", "stair", "()I"⟩ : MethodName) (⟨"GiantStair", "stair", "()I"⟩ : MethodName) ∈ gT := gT_2 (i := 95) rfl rfl
theorem tw_336 : Cond.code (⟨"GiantStair", "stair", "()I"⟩ : MethodName) prog_1_method_5_code 1 (Option.some FieldType.int) ∈ gT := gT_2 (i := 96) rfl rfl
theorem tw_337 : Cond.methodLink "GiantStair" 76 (⟨"GiantStair", "beginAnew", "()V"⟩ : MethodName) ∈ gT := gT_2 (i := 97) rfl rfl
theorem tw_339 : Cond.instanceMethod (⟨"GiantStair", "beginAnew", "()V"⟩ : MethodName) ∈ gT := gT_2 (i := 99) rfl rfl
theorem tw_340 : Cond.code (⟨"GiantStair", "beginAnew", "()V"⟩ : MethodName) prog_1_method_29_code 2 (Option.none : Option FieldType) ∈ gT := gT_2 (i := 100) rfl rfl
theorem tw_341 : Cond.methodLink "GiantStair" 239 (⟨"GiantStair$Journey", "begin", "([I)V"⟩ : MethodName) ∈ gT := gT_2 (i := 101) rfl rfl
theorem tw_342 : Cond.instanceMethod (⟨"GiantStair$Journey", "begin", "([I)V"⟩ : MethodName) ∈ gT := gT_2 (i := 102) rfl rfl
theorem tw_343 : Cond.selects "GiantStair$Journey" (⟨"GiantStair$Journey", "begin", "([I)V"⟩ : MethodName) (⟨"GiantStair$Journey", "begin", "([I)V"⟩ : MethodName) ∈ gT := gT_2 (i := 103) rfl rfl
theorem tw_344 : Cond.code (⟨"GiantStair$Journey", "begin", "([I)V"⟩ : MethodName) prog_2_method_2_code 2 (Option.none : Option FieldType) ∈ gT := gT_2 (i := 104) rfl rfl
theorem tw_345 : Cond.methodLink "GiantStair$Journey" 18 (⟨"java/lang/System", "arraycopy", "(Ljava/lang/Object;ILjava/lang/Object;II)V"⟩ : MethodName) ∈ gT := gT_2 (i := 105) rfl rfl
theorem tw_346 : Cond.methodLink "GiantStair$Journey" 28 (⟨"java/util/Arrays", "fill", "([II)V"⟩ : MethodName) ∈ gT := gT_2 (i := 106) rfl rfl
theorem tw_347 : Cond.methodLink "GiantStairLaw" 33 (⟨"GiantStair", "step", "(II)I"⟩ : MethodName) ∈ gT := gT_2 (i := 107) rfl rfl
theorem tw_348 : Cond.instanceMethod (⟨"GiantStair", "step", "(II)I"⟩ : MethodName) ∈ gT := gT_2 (i := 108) rfl rfl
theorem tw_349 : Cond.selects "GiantStair" (⟨"GiantStair", "step", "(II)I"⟩ : MethodName) (⟨"GiantStair", "step", "(II)I"⟩ : MethodName) ∈ gT := gT_2 (i := 109) rfl rfl
theorem tw_350 : Cond.code (⟨"GiantStair", "step", "(II)I"⟩ : MethodName) prog_1_method_6_code 3 (Option.some FieldType.int) ∈ gT := gT_2 (i := 110) rfl rfl
theorem tw_351 : Cond.methodLink "GiantStairLaw" 38 (⟨"GiantStair", "one", "(II)I"⟩ : MethodName) ∈ gT := gT_2 (i := 111) rfl rfl
theorem tw_352 : Cond.instanceMethod (⟨"GiantStair", "one", "(II)I"⟩ : MethodName) ∈ gT := gT_2 (i := 112) rfl rfl
theorem tw_353 : Cond.selects "GiantStair" (⟨"GiantStair", "one", "(II)I"⟩ : MethodName) (⟨"GiantStair", "one", "(II)I"⟩ : MethodName) ∈ gT := gT_2 (i := 113) rfl rfl
theorem tw_354 : Cond.code (⟨"GiantStair", "one", "(II)I"⟩ : MethodName) prog_1_method_7_code 3 (Option.some FieldType.int) ∈ gT := gT_2 (i := 114) rfl rfl
theorem tw_355 : Cond.methodLink "GiantStair" 92 (⟨"GiantStair$Told", "isOne", "(I)Z"⟩ : MethodName) ∈ gT := gT_2 (i := 115) rfl rfl
theorem tw_356 : Cond.methodLink "GiantStair" 111 (⟨"GiantStair$Journey", "helpGiven", "(I)I"⟩ : MethodName) ∈ gT := gT_2 (i := 116) rfl rfl
theorem tw_357 : Cond.instanceMethod (⟨"GiantStair$Journey", "helpGiven", "(I)I"⟩ : MethodName) ∈ gT := gT_2 (i := 117) rfl rfl
theorem tw_358 : Cond.selects "GiantStair$Journey" (⟨"GiantStair$Journey", "helpGiven", "(I)I"⟩ : MethodName) (⟨"GiantStair$Journey", "helpGiven", "(I)I"⟩ : MethodName) ∈ gT := gT_2 (i := 118) rfl rfl
theorem tw_359 : Cond.code (⟨"GiantStair$Journey", "helpGiven", "(I)I"⟩ : MethodName) prog_2_method_7_code 4 (Option.some FieldType.int) ∈ gT := gT_2 (i := 119) rfl rfl
theorem tw_360 : Cond.methodLink "GiantStair$Journey" 38 (⟨"GiantStair$Journey", "helpBetween", "(II)I"⟩ : MethodName) ∈ gT := gT_2 (i := 120) rfl rfl
theorem tw_361 : Cond.instanceMethod (⟨"GiantStair$Journey", "helpBetween", "(II)I"⟩ : MethodName) ∈ gT := gT_2 (i := 121) rfl rfl
theorem tw_362 : Cond.selects "GiantStair$Journey" (⟨"GiantStair$Journey", "helpBetween", "(II)I"⟩ : MethodName) (⟨"GiantStair$Journey", "helpBetween", "(II)I"⟩ : MethodName) ∈ gT := gT_2 (i := 122) rfl rfl
theorem tw_363 : Cond.code (⟨"GiantStair$Journey", "helpBetween", "(II)I"⟩ : MethodName) prog_2_method_6_code 3 (Option.some FieldType.int) ∈ gT := gT_2 (i := 123) rfl rfl
theorem tw_364 : Cond.methodLink "GiantStair$Journey" 34 (⟨"GiantStair$Journey", "isPair", "(II)Z"⟩ : MethodName) ∈ gT := gT_2 (i := 124) rfl rfl
theorem tw_365 : Cond.static (⟨"GiantStair$Journey", "isPair", "(II)Z"⟩ : MethodName) ∈ gT := gT_2 (i := 125) rfl rfl
theorem tw_366 : Cond.code (⟨"GiantStair$Journey", "isPair", "(II)Z"⟩ : MethodName) prog_2_method_4_code 2 (Option.some FieldType.boolean) ∈ gT := gT_2 (i := 126) rfl rfl
theorem tw_367 : Cond.methodLink "GiantStair" 115 (⟨"GiantStair$Journey", "helpTaken", "(I)I"⟩ : MethodName) ∈ gT := gT_2 (i := 127) rfl rfl
theorem tw_368 : Cond.instanceMethod (⟨"GiantStair$Journey", "helpTaken", "(I)I"⟩ : MethodName) ∈ gT := gT_2 (i := 128) rfl rfl
theorem tw_369 : Cond.selects "GiantStair$Journey" (⟨"GiantStair$Journey", "helpTaken", "(I)I"⟩ : MethodName) (⟨"GiantStair$Journey", "helpTaken", "(I)I"⟩ : MethodName) ∈ gT := gT_2 (i := 129) rfl rfl
theorem tw_370 : Cond.code (⟨"GiantStair$Journey", "helpTaken", "(I)I"⟩ : MethodName) prog_2_method_8_code 4 (Option.some FieldType.int) ∈ gT := gT_2 (i := 130) rfl rfl
theorem tw_371 : Cond.methodLink "GiantStairLaw" 42 (⟨"GiantStair", "as", "(II)I"⟩ : MethodName) ∈ gT := gT_2 (i := 131) rfl rfl
theorem tw_372 : Cond.instanceMethod (⟨"GiantStair", "as", "(II)I"⟩ : MethodName) ∈ gT := gT_2 (i := 132) rfl rfl
theorem tw_373 : Cond.selects "GiantStair" (⟨"GiantStair", "as", "(II)I"⟩ : MethodName) (⟨"GiantStair", "as", "(II)I"⟩ : MethodName) ∈ gT := gT_2 (i := 133) rfl rfl
theorem tw_374 : Cond.code (⟨"GiantStair", "as", "(II)I"⟩ : MethodName) prog_1_method_8_code 4 (Option.some FieldType.int) ∈ gT := gT_2 (i := 134) rfl rfl
theorem tw_375 : Cond.methodLink "GiantStair" 118 (⟨"GiantStair$Told", "isSuch", "(II)Z"⟩ : MethodName) ∈ gT := gT_2 (i := 135) rfl rfl
theorem tw_376 : Cond.instanceMethod (⟨"GiantStair$Told", "isSuch", "(II)Z"⟩ : MethodName) ∈ gT := gT_2 (i := 136) rfl rfl
theorem tw_377 : Cond.selects "GiantStair$Told" (⟨"GiantStair$Told", "isSuch", "(II)Z"⟩ : MethodName) (⟨"GiantStair$Told", "isSuch", "(II)Z"⟩ : MethodName) ∈ gT := gT_2 (i := 137) rfl rfl
theorem tw_378 : Cond.code (⟨"GiantStair$Told", "isSuch", "(II)Z"⟩ : MethodName) prog_5_method_13_code 5 (Option.some FieldType.boolean) ∈ gT := gT_2 (i := 138) rfl rfl
theorem tw_379 : Cond.fieldLink "GiantStair$Told" 65 "GiantStair$Told" "OVER" "[I" ∈ gT := gT_2 (i := 139) rfl rfl
theorem tw_380 : Cond.laysStatic "GiantStair$Told" "OVER" "[I" ∈ lw_tbl := gL_2 (i := 140) rfl
theorem tw_381 : Cond.methodLink "GiantStair" 122 (⟨"GiantStair$Told", "canRise", "(I[I)Z"⟩ : MethodName) ∈ gT := gT_2 (i := 141) rfl rfl
theorem tw_382 : Cond.instanceMethod (⟨"GiantStair$Told", "canRise", "(I[I)Z"⟩ : MethodName) ∈ gT := gT_2 (i := 142) rfl rfl
theorem tw_383 : Cond.selects "GiantStair$Told" (⟨"GiantStair$Told", "canRise", "(I[I)Z"⟩ : MethodName) (⟨"GiantStair$Told", "canRise", "(I[I)Z"⟩ : MethodName) ∈ gT := gT_2 (i := 143) rfl rfl
theorem tw_384 : Cond.code (⟨"GiantStair$Told", "canRise", "(I[I)Z"⟩ : MethodName) prog_5_method_18_code 3 (Option.some FieldType.boolean) ∈ gT := gT_2 (i := 144) rfl rfl
theorem tw_385 : Cond.methodLink "GiantStair$Told" 68 (⟨"GiantStair$Told", "firstHelp", "(I[I)I"⟩ : MethodName) ∈ gT := gT_2 (i := 145) rfl rfl
theorem tw_386 : Cond.instanceMethod (⟨"GiantStair$Told", "firstHelp", "(I[I)I"⟩ : MethodName) ∈ gT := gT_2 (i := 146) rfl rfl
theorem tw_387 : Cond.selects "GiantStair$Told" (⟨"GiantStair$Told", "firstHelp", "(I[I)I"⟩ : MethodName) (⟨"GiantStair$Told", "firstHelp", "(I[I)I"⟩ : MethodName) ∈ gT := gT_2 (i := 147) rfl rfl
theorem tw_388 : Cond.code (⟨"GiantStair$Told", "firstHelp", "(I[I)I"⟩ : MethodName) prog_5_method_20_code 5 (Option.some FieldType.int) ∈ gT := gT_2 (i := 148) rfl rfl
theorem tw_389 : Cond.methodLink "GiantStair$Told" 76 (⟨"GiantStair$Told", "goes", "(I)Z"⟩ : MethodName) ∈ gT := gT_2 (i := 149) rfl rfl
theorem tw_390 : Cond.instanceMethod (⟨"GiantStair$Told", "goes", "(I)Z"⟩ : MethodName) ∈ gT := gT_2 (i := 150) rfl rfl
theorem tw_391 : Cond.selects "GiantStair$Told" (⟨"GiantStair$Told", "goes", "(I)Z"⟩ : MethodName) (⟨"GiantStair$Told", "goes", "(I)Z"⟩ : MethodName) ∈ gT := gT_2 (i := 151) rfl rfl
theorem tw_392 : Cond.code (⟨"GiantStair$Told", "goes", "(I)Z"⟩ : MethodName) prog_5_method_14_code 2 (Option.some FieldType.boolean) ∈ gT := gT_2 (i := 152) rfl rfl
theorem tw_393 : Cond.methodLink "GiantStair$Told" 79 (⟨"GiantStair$Told", "standsAt", "(III[I)Z"⟩ : MethodName) ∈ gT := gT_2 (i := 153) rfl rfl
theorem tw_395 : Cond.instanceMethod (⟨"GiantStair$Told", "standsAt", "(III[I)Z"⟩ : MethodName) ∈ gT := gT_2 (i := 155) rfl rfl
theorem tw_396 : Cond.code (⟨"GiantStair$Told", "standsAt", "(III[I)Z"⟩ : MethodName) prog_5_method_25_code 5 (Option.some FieldType.boolean) ∈ gT := gT_2 (i := 156) rfl rfl
theorem tw_397 : Cond.methodLink "GiantStair$Told" 83 (⟨"GiantStair$Told", "risesBy", "(III[I)Z"⟩ : MethodName) ∈ gT := gT_2 (i := 157) rfl rfl
theorem tw_398 : Cond.instanceMethod (⟨"GiantStair$Told", "risesBy", "(III[I)Z"⟩ : MethodName) ∈ gT := gT_2 (i := 158) rfl rfl
theorem tw_399 : Cond.selects "GiantStair$Told" (⟨"GiantStair$Told", "risesBy", "(III[I)Z"⟩ : MethodName) (⟨"GiantStair$Told", "risesBy", "(III[I)Z"⟩ : MethodName) ∈ gT := gT_2 (i := 159) rfl rfl
theorem tw_400 : Cond.code (⟨"GiantStair$Told", "risesBy", "(III[I)Z"⟩ : MethodName) prog_5_method_23_code 6 (Option.some FieldType.boolean) ∈ gT := gT_2 (i := 160) rfl rfl
theorem tw_401 : Cond.methodLink "GiantStair$Told" 86 (⟨"GiantStair$Told", "hand", "(I)I"⟩ : MethodName) ∈ gT := gT_2 (i := 161) rfl rfl
theorem tw_403 : Cond.instanceMethod (⟨"GiantStair$Told", "hand", "(I)I"⟩ : MethodName) ∈ gT := gT_2 (i := 163) rfl rfl
theorem tw_404 : Cond.code (⟨"GiantStair$Told", "hand", "(I)I"⟩ : MethodName) prog_5_method_15_code 2 (Option.some FieldType.int) ∈ gT := gT_2 (i := 164) rfl rfl
theorem tw_405 : Cond.methodLink "GiantStair$Told" 90 (⟨"GiantStair$Told", "tallness", "(I)I"⟩ : MethodName) ∈ gT := gT_2 (i := 165) rfl rfl
theorem tw_407 : Cond.instanceMethod (⟨"GiantStair$Told", "tallness", "(I)I"⟩ : MethodName) ∈ gT := gT_2 (i := 167) rfl rfl
theorem tw_408 : Cond.code (⟨"GiantStair$Told", "tallness", "(I)I"⟩ : MethodName) prog_5_method_16_code 2 (Option.some FieldType.int) ∈ gT := gT_2 (i := 168) rfl rfl
theorem tw_409 : Cond.methodLink "GiantStair" 126 (⟨"GiantStair$Told", "canSink", "(I[I)Z"⟩ : MethodName) ∈ gT := gT_2 (i := 169) rfl rfl
theorem tw_410 : Cond.instanceMethod (⟨"GiantStair$Told", "canSink", "(I[I)Z"⟩ : MethodName) ∈ gT := gT_2 (i := 170) rfl rfl
theorem tw_411 : Cond.selects "GiantStair$Told" (⟨"GiantStair$Told", "canSink", "(I[I)Z"⟩ : MethodName) (⟨"GiantStair$Told", "canSink", "(I[I)Z"⟩ : MethodName) ∈ gT := gT_2 (i := 171) rfl rfl
theorem tw_412 : Cond.code (⟨"GiantStair$Told", "canSink", "(I[I)Z"⟩ : MethodName) prog_5_method_19_code 4 (Option.some FieldType.boolean) ∈ gT := gT_2 (i := 172) rfl rfl
theorem tw_413 : Cond.methodLink "GiantStair$Told" 72 (⟨"GiantStair$Told", "sinksBy", "(II[I)Z"⟩ : MethodName) ∈ gT := gT_2 (i := 173) rfl rfl
theorem tw_414 : Cond.instanceMethod (⟨"GiantStair$Told", "sinksBy", "(II[I)Z"⟩ : MethodName) ∈ gT := gT_2 (i := 174) rfl rfl
theorem tw_415 : Cond.selects "GiantStair$Told" (⟨"GiantStair$Told", "sinksBy", "(II[I)Z"⟩ : MethodName) (⟨"GiantStair$Told", "sinksBy", "(II[I)Z"⟩ : MethodName) ∈ gT := gT_2 (i := 175) rfl rfl
theorem tw_416 : Cond.code (⟨"GiantStair$Told", "sinksBy", "(II[I)Z"⟩ : MethodName) prog_5_method_24_code 5 (Option.some FieldType.boolean) ∈ gT := gT_2 (i := 176) rfl rfl
theorem tw_417 : Cond.methodLink "GiantStairLaw" 46 (⟨"GiantStair", "up", "(III)I"⟩ : MethodName) ∈ gT := gT_2 (i := 177) rfl rfl
theorem tw_418 : Cond.instanceMethod (⟨"GiantStair", "up", "(III)I"⟩ : MethodName) ∈ gT := gT_2 (i := 178) rfl rfl
theorem tw_419 : Cond.selects "GiantStair" (⟨"GiantStair", "up", "(III)I"⟩ : MethodName) (⟨"GiantStair", "up", "(III)I"⟩ : MethodName) ∈ gT := gT_2 (i := 179) rfl rfl
theorem tw_420 : Cond.code (⟨"GiantStair", "up", "(III)I"⟩ : MethodName) prog_1_method_9_code 4 (Option.some FieldType.int) ∈ gT := gT_2 (i := 180) rfl rfl
theorem tw_421 : Cond.methodLink "GiantStair" 129 (⟨"GiantStair", "mayBeAsked", "(II)Z"⟩ : MethodName) ∈ gT := gT_2 (i := 181) rfl rfl
theorem tw_423 : Cond.instanceMethod (⟨"GiantStair", "mayBeAsked", "(II)Z"⟩ : MethodName) ∈ gT := gT_2 (i := 183) rfl rfl
theorem tw_424 : Cond.code (⟨"GiantStair", "mayBeAsked", "(II)Z"⟩ : MethodName) prog_1_method_27_code 3 (Option.some FieldType.boolean) ∈ gT := gT_2 (i := 184) rfl rfl
theorem tw_425 : Cond.methodLink "GiantStair" 132 (⟨"GiantStair$Told", "risesBy", "(III[I)Z"⟩ : MethodName) ∈ gT := gT_2 (i := 185) rfl rfl
theorem tw_426 : Cond.methodLink "GiantStair" 139 (⟨"GiantStair$Journey", "addHelp", "(II)V"⟩ : MethodName) ∈ gT := gT_2 (i := 186) rfl rfl
theorem tw_427 : Cond.instanceMethod (⟨"GiantStair$Journey", "addHelp", "(II)V"⟩ : MethodName) ∈ gT := gT_2 (i := 187) rfl rfl
theorem tw_428 : Cond.selects "GiantStair$Journey" (⟨"GiantStair$Journey", "addHelp", "(II)V"⟩ : MethodName) (⟨"GiantStair$Journey", "addHelp", "(II)V"⟩ : MethodName) ∈ gT := gT_2 (i := 188) rfl rfl
theorem tw_429 : Cond.code (⟨"GiantStair$Journey", "addHelp", "(II)V"⟩ : MethodName) prog_2_method_5_code 3 (Option.none : Option FieldType) ∈ gT := gT_2 (i := 189) rfl rfl
theorem tw_430 : Cond.methodLink "GiantStair" 143 (⟨"GiantStair", "go", "(II)I"⟩ : MethodName) ∈ gT := gT_2 (i := 190) rfl rfl
theorem tw_432 : Cond.instanceMethod (⟨"GiantStair", "go", "(II)I"⟩ : MethodName) ∈ gT := gT_2 (i := 192) rfl rfl
theorem tw_433 : Cond.code (⟨"GiantStair", "go", "(II)I"⟩ : MethodName) prog_1_method_28_code 3 (Option.some FieldType.int) ∈ gT := gT_2 (i := 193) rfl rfl
theorem tw_434 : Cond.methodLink "GiantStairLaw" 51 (⟨"GiantStair", "down", "(II)I"⟩ : MethodName) ∈ gT := gT_2 (i := 194) rfl rfl
theorem tw_435 : Cond.instanceMethod (⟨"GiantStair", "down", "(II)I"⟩ : MethodName) ∈ gT := gT_2 (i := 195) rfl rfl
theorem tw_436 : Cond.selects "GiantStair" (⟨"GiantStair", "down", "(II)I"⟩ : MethodName) (⟨"GiantStair", "down", "(II)I"⟩ : MethodName) ∈ gT := gT_2 (i := 196) rfl rfl
theorem tw_437 : Cond.code (⟨"GiantStair", "down", "(II)I"⟩ : MethodName) prog_1_method_10_code 3 (Option.some FieldType.int) ∈ gT := gT_2 (i := 197) rfl rfl
theorem tw_438 : Cond.methodLink "GiantStair" 147 (⟨"GiantStair$Told", "sinksBy", "(II[I)Z"⟩ : MethodName) ∈ gT := gT_2 (i := 198) rfl rfl
theorem tw_439 : Cond.methodLink "GiantStairLaw" 55 (⟨"GiantStair", "helped", "(II)I"⟩ : MethodName) ∈ gT := gT_2 (i := 199) rfl rfl
theorem tw_440 : Cond.instanceMethod (⟨"GiantStair", "helped", "(II)I"⟩ : MethodName) ∈ gT := gT_2 (i := 200) rfl rfl
theorem tw_441 : Cond.selects "GiantStair" (⟨"GiantStair", "helped", "(II)I"⟩ : MethodName) (⟨"GiantStair", "helped", "(II)I"⟩ : MethodName) ∈ gT := gT_2 (i := 201) rfl rfl
theorem tw_442 : Cond.code (⟨"GiantStair", "helped", "(II)I"⟩ : MethodName) prog_1_method_11_code 3 (Option.some FieldType.int) ∈ gT := gT_2 (i := 202) rfl rfl
theorem tw_443 : Cond.methodLink "GiantStair" 151 (⟨"GiantStair$Journey", "helpBetween", "(II)I"⟩ : MethodName) ∈ gT := gT_2 (i := 203) rfl rfl
theorem tw_444 : Cond.methodLink "GiantStairLaw" 59 (⟨"GiantStair", "keep", "(I)I"⟩ : MethodName) ∈ gT := gT_2 (i := 204) rfl rfl
theorem tw_445 : Cond.instanceMethod (⟨"GiantStair", "keep", "(I)I"⟩ : MethodName) ∈ gT := gT_2 (i := 205) rfl rfl
theorem tw_446 : Cond.selects "GiantStair" (⟨"GiantStair", "keep", "(I)I"⟩ : MethodName) (⟨"GiantStair", "keep", "(I)I"⟩ : MethodName) ∈ gT := gT_2 (i := 206) rfl rfl
theorem tw_447 : Cond.code (⟨"GiantStair", "keep", "(I)I"⟩ : MethodName) prog_1_method_12_code 2 (Option.some FieldType.int) ∈ gT := gT_2 (i := 207) rfl rfl
theorem tw_448 : Cond.methodLink "GiantStair" 154 (⟨"GiantStair$Journey", "copy", "(LGiantStair$Journey;)V"⟩ : MethodName) ∈ gT := gT_2 (i := 208) rfl rfl
theorem tw_449 : Cond.instanceMethod (⟨"GiantStair$Journey", "copy", "(LGiantStair$Journey;)V"⟩ : MethodName) ∈ gT := gT_2 (i := 209) rfl rfl
theorem tw_450 : Cond.selects "GiantStair$Journey" (⟨"GiantStair$Journey", "copy", "(LGiantStair$Journey;)V"⟩ : MethodName) (⟨"GiantStair$Journey", "copy", "(LGiantStair$Journey;)V"⟩ : MethodName) ∈ gT := gT_2 (i := 210) rfl rfl
theorem tw_451 : Cond.code (⟨"GiantStair$Journey", "copy", "(LGiantStair$Journey;)V"⟩ : MethodName) prog_2_method_3_code 2 (Option.none : Option FieldType) ∈ gT := gT_2 (i := 211) rfl rfl
theorem tw_452 : Cond.methodLink "GiantStairLaw" 64 (⟨"GiantStair", "back", "(I)I"⟩ : MethodName) ∈ gT := gT_2 (i := 212) rfl rfl
theorem tw_453 : Cond.instanceMethod (⟨"GiantStair", "back", "(I)I"⟩ : MethodName) ∈ gT := gT_2 (i := 213) rfl rfl
theorem tw_454 : Cond.selects "GiantStair" (⟨"GiantStair", "back", "(I)I"⟩ : MethodName) (⟨"GiantStair", "back", "(I)I"⟩ : MethodName) ∈ gT := gT_2 (i := 214) rfl rfl
theorem tw_455 : Cond.code (⟨"GiantStair", "back", "(I)I"⟩ : MethodName) prog_1_method_13_code 2 (Option.some FieldType.int) ∈ gT := gT_2 (i := 215) rfl rfl
theorem tw_456 : Cond.methodLink "GiantStairLaw" 68 (⟨"GiantStair", "help", "(II)I"⟩ : MethodName) ∈ gT := gT_2 (i := 216) rfl rfl
theorem tw_457 : Cond.instanceMethod (⟨"GiantStair", "help", "(II)I"⟩ : MethodName) ∈ gT := gT_2 (i := 217) rfl rfl
theorem tw_458 : Cond.selects "GiantStair" (⟨"GiantStair", "help", "(II)I"⟩ : MethodName) (⟨"GiantStair", "help", "(II)I"⟩ : MethodName) ∈ gT := gT_2 (i := 218) rfl rfl
theorem tw_459 : Cond.code (⟨"GiantStair", "help", "(II)I"⟩ : MethodName) prog_1_method_14_code 4 (Option.some FieldType.int) ∈ gT := gT_2 (i := 219) rfl rfl
theorem tw_460 : Cond.methodLink "GiantStair" 164 (⟨"GiantStair$Told", "firstHelp", "(I[I)I"⟩ : MethodName) ∈ gT := gT_2 (i := 220) rfl rfl
theorem tw_461 : Cond.methodLink "GiantStair" 168 (⟨"GiantStair$Told", "lifterOf", "(I)I"⟩ : MethodName) ∈ gT := gT_2 (i := 221) rfl rfl
theorem tw_462 : Cond.static (⟨"GiantStair$Told", "lifterOf", "(I)I"⟩ : MethodName) ∈ gT := gT_2 (i := 222) rfl rfl
theorem tw_463 : Cond.code (⟨"GiantStair$Told", "lifterOf", "(I)I"⟩ : MethodName) prog_5_method_21_code 1 (Option.some FieldType.int) ∈ gT := gT_2 (i := 223) rfl rfl
theorem tw_464 : Cond.methodLink "GiantStair" 171 (⟨"GiantStair$Told", "pullerOf", "(I)I"⟩ : MethodName) ∈ gT := gT_2 (i := 224) rfl rfl
theorem tw_465 : Cond.static (⟨"GiantStair$Told", "pullerOf", "(I)I"⟩ : MethodName) ∈ gT := gT_2 (i := 225) rfl rfl
theorem tw_466 : Cond.code (⟨"GiantStair$Told", "pullerOf", "(I)I"⟩ : MethodName) prog_5_method_22_code 1 (Option.some FieldType.int) ∈ gT := gT_2 (i := 226) rfl rfl
theorem tw_467 : Cond.methodLink "GiantStairLaw" 72 (⟨"GiantStair", "soonest", "()I"⟩ : MethodName) ∈ gT := gT_2 (i := 227) rfl rfl
theorem tw_468 : Cond.instanceMethod (⟨"GiantStair", "soonest", "()I"⟩ : MethodName) ∈ gT := gT_2 (i := 228) rfl rfl
theorem tw_469 : Cond.selects "GiantStair" (⟨"GiantStair", "soonest", "()I"⟩ : MethodName) (⟨"GiantStair", "soonest", "()I"⟩ : MethodName) ∈ gT := gT_2 (i := 229) rfl rfl
theorem tw_470 : Cond.code (⟨"GiantStair", "soonest", "()I"⟩ : MethodName) prog_1_method_15_code 1 (Option.some FieldType.int) ∈ gT := gT_2 (i := 230) rfl rfl
theorem tw_471 : Cond.methodLink "GiantStair" 174 (⟨"GiantStair", "foresee", "()V"⟩ : MethodName) ∈ gT := gT_2 (i := 231) rfl rfl
theorem tw_473 : Cond.instanceMethod (⟨"GiantStair", "foresee", "()V"⟩ : MethodName) ∈ gT := gT_2 (i := 233) rfl rfl
theorem tw_474 : Cond.code (⟨"GiantStair", "foresee", "()V"⟩ : MethodName) prog_1_method_30_code 1 (Option.none : Option FieldType) ∈ gT := gT_2 (i := 234) rfl rfl
theorem tw_475 : Cond.methodLink "GiantStair" 203 (⟨"GiantStair$Search", "look", "(LGiantStair$Told;[I)V"⟩ : MethodName) ∈ gT := gT_2 (i := 235) rfl rfl
theorem tw_476 : Cond.instanceMethod (⟨"GiantStair$Search", "look", "(LGiantStair$Told;[I)V"⟩ : MethodName) ∈ gT := gT_2 (i := 236) rfl rfl
theorem tw_477 : Cond.selects "GiantStair$Search" (⟨"GiantStair$Search", "look", "(LGiantStair$Told;[I)V"⟩ : MethodName) (⟨"GiantStair$Search", "look", "(LGiantStair$Told;[I)V"⟩ : MethodName) ∈ gT := gT_2 (i := 237) rfl rfl
theorem tw_478 : Cond.code (⟨"GiantStair$Search", "look", "(LGiantStair$Told;[I)V"⟩ : MethodName) prog_3_method_2_code 7 (Option.none : Option FieldType) ∈ gT := gT_2 (i := 238) rfl rfl
theorem tw_479 : Cond.methodLink "GiantStair$Search" 30 (⟨"GiantStair$Search", "begin", "(LGiantStair$Told;[I)V"⟩ : MethodName) ∈ gT := gT_2 (i := 239) rfl rfl
theorem tw_481 : Cond.instanceMethod (⟨"GiantStair$Search", "begin", "(LGiantStair$Told;[I)V"⟩ : MethodName) ∈ gT := gT_3 (i := 1) rfl rfl
theorem tw_482 : Cond.code (⟨"GiantStair$Search", "begin", "(LGiantStair$Told;[I)V"⟩ : MethodName) prog_3_method_3_code 5 (Option.none : Option FieldType) ∈ gT := gT_3 (i := 2) rfl rfl
theorem tw_483 : Cond.methodLink "GiantStair$Search" 66 (⟨"GiantStair$Search", "forget", "()V"⟩ : MethodName) ∈ gT := gT_3 (i := 3) rfl rfl
theorem tw_485 : Cond.instanceMethod (⟨"GiantStair$Search", "forget", "()V"⟩ : MethodName) ∈ gT := gT_3 (i := 5) rfl rfl
theorem tw_486 : Cond.code (⟨"GiantStair$Search", "forget", "()V"⟩ : MethodName) prog_3_method_4_code 2 (Option.none : Option FieldType) ∈ gT := gT_3 (i := 6) rfl rfl
theorem tw_487 : Cond.methodLink "GiantStair$Search" 79 (⟨"GiantStair$Search", "isPosition", "(I)Z"⟩ : MethodName) ∈ gT := gT_3 (i := 7) rfl rfl
theorem tw_488 : Cond.static (⟨"GiantStair$Search", "isPosition", "(I)Z"⟩ : MethodName) ∈ gT := gT_3 (i := 8) rfl rfl
theorem tw_489 : Cond.code (⟨"GiantStair$Search", "isPosition", "(I)Z"⟩ : MethodName) prog_3_method_6_code 1 (Option.some FieldType.boolean) ∈ gT := gT_3 (i := 9) rfl rfl
theorem tw_490 : Cond.fieldLink "GiantStair$Search" 55 "GiantStair$Search" "PLACE_VALUE" "[I" ∈ gT := gT_3 (i := 10) rfl rfl
theorem tw_491 : Cond.laysStatic "GiantStair$Search" "PLACE_VALUE" "[I" ∈ lw_tbl := gL_3 (i := 11) rfl
theorem tw_492 : Cond.methodLink "GiantStair$Search" 72 (⟨"GiantStair$Told", "goes", "(I)Z"⟩ : MethodName) ∈ gT := gT_3 (i := 12) rfl rfl
theorem tw_493 : Cond.methodLink "GiantStair$Search" 58 (⟨"GiantStair$Search", "reach", "(III)V"⟩ : MethodName) ∈ gT := gT_3 (i := 13) rfl rfl
theorem tw_495 : Cond.instanceMethod (⟨"GiantStair$Search", "reach", "(III)V"⟩ : MethodName) ∈ gT := gT_3 (i := 15) rfl rfl
theorem tw_496 : Cond.code (⟨"GiantStair$Search", "reach", "(III)V"⟩ : MethodName) prog_3_method_5_code 4 (Option.none : Option FieldType) ∈ gT := gT_3 (i := 16) rfl rfl
theorem tw_497 : Cond.methodLink "GiantStair$Search" 38 (⟨"GiantStair$Search", "awayOf", "(I)I"⟩ : MethodName) ∈ gT := gT_3 (i := 17) rfl rfl
theorem tw_499 : Cond.instanceMethod (⟨"GiantStair$Search", "awayOf", "(I)I"⟩ : MethodName) ∈ gT := gT_3 (i := 19) rfl rfl
theorem tw_500 : Cond.code (⟨"GiantStair$Search", "awayOf", "(I)I"⟩ : MethodName) prog_3_method_7_code 2 (Option.some FieldType.int) ∈ gT := gT_3 (i := 20) rfl rfl
theorem tw_501 : Cond.methodLink "GiantStair$Search" 42 (⟨"GiantStair$Search", "unfold", "(I)V"⟩ : MethodName) ∈ gT := gT_3 (i := 21) rfl rfl
theorem tw_503 : Cond.instanceMethod (⟨"GiantStair$Search", "unfold", "(I)V"⟩ : MethodName) ∈ gT := gT_3 (i := 23) rfl rfl
theorem tw_504 : Cond.code (⟨"GiantStair$Search", "unfold", "(I)V"⟩ : MethodName) prog_3_method_9_code 4 (Option.none : Option FieldType) ∈ gT := gT_3 (i := 24) rfl rfl
theorem tw_505 : Cond.methodLink "GiantStair$Search" 51 (⟨"GiantStair$Told", "firstHelp", "(I[I)I"⟩ : MethodName) ∈ gT := gT_3 (i := 25) rfl rfl
theorem tw_506 : Cond.methodLink "GiantStair$Search" 62 (⟨"GiantStair$Told", "canSink", "(I[I)Z"⟩ : MethodName) ∈ gT := gT_3 (i := 26) rfl rfl
theorem tw_507 : Cond.methodLink "GiantStair" 177 (⟨"GiantStair$Search", "fewest", "()I"⟩ : MethodName) ∈ gT := gT_3 (i := 27) rfl rfl
theorem tw_508 : Cond.instanceMethod (⟨"GiantStair$Search", "fewest", "()I"⟩ : MethodName) ∈ gT := gT_3 (i := 28) rfl rfl
theorem tw_509 : Cond.selects "GiantStair$Search" (⟨"GiantStair$Search", "fewest", "()I"⟩ : MethodName) (⟨"GiantStair$Search", "fewest", "()I"⟩ : MethodName) ∈ gT := gT_3 (i := 29) rfl rfl
theorem tw_510 : Cond.code (⟨"GiantStair$Search", "fewest", "()I"⟩ : MethodName) prog_3_method_10_code 1 (Option.some FieldType.int) ∈ gT := gT_3 (i := 30) rfl rfl
theorem tw_511 : Cond.methodLink "GiantStairLaw" 76 (⟨"GiantStair", "way", "(II)I"⟩ : MethodName) ∈ gT := gT_3 (i := 31) rfl rfl
theorem tw_512 : Cond.instanceMethod (⟨"GiantStair", "way", "(II)I"⟩ : MethodName) ∈ gT := gT_3 (i := 32) rfl rfl
theorem tw_513 : Cond.selects "GiantStair" (⟨"GiantStair", "way", "(II)I"⟩ : MethodName) (⟨"GiantStair", "way", "(II)I"⟩ : MethodName) ∈ gT := gT_3 (i := 33) rfl rfl
theorem tw_514 : Cond.code (⟨"GiantStair", "way", "(II)I"⟩ : MethodName) prog_1_method_16_code 3 (Option.some FieldType.int) ∈ gT := gT_3 (i := 34) rfl rfl
theorem tw_515 : Cond.methodLink "GiantStair" 180 (⟨"GiantStair$Search", "mover", "(I)I"⟩ : MethodName) ∈ gT := gT_3 (i := 35) rfl rfl
theorem tw_516 : Cond.instanceMethod (⟨"GiantStair$Search", "mover", "(I)I"⟩ : MethodName) ∈ gT := gT_3 (i := 36) rfl rfl
theorem tw_517 : Cond.selects "GiantStair$Search" (⟨"GiantStair$Search", "mover", "(I)I"⟩ : MethodName) (⟨"GiantStair$Search", "mover", "(I)I"⟩ : MethodName) ∈ gT := gT_3 (i := 37) rfl rfl
theorem tw_518 : Cond.code (⟨"GiantStair$Search", "mover", "(I)I"⟩ : MethodName) prog_3_method_12_code 5 (Option.some FieldType.int) ∈ gT := gT_3 (i := 38) rfl rfl
theorem tw_519 : Cond.methodLink "GiantStair$Search" 89 (⟨"GiantStair$Search", "positionBehind", "(I)I"⟩ : MethodName) ∈ gT := gT_3 (i := 39) rfl rfl
theorem tw_521 : Cond.instanceMethod (⟨"GiantStair$Search", "positionBehind", "(I)I"⟩ : MethodName) ∈ gT := gT_3 (i := 41) rfl rfl
theorem tw_522 : Cond.code (⟨"GiantStair$Search", "positionBehind", "(I)I"⟩ : MethodName) prog_3_method_11_code 4 (Option.some FieldType.int) ∈ gT := gT_3 (i := 42) rfl rfl
theorem tw_523 : Cond.methodLink "GiantStair$Search" 82 (⟨"GiantStair$Search", "fewest", "()I"⟩ : MethodName) ∈ gT := gT_3 (i := 43) rfl rfl
theorem tw_524 : Cond.methodLink "GiantStair$Search" 86 (⟨"GiantStair$Search", "aheadOf", "(I)I"⟩ : MethodName) ∈ gT := gT_3 (i := 44) rfl rfl
theorem tw_526 : Cond.instanceMethod (⟨"GiantStair$Search", "aheadOf", "(I)I"⟩ : MethodName) ∈ gT := gT_3 (i := 46) rfl rfl
theorem tw_527 : Cond.code (⟨"GiantStair$Search", "aheadOf", "(I)I"⟩ : MethodName) prog_3_method_8_code 2 (Option.some FieldType.int) ∈ gT := gT_3 (i := 47) rfl rfl
theorem tw_528 : Cond.methodLink "GiantStair$Search" 92 (⟨"java/lang/Math", "abs", "(I)I"⟩ : MethodName) ∈ gT := gT_3 (i := 48) rfl rfl
theorem tw_529 : Cond.static (⟨"java/lang/Math", "abs", "(I)I"⟩ : MethodName) ∈ gT := gT_3 (i := 49) rfl rfl
theorem tw_530 : Cond.code (⟨"java/lang/Math", "abs", "(I)I"⟩ : MethodName) prog_9_method_59_code 1 (Option.some FieldType.int) ∈ gT := gT_3 (i := 50) rfl rfl
theorem tw_531 : Cond.methodLink "GiantStair" 183 (⟨"GiantStair$Search", "rises", "(I)Z"⟩ : MethodName) ∈ gT := gT_3 (i := 51) rfl rfl
theorem tw_532 : Cond.instanceMethod (⟨"GiantStair$Search", "rises", "(I)Z"⟩ : MethodName) ∈ gT := gT_3 (i := 52) rfl rfl
theorem tw_533 : Cond.selects "GiantStair$Search" (⟨"GiantStair$Search", "rises", "(I)Z"⟩ : MethodName) (⟨"GiantStair$Search", "rises", "(I)Z"⟩ : MethodName) ∈ gT := gT_3 (i := 53) rfl rfl
theorem tw_534 : Cond.code (⟨"GiantStair$Search", "rises", "(I)Z"⟩ : MethodName) prog_3_method_13_code 3 (Option.some FieldType.boolean) ∈ gT := gT_3 (i := 54) rfl rfl
theorem tw_535 : Cond.methodLink "GiantStairLaw" 80 (⟨"GiantStair", "lasts", "()I"⟩ : MethodName) ∈ gT := gT_3 (i := 55) rfl rfl
theorem tw_536 : Cond.instanceMethod (⟨"GiantStair", "lasts", "()I"⟩ : MethodName) ∈ gT := gT_3 (i := 56) rfl rfl
theorem tw_537 : Cond.selects "GiantStair" (⟨"GiantStair", "lasts", "()I"⟩ : MethodName) (⟨"GiantStair", "lasts", "()I"⟩ : MethodName) ∈ gT := gT_3 (i := 57) rfl rfl
theorem tw_538 : Cond.code (⟨"GiantStair", "lasts", "()I"⟩ : MethodName) prog_1_method_17_code 1 (Option.some FieldType.int) ∈ gT := gT_3 (i := 58) rfl rfl
theorem tw_539 : Cond.methodLink "GiantStair" 186 (⟨"GiantStair$Search", "lastMovers", "(LGiantStair$Told;)I"⟩ : MethodName) ∈ gT := gT_3 (i := 59) rfl rfl
theorem tw_540 : Cond.instanceMethod (⟨"GiantStair$Search", "lastMovers", "(LGiantStair$Told;)I"⟩ : MethodName) ∈ gT := gT_3 (i := 60) rfl rfl
theorem tw_541 : Cond.selects "GiantStair$Search" (⟨"GiantStair$Search", "lastMovers", "(LGiantStair$Told;)I"⟩ : MethodName) (⟨"GiantStair$Search", "lastMovers", "(LGiantStair$Told;)I"⟩ : MethodName) ∈ gT := gT_3 (i := 61) rfl rfl
theorem tw_542 : Cond.code (⟨"GiantStair$Search", "lastMovers", "(LGiantStair$Told;)I"⟩ : MethodName) prog_3_method_14_code 6 (Option.some FieldType.int) ∈ gT := gT_3 (i := 62) rfl rfl
theorem tw_543 : Cond.methodLink "GiantStair$Search" 97 (⟨"GiantStair$Told", "canRise", "(I[I)Z"⟩ : MethodName) ∈ gT := gT_3 (i := 63) rfl rfl
theorem tw_544 : Cond.methodLink "GiantStairLaw" 84 (⟨"GiantStair", "most", "(I)I"⟩ : MethodName) ∈ gT := gT_3 (i := 64) rfl rfl
theorem tw_545 : Cond.instanceMethod (⟨"GiantStair", "most", "(I)I"⟩ : MethodName) ∈ gT := gT_3 (i := 65) rfl rfl
theorem tw_546 : Cond.selects "GiantStair" (⟨"GiantStair", "most", "(I)I"⟩ : MethodName) (⟨"GiantStair", "most", "(I)I"⟩ : MethodName) ∈ gT := gT_3 (i := 66) rfl rfl
theorem tw_547 : Cond.code (⟨"GiantStair", "most", "(I)I"⟩ : MethodName) prog_1_method_18_code 3 (Option.some FieldType.int) ∈ gT := gT_3 (i := 67) rfl rfl
theorem tw_548 : Cond.methodLink "GiantStair" 189 (⟨"GiantStair$Search", "fullestTop", "(LGiantStair$Told;)I"⟩ : MethodName) ∈ gT := gT_3 (i := 68) rfl rfl
theorem tw_549 : Cond.instanceMethod (⟨"GiantStair$Search", "fullestTop", "(LGiantStair$Told;)I"⟩ : MethodName) ∈ gT := gT_3 (i := 69) rfl rfl
theorem tw_550 : Cond.selects "GiantStair$Search" (⟨"GiantStair$Search", "fullestTop", "(LGiantStair$Told;)I"⟩ : MethodName) (⟨"GiantStair$Search", "fullestTop", "(LGiantStair$Told;)I"⟩ : MethodName) ∈ gT := gT_3 (i := 70) rfl rfl
theorem tw_551 : Cond.code (⟨"GiantStair$Search", "fullestTop", "(LGiantStair$Told;)I"⟩ : MethodName) prog_3_method_15_code 6 (Option.some FieldType.int) ∈ gT := gT_3 (i := 71) rfl rfl
theorem tw_552 : Cond.methodLink "GiantStair$Search" 100 (⟨"GiantStair$Told", "setAtTop", "([I)I"⟩ : MethodName) ∈ gT := gT_3 (i := 72) rfl rfl
theorem tw_553 : Cond.instanceMethod (⟨"GiantStair$Told", "setAtTop", "([I)I"⟩ : MethodName) ∈ gT := gT_3 (i := 73) rfl rfl
theorem tw_554 : Cond.selects "GiantStair$Told" (⟨"GiantStair$Told", "setAtTop", "([I)I"⟩ : MethodName) (⟨"GiantStair$Told", "setAtTop", "([I)I"⟩ : MethodName) ∈ gT := gT_3 (i := 74) rfl rfl
theorem tw_555 : Cond.code (⟨"GiantStair$Told", "setAtTop", "([I)I"⟩ : MethodName) prog_5_method_17_code 4 (Option.some FieldType.int) ∈ gT := gT_3 (i := 75) rfl rfl
theorem tw_556 : Cond.methodLink "GiantStair$Search" 104 (⟨"java/lang/Integer", "bitCount", "(I)I"⟩ : MethodName) ∈ gT := gT_3 (i := 76) rfl rfl
theorem tw_557 : Cond.static (⟨"java/lang/Integer", "bitCount", "(I)I"⟩ : MethodName) ∈ gT := gT_3 (i := 77) rfl rfl
theorem tw_558 : Cond.code (⟨"java/lang/Integer", "bitCount", "(I)I"⟩ : MethodName) prog_8_method_49_code 1 (Option.some FieldType.int) ∈ gT := gT_3 (i := 78) rfl rfl
theorem tw_559 : Cond.constant "java/lang/Integer" 265 (1431655765 : Int32) ∈ gT := gT_3 (i := 79) rfl rfl
theorem tw_560 : Cond.constant "java/lang/Integer" 266 (858993459 : Int32) ∈ gT := gT_3 (i := 80) rfl rfl
theorem tw_561 : Cond.constant "java/lang/Integer" 267 (252645135 : Int32) ∈ gT := gT_3 (i := 81) rfl rfl
theorem tw_562 : Cond.methodLink "GiantStair" 192 (⟨"java/lang/Integer", "bitCount", "(I)I"⟩ : MethodName) ∈ gT := gT_3 (i := 82) rfl rfl
theorem tw_563 : Cond.methodLink "GiantStairLaw" 88 (⟨"GiantStair", "soon", "(I)I"⟩ : MethodName) ∈ gT := gT_3 (i := 83) rfl rfl
theorem tw_564 : Cond.instanceMethod (⟨"GiantStair", "soon", "(I)I"⟩ : MethodName) ∈ gT := gT_3 (i := 84) rfl rfl
theorem tw_565 : Cond.selects "GiantStair" (⟨"GiantStair", "soon", "(I)I"⟩ : MethodName) (⟨"GiantStair", "soon", "(I)I"⟩ : MethodName) ∈ gT := gT_3 (i := 85) rfl rfl
theorem tw_566 : Cond.code (⟨"GiantStair", "soon", "(I)I"⟩ : MethodName) prog_1_method_19_code 2 (Option.some FieldType.int) ∈ gT := gT_3 (i := 86) rfl rfl
theorem tw_567 : Cond.methodLink "GiantStair" 197 (⟨"GiantStair$Search", "fewestFor", "(II)I"⟩ : MethodName) ∈ gT := gT_3 (i := 87) rfl rfl
theorem tw_568 : Cond.instanceMethod (⟨"GiantStair$Search", "fewestFor", "(II)I"⟩ : MethodName) ∈ gT := gT_3 (i := 88) rfl rfl
theorem tw_569 : Cond.selects "GiantStair$Search" (⟨"GiantStair$Search", "fewestFor", "(II)I"⟩ : MethodName) (⟨"GiantStair$Search", "fewestFor", "(II)I"⟩ : MethodName) ∈ gT := gT_3 (i := 89) rfl rfl
theorem tw_570 : Cond.code (⟨"GiantStair$Search", "fewestFor", "(II)I"⟩ : MethodName) prog_3_method_16_code 4 (Option.some FieldType.int) ∈ gT := gT_3 (i := 90) rfl rfl
theorem tw_571 : Cond.methodLink "GiantStairLaw" 92 (⟨"GiantStair", "many", "(I)I"⟩ : MethodName) ∈ gT := gT_3 (i := 91) rfl rfl
theorem tw_572 : Cond.instanceMethod (⟨"GiantStair", "many", "(I)I"⟩ : MethodName) ∈ gT := gT_3 (i := 92) rfl rfl
theorem tw_573 : Cond.selects "GiantStair" (⟨"GiantStair", "many", "(I)I"⟩ : MethodName) (⟨"GiantStair", "many", "(I)I"⟩ : MethodName) ∈ gT := gT_3 (i := 93) rfl rfl
theorem tw_574 : Cond.code (⟨"GiantStair", "many", "(I)I"⟩ : MethodName) prog_1_method_20_code 2 (Option.some FieldType.int) ∈ gT := gT_3 (i := 94) rfl rfl
theorem tw_575 : Cond.methodLink "GiantStair" 200 (⟨"GiantStair$Search", "positionsBehind", "(I)I"⟩ : MethodName) ∈ gT := gT_3 (i := 95) rfl rfl
theorem tw_576 : Cond.instanceMethod (⟨"GiantStair$Search", "positionsBehind", "(I)I"⟩ : MethodName) ∈ gT := gT_3 (i := 96) rfl rfl
theorem tw_577 : Cond.selects "GiantStair$Search" (⟨"GiantStair$Search", "positionsBehind", "(I)I"⟩ : MethodName) (⟨"GiantStair$Search", "positionsBehind", "(I)I"⟩ : MethodName) ∈ gT := gT_3 (i := 97) rfl rfl
theorem tw_578 : Cond.code (⟨"GiantStair$Search", "positionsBehind", "(I)I"⟩ : MethodName) prog_3_method_17_code 4 (Option.some FieldType.int) ∈ gT := gT_3 (i := 98) rfl rfl
theorem tw_579 : Cond.methodLink "GiantStairLaw" 96 (⟨"GiantStair", "roped", "(I)I"⟩ : MethodName) ∈ gT := gT_3 (i := 99) rfl rfl
theorem tw_580 : Cond.instanceMethod (⟨"GiantStair", "roped", "(I)I"⟩ : MethodName) ∈ gT := gT_3 (i := 100) rfl rfl
theorem tw_581 : Cond.selects "GiantStair" (⟨"GiantStair", "roped", "(I)I"⟩ : MethodName) (⟨"GiantStair", "roped", "(I)I"⟩ : MethodName) ∈ gT := gT_3 (i := 101) rfl rfl
theorem tw_582 : Cond.code (⟨"GiantStair", "roped", "(I)I"⟩ : MethodName) prog_1_method_21_code 6 (Option.some FieldType.int) ∈ gT := gT_3 (i := 102) rfl rfl
theorem tw_583 : Cond.methodLink "GiantStairLaw" 100 (⟨"GiantStair", "odds", "(II)I"⟩ : MethodName) ∈ gT := gT_3 (i := 103) rfl rfl
theorem tw_584 : Cond.instanceMethod (⟨"GiantStair", "odds", "(II)I"⟩ : MethodName) ∈ gT := gT_3 (i := 104) rfl rfl
theorem tw_585 : Cond.selects "GiantStair" (⟨"GiantStair", "odds", "(II)I"⟩ : MethodName) (⟨"GiantStair", "odds", "(II)I"⟩ : MethodName) ∈ gT := gT_3 (i := 105) rfl rfl
theorem tw_586 : Cond.code (⟨"GiantStair", "odds", "(II)I"⟩ : MethodName) prog_1_method_22_code 6 (Option.some FieldType.int) ∈ gT := gT_3 (i := 106) rfl rfl
theorem tw_587 : Cond.methodLink "GiantStair" 210 (⟨"GiantStair$Told", "copySome", "(LGiantStair$Told;I[I)V"⟩ : MethodName) ∈ gT := gT_3 (i := 107) rfl rfl
theorem tw_588 : Cond.instanceMethod (⟨"GiantStair$Told", "copySome", "(LGiantStair$Told;I[I)V"⟩ : MethodName) ∈ gT := gT_3 (i := 108) rfl rfl
theorem tw_589 : Cond.selects "GiantStair$Told" (⟨"GiantStair$Told", "copySome", "(LGiantStair$Told;I[I)V"⟩ : MethodName) (⟨"GiantStair$Told", "copySome", "(LGiantStair$Told;I[I)V"⟩ : MethodName) ∈ gT := gT_3 (i := 109) rfl rfl
theorem tw_590 : Cond.code (⟨"GiantStair$Told", "copySome", "(LGiantStair$Told;I[I)V"⟩ : MethodName) prog_5_method_5_code 5 (Option.none : Option FieldType) ∈ gT := gT_3 (i := 110) rfl rfl
theorem tw_591 : Cond.methodLink "GiantStair" 217 (⟨"GiantStair", "chanceOf", "(II)I"⟩ : MethodName) ∈ gT := gT_3 (i := 111) rfl rfl
theorem tw_593 : Cond.instanceMethod (⟨"GiantStair", "chanceOf", "(II)I"⟩ : MethodName) ∈ gT := gT_3 (i := 113) rfl rfl
theorem tw_594 : Cond.code (⟨"GiantStair", "chanceOf", "(II)I"⟩ : MethodName) prog_1_method_31_code 5 (Option.some FieldType.int) ∈ gT := gT_3 (i := 114) rfl rfl
theorem tw_595 : Cond.methodLink "GiantStair" 220 (⟨"GiantStair", "commonDivisor", "(II)I"⟩ : MethodName) ∈ gT := gT_3 (i := 115) rfl rfl
theorem tw_596 : Cond.static (⟨"GiantStair", "commonDivisor", "(II)I"⟩ : MethodName) ∈ gT := gT_3 (i := 116) rfl rfl
theorem tw_597 : Cond.code (⟨"GiantStair", "commonDivisor", "(II)I"⟩ : MethodName) prog_1_method_32_code 6 (Option.some FieldType.int) ∈ gT := gT_3 (i := 117) rfl rfl
theorem tw_598 : Cond.methodLink "GiantStairLaw" 104 (⟨"GiantStair", "row", "(II)I"⟩ : MethodName) ∈ gT := gT_3 (i := 118) rfl rfl
theorem tw_599 : Cond.instanceMethod (⟨"GiantStair", "row", "(II)I"⟩ : MethodName) ∈ gT := gT_3 (i := 119) rfl rfl
theorem tw_600 : Cond.selects "GiantStair" (⟨"GiantStair", "row", "(II)I"⟩ : MethodName) (⟨"GiantStair", "row", "(II)I"⟩ : MethodName) ∈ gT := gT_3 (i := 120) rfl rfl
theorem tw_601 : Cond.code (⟨"GiantStair", "row", "(II)I"⟩ : MethodName) prog_1_method_23_code 3 (Option.some FieldType.int) ∈ gT := gT_3 (i := 121) rfl rfl
theorem tw_602 : Cond.methodLink "GiantStairLaw" 108 (⟨"GiantStair", "burn", "()I"⟩ : MethodName) ∈ gT := gT_3 (i := 122) rfl rfl
theorem tw_603 : Cond.instanceMethod (⟨"GiantStair", "burn", "()I"⟩ : MethodName) ∈ gT := gT_3 (i := 123) rfl rfl
theorem tw_604 : Cond.selects "GiantStair" (⟨"GiantStair", "burn", "()I"⟩ : MethodName) (⟨"GiantStair", "burn", "()I"⟩ : MethodName) ∈ gT := gT_3 (i := 124) rfl rfl
theorem tw_605 : Cond.code (⟨"GiantStair", "burn", "()I"⟩ : MethodName) prog_1_method_24_code 2 (Option.some FieldType.int) ∈ gT := gT_3 (i := 125) rfl rfl
theorem tw_606 : Cond.methodLink "GiantStairLaw" 112 (⟨"GiantStair", "judge", "()I"⟩ : MethodName) ∈ gT := gT_3 (i := 126) rfl rfl
theorem tw_607 : Cond.instanceMethod (⟨"GiantStair", "judge", "()I"⟩ : MethodName) ∈ gT := gT_3 (i := 127) rfl rfl
theorem tw_608 : Cond.selects "GiantStair" (⟨"GiantStair", "judge", "()I"⟩ : MethodName) (⟨"GiantStair", "judge", "()I"⟩ : MethodName) ∈ gT := gT_3 (i := 128) rfl rfl
theorem tw_609 : Cond.code (⟨"GiantStair", "judge", "()I"⟩ : MethodName) prog_1_method_25_code 5 (Option.some FieldType.int) ∈ gT := gT_3 (i := 129) rfl rfl
theorem tw_610 : Cond.methodLink "GiantStair" 226 (⟨"java/lang/System", "arraycopy", "(Ljava/lang/Object;ILjava/lang/Object;II)V"⟩ : MethodName) ∈ gT := gT_3 (i := 130) rfl rfl
theorem tw_611 : Cond.methodLink "GiantStairLaw" 116 (⟨"GiantStair", "count", "(I)I"⟩ : MethodName) ∈ gT := gT_3 (i := 131) rfl rfl
theorem tw_612 : Cond.instanceMethod (⟨"GiantStair", "count", "(I)I"⟩ : MethodName) ∈ gT := gT_3 (i := 132) rfl rfl
theorem tw_613 : Cond.selects "GiantStair" (⟨"GiantStair", "count", "(I)I"⟩ : MethodName) (⟨"GiantStair", "count", "(I)I"⟩ : MethodName) ∈ gT := gT_3 (i := 133) rfl rfl
theorem tw_614 : Cond.code (⟨"GiantStair", "count", "(I)I"⟩ : MethodName) prog_1_method_26_code 2 (Option.some FieldType.int) ∈ gT := gT_3 (i := 134) rfl rfl
theorem tw_615 : Cond.methodLink "GiantStair" 232 (⟨"GiantStair$Told", "setAtTop", "([I)I"⟩ : MethodName) ∈ gT := gT_3 (i := 135) rfl rfl
theorem tw_616 : Cond.methodLink "GiantStair" 236 (⟨"GiantStair$Journey", "helpInAll", "()I"⟩ : MethodName) ∈ gT := gT_3 (i := 136) rfl rfl
theorem tw_617 : Cond.instanceMethod (⟨"GiantStair$Journey", "helpInAll", "()I"⟩ : MethodName) ∈ gT := gT_3 (i := 137) rfl rfl
theorem tw_618 : Cond.selects "GiantStair$Journey" (⟨"GiantStair$Journey", "helpInAll", "()I"⟩ : MethodName) (⟨"GiantStair$Journey", "helpInAll", "()I"⟩ : MethodName) ∈ gT := gT_3 (i := 138) rfl rfl
theorem tw_619 : Cond.code (⟨"GiantStair$Journey", "helpInAll", "()I"⟩ : MethodName) prog_2_method_9_code 3 (Option.some FieldType.int) ∈ gT := gT_3 (i := 139) rfl rfl
theorem tw_620 : Cond.methodLink "GiantStair$Journey" 42 (⟨"GiantStair$Journey", "helpGiven", "(I)I"⟩ : MethodName) ∈ gT := gT_3 (i := 140) rfl rfl
theorem tw_621 : Cond.classLink "GiantStairLaw" 10 "GiantStairModel" ∈ gT := gT_3 (i := 141) rfl rfl
theorem tw_622 : Cond.instantiable "GiantStairModel" 31 ∈ gT := gT_3 (i := 142) rfl rfl
theorem tw_623 : Cond.methodLink "GiantStairLaw" 12 (⟨"GiantStairModel", "<init>", "()V"⟩ : MethodName) ∈ gT := gT_3 (i := 143) rfl rfl
theorem tw_624 : Cond.instanceMethod (⟨"GiantStairModel", "<init>", "()V"⟩ : MethodName) ∈ gT := gT_3 (i := 144) rfl rfl
theorem tw_625 : Cond.code (⟨"GiantStairModel", "<init>", "()V"⟩ : MethodName) prog_7_method_1_code 1 (Option.none : Option FieldType) ∈ gT := gT_3 (i := 145) rfl rfl
theorem tw_626 : Cond.methodLink "GiantStairModel" 1 (⟨"java/lang/Object", "<init>", "()V"⟩ : MethodName) ∈ gT := gT_3 (i := 146) rfl rfl
theorem tw_627 : Cond.methodLink "GiantStairModel" 60 (⟨"GiantStairModel", "plain", "(I)V"⟩ : MethodName) ∈ gT := gT_3 (i := 147) rfl rfl
theorem tw_629 : Cond.instanceMethod (⟨"GiantStairModel", "plain", "(I)V"⟩ : MethodName) ∈ gT := gT_3 (i := 149) rfl rfl
theorem tw_630 : Cond.code (⟨"GiantStairModel", "plain", "(I)V"⟩ : MethodName) prog_7_method_6_code 3 (Option.none : Option FieldType) ∈ gT := gT_3 (i := 150) rfl rfl
theorem tw_631 : Cond.fieldLink "GiantStairModel" 7 "GiantStairModel" "top" "I" ∈ gT := gT_3 (i := 151) rfl rfl
theorem tw_632 : Cond.fieldLink "GiantStairModel" 13 "GiantStairModel" "height" "[I" ∈ gT := gT_3 (i := 152) rfl rfl
theorem tw_633 : Cond.fieldLink "GiantStairModel" 71 "GiantStairModel" "ropes" "I" ∈ gT := gT_3 (i := 153) rfl rfl
theorem tw_634 : Cond.fieldLink "GiantStairModel" 64 "GiantStairModel" "people" "I" ∈ gT := gT_3 (i := 154) rfl rfl
theorem tw_635 : Cond.fieldLink "GiantStairModel" 17 "GiantStairModel" "one" "[I" ∈ gT := gT_3 (i := 155) rfl rfl
theorem tw_636 : Cond.fieldLink "GiantStairModel" 74 "GiantStairModel" "bytes" "I" ∈ gT := gT_3 (i := 156) rfl rfl
theorem tw_637 : Cond.fieldLink "GiantStairModel" 20 "GiantStairModel" "text" "[I" ∈ gT := gT_3 (i := 157) rfl rfl
theorem tw_638 : Cond.fieldLink "GiantStairModel" 79 "GiantStairModel" "position" "I" ∈ gT := gT_3 (i := 158) rfl rfl
theorem tw_639 : Cond.fieldLink "GiantStairModel" 82 "GiantStairModel" "tokenAt" "I" ∈ gT := gT_3 (i := 159) rfl rfl
theorem tw_640 : Cond.fieldLink "GiantStairModel" 93 "GiantStairModel" "token" "J" ∈ gT := gT_3 (i := 160) rfl rfl
theorem tw_641 : Cond.fieldLink "GiantStairModel" 85 "GiantStairModel" "digits" "I" ∈ gT := gT_3 (i := 161) rfl rfl
theorem tw_642 : Cond.fieldLink "GiantStairModel" 88 "GiantStairModel" "number" "I" ∈ gT := gT_3 (i := 162) rfl rfl
theorem tw_643 : Cond.fieldLink "GiantStairModel" 107 "GiantStairModel" "faultAt" "I" ∈ gT := gT_3 (i := 163) rfl rfl
theorem tw_644 : Cond.fieldLink "GiantStairModel" 150 "GiantStairModel" "readMany" "I" ∈ gT := gT_3 (i := 164) rfl rfl
theorem tw_645 : Cond.fieldLink "GiantStairModel" 147 "GiantStairModel" "readTop" "I" ∈ gT := gT_3 (i := 165) rfl rfl
theorem tw_646 : Cond.fieldLink "GiantStairModel" 117 "GiantStairModel" "readPeople" "I" ∈ gT := gT_3 (i := 166) rfl rfl
theorem tw_647 : Cond.fieldLink "GiantStairModel" 23 "GiantStairModel" "read" "[I" ∈ gT := gT_3 (i := 167) rfl rfl
theorem tw_648 : Cond.fieldLink "GiantStairModel" 26 "GiantStairModel" "level" "[I" ∈ gT := gT_3 (i := 168) rfl rfl
theorem tw_649 : Cond.fieldLink "GiantStairModel" 162 "GiantStairModel" "moves" "I" ∈ gT := gT_3 (i := 169) rfl rfl
theorem tw_650 : Cond.fieldLink "GiantStairModel" 29 "GiantStairModel" "helped" "[I" ∈ gT := gT_3 (i := 170) rfl rfl
theorem tw_651 : Cond.fieldLink "GiantStairModel" 32 "GiantStairModel" "image" "[I" ∈ gT := gT_3 (i := 171) rfl rfl
theorem tw_652 : Cond.fieldLink "GiantStairModel" 35 "GiantStairModel" "isKept" "[Z" ∈ gT := gT_3 (i := 172) rfl rfl
theorem tw_653 : Cond.fieldLink "GiantStairModel" 165 "GiantStairModel" "rows" "I" ∈ gT := gT_3 (i := 173) rfl rfl
theorem tw_654 : Cond.fieldLink "GiantStairModel" 39 "GiantStairModel" "row" "[I" ∈ gT := gT_3 (i := 174) rfl rfl
theorem tw_655 : Cond.fieldLink "GiantStairModel" 42 "GiantStairModel" "far" "[I" ∈ gT := gT_3 (i := 175) rfl rfl
theorem tw_656 : Cond.fieldLink "GiantStairModel" 45 "GiantStairModel" "line" "[I" ∈ gT := gT_3 (i := 176) rfl rfl
theorem tw_657 : Cond.fieldLink "GiantStairModel" 48 "GiantStairModel" "from" "[I" ∈ gT := gT_3 (i := 177) rfl rfl
theorem tw_658 : Cond.fieldLink "GiantStairModel" 51 "GiantStairModel" "by" "[I" ∈ gT := gT_3 (i := 178) rfl rfl
theorem tw_659 : Cond.fieldLink "GiantStairModel" 211 "GiantStairModel" "lined" "I" ∈ gT := gT_3 (i := 179) rfl rfl
theorem tw_660 : Cond.fieldLink "GiantStairModel" 54 "GiantStairModel" "tried" "[I" ∈ gT := gT_3 (i := 180) rfl rfl
theorem tw_661 : Cond.fieldLink "GiantStairModel" 57 "GiantStairModel" "comes" "I" ∈ gT := gT_3 (i := 181) rfl rfl
theorem tw_662 : Cond.lays "GiantStairModel" "GiantStairModel" "top" "I" ∈ gT := gT_3 (i := 182) rfl rfl
theorem tw_664 : Cond.laysFinal "GiantStairModel" "GiantStairModel" "height" "[I" ∈ gT := gT_3 (i := 184) rfl rfl
theorem tw_666 : Cond.lays "GiantStairModel" "GiantStairModel" "ropes" "I" ∈ gT := gT_3 (i := 186) rfl rfl
theorem tw_668 : Cond.lays "GiantStairModel" "GiantStairModel" "people" "I" ∈ gT := gT_3 (i := 188) rfl rfl
theorem tw_670 : Cond.laysFinal "GiantStairModel" "GiantStairModel" "one" "[I" ∈ gT := gT_3 (i := 190) rfl rfl
theorem tw_672 : Cond.lays "GiantStairModel" "GiantStairModel" "bytes" "I" ∈ gT := gT_3 (i := 192) rfl rfl
theorem tw_674 : Cond.laysFinal "GiantStairModel" "GiantStairModel" "text" "[I" ∈ gT := gT_3 (i := 194) rfl rfl
theorem tw_676 : Cond.lays "GiantStairModel" "GiantStairModel" "position" "I" ∈ gT := gT_3 (i := 196) rfl rfl
theorem tw_678 : Cond.lays "GiantStairModel" "GiantStairModel" "tokenAt" "I" ∈ gT := gT_3 (i := 198) rfl rfl
theorem tw_680 : Cond.lays "GiantStairModel" "GiantStairModel" "token" "J" ∈ gT := gT_3 (i := 200) rfl rfl
theorem tw_682 : Cond.lays "GiantStairModel" "GiantStairModel" "digits" "I" ∈ gT := gT_3 (i := 202) rfl rfl
theorem tw_684 : Cond.lays "GiantStairModel" "GiantStairModel" "number" "I" ∈ gT := gT_3 (i := 204) rfl rfl
theorem tw_686 : Cond.lays "GiantStairModel" "GiantStairModel" "faultAt" "I" ∈ gT := gT_3 (i := 206) rfl rfl
theorem tw_688 : Cond.lays "GiantStairModel" "GiantStairModel" "readMany" "I" ∈ gT := gT_3 (i := 208) rfl rfl
theorem tw_690 : Cond.lays "GiantStairModel" "GiantStairModel" "readTop" "I" ∈ gT := gT_3 (i := 210) rfl rfl
theorem tw_692 : Cond.lays "GiantStairModel" "GiantStairModel" "readPeople" "I" ∈ gT := gT_3 (i := 212) rfl rfl
theorem tw_694 : Cond.laysFinal "GiantStairModel" "GiantStairModel" "read" "[I" ∈ gT := gT_3 (i := 214) rfl rfl
theorem tw_696 : Cond.laysFinal "GiantStairModel" "GiantStairModel" "level" "[I" ∈ gT := gT_3 (i := 216) rfl rfl
theorem tw_698 : Cond.lays "GiantStairModel" "GiantStairModel" "moves" "I" ∈ gT := gT_3 (i := 218) rfl rfl
theorem tw_700 : Cond.laysFinal "GiantStairModel" "GiantStairModel" "helped" "[I" ∈ gT := gT_3 (i := 220) rfl rfl
theorem tw_702 : Cond.laysFinal "GiantStairModel" "GiantStairModel" "image" "[I" ∈ gT := gT_3 (i := 222) rfl rfl
theorem tw_704 : Cond.laysFinal "GiantStairModel" "GiantStairModel" "isKept" "[Z" ∈ gT := gT_3 (i := 224) rfl rfl
theorem tw_706 : Cond.lays "GiantStairModel" "GiantStairModel" "rows" "I" ∈ gT := gT_3 (i := 226) rfl rfl
theorem tw_708 : Cond.laysFinal "GiantStairModel" "GiantStairModel" "row" "[I" ∈ gT := gT_3 (i := 228) rfl rfl
theorem tw_710 : Cond.laysFinal "GiantStairModel" "GiantStairModel" "far" "[I" ∈ gT := gT_3 (i := 230) rfl rfl
theorem tw_712 : Cond.laysFinal "GiantStairModel" "GiantStairModel" "line" "[I" ∈ gT := gT_3 (i := 232) rfl rfl
theorem tw_714 : Cond.laysFinal "GiantStairModel" "GiantStairModel" "from" "[I" ∈ gT := gT_3 (i := 234) rfl rfl
theorem tw_716 : Cond.laysFinal "GiantStairModel" "GiantStairModel" "by" "[I" ∈ gT := gT_3 (i := 236) rfl rfl
theorem tw_718 : Cond.lays "GiantStairModel" "GiantStairModel" "lined" "I" ∈ gT := gT_3 (i := 238) rfl rfl
theorem tw_720 : Cond.laysFinal "GiantStairModel" "GiantStairModel" "tried" "[I" ∈ gT := gT_4 (i := 0) rfl rfl
theorem tw_722 : Cond.lays "GiantStairModel" "GiantStairModel" "comes" "I" ∈ gT := gT_4 (i := 2) rfl rfl
theorem tw_725 : Cond.methodLink "GiantStairLaw" 19 (⟨"GiantStairModel", "write", "(JI)I"⟩ : MethodName) ∈ gT := gT_4 (i := 5) rfl rfl
theorem tw_726 : Cond.instanceMethod (⟨"GiantStairModel", "write", "(JI)I"⟩ : MethodName) ∈ gT := gT_4 (i := 6) rfl rfl
theorem tw_727 : Cond.selects "GiantStairModel" (⟨"GiantStairModel", "write", "(JI)I"⟩ : MethodName) (⟨"GiantStairModel", "write", "(JI)I"⟩ : MethodName) ∈ gT := gT_4 (i := 7) rfl rfl
theorem tw_728 : Cond.code (⟨"GiantStairModel", "write", "(JI)I"⟩ : MethodName) prog_7_method_7_code 5 (Option.some FieldType.int) ∈ gT := gT_4 (i := 8) rfl rfl
theorem tw_729 : Cond.methodLink "GiantStairModel" 67 (⟨"GiantStairModel", "in", "(III)Z"⟩ : MethodName) ∈ gT := gT_4 (i := 9) rfl rfl
theorem tw_730 : Cond.static (⟨"GiantStairModel", "in", "(III)Z"⟩ : MethodName) ∈ gT := gT_4 (i := 10) rfl rfl
theorem tw_731 : Cond.code (⟨"GiantStairModel", "in", "(III)Z"⟩ : MethodName) prog_7_method_2_code 3 (Option.some FieldType.boolean) ∈ gT := gT_4 (i := 11) rfl rfl
theorem tw_732 : Cond.constantLong "GiantStairModel" 77 (255 : Int64) ∈ gT := gT_4 (i := 12) rfl rfl
theorem tw_733 : Cond.methodLink "GiantStairLaw" 24 (⟨"GiantStairModel", "erase", "()I"⟩ : MethodName) ∈ gT := gT_4 (i := 13) rfl rfl
theorem tw_734 : Cond.instanceMethod (⟨"GiantStairModel", "erase", "()I"⟩ : MethodName) ∈ gT := gT_4 (i := 14) rfl rfl
theorem tw_735 : Cond.selects "GiantStairModel" (⟨"GiantStairModel", "erase", "()I"⟩ : MethodName) (⟨"GiantStairModel", "erase", "()I"⟩ : MethodName) ∈ gT := gT_4 (i := 15) rfl rfl
theorem tw_736 : Cond.code (⟨"GiantStairModel", "erase", "()I"⟩ : MethodName) prog_7_method_8_code 2 (Option.some FieldType.int) ∈ gT := gT_4 (i := 16) rfl rfl
theorem tw_737 : Cond.methodLink "GiantStairLaw" 28 (⟨"GiantStairModel", "fault", "()I"⟩ : MethodName) ∈ gT := gT_4 (i := 17) rfl rfl
theorem tw_738 : Cond.instanceMethod (⟨"GiantStairModel", "fault", "()I"⟩ : MethodName) ∈ gT := gT_4 (i := 18) rfl rfl
theorem tw_739 : Cond.selects "GiantStairModel" (⟨"GiantStairModel", "fault", "()I"⟩ : MethodName) (⟨"GiantStairModel", "fault", "()I"⟩ : MethodName) ∈ gT := gT_4 (i := 19) rfl rfl
theorem tw_740 : Cond.code (⟨"GiantStairModel", "fault", "()I"⟩ : MethodName) prog_7_method_15_code 1 (Option.some FieldType.int) ∈ gT := gT_4 (i := 20) rfl rfl
theorem tw_741 : Cond.methodLink "GiantStairModel" 156 (⟨"GiantStairModel", "isRead", "()Z"⟩ : MethodName) ∈ gT := gT_4 (i := 21) rfl rfl
theorem tw_743 : Cond.instanceMethod (⟨"GiantStairModel", "isRead", "()Z"⟩ : MethodName) ∈ gT := gT_4 (i := 23) rfl rfl
theorem tw_744 : Cond.code (⟨"GiantStairModel", "isRead", "()Z"⟩ : MethodName) prog_7_method_14_code 2 (Option.some FieldType.boolean) ∈ gT := gT_4 (i := 24) rfl rfl
theorem tw_745 : Cond.methodLink "GiantStairModel" 153 (⟨"GiantStairModel", "isLine", "(I)Z"⟩ : MethodName) ∈ gT := gT_4 (i := 25) rfl rfl
theorem tw_747 : Cond.instanceMethod (⟨"GiantStairModel", "isLine", "(I)Z"⟩ : MethodName) ∈ gT := gT_4 (i := 27) rfl rfl
theorem tw_748 : Cond.code (⟨"GiantStairModel", "isLine", "(I)Z"⟩ : MethodName) prog_7_method_13_code 4 (Option.some FieldType.boolean) ∈ gT := gT_4 (i := 28) rfl rfl
theorem tw_749 : Cond.methodLink "GiantStairModel" 110 (⟨"GiantStairModel", "nextToken", "()V"⟩ : MethodName) ∈ gT := gT_4 (i := 29) rfl rfl
theorem tw_751 : Cond.instanceMethod (⟨"GiantStairModel", "nextToken", "()V"⟩ : MethodName) ∈ gT := gT_4 (i := 31) rfl rfl
theorem tw_752 : Cond.code (⟨"GiantStairModel", "nextToken", "()V"⟩ : MethodName) prog_7_method_9_code 1 (Option.none : Option FieldType) ∈ gT := gT_4 (i := 32) rfl rfl
theorem tw_753 : Cond.constantLong "GiantStairModel" 91 (-2 : Int64) ∈ gT := gT_4 (i := 33) rfl rfl
theorem tw_754 : Cond.constantLong "GiantStairModel" 97 (27 : Int64) ∈ gT := gT_4 (i := 34) rfl rfl
theorem tw_755 : Cond.constantLong "GiantStairModel" 99 (96 : Int64) ∈ gT := gT_4 (i := 35) rfl rfl
theorem tw_756 : Cond.constantLong "GiantStairModel" 101 (-4 : Int64) ∈ gT := gT_4 (i := 36) rfl rfl
theorem tw_757 : Cond.constantLong "GiantStairModel" 103 (-1 : Int64) ∈ gT := gT_4 (i := 37) rfl rfl
theorem tw_758 : Cond.constantLong "GiantStairModel" 105 (-3 : Int64) ∈ gT := gT_4 (i := 38) rfl rfl
theorem tw_759 : Cond.constantLong "GiantStairModel" 123 (6334396438 : Int64) ∈ gT := gT_4 (i := 39) rfl rfl
theorem tw_760 : Cond.constantLong "GiantStairModel" 125 (237923154 : Int64) ∈ gT := gT_4 (i := 40) rfl rfl
theorem tw_761 : Cond.constantLong "GiantStairModel" 127 (8868856 : Int64) ∈ gT := gT_4 (i := 41) rfl rfl
theorem tw_762 : Cond.constantLong "GiantStairModel" 129 (10124021 : Int64) ∈ gT := gT_4 (i := 42) rfl rfl
theorem tw_763 : Cond.constantLong "GiantStairModel" 131 (10492029 : Int64) ∈ gT := gT_4 (i := 43) rfl rfl
theorem tw_764 : Cond.constantLong "GiantStairModel" 133 (388708 : Int64) ∈ gT := gT_4 (i := 44) rfl rfl
theorem tw_765 : Cond.constantLong "GiantStairModel" 135 (365666 : Int64) ∈ gT := gT_4 (i := 45) rfl rfl
theorem tw_766 : Cond.constantLong "GiantStairModel" 137 (247162 : Int64) ∈ gT := gT_4 (i := 46) rfl rfl
theorem tw_767 : Cond.constantLong "GiantStairModel" 139 (47 : Int64) ∈ gT := gT_4 (i := 47) rfl rfl
theorem tw_768 : Cond.constantLong "GiantStairModel" 141 (208906747 : Int64) ∈ gT := gT_4 (i := 48) rfl rfl
theorem tw_769 : Cond.methodLink "GiantStairModel" 143 (⟨"GiantStairModel", "isOneLine", "(I)Z"⟩ : MethodName) ∈ gT := gT_4 (i := 49) rfl rfl
theorem tw_771 : Cond.instanceMethod (⟨"GiantStairModel", "isOneLine", "(I)Z"⟩ : MethodName) ∈ gT := gT_4 (i := 51) rfl rfl
theorem tw_772 : Cond.code (⟨"GiantStairModel", "isOneLine", "(I)Z"⟩ : MethodName) prog_7_method_12_code 2 (Option.some FieldType.boolean) ∈ gT := gT_4 (i := 52) rfl rfl
theorem tw_773 : Cond.methodLink "GiantStairModel" 113 (⟨"GiantStairModel", "fails", "()Z"⟩ : MethodName) ∈ gT := gT_4 (i := 53) rfl rfl
theorem tw_775 : Cond.instanceMethod (⟨"GiantStairModel", "fails", "()Z"⟩ : MethodName) ∈ gT := gT_4 (i := 55) rfl rfl
theorem tw_776 : Cond.code (⟨"GiantStairModel", "fails", "()Z"⟩ : MethodName) prog_7_method_10_code 1 (Option.some FieldType.boolean) ∈ gT := gT_4 (i := 56) rfl rfl
theorem tw_777 : Cond.methodLink "GiantStairModel" 120 (⟨"GiantStairModel", "isNumber", "(III)Z"⟩ : MethodName) ∈ gT := gT_4 (i := 57) rfl rfl
theorem tw_779 : Cond.instanceMethod (⟨"GiantStairModel", "isNumber", "(III)Z"⟩ : MethodName) ∈ gT := gT_4 (i := 59) rfl rfl
theorem tw_780 : Cond.code (⟨"GiantStairModel", "isNumber", "(III)Z"⟩ : MethodName) prog_7_method_11_code 4 (Option.some FieldType.boolean) ∈ gT := gT_4 (i := 60) rfl rfl
theorem tw_781 : Cond.methodLink "GiantStairLaw" 32 (⟨"GiantStairModel", "stair", "()I"⟩ : MethodName) ∈ gT := gT_4 (i := 61) rfl rfl
theorem tw_782 : Cond.instanceMethod (⟨"GiantStairModel", "stair", "()I"⟩ : MethodName) ∈ gT := gT_4 (i := 62) rfl rfl
theorem tw_783 : Cond.selects "GiantStairModel" (⟨"GiantStairModel", "stair", "()I"⟩ : MethodName) (⟨"GiantStairModel", "stair", "()I"⟩ : MethodName) ∈ gT := gT_4 (i := 63) rfl rfl
theorem tw_784 : Cond.code (⟨"GiantStairModel", "stair", "()I"⟩ : MethodName) prog_7_method_17_code 2 (Option.some FieldType.int) ∈ gT := gT_4 (i := 64) rfl rfl
theorem tw_785 : Cond.methodLink "GiantStairModel" 159 (⟨"GiantStairModel", "doLine", "(I)V"⟩ : MethodName) ∈ gT := gT_4 (i := 65) rfl rfl
theorem tw_787 : Cond.instanceMethod (⟨"GiantStairModel", "doLine", "(I)V"⟩ : MethodName) ∈ gT := gT_4 (i := 67) rfl rfl
theorem tw_788 : Cond.code (⟨"GiantStairModel", "doLine", "(I)V"⟩ : MethodName) prog_7_method_16_code 5 (Option.none : Option FieldType) ∈ gT := gT_4 (i := 68) rfl rfl
theorem tw_789 : Cond.methodLink "GiantStairLaw" 37 (⟨"GiantStairModel", "step", "(II)I"⟩ : MethodName) ∈ gT := gT_4 (i := 69) rfl rfl
theorem tw_790 : Cond.instanceMethod (⟨"GiantStairModel", "step", "(II)I"⟩ : MethodName) ∈ gT := gT_4 (i := 70) rfl rfl
theorem tw_791 : Cond.selects "GiantStairModel" (⟨"GiantStairModel", "step", "(II)I"⟩ : MethodName) (⟨"GiantStairModel", "step", "(II)I"⟩ : MethodName) ∈ gT := gT_4 (i := 71) rfl rfl
theorem tw_792 : Cond.code (⟨"GiantStairModel", "step", "(II)I"⟩ : MethodName) prog_7_method_18_code 3 (Option.some FieldType.int) ∈ gT := gT_4 (i := 72) rfl rfl
theorem tw_793 : Cond.methodLink "GiantStairLaw" 41 (⟨"GiantStairModel", "one", "(II)I"⟩ : MethodName) ∈ gT := gT_4 (i := 73) rfl rfl
theorem tw_794 : Cond.instanceMethod (⟨"GiantStairModel", "one", "(II)I"⟩ : MethodName) ∈ gT := gT_4 (i := 74) rfl rfl
theorem tw_795 : Cond.selects "GiantStairModel" (⟨"GiantStairModel", "one", "(II)I"⟩ : MethodName) (⟨"GiantStairModel", "one", "(II)I"⟩ : MethodName) ∈ gT := gT_4 (i := 75) rfl rfl
theorem tw_796 : Cond.code (⟨"GiantStairModel", "one", "(II)I"⟩ : MethodName) prog_7_method_21_code 6 (Option.some FieldType.int) ∈ gT := gT_4 (i := 76) rfl rfl
theorem tw_797 : Cond.methodLink "GiantStairModel" 168 (⟨"GiantStairModel", "isOne", "(I)Z"⟩ : MethodName) ∈ gT := gT_4 (i := 77) rfl rfl
theorem tw_799 : Cond.instanceMethod (⟨"GiantStairModel", "isOne", "(I)Z"⟩ : MethodName) ∈ gT := gT_4 (i := 79) rfl rfl
theorem tw_800 : Cond.code (⟨"GiantStairModel", "isOne", "(I)Z"⟩ : MethodName) prog_7_method_5_code 2 (Option.some FieldType.boolean) ∈ gT := gT_4 (i := 80) rfl rfl
theorem tw_801 : Cond.methodLink "GiantStairModel" 171 (⟨"GiantStairModel", "burden", "(I)I"⟩ : MethodName) ∈ gT := gT_4 (i := 81) rfl rfl
theorem tw_803 : Cond.instanceMethod (⟨"GiantStairModel", "burden", "(I)I"⟩ : MethodName) ∈ gT := gT_4 (i := 83) rfl rfl
theorem tw_804 : Cond.code (⟨"GiantStairModel", "burden", "(I)I"⟩ : MethodName) prog_7_method_19_code 2 (Option.some FieldType.int) ∈ gT := gT_4 (i := 84) rfl rfl
theorem tw_805 : Cond.methodLink "GiantStairLaw" 45 (⟨"GiantStairModel", "as", "(II)I"⟩ : MethodName) ∈ gT := gT_4 (i := 85) rfl rfl
theorem tw_806 : Cond.instanceMethod (⟨"GiantStairModel", "as", "(II)I"⟩ : MethodName) ∈ gT := gT_4 (i := 86) rfl rfl
theorem tw_807 : Cond.selects "GiantStairModel" (⟨"GiantStairModel", "as", "(II)I"⟩ : MethodName) (⟨"GiantStairModel", "as", "(II)I"⟩ : MethodName) ∈ gT := gT_4 (i := 87) rfl rfl
theorem tw_808 : Cond.code (⟨"GiantStairModel", "as", "(II)I"⟩ : MethodName) prog_7_method_27_code 5 (Option.some FieldType.int) ∈ gT := gT_4 (i := 88) rfl rfl
theorem tw_809 : Cond.methodLink "GiantStairModel" 197 (⟨"GiantStairModel", "canGo", "([III)Z"⟩ : MethodName) ∈ gT := gT_4 (i := 89) rfl rfl
theorem tw_811 : Cond.instanceMethod (⟨"GiantStairModel", "canGo", "([III)Z"⟩ : MethodName) ∈ gT := gT_4 (i := 91) rfl rfl
theorem tw_812 : Cond.code (⟨"GiantStairModel", "canGo", "([III)Z"⟩ : MethodName) prog_7_method_26_code 6 (Option.some FieldType.boolean) ∈ gT := gT_4 (i := 92) rfl rfl
theorem tw_813 : Cond.methodLink "GiantStairModel" 190 (⟨"GiantStairModel", "helpOf", "([II)I"⟩ : MethodName) ∈ gT := gT_4 (i := 93) rfl rfl
theorem tw_815 : Cond.instanceMethod (⟨"GiantStairModel", "helpOf", "([II)I"⟩ : MethodName) ∈ gT := gT_4 (i := 95) rfl rfl
theorem tw_816 : Cond.code (⟨"GiantStairModel", "helpOf", "([II)I"⟩ : MethodName) prog_7_method_25_code 5 (Option.some FieldType.int) ∈ gT := gT_4 (i := 96) rfl rfl
theorem tw_817 : Cond.methodLink "GiantStairModel" 186 (⟨"GiantStairModel", "canUp", "([IIII)Z"⟩ : MethodName) ∈ gT := gT_4 (i := 97) rfl rfl
theorem tw_819 : Cond.instanceMethod (⟨"GiantStairModel", "canUp", "([IIII)Z"⟩ : MethodName) ∈ gT := gT_4 (i := 99) rfl rfl
theorem tw_820 : Cond.code (⟨"GiantStairModel", "canUp", "([IIII)Z"⟩ : MethodName) prog_7_method_23_code 9 (Option.some FieldType.boolean) ∈ gT := gT_4 (i := 100) rfl rfl
theorem tw_821 : Cond.methodLink "GiantStairModel" 175 (⟨"GiantStairModel", "has", "(II)Z"⟩ : MethodName) ∈ gT := gT_4 (i := 101) rfl rfl
theorem tw_822 : Cond.static (⟨"GiantStairModel", "has", "(II)Z"⟩ : MethodName) ∈ gT := gT_4 (i := 102) rfl rfl
theorem tw_823 : Cond.code (⟨"GiantStairModel", "has", "(II)Z"⟩ : MethodName) prog_7_method_3_code 2 (Option.some FieldType.boolean) ∈ gT := gT_4 (i := 103) rfl rfl
theorem tw_824 : Cond.methodLink "GiantStairModel" 179 (⟨"GiantStairModel", "isThere", "([III)Z"⟩ : MethodName) ∈ gT := gT_4 (i := 104) rfl rfl
theorem tw_826 : Cond.instanceMethod (⟨"GiantStairModel", "isThere", "([III)Z"⟩ : MethodName) ∈ gT := gT_4 (i := 106) rfl rfl
theorem tw_827 : Cond.code (⟨"GiantStairModel", "isThere", "([III)Z"⟩ : MethodName) prog_7_method_22_code 4 (Option.some FieldType.boolean) ∈ gT := gT_4 (i := 107) rfl rfl
theorem tw_828 : Cond.methodLink "GiantStairModel" 183 (⟨"GiantStairModel", "hand", "(I)I"⟩ : MethodName) ∈ gT := gT_4 (i := 108) rfl rfl
theorem tw_830 : Cond.instanceMethod (⟨"GiantStairModel", "hand", "(I)I"⟩ : MethodName) ∈ gT := gT_4 (i := 110) rfl rfl
theorem tw_831 : Cond.code (⟨"GiantStairModel", "hand", "(I)I"⟩ : MethodName) prog_7_method_20_code 2 (Option.some FieldType.int) ∈ gT := gT_4 (i := 111) rfl rfl
theorem tw_832 : Cond.methodLink "GiantStairModel" 194 (⟨"GiantStairModel", "canDown", "([III)Z"⟩ : MethodName) ∈ gT := gT_4 (i := 112) rfl rfl
theorem tw_834 : Cond.instanceMethod (⟨"GiantStairModel", "canDown", "([III)Z"⟩ : MethodName) ∈ gT := gT_4 (i := 114) rfl rfl
theorem tw_835 : Cond.code (⟨"GiantStairModel", "canDown", "([III)Z"⟩ : MethodName) prog_7_method_24_code 6 (Option.some FieldType.boolean) ∈ gT := gT_4 (i := 115) rfl rfl
theorem tw_836 : Cond.methodLink "GiantStairLaw" 50 (⟨"GiantStairModel", "up", "(III)I"⟩ : MethodName) ∈ gT := gT_4 (i := 116) rfl rfl
theorem tw_837 : Cond.instanceMethod (⟨"GiantStairModel", "up", "(III)I"⟩ : MethodName) ∈ gT := gT_4 (i := 117) rfl rfl
theorem tw_838 : Cond.selects "GiantStairModel" (⟨"GiantStairModel", "up", "(III)I"⟩ : MethodName) (⟨"GiantStairModel", "up", "(III)I"⟩ : MethodName) ∈ gT := gT_4 (i := 118) rfl rfl
theorem tw_839 : Cond.code (⟨"GiantStairModel", "up", "(III)I"⟩ : MethodName) prog_7_method_30_code 4 (Option.some FieldType.int) ∈ gT := gT_4 (i := 119) rfl rfl
theorem tw_840 : Cond.methodLink "GiantStairModel" 200 (⟨"GiantStairModel", "isOther", "(II)Z"⟩ : MethodName) ∈ gT := gT_4 (i := 120) rfl rfl
theorem tw_842 : Cond.instanceMethod (⟨"GiantStairModel", "isOther", "(II)Z"⟩ : MethodName) ∈ gT := gT_4 (i := 122) rfl rfl
theorem tw_843 : Cond.code (⟨"GiantStairModel", "isOther", "(II)Z"⟩ : MethodName) prog_7_method_28_code 3 (Option.some FieldType.boolean) ∈ gT := gT_4 (i := 123) rfl rfl
theorem tw_844 : Cond.methodLink "GiantStairModel" 203 (⟨"GiantStairModel", "thank", "(II)V"⟩ : MethodName) ∈ gT := gT_4 (i := 124) rfl rfl
theorem tw_846 : Cond.instanceMethod (⟨"GiantStairModel", "thank", "(II)V"⟩ : MethodName) ∈ gT := gT_4 (i := 126) rfl rfl
theorem tw_847 : Cond.code (⟨"GiantStairModel", "thank", "(II)V"⟩ : MethodName) prog_7_method_29_code 3 (Option.none : Option FieldType) ∈ gT := gT_4 (i := 127) rfl rfl
theorem tw_848 : Cond.methodLink "GiantStairLaw" 54 (⟨"GiantStairModel", "down", "(II)I"⟩ : MethodName) ∈ gT := gT_4 (i := 128) rfl rfl
theorem tw_849 : Cond.instanceMethod (⟨"GiantStairModel", "down", "(II)I"⟩ : MethodName) ∈ gT := gT_4 (i := 129) rfl rfl
theorem tw_850 : Cond.selects "GiantStairModel" (⟨"GiantStairModel", "down", "(II)I"⟩ : MethodName) (⟨"GiantStairModel", "down", "(II)I"⟩ : MethodName) ∈ gT := gT_4 (i := 130) rfl rfl
theorem tw_851 : Cond.code (⟨"GiantStairModel", "down", "(II)I"⟩ : MethodName) prog_7_method_31_code 3 (Option.some FieldType.int) ∈ gT := gT_4 (i := 131) rfl rfl
theorem tw_852 : Cond.methodLink "GiantStairLaw" 58 (⟨"GiantStairModel", "helped", "(II)I"⟩ : MethodName) ∈ gT := gT_4 (i := 132) rfl rfl
theorem tw_853 : Cond.instanceMethod (⟨"GiantStairModel", "helped", "(II)I"⟩ : MethodName) ∈ gT := gT_4 (i := 133) rfl rfl
theorem tw_854 : Cond.selects "GiantStairModel" (⟨"GiantStairModel", "helped", "(II)I"⟩ : MethodName) (⟨"GiantStairModel", "helped", "(II)I"⟩ : MethodName) ∈ gT := gT_4 (i := 134) rfl rfl
theorem tw_855 : Cond.code (⟨"GiantStairModel", "helped", "(II)I"⟩ : MethodName) prog_7_method_32_code 3 (Option.some FieldType.int) ∈ gT := gT_4 (i := 135) rfl rfl
theorem tw_856 : Cond.methodLink "GiantStairLaw" 63 (⟨"GiantStairModel", "keep", "(I)I"⟩ : MethodName) ∈ gT := gT_4 (i := 136) rfl rfl
theorem tw_857 : Cond.instanceMethod (⟨"GiantStairModel", "keep", "(I)I"⟩ : MethodName) ∈ gT := gT_4 (i := 137) rfl rfl
theorem tw_858 : Cond.selects "GiantStairModel" (⟨"GiantStairModel", "keep", "(I)I"⟩ : MethodName) (⟨"GiantStairModel", "keep", "(I)I"⟩ : MethodName) ∈ gT := gT_4 (i := 138) rfl rfl
theorem tw_859 : Cond.code (⟨"GiantStairModel", "keep", "(I)I"⟩ : MethodName) prog_7_method_33_code 3 (Option.some FieldType.int) ∈ gT := gT_4 (i := 139) rfl rfl
theorem tw_860 : Cond.methodLink "GiantStairLaw" 67 (⟨"GiantStairModel", "back", "(I)I"⟩ : MethodName) ∈ gT := gT_4 (i := 140) rfl rfl
theorem tw_861 : Cond.instanceMethod (⟨"GiantStairModel", "back", "(I)I"⟩ : MethodName) ∈ gT := gT_4 (i := 141) rfl rfl
theorem tw_862 : Cond.selects "GiantStairModel" (⟨"GiantStairModel", "back", "(I)I"⟩ : MethodName) (⟨"GiantStairModel", "back", "(I)I"⟩ : MethodName) ∈ gT := gT_4 (i := 142) rfl rfl
theorem tw_863 : Cond.code (⟨"GiantStairModel", "back", "(I)I"⟩ : MethodName) prog_7_method_34_code 3 (Option.some FieldType.int) ∈ gT := gT_4 (i := 143) rfl rfl
theorem tw_864 : Cond.methodLink "GiantStairLaw" 71 (⟨"GiantStairModel", "help", "(II)I"⟩ : MethodName) ∈ gT := gT_4 (i := 144) rfl rfl
theorem tw_865 : Cond.instanceMethod (⟨"GiantStairModel", "help", "(II)I"⟩ : MethodName) ∈ gT := gT_4 (i := 145) rfl rfl
theorem tw_866 : Cond.selects "GiantStairModel" (⟨"GiantStairModel", "help", "(II)I"⟩ : MethodName) (⟨"GiantStairModel", "help", "(II)I"⟩ : MethodName) ∈ gT := gT_4 (i := 146) rfl rfl
theorem tw_867 : Cond.code (⟨"GiantStairModel", "help", "(II)I"⟩ : MethodName) prog_7_method_35_code 4 (Option.some FieldType.int) ∈ gT := gT_4 (i := 147) rfl rfl
theorem tw_868 : Cond.methodLink "GiantStairLaw" 75 (⟨"GiantStairModel", "soonest", "()I"⟩ : MethodName) ∈ gT := gT_4 (i := 148) rfl rfl
theorem tw_869 : Cond.instanceMethod (⟨"GiantStairModel", "soonest", "()I"⟩ : MethodName) ∈ gT := gT_4 (i := 149) rfl rfl
theorem tw_870 : Cond.selects "GiantStairModel" (⟨"GiantStairModel", "soonest", "()I"⟩ : MethodName) (⟨"GiantStairModel", "soonest", "()I"⟩ : MethodName) ∈ gT := gT_4 (i := 150) rfl rfl
theorem tw_871 : Cond.code (⟨"GiantStairModel", "soonest", "()I"⟩ : MethodName) prog_7_method_42_code 1 (Option.some FieldType.int) ∈ gT := gT_4 (i := 151) rfl rfl
theorem tw_872 : Cond.methodLink "GiantStairModel" 228 (⟨"GiantStairModel", "soonestOf", "()I"⟩ : MethodName) ∈ gT := gT_4 (i := 152) rfl rfl
theorem tw_874 : Cond.instanceMethod (⟨"GiantStairModel", "soonestOf", "()I"⟩ : MethodName) ∈ gT := gT_4 (i := 154) rfl rfl
theorem tw_875 : Cond.code (⟨"GiantStairModel", "soonestOf", "()I"⟩ : MethodName) prog_7_method_41_code 2 (Option.some FieldType.int) ∈ gT := gT_4 (i := 155) rfl rfl
theorem tw_876 : Cond.methodLink "GiantStairModel" 221 (⟨"GiantStairModel", "layLine", "()V"⟩ : MethodName) ∈ gT := gT_4 (i := 156) rfl rfl
theorem tw_878 : Cond.instanceMethod (⟨"GiantStairModel", "layLine", "()V"⟩ : MethodName) ∈ gT := gT_4 (i := 158) rfl rfl
theorem tw_879 : Cond.code (⟨"GiantStairModel", "layLine", "()V"⟩ : MethodName) prog_7_method_38_code 6 (Option.none : Option FieldType) ∈ gT := gT_4 (i := 159) rfl rfl
theorem tw_880 : Cond.methodLink "GiantStairModel" 207 (⟨"GiantStairModel", "codeOf", "([I)I"⟩ : MethodName) ∈ gT := gT_4 (i := 160) rfl rfl
theorem tw_882 : Cond.instanceMethod (⟨"GiantStairModel", "codeOf", "([I)I"⟩ : MethodName) ∈ gT := gT_4 (i := 162) rfl rfl
theorem tw_883 : Cond.code (⟨"GiantStairModel", "codeOf", "([I)I"⟩ : MethodName) prog_7_method_36_code 4 (Option.some FieldType.int) ∈ gT := gT_4 (i := 163) rfl rfl
theorem tw_884 : Cond.methodLink "GiantStairModel" 214 (⟨"GiantStairModel", "place", "(I)V"⟩ : MethodName) ∈ gT := gT_4 (i := 164) rfl rfl
theorem tw_886 : Cond.instanceMethod (⟨"GiantStairModel", "place", "(I)V"⟩ : MethodName) ∈ gT := gT_4 (i := 166) rfl rfl
theorem tw_887 : Cond.code (⟨"GiantStairModel", "place", "(I)V"⟩ : MethodName) prog_7_method_37_code 4 (Option.none : Option FieldType) ∈ gT := gT_4 (i := 167) rfl rfl
theorem tw_888 : Cond.methodLink "GiantStairModel" 224 (⟨"GiantStairModel", "firstUp", "()I"⟩ : MethodName) ∈ gT := gT_4 (i := 168) rfl rfl
theorem tw_890 : Cond.instanceMethod (⟨"GiantStairModel", "firstUp", "()I"⟩ : MethodName) ∈ gT := gT_4 (i := 170) rfl rfl
theorem tw_891 : Cond.code (⟨"GiantStairModel", "firstUp", "()I"⟩ : MethodName) prog_7_method_40_code 2 (Option.some FieldType.int) ∈ gT := gT_4 (i := 171) rfl rfl
theorem tw_892 : Cond.methodLink "GiantStairModel" 217 (⟨"GiantStairModel", "areUp", "([I)Z"⟩ : MethodName) ∈ gT := gT_4 (i := 172) rfl rfl
theorem tw_894 : Cond.instanceMethod (⟨"GiantStairModel", "areUp", "([I)Z"⟩ : MethodName) ∈ gT := gT_4 (i := 174) rfl rfl
theorem tw_895 : Cond.code (⟨"GiantStairModel", "areUp", "([I)Z"⟩ : MethodName) prog_7_method_39_code 4 (Option.some FieldType.boolean) ∈ gT := gT_4 (i := 175) rfl rfl
theorem tw_896 : Cond.methodLink "GiantStairLaw" 79 (⟨"GiantStairModel", "way", "(II)I"⟩ : MethodName) ∈ gT := gT_4 (i := 176) rfl rfl
theorem tw_897 : Cond.instanceMethod (⟨"GiantStairModel", "way", "(II)I"⟩ : MethodName) ∈ gT := gT_4 (i := 177) rfl rfl
theorem tw_898 : Cond.selects "GiantStairModel" (⟨"GiantStairModel", "way", "(II)I"⟩ : MethodName) (⟨"GiantStairModel", "way", "(II)I"⟩ : MethodName) ∈ gT := gT_4 (i := 178) rfl rfl
theorem tw_899 : Cond.code (⟨"GiantStairModel", "way", "(II)I"⟩ : MethodName) prog_7_method_43_code 4 (Option.some FieldType.int) ∈ gT := gT_4 (i := 179) rfl rfl
theorem tw_900 : Cond.methodLink "GiantStairLaw" 83 (⟨"GiantStairModel", "lasts", "()I"⟩ : MethodName) ∈ gT := gT_4 (i := 180) rfl rfl
theorem tw_901 : Cond.instanceMethod (⟨"GiantStairModel", "lasts", "()I"⟩ : MethodName) ∈ gT := gT_4 (i := 181) rfl rfl
theorem tw_902 : Cond.selects "GiantStairModel" (⟨"GiantStairModel", "lasts", "()I"⟩ : MethodName) (⟨"GiantStairModel", "lasts", "()I"⟩ : MethodName) ∈ gT := gT_4 (i := 182) rfl rfl
theorem tw_903 : Cond.code (⟨"GiantStairModel", "lasts", "()I"⟩ : MethodName) prog_7_method_44_code 6 (Option.some FieldType.int) ∈ gT := gT_4 (i := 183) rfl rfl
theorem tw_904 : Cond.methodLink "GiantStairLaw" 87 (⟨"GiantStairModel", "most", "(I)I"⟩ : MethodName) ∈ gT := gT_4 (i := 184) rfl rfl
theorem tw_905 : Cond.instanceMethod (⟨"GiantStairModel", "most", "(I)I"⟩ : MethodName) ∈ gT := gT_4 (i := 185) rfl rfl
theorem tw_906 : Cond.selects "GiantStairModel" (⟨"GiantStairModel", "most", "(I)I"⟩ : MethodName) (⟨"GiantStairModel", "most", "(I)I"⟩ : MethodName) ∈ gT := gT_4 (i := 186) rfl rfl
theorem tw_907 : Cond.code (⟨"GiantStairModel", "most", "(I)I"⟩ : MethodName) prog_7_method_45_code 7 (Option.some FieldType.int) ∈ gT := gT_4 (i := 187) rfl rfl
theorem tw_908 : Cond.methodLink "GiantStairModel" 231 (⟨"GiantStairModel", "bits", "(I)I"⟩ : MethodName) ∈ gT := gT_4 (i := 188) rfl rfl
theorem tw_909 : Cond.static (⟨"GiantStairModel", "bits", "(I)I"⟩ : MethodName) ∈ gT := gT_4 (i := 189) rfl rfl
theorem tw_910 : Cond.code (⟨"GiantStairModel", "bits", "(I)I"⟩ : MethodName) prog_7_method_4_code 3 (Option.some FieldType.int) ∈ gT := gT_4 (i := 190) rfl rfl
theorem tw_911 : Cond.methodLink "GiantStairLaw" 91 (⟨"GiantStairModel", "soon", "(I)I"⟩ : MethodName) ∈ gT := gT_4 (i := 191) rfl rfl
theorem tw_912 : Cond.instanceMethod (⟨"GiantStairModel", "soon", "(I)I"⟩ : MethodName) ∈ gT := gT_4 (i := 192) rfl rfl
theorem tw_913 : Cond.selects "GiantStairModel" (⟨"GiantStairModel", "soon", "(I)I"⟩ : MethodName) (⟨"GiantStairModel", "soon", "(I)I"⟩ : MethodName) ∈ gT := gT_4 (i := 193) rfl rfl
theorem tw_914 : Cond.code (⟨"GiantStairModel", "soon", "(I)I"⟩ : MethodName) prog_7_method_46_code 3 (Option.some FieldType.int) ∈ gT := gT_4 (i := 194) rfl rfl
theorem tw_915 : Cond.methodLink "GiantStairLaw" 95 (⟨"GiantStairModel", "many", "(I)I"⟩ : MethodName) ∈ gT := gT_4 (i := 195) rfl rfl
theorem tw_916 : Cond.instanceMethod (⟨"GiantStairModel", "many", "(I)I"⟩ : MethodName) ∈ gT := gT_4 (i := 196) rfl rfl
theorem tw_917 : Cond.selects "GiantStairModel" (⟨"GiantStairModel", "many", "(I)I"⟩ : MethodName) (⟨"GiantStairModel", "many", "(I)I"⟩ : MethodName) ∈ gT := gT_4 (i := 197) rfl rfl
theorem tw_918 : Cond.code (⟨"GiantStairModel", "many", "(I)I"⟩ : MethodName) prog_7_method_47_code 4 (Option.some FieldType.int) ∈ gT := gT_4 (i := 198) rfl rfl
theorem tw_919 : Cond.methodLink "GiantStairLaw" 99 (⟨"GiantStairModel", "roped", "(I)I"⟩ : MethodName) ∈ gT := gT_4 (i := 199) rfl rfl
theorem tw_920 : Cond.instanceMethod (⟨"GiantStairModel", "roped", "(I)I"⟩ : MethodName) ∈ gT := gT_4 (i := 200) rfl rfl
theorem tw_921 : Cond.selects "GiantStairModel" (⟨"GiantStairModel", "roped", "(I)I"⟩ : MethodName) (⟨"GiantStairModel", "roped", "(I)I"⟩ : MethodName) ∈ gT := gT_4 (i := 201) rfl rfl
theorem tw_922 : Cond.code (⟨"GiantStairModel", "roped", "(I)I"⟩ : MethodName) prog_7_method_48_code 8 (Option.some FieldType.int) ∈ gT := gT_4 (i := 202) rfl rfl
theorem tw_923 : Cond.methodLink "GiantStairLaw" 103 (⟨"GiantStairModel", "odds", "(II)I"⟩ : MethodName) ∈ gT := gT_4 (i := 203) rfl rfl
theorem tw_924 : Cond.instanceMethod (⟨"GiantStairModel", "odds", "(II)I"⟩ : MethodName) ∈ gT := gT_4 (i := 204) rfl rfl
theorem tw_925 : Cond.selects "GiantStairModel" (⟨"GiantStairModel", "odds", "(II)I"⟩ : MethodName) (⟨"GiantStairModel", "odds", "(II)I"⟩ : MethodName) ∈ gT := gT_4 (i := 205) rfl rfl
theorem tw_926 : Cond.code (⟨"GiantStairModel", "odds", "(II)I"⟩ : MethodName) prog_7_method_49_code 8 (Option.some FieldType.int) ∈ gT := gT_4 (i := 206) rfl rfl
theorem tw_927 : Cond.methodLink "GiantStairLaw" 107 (⟨"GiantStairModel", "row", "(II)I"⟩ : MethodName) ∈ gT := gT_4 (i := 207) rfl rfl
theorem tw_928 : Cond.instanceMethod (⟨"GiantStairModel", "row", "(II)I"⟩ : MethodName) ∈ gT := gT_4 (i := 208) rfl rfl
theorem tw_929 : Cond.selects "GiantStairModel" (⟨"GiantStairModel", "row", "(II)I"⟩ : MethodName) (⟨"GiantStairModel", "row", "(II)I"⟩ : MethodName) ∈ gT := gT_4 (i := 209) rfl rfl
theorem tw_930 : Cond.code (⟨"GiantStairModel", "row", "(II)I"⟩ : MethodName) prog_7_method_50_code 3 (Option.some FieldType.int) ∈ gT := gT_4 (i := 210) rfl rfl
theorem tw_931 : Cond.methodLink "GiantStairLaw" 111 (⟨"GiantStairModel", "burn", "()I"⟩ : MethodName) ∈ gT := gT_4 (i := 211) rfl rfl
theorem tw_932 : Cond.instanceMethod (⟨"GiantStairModel", "burn", "()I"⟩ : MethodName) ∈ gT := gT_4 (i := 212) rfl rfl
theorem tw_933 : Cond.selects "GiantStairModel" (⟨"GiantStairModel", "burn", "()I"⟩ : MethodName) (⟨"GiantStairModel", "burn", "()I"⟩ : MethodName) ∈ gT := gT_4 (i := 213) rfl rfl
theorem tw_934 : Cond.code (⟨"GiantStairModel", "burn", "()I"⟩ : MethodName) prog_7_method_51_code 2 (Option.some FieldType.int) ∈ gT := gT_4 (i := 214) rfl rfl
theorem tw_935 : Cond.methodLink "GiantStairLaw" 115 (⟨"GiantStairModel", "judge", "()I"⟩ : MethodName) ∈ gT := gT_4 (i := 215) rfl rfl
theorem tw_936 : Cond.instanceMethod (⟨"GiantStairModel", "judge", "()I"⟩ : MethodName) ∈ gT := gT_4 (i := 216) rfl rfl
theorem tw_937 : Cond.selects "GiantStairModel" (⟨"GiantStairModel", "judge", "()I"⟩ : MethodName) (⟨"GiantStairModel", "judge", "()I"⟩ : MethodName) ∈ gT := gT_4 (i := 217) rfl rfl
theorem tw_938 : Cond.code (⟨"GiantStairModel", "judge", "()I"⟩ : MethodName) prog_7_method_52_code 3 (Option.some FieldType.int) ∈ gT := gT_4 (i := 218) rfl rfl
theorem tw_939 : Cond.methodLink "GiantStairLaw" 119 (⟨"GiantStairModel", "count", "(I)I"⟩ : MethodName) ∈ gT := gT_4 (i := 219) rfl rfl
theorem tw_940 : Cond.instanceMethod (⟨"GiantStairModel", "count", "(I)I"⟩ : MethodName) ∈ gT := gT_4 (i := 220) rfl rfl
theorem tw_941 : Cond.selects "GiantStairModel" (⟨"GiantStairModel", "count", "(I)I"⟩ : MethodName) (⟨"GiantStairModel", "count", "(I)I"⟩ : MethodName) ∈ gT := gT_4 (i := 221) rfl rfl
theorem tw_942 : Cond.code (⟨"GiantStairModel", "count", "(I)I"⟩ : MethodName) prog_7_method_53_code 5 (Option.some FieldType.int) ∈ gT := gT_4 (i := 222) rfl rfl
theorem tw_943 : Cond.constantLong "GiantStairLaw" 13 (4294967295 : Int64) ∈ gT := gT_4 (i := 223) rfl rfl
theorem tw_944 : Cond.fieldLink "java/lang/String" 9 "java/lang/String" "value" "[B" ∈ gT := gT_4 (i := 224) rfl rfl
theorem tw_945 : Cond.fieldLink "java/lang/String" 15 "java/lang/String" "coder" "B" ∈ gT := gT_4 (i := 225) rfl rfl
theorem sl_0 : Cond.selects "GiantStair$Told" (⟨"GiantStair$Told", "build", "(I)V"⟩ : MethodName) (⟨"GiantStair$Told", "build", "(I)V"⟩ : MethodName) ∈ gT := gT_0 (i := 0) rfl rfl
theorem sl_1 : Cond.selects "GiantStair$Told" (⟨"GiantStair$Told", "copyStair", "(LGiantStair$Told;)V"⟩ : MethodName) (⟨"GiantStair$Told", "copyStair", "(LGiantStair$Told;)V"⟩ : MethodName) ∈ gT := gT_0 (i := 1) rfl rfl
theorem sl_2 : Cond.selects "GiantStair$Text" (⟨"GiantStair$Text", "readLine", "(LGiantStair$Told;)I"⟩ : MethodName) (⟨"GiantStair$Text", "readLine", "(LGiantStair$Told;)I"⟩ : MethodName) ∈ gT := gT_0 (i := 2) rfl rfl
theorem sl_3 : Cond.selects "GiantStair$Text" (⟨"GiantStair$Text", "skipBlanks", "()V"⟩ : MethodName) (⟨"GiantStair$Text", "skipBlanks", "()V"⟩ : MethodName) ∈ gT := gT_0 (i := 3) rfl rfl
theorem sl_4 : Cond.selects "GiantStair$Text" (⟨"GiantStair$Text", "sign", "()I"⟩ : MethodName) (⟨"GiantStair$Text", "sign", "()I"⟩ : MethodName) ∈ gT := gT_0 (i := 4) rfl rfl
theorem sl_5 : Cond.selects "GiantStair$Text" (⟨"GiantStair$Text", "readWord", "()I"⟩ : MethodName) (⟨"GiantStair$Text", "readWord", "()I"⟩ : MethodName) ∈ gT := gT_0 (i := 5) rfl rfl
theorem sl_6 : Cond.selects "GiantStair$Text" (⟨"GiantStair$Text", "spells", "(ILjava/lang/String;)Z"⟩ : MethodName) (⟨"GiantStair$Text", "spells", "(ILjava/lang/String;)Z"⟩ : MethodName) ∈ gT := gT_0 (i := 6) rfl rfl
theorem sl_7 : Cond.selects "GiantStair$Text" (⟨"GiantStair$Text", "readNumber", "()I"⟩ : MethodName) (⟨"GiantStair$Text", "readNumber", "()I"⟩ : MethodName) ∈ gT := gT_0 (i := 7) rfl rfl
theorem sl_8 : Cond.selects "GiantStair$Told" (⟨"GiantStair$Told", "isStep", "(I)Z"⟩ : MethodName) (⟨"GiantStair$Told", "isStep", "(I)Z"⟩ : MethodName) ∈ gT := gT_0 (i := 8) rfl rfl
theorem sl_9 : Cond.selects "GiantStair" (⟨"GiantStair", "beginAnew", "()V"⟩ : MethodName) (⟨"GiantStair", "beginAnew", "()V"⟩ : MethodName) ∈ gT := gT_0 (i := 9) rfl rfl
theorem sl_10 : Cond.selects "GiantStair$Told" (⟨"GiantStair$Told", "standsAt", "(III[I)Z"⟩ : MethodName) (⟨"GiantStair$Told", "standsAt", "(III[I)Z"⟩ : MethodName) ∈ gT := gT_0 (i := 10) rfl rfl
theorem sl_11 : Cond.selects "GiantStair$Told" (⟨"GiantStair$Told", "hand", "(I)I"⟩ : MethodName) (⟨"GiantStair$Told", "hand", "(I)I"⟩ : MethodName) ∈ gT := gT_0 (i := 11) rfl rfl
theorem sl_12 : Cond.selects "GiantStair$Told" (⟨"GiantStair$Told", "tallness", "(I)I"⟩ : MethodName) (⟨"GiantStair$Told", "tallness", "(I)I"⟩ : MethodName) ∈ gT := gT_0 (i := 12) rfl rfl
theorem sl_13 : Cond.selects "GiantStair" (⟨"GiantStair", "mayBeAsked", "(II)Z"⟩ : MethodName) (⟨"GiantStair", "mayBeAsked", "(II)Z"⟩ : MethodName) ∈ gT := gT_0 (i := 13) rfl rfl
theorem sl_14 : Cond.selects "GiantStair" (⟨"GiantStair", "go", "(II)I"⟩ : MethodName) (⟨"GiantStair", "go", "(II)I"⟩ : MethodName) ∈ gT := gT_0 (i := 14) rfl rfl
theorem sl_15 : Cond.selects "GiantStair" (⟨"GiantStair", "foresee", "()V"⟩ : MethodName) (⟨"GiantStair", "foresee", "()V"⟩ : MethodName) ∈ gT := gT_0 (i := 15) rfl rfl
theorem sl_16 : Cond.selects "GiantStair$Search" (⟨"GiantStair$Search", "begin", "(LGiantStair$Told;[I)V"⟩ : MethodName) (⟨"GiantStair$Search", "begin", "(LGiantStair$Told;[I)V"⟩ : MethodName) ∈ gT := gT_0 (i := 16) rfl rfl
theorem sl_17 : Cond.selects "GiantStair$Search" (⟨"GiantStair$Search", "forget", "()V"⟩ : MethodName) (⟨"GiantStair$Search", "forget", "()V"⟩ : MethodName) ∈ gT := gT_0 (i := 17) rfl rfl
theorem sl_18 : Cond.selects "GiantStair$Search" (⟨"GiantStair$Search", "reach", "(III)V"⟩ : MethodName) (⟨"GiantStair$Search", "reach", "(III)V"⟩ : MethodName) ∈ gT := gT_0 (i := 18) rfl rfl
theorem sl_19 : Cond.selects "GiantStair$Search" (⟨"GiantStair$Search", "awayOf", "(I)I"⟩ : MethodName) (⟨"GiantStair$Search", "awayOf", "(I)I"⟩ : MethodName) ∈ gT := gT_0 (i := 19) rfl rfl
theorem sl_20 : Cond.selects "GiantStair$Search" (⟨"GiantStair$Search", "unfold", "(I)V"⟩ : MethodName) (⟨"GiantStair$Search", "unfold", "(I)V"⟩ : MethodName) ∈ gT := gT_0 (i := 20) rfl rfl
theorem sl_21 : Cond.selects "GiantStair$Search" (⟨"GiantStair$Search", "positionBehind", "(I)I"⟩ : MethodName) (⟨"GiantStair$Search", "positionBehind", "(I)I"⟩ : MethodName) ∈ gT := gT_0 (i := 21) rfl rfl
theorem sl_22 : Cond.selects "GiantStair$Search" (⟨"GiantStair$Search", "aheadOf", "(I)I"⟩ : MethodName) (⟨"GiantStair$Search", "aheadOf", "(I)I"⟩ : MethodName) ∈ gT := gT_0 (i := 22) rfl rfl
theorem sl_23 : Cond.selects "GiantStair" (⟨"GiantStair", "chanceOf", "(II)I"⟩ : MethodName) (⟨"GiantStair", "chanceOf", "(II)I"⟩ : MethodName) ∈ gT := gT_0 (i := 23) rfl rfl
theorem sl_24 : Cond.selects "GiantStairModel" (⟨"GiantStairModel", "plain", "(I)V"⟩ : MethodName) (⟨"GiantStairModel", "plain", "(I)V"⟩ : MethodName) ∈ gT := gT_0 (i := 24) rfl rfl
theorem sl_25 : Cond.selects "GiantStairModel" (⟨"GiantStairModel", "isRead", "()Z"⟩ : MethodName) (⟨"GiantStairModel", "isRead", "()Z"⟩ : MethodName) ∈ gT := gT_0 (i := 25) rfl rfl
theorem sl_26 : Cond.selects "GiantStairModel" (⟨"GiantStairModel", "isLine", "(I)Z"⟩ : MethodName) (⟨"GiantStairModel", "isLine", "(I)Z"⟩ : MethodName) ∈ gT := gT_0 (i := 26) rfl rfl
theorem sl_27 : Cond.selects "GiantStairModel" (⟨"GiantStairModel", "nextToken", "()V"⟩ : MethodName) (⟨"GiantStairModel", "nextToken", "()V"⟩ : MethodName) ∈ gT := gT_0 (i := 27) rfl rfl
theorem sl_28 : Cond.selects "GiantStairModel" (⟨"GiantStairModel", "isOneLine", "(I)Z"⟩ : MethodName) (⟨"GiantStairModel", "isOneLine", "(I)Z"⟩ : MethodName) ∈ gT := gT_0 (i := 28) rfl rfl
theorem sl_29 : Cond.selects "GiantStairModel" (⟨"GiantStairModel", "fails", "()Z"⟩ : MethodName) (⟨"GiantStairModel", "fails", "()Z"⟩ : MethodName) ∈ gT := gT_0 (i := 29) rfl rfl
theorem sl_30 : Cond.selects "GiantStairModel" (⟨"GiantStairModel", "isNumber", "(III)Z"⟩ : MethodName) (⟨"GiantStairModel", "isNumber", "(III)Z"⟩ : MethodName) ∈ gT := gT_0 (i := 30) rfl rfl
theorem sl_31 : Cond.selects "GiantStairModel" (⟨"GiantStairModel", "doLine", "(I)V"⟩ : MethodName) (⟨"GiantStairModel", "doLine", "(I)V"⟩ : MethodName) ∈ gT := gT_0 (i := 31) rfl rfl
theorem sl_32 : Cond.selects "GiantStairModel" (⟨"GiantStairModel", "isOne", "(I)Z"⟩ : MethodName) (⟨"GiantStairModel", "isOne", "(I)Z"⟩ : MethodName) ∈ gT := gT_0 (i := 32) rfl rfl
theorem sl_33 : Cond.selects "GiantStairModel" (⟨"GiantStairModel", "burden", "(I)I"⟩ : MethodName) (⟨"GiantStairModel", "burden", "(I)I"⟩ : MethodName) ∈ gT := gT_0 (i := 33) rfl rfl
theorem sl_34 : Cond.selects "GiantStairModel" (⟨"GiantStairModel", "canGo", "([III)Z"⟩ : MethodName) (⟨"GiantStairModel", "canGo", "([III)Z"⟩ : MethodName) ∈ gT := gT_0 (i := 34) rfl rfl
theorem sl_35 : Cond.selects "GiantStairModel" (⟨"GiantStairModel", "helpOf", "([II)I"⟩ : MethodName) (⟨"GiantStairModel", "helpOf", "([II)I"⟩ : MethodName) ∈ gT := gT_0 (i := 35) rfl rfl
theorem sl_36 : Cond.selects "GiantStairModel" (⟨"GiantStairModel", "canUp", "([IIII)Z"⟩ : MethodName) (⟨"GiantStairModel", "canUp", "([IIII)Z"⟩ : MethodName) ∈ gT := gT_0 (i := 36) rfl rfl
theorem sl_37 : Cond.selects "GiantStairModel" (⟨"GiantStairModel", "isThere", "([III)Z"⟩ : MethodName) (⟨"GiantStairModel", "isThere", "([III)Z"⟩ : MethodName) ∈ gT := gT_0 (i := 37) rfl rfl
theorem sl_38 : Cond.selects "GiantStairModel" (⟨"GiantStairModel", "hand", "(I)I"⟩ : MethodName) (⟨"GiantStairModel", "hand", "(I)I"⟩ : MethodName) ∈ gT := gT_0 (i := 38) rfl rfl
theorem sl_39 : Cond.selects "GiantStairModel" (⟨"GiantStairModel", "canDown", "([III)Z"⟩ : MethodName) (⟨"GiantStairModel", "canDown", "([III)Z"⟩ : MethodName) ∈ gT := gT_0 (i := 39) rfl rfl
theorem sl_40 : Cond.selects "GiantStairModel" (⟨"GiantStairModel", "isOther", "(II)Z"⟩ : MethodName) (⟨"GiantStairModel", "isOther", "(II)Z"⟩ : MethodName) ∈ gT := gT_0 (i := 40) rfl rfl
theorem sl_41 : Cond.selects "GiantStairModel" (⟨"GiantStairModel", "thank", "(II)V"⟩ : MethodName) (⟨"GiantStairModel", "thank", "(II)V"⟩ : MethodName) ∈ gT := gT_0 (i := 41) rfl rfl
theorem sl_42 : Cond.selects "GiantStairModel" (⟨"GiantStairModel", "soonestOf", "()I"⟩ : MethodName) (⟨"GiantStairModel", "soonestOf", "()I"⟩ : MethodName) ∈ gT := gT_0 (i := 42) rfl rfl
theorem sl_43 : Cond.selects "GiantStairModel" (⟨"GiantStairModel", "layLine", "()V"⟩ : MethodName) (⟨"GiantStairModel", "layLine", "()V"⟩ : MethodName) ∈ gT := gT_0 (i := 43) rfl rfl
theorem sl_44 : Cond.selects "GiantStairModel" (⟨"GiantStairModel", "codeOf", "([I)I"⟩ : MethodName) (⟨"GiantStairModel", "codeOf", "([I)I"⟩ : MethodName) ∈ gT := gT_0 (i := 44) rfl rfl
theorem sl_45 : Cond.selects "GiantStairModel" (⟨"GiantStairModel", "place", "(I)V"⟩ : MethodName) (⟨"GiantStairModel", "place", "(I)V"⟩ : MethodName) ∈ gT := gT_0 (i := 45) rfl rfl
theorem sl_46 : Cond.selects "GiantStairModel" (⟨"GiantStairModel", "firstUp", "()I"⟩ : MethodName) (⟨"GiantStairModel", "firstUp", "()I"⟩ : MethodName) ∈ gT := gT_0 (i := 46) rfl rfl
theorem sl_47 : Cond.selects "GiantStairModel" (⟨"GiantStairModel", "areUp", "([I)Z"⟩ : MethodName) (⟨"GiantStairModel", "areUp", "([I)Z"⟩ : MethodName) ∈ gT := gT_0 (i := 47) rfl rfl
theorem in_X0 : ∀ w ∈ u_ws "GiantStair$Journey" TX0 4, w ∈ gT := List.forall_mem_cons.mpr ⟨tw_113, List.forall_mem_cons.mpr ⟨tw_115, List.forall_mem_cons.mpr ⟨tw_117, List.forall_mem_cons.mpr ⟨tw_119, fun _ h => absurd h List.not_mem_nil⟩⟩⟩⟩
theorem in_X1 : ∀ w ∈ u_ws "GiantStair$Search" TX1 6, w ∈ gT := List.forall_mem_cons.mpr ⟨tw_138, List.forall_mem_cons.mpr ⟨tw_140, List.forall_mem_cons.mpr ⟨tw_142, List.forall_mem_cons.mpr ⟨tw_144, List.forall_mem_cons.mpr ⟨tw_146, List.forall_mem_cons.mpr ⟨tw_148, fun _ h => absurd h List.not_mem_nil⟩⟩⟩⟩⟩⟩
theorem in_X2 : ∀ w ∈ u_ws "GiantStair$Text" TX2 5, w ∈ gT := List.forall_mem_cons.mpr ⟨tw_90, List.forall_mem_cons.mpr ⟨tw_92, List.forall_mem_cons.mpr ⟨tw_94, List.forall_mem_cons.mpr ⟨tw_96, List.forall_mem_cons.mpr ⟨tw_98, fun _ h => absurd h List.not_mem_nil⟩⟩⟩⟩⟩
theorem in_X3 : ∀ w ∈ u_ws "GiantStair$Told" TX3 10, w ∈ gT := List.forall_mem_cons.mpr ⟨tw_54, List.forall_mem_cons.mpr ⟨tw_56, List.forall_mem_cons.mpr ⟨tw_58, List.forall_mem_cons.mpr ⟨tw_60, List.forall_mem_cons.mpr ⟨tw_62, List.forall_mem_cons.mpr ⟨tw_64, List.forall_mem_cons.mpr ⟨tw_66, List.forall_mem_cons.mpr ⟨tw_68, List.forall_mem_cons.mpr ⟨tw_70, List.forall_mem_cons.mpr ⟨tw_72, fun _ h => absurd h List.not_mem_nil⟩⟩⟩⟩⟩⟩⟩⟩⟩⟩
theorem in_X4 : ∀ w ∈ u_ws "GiantStair" TX4 11, w ∈ gT := List.forall_mem_cons.mpr ⟨tw_162, List.forall_mem_cons.mpr ⟨tw_164, List.forall_mem_cons.mpr ⟨tw_166, List.forall_mem_cons.mpr ⟨tw_168, List.forall_mem_cons.mpr ⟨tw_170, List.forall_mem_cons.mpr ⟨tw_172, List.forall_mem_cons.mpr ⟨tw_174, List.forall_mem_cons.mpr ⟨tw_176, List.forall_mem_cons.mpr ⟨tw_178, List.forall_mem_cons.mpr ⟨tw_180, List.forall_mem_cons.mpr ⟨tw_182, fun _ h => absurd h List.not_mem_nil⟩⟩⟩⟩⟩⟩⟩⟩⟩⟩⟩
theorem in_X5 : ∀ w ∈ u_ws "GiantStairModel" TX5 31, w ∈ gT := List.forall_mem_cons.mpr ⟨tw_662, List.forall_mem_cons.mpr ⟨tw_664, List.forall_mem_cons.mpr ⟨tw_666, List.forall_mem_cons.mpr ⟨tw_668, List.forall_mem_cons.mpr ⟨tw_670, List.forall_mem_cons.mpr ⟨tw_672, List.forall_mem_cons.mpr ⟨tw_674, List.forall_mem_cons.mpr ⟨tw_676, List.forall_mem_cons.mpr ⟨tw_678, List.forall_mem_cons.mpr ⟨tw_680, List.forall_mem_cons.mpr ⟨tw_682, List.forall_mem_cons.mpr ⟨tw_684, List.forall_mem_cons.mpr ⟨tw_686, List.forall_mem_cons.mpr ⟨tw_688, List.forall_mem_cons.mpr ⟨tw_690, List.forall_mem_cons.mpr ⟨tw_692, List.forall_mem_cons.mpr ⟨tw_694, List.forall_mem_cons.mpr ⟨tw_696, List.forall_mem_cons.mpr ⟨tw_698, List.forall_mem_cons.mpr ⟨tw_700, List.forall_mem_cons.mpr ⟨tw_702, List.forall_mem_cons.mpr ⟨tw_704, List.forall_mem_cons.mpr ⟨tw_706, List.forall_mem_cons.mpr ⟨tw_708, List.forall_mem_cons.mpr ⟨tw_710, List.forall_mem_cons.mpr ⟨tw_712, List.forall_mem_cons.mpr ⟨tw_714, List.forall_mem_cons.mpr ⟨tw_716, List.forall_mem_cons.mpr ⟨tw_718, List.forall_mem_cons.mpr ⟨tw_720, List.forall_mem_cons.mpr ⟨tw_722, fun _ h => absurd h List.not_mem_nil⟩⟩⟩⟩⟩⟩⟩⟩⟩⟩⟩⟩⟩⟩⟩⟩⟩⟩⟩⟩⟩⟩⟩⟩⟩⟩⟩⟩⟩⟩⟩
end
section
/-! THE SMALL MACHINE: what a method does to its numbers, by itself: a memory of ints by object and place, a stack, locals; a table of steps for each method. It is tied to the machine of the Statement further on (q_met). -/
abbrev qMem : Type := (Nat → Nat → Int32) × Int64
abbrev qSt : Type := Nat × List (Option Value) × List Value × qMem
abbrev qHnd : Type := Nat → List Value → qMem → Option (Option Value × qMem)
abbrev qOp : Type := qHnd → qSt → Option qSt
abbrev qTab : Type := Nat → Nat ⊕ qOp
abbrev qMI : Type := qTab × Nat × Option FieldType × Nat
abbrev qSh : Type := Nat × Nat × List Nat
def qW (s : qMem) (o k : Nat) (v : Int32) : qMem := (fun a b => if a = o ∧ b = k then v else s.1 a b, s.2)
/-- a row written over a stretch (System.arraycopy) -/
def qCpy (s : qMem) (o o2 sp dp n : Nat) : qMem := (fun a b => if a = o2 then va_cpy (s.1 o) (s.1 o2) sp dp n b else s.1 a b, s.2)
def qRun (C : qHnd) (T : qTab) : Nat → qSt → Option qSt
  | 0, _ => none
  | n + 1, x => match T x.1 with
    | .inl 0 => none
    | .inl _ => some x
    | .inr f => (f C x).bind (qRun C T n)
theorem qRun_succ {C : qHnd} {T : qTab} : ∀ {n : Nat} {x t : qSt}, qRun C T n x = some t → qRun C T (n + 1) x = some t := by
  intro n
  induction n with
  | zero => intro x t h; cases h
  | succ n ih =>
    intro x t h
    rw [qRun] at h ⊢
    cases hT : T x.1 with
    | inl k =>
      rw [hT] at h
      cases k <;> exact h
    | inr f =>
      rw [hT] at h
      simp only at h ⊢
      cases hf : f C x with
      | none => rw [hf] at h; cases h
      | some y =>
        rw [hf] at h
        exact ih h
theorem qRun_le {C : qHnd} {T : qTab} {n m : Nat} {x t : qSt} (hnm : n ≤ m) (h : qRun C T n x = some t) : qRun C T m x = some t := by
  induction hnm with
  | refl => exact h
  | step _ ih => exact qRun_succ ih
noncomputable def qDen (C : qHnd) (T : qTab) (x : qSt) : Option qSt :=
  @dite _ (∃ n, (qRun C T n x).isSome = true) (Classical.propDecidable _) (fun h => qRun C T (Classical.choose h) x) (fun _ => none)
theorem qDen_of {C : qHnd} {T : qTab} {n : Nat} {x t : qSt} (h : qRun C T n x = some t) : qDen C T x = some t := by
  have hx : ∃ n, (qRun C T n x).isSome = true := ⟨n, by rw [h]; rfl⟩
  unfold qDen
  rw [dif_pos hx]
  have h2 := Classical.choose_spec hx
  obtain ⟨t2, ht2⟩ := Option.isSome_iff_exists.mp h2
  rw [ht2]
  rcases Nat.le_total n (Classical.choose hx) with q | q
  · rw [qRun_le q h] at ht2
    exact ht2.symm
  · rw [qRun_le q ht2] at h
    exact h
theorem qDen_run {C : qHnd} {T : qTab} {x t : qSt} (h : qDen C T x = some t) : ∃ n, qRun C T n x = some t := by
  unfold qDen at h
  by_cases hx : ∃ n, (qRun C T n x).isSome = true
  · rw [dif_pos hx] at h
    exact ⟨_, h⟩
  · rw [dif_neg hx] at h
    cases h
theorem qDen_eq (C : qHnd) (T : qTab) (x : qSt) : qDen C T x = match T x.1 with
    | .inl 0 => none
    | .inl _ => some x
    | .inr f => (f C x).bind (qDen C T) := by
  cases hd : qDen C T x with
  | some t =>
    obtain ⟨n, hn⟩ := qDen_run hd
    cases n with
    | zero => cases hn
    | succ n =>
      rw [qRun] at hn
      cases hT : T x.1 with
      | inl k =>
        rw [hT] at hn
        cases k <;> exact hn.symm
      | inr f =>
        rw [hT] at hn
        simp only at hn ⊢
        cases hf : f C x with
        | none => rw [hf] at hn; cases hn
        | some y =>
          rw [hf] at hn
          exact (qDen_of hn).symm
  | none =>
    have key : ∀ t, ¬ qDen C T x = some t := fun t h => by rw [hd] at h; cases h
    cases hT : T x.1 with
    | inl k =>
      cases k with
      | zero => rfl
      | succ k => exact absurd (qDen_of (n := 1) (by rw [qRun, hT]; rfl)) (key x)
    | inr f =>
      simp only
      cases hf : f C x with
      | none => rfl
      | some y =>
        simp only [Option.bind_some]
        cases hy : qDen C T y with
        | none => rfl
        | some t =>
          obtain ⟨n, hn⟩ := qDen_run hy
          exact absurd (qDen_of (n := n + 1) (by rw [qRun, hT]; simp only [hf, Option.bind_some]; exact hn)) (key t)
/-- locals out of arguments, by place -/
def qFl : List Value → List (Option Value)
  | [] => []
  | .long x :: l => some (.long x) :: none :: qFl l
  | v :: l => some v :: qFl l
def qPad : Nat → List (Option Value) → List (Option Value)
  | 0, _ => []
  | n + 1, [] => none :: qPad n []
  | n + 1, a :: l => a :: qPad n l
def qLk : List (Option Value) → Nat → Option Value
  | [], _ => none
  | a :: _, 0 => a
  | _ :: l, n + 1 => qLk l n
def qPut : List (Option Value) → Nat → Value → List (Option Value)
  | [], _, _ => []
  | _ :: l, 0, v => some v :: l
  | a :: l, n + 1, v => a :: qPut l n v
/-- what a method answers, off its last stack -/
def qRet (rt : Option FieldType) (st : List Value) : Option (Option Value) :=
  match rt with
  | none => match st with
    | [] => some none
    | _ => none
  | some .int => match st with
    | [.int v] => some (some (.int v))
    | _ => none
  | some .boolean => match st with
    | [.int v] => if v = 0 ∨ v = 1 then some (some (.int v)) else none
    | _ => none
  | some .char => match st with
    | [.int v] => if 0 ≤ v.toInt ∧ v.toInt < 65536 then some (some (.int v)) else none
    | _ => none
  | some .byte => match st with
    | [.int v] => if v = 0 then some (some (.int v)) else none
    | _ => none
  | some (.object _) => match st with
    | [.ref k] => some (some (.ref k))
    | _ => none
  | _ => none
/-- arguments are ints and things, a long at the place wp alone -/
def qAok (wp : Nat) : Nat → List Value → Bool
  | _, [] => true
  | i, .long _ :: l => Nat.beq i wp && qAok wp (i + 2) l
  | i, .int _ :: l => qAok wp (i + 1) l
  | i, .ref _ :: l => qAok wp (i + 1) l
  | _, _ => false
noncomputable def qCall (MT : Nat → qMI) : Nat → qHnd
  | 0 => fun _ _ _ => none
  | d + 1 => fun y vs s => bif qAok (MT y).2.2.2 0 vs && Nat.ble (qFl vs).length (MT y).2.1 then (qDen (qCall MT d) (MT y).1 (0, qPad (MT y).2.1 (qFl vs), [], s)).bind (fun t => (qRet (MT y).2.2.1 t.2.2.1).map (fun r => (r, t.2.2.2))) else none
/-- going on in method y from a state: what it answers in the end -/
noncomputable def qK (MT : Nat → qMI) (d : Nat) (y : Nat) (x : qSt) : Option (Option Value × qMem) := (qDen (qCall MT d) (MT y).1 x).bind (fun t => (qRet (MT y).2.2.1 t.2.2.1).map (fun r => (r, t.2.2.2)))
noncomputable def qO (MT : Nat → qMI) (d : Nat) (y : Nat) (o : Option qSt) : Option (Option Value × qMem) := o.bind (qK MT d y)
def qI (o : Option (Option Value × qMem)) : Option (Int32 × qMem) := o.bind (fun q => match q.1 with
  | some (.int r) => some (r, q.2)
  | _ => none)
def qV (o : Option (Option Value × qMem)) : Option qMem := o.bind (fun q => match q.1 with
  | none => some q.2
  | _ => none)
def qR (o : Option (Option Value × qMem)) : Option (Nat × qMem) := o.bind (fun q => match q.1 with
  | some (.ref r) => some (r, q.2)
  | _ => none)
theorem qCall_K (MT : Nat → qMI) (d y : Nat) (vs : List Value) (s : qMem) (h : (qAok (MT y).2.2.2 0 vs && Nat.ble (qFl vs).length (MT y).2.1) = true) : qCall MT (d + 1) y vs s = qK MT d y (0, qPad (MT y).2.1 (qFl vs), [], s) := by
  rw [qCall]
  simp only [h, cond_true]
  rfl
theorem qK_op {MT : Nat → qMI} {d y : Nat} {x : qSt} {f : qOp} (h : (MT y).1 x.1 = .inr f) : qK MT d y x = qO MT d y (f (qCall MT d) x) := by
  unfold qK qO
  rw [qDen_eq, h]
  simp only
  cases f (qCall MT d) x with
  | none => rfl
  | some t => rfl
theorem qK_ret {MT : Nat → qMI} {d y k : Nat} {x : qSt} (h : (MT y).1 x.1 = .inl (k + 1)) : qK MT d y x = (qRet (MT y).2.2.1 x.2.2.1).map (fun r => (r, x.2.2.2)) := by
  unfold qK
  rw [qDen_eq, h]
  rfl
theorem qO_some {MT : Nat → qMI} {d y : Nat} {x : qSt} : qO MT d y (some x) = qK MT d y x := rfl
theorem qO_none {MT : Nat → qMI} {d y : Nat} : qO MT d y none = none := rfl
theorem qO_ite {MT : Nat → qMI} {d y : Nat} {c : Prop} [hc : Decidable c] {a b : Option qSt} : qO MT d y (if c then a else b) = if c then qO MT d y a else qO MT d y b := by
  by_cases h : c
  · rw [if_pos h, if_pos h]
  · rw [if_neg h, if_neg h]
theorem qO_bind {α : Type} {MT : Nat → qMI} {d y : Nat} {o : Option α} {g : α → Option qSt} : qO MT d y (o.bind g) = o.bind (fun a => qO MT d y (g a)) := by
  cases o <;> rfl
/-- straight on: k steps, no branch -/
def qSteps (C : qHnd) (T : qTab) : Nat → qSt → Option qSt
  | 0, x => some x
  | n + 1, x => match T x.1 with
    | .inl _ => none
    | .inr f => match f C x with
      | none => none
      | some t => qSteps C T n t
theorem qK_steps {MT : Nat → qMI} {d y : Nat} : ∀ (n : Nat) {x t : qSt}, qSteps (qCall MT d) (MT y).1 n x = some t → qK MT d y x = qK MT d y t := by
  intro n
  induction n with
  | zero => intro x t h; cases h; rfl
  | succ n ih =>
    intro x t h
    rw [qSteps] at h
    cases hT : (MT y).1 x.1 with
    | inl k => rw [hT] at h; cases h
    | inr f =>
      rw [hT] at h
      simp only at h
      rw [qK_op hT]
      cases hf : f (qCall MT d) x with
      | none => rw [hf] at h; cases h
      | some z =>
        rw [hf] at h
        exact ih h
theorem q_ite {α : Type} {c : Prop} [Decidable c] {a a' b b' : α} (h1 : a = a') (h2 : b = b') : (if c then a else b) = (if c then a' else b') := by rw [h1, h2]
theorem q_bind {α β : Type} {o : Option α} {f g : α → Option β} (h : ∀ a, f a = g a) : o.bind f = o.bind g := by rw [funext h]
/-! the steps -/
def qIconst (n : Nat) (v : Int32) : qOp := fun _ x => match x with
  | (pc, L, st, s) => some (pc + n, L, .int v :: st, s)
def qLconst (n : Nat) (v : Int64) : qOp := fun _ x => match x with
  | (pc, L, st, s) => some (pc + n, L, .long v :: st, s)
def qIload (n i : Nat) : qOp := fun _ x => match x with
  | (pc, L, st, s) => match qLk L i with
    | some (.int v) => some (pc + n, L, .int v :: st, s)
    | _ => none
def qLload (n i : Nat) : qOp := fun _ x => match x with
  | (pc, L, st, s) => match qLk L i with
    | some (.long v) => some (pc + n, L, .long v :: st, s)
    | _ => none
def qAload (n i : Nat) : qOp := fun _ x => match x with
  | (pc, L, st, s) => match qLk L i with
    | some (.ref v) => bif Nat.blt v 150 then some (pc + n, L, .ref v :: st, s) else none
    | _ => none
def qIstore (n i : Nat) : qOp := fun _ x => match x with
  | (pc, L, .int v :: st, s) => some (pc + n, qPut L i (.int v), st, s)
  | _ => none
def qAstore (n i : Nat) : qOp := fun _ x => match x with
  | (pc, L, .ref v :: st, s) => bif Nat.blt v 150 then some (pc + n, qPut L i (.ref v), st, s) else none
  | _ => none
def qIinc (i : Nat) (c : Int32) : qOp := fun _ x => match x with
  | (pc, L, st, s) => match qLk L i with
    | some (.int v) => some (pc + 3, qPut L i (.int (v + c)), st, s)
    | _ => none
def qBin (f : Int32 → Int32 → Int32) : qOp := fun _ x => match x with
  | (pc, L, .int b :: .int a :: st, s) => some (pc + 1, L, .int (f a b) :: st, s)
  | _ => none
def qUn (f : Int32 → Int32) : qOp := fun _ x => match x with
  | (pc, L, .int a :: st, s) => some (pc + 1, L, .int (f a) :: st, s)
  | _ => none
def qDiv (f : Int32 → Int32 → Int32) : qOp := fun _ x => match x with
  | (pc, L, .int b :: .int a :: st, s) => if b = 0 then none else some (pc + 1, L, .int (f a b) :: st, s)
  | _ => none
def qLBin (f : Int64 → Int64 → Int64) : qOp := fun _ x => match x with
  | (pc, L, .long b :: .long a :: st, s) => some (pc + 1, L, .long (f a b) :: st, s)
  | _ => none
def qLSh (f : Int64 → Int32 → Int64) : qOp := fun _ x => match x with
  | (pc, L, .int b :: .long a :: st, s) => some (pc + 1, L, .long (f a b) :: st, s)
  | _ => none
def qI2l : qOp := fun _ x => match x with
  | (pc, L, .int a :: st, s) => some (pc + 1, L, .long a.toInt64 :: st, s)
  | _ => none
def qL2i : qOp := fun _ x => match x with
  | (pc, L, .long a :: st, s) => some (pc + 1, L, .int a.toInt32 :: st, s)
  | _ => none
def qLcmp : qOp := fun _ x => match x with
  | (pc, L, .long b :: .long a :: st, s) => some (pc + 1, L, .int (lg_cmp a b) :: st, s)
  | _ => none
def qDup : qOp := fun _ x => match x with
  | (pc, L, .int a :: st, s) => some (pc + 1, L, .int a :: .int a :: st, s)
  | (pc, L, .ref a :: st, s) => bif Nat.blt a 150 then some (pc + 1, L, .ref a :: .ref a :: st, s) else none
  | _ => none
def qDup2 : qOp := fun _ x => match x with
  | (pc, L, .int a :: .ref b :: st, s) => bif Nat.blt b 150 then some (pc + 1, L, .int a :: .ref b :: .int a :: .ref b :: st, s) else none
  | _ => none
def qPop : qOp := fun _ x => match x with
  | (pc, L, .int _ :: st, s) => some (pc + 1, L, st, s)
  | _ => none
def qGoto (t : Nat) : qOp := fun _ x => match x with
  | (_, L, st, s) => some (t, L, st, s)
def qIf (c : Int32 → Prop) (hc : ∀ a, Decidable (c a)) (t : Nat) : qOp := fun _ x => match x with
  | (pc, L, .int a :: st, s) => @ite _ (c a) (hc a) (some (t, L, st, s)) (some (pc + 3, L, st, s))
  | _ => none
def qIfeq (t : Nat) : qOp := fun _ x => match x with
  | (pc, L, .int a :: st, s) => if a = 0 then some (t, L, st, s) else some (pc + 3, L, st, s)
  | _ => none
def qIfne (t : Nat) : qOp := fun _ x => match x with
  | (pc, L, .int a :: st, s) => if a = 0 then some (pc + 3, L, st, s) else some (t, L, st, s)
  | _ => none
def qIflt (t : Nat) : qOp := fun _ x => match x with
  | (pc, L, .int a :: st, s) => if a < 0 then some (t, L, st, s) else some (pc + 3, L, st, s)
  | _ => none
def qIfge (t : Nat) : qOp := fun _ x => match x with
  | (pc, L, .int a :: st, s) => if 0 ≤ a then some (t, L, st, s) else some (pc + 3, L, st, s)
  | _ => none
def qIfgt (t : Nat) : qOp := fun _ x => match x with
  | (pc, L, .int a :: st, s) => if 0 < a then some (t, L, st, s) else some (pc + 3, L, st, s)
  | _ => none
def qIfle (t : Nat) : qOp := fun _ x => match x with
  | (pc, L, .int a :: st, s) => if a ≤ 0 then some (t, L, st, s) else some (pc + 3, L, st, s)
  | _ => none
def qCeq (t : Nat) : qOp := fun _ x => match x with
  | (pc, L, .int b :: .int a :: st, s) => if a = b then some (t, L, st, s) else some (pc + 3, L, st, s)
  | _ => none
def qCne (t : Nat) : qOp := fun _ x => match x with
  | (pc, L, .int b :: .int a :: st, s) => if a = b then some (pc + 3, L, st, s) else some (t, L, st, s)
  | _ => none
def qClt (t : Nat) : qOp := fun _ x => match x with
  | (pc, L, .int b :: .int a :: st, s) => if a < b then some (t, L, st, s) else some (pc + 3, L, st, s)
  | _ => none
def qCge (t : Nat) : qOp := fun _ x => match x with
  | (pc, L, .int b :: .int a :: st, s) => if b ≤ a then some (t, L, st, s) else some (pc + 3, L, st, s)
  | _ => none
def qCgt (t : Nat) : qOp := fun _ x => match x with
  | (pc, L, .int b :: .int a :: st, s) => if b < a then some (t, L, st, s) else some (pc + 3, L, st, s)
  | _ => none
def qCle (t : Nat) : qOp := fun _ x => match x with
  | (pc, L, .int b :: .int a :: st, s) => if a ≤ b then some (t, L, st, s) else some (pc + 3, L, st, s)
  | _ => none
def qIfnull : qOp := fun _ x => match x with
  | (pc, L, .ref a :: st, s) => bif Nat.blt a 150 then some (pc + 3, L, st, s) else none
  | _ => none
def qIfnonnull (t : Nat) : qOp := fun _ x => match x with
  | (_, L, .ref a :: st, s) => bif Nat.blt a 150 then some (t, L, st, s) else none
  | _ => none
/-- a switch: rows of (value, place), and where else -/
def qSel (v : Int32) (L : List (Option Value)) (st : List Value) (s : qMem) (d : Nat) : List (Int32 × Nat) → Option qSt
  | [] => some (d, L, st, s)
  | q :: l => if v = q.1 then some (q.2, L, st, s) else qSel v L st s d l
def qSwitch (rows : List (Int32 × Nat)) (d : Nat) : qOp := fun _ x => match x with
  | (_, L, .int v :: st, s) => qSel v L st s d rows
  | _ => none
/-- locals that nobody asks any more are forgotten -/
def qDrop : List Bool → List (Option Value) → List (Option Value)
  | _, [] => []
  | [], L => L
  | b :: m, a :: L => (bif b then a else none) :: qDrop m L
def qMask (m : List Bool) (f : qOp) : qOp := fun C x => match x with
  | (pc, L, st, s) => f C (pc, qDrop m L, st, s)
/-! memory steps; Z is the layout: the kind of each thing by its number (0 a row of ints, 1 of booleans, 2 of Journeys, 3 an object with its kind and fields, 4 a fixed row of ints, 5 the bytes of a text, 6 a text, 7 the script) -/
def qNth : List Nat → Nat → Nat
  | [], _ => 0
  | a :: _, 0 => a
  | _ :: l, n + 1 => qNth l n
def qNthI : List Int32 → Nat → Int32
  | [], _ => 0
  | a :: _, 0 => a
  | _ :: l, n + 1 => qNthI l n
/-- a field of an object of kind c: 1 an int, 2 a boolean, 3 the long, 4 + r the thing r; 0 none such -/
def qFld (Z : Nat → qSh) (o c k : Nat) : Nat := match Z o with
  | (3, c2, fs) => bif Nat.beq c2 c then qNth fs k else 0
  | _ => 0
def qGetI (Z : Nat → qSh) (c k : Nat) : qOp := fun _ x => match x with
  | (pc, L, .ref o :: st, s) => match qFld Z o c k with
    | 1 => some (pc + 3, L, .int (s.1 o k) :: st, s)
    | 2 => some (pc + 3, L, .int (s.1 o k) :: st, s)
    | _ => none
  | _ => none
def qGetL (Z : Nat → qSh) (c k : Nat) : qOp := fun _ x => match x with
  | (pc, L, .ref o :: st, s) => match qFld Z o c k with
    | 3 => some (pc + 3, L, .long s.2 :: st, s)
    | _ => none
  | _ => none
def qGetR (Z : Nat → qSh) (c k : Nat) : qOp := fun _ x => match x with
  | (pc, L, .ref o :: st, s) => match qFld Z o c k with
    | r + 4 => bif Nat.blt r 150 then some (pc + 3, L, .ref r :: st, s) else none
    | _ => none
  | _ => none
def qPutI (Z : Nat → qSh) (c k : Nat) : qOp := fun _ x => match x with
  | (pc, L, .int v :: .ref o :: st, s) => match qFld Z o c k with
    | 1 => some (pc + 3, L, st, qW s o k v)
    | _ => none
  | _ => none
def qPutZ (Z : Nat → qSh) (c k : Nat) : qOp := fun _ x => match x with
  | (pc, L, .int v :: .ref o :: st, s) => match qFld Z o c k with
    | 2 => if v = 0 ∨ v = 1 then some (pc + 3, L, st, qW s o k v) else none
    | _ => none
  | _ => none
def qPutL (Z : Nat → qSh) (c k : Nat) : qOp := fun _ x => match x with
  | (pc, L, .long v :: .ref o :: st, s) => match qFld Z o c k with
    | 3 => some (pc + 3, L, st, (s.1, v))
    | _ => none
  | _ => none
/-- a text's bytes, its mark (0) -/
def qGetTV (Z : Nat → qSh) : qOp := fun _ x => match x with
  | (pc, L, .ref o :: st, s) => match Z o with
    | (6, b, _) => some (pc + 3, L, .ref b :: st, s)
    | _ => none
  | _ => none
def qGetTC (Z : Nat → qSh) : qOp := fun _ x => match x with
  | (pc, L, .ref o :: st, s) => match Z o with
    | (6, _, _) => some (pc + 3, L, .int 0 :: st, s)
    | _ => none
  | _ => none
def qStat (o : Nat) : qOp := fun _ x => match x with
  | (pc, L, st, s) => some (pc + 3, L, .ref o :: st, s)
abbrev qIn (i : Int32) (n : Nat) : Prop := 0 ≤ i.toInt ∧ i.toInt < (n : Int)
def qKon (fs : List Nat) (i : Nat) : Int32 := Int32.ofInt ((qNth fs i : Int) - 128)
def qIald (Z : Nat → qSh) : qOp := fun _ x => match x with
  | (pc, L, .int i :: .ref o :: st, s) => match Z o with
    | (0, n, _) => if qIn i n then some (pc + 1, L, .int (s.1 o i.toNatClampNeg) :: st, s) else none
    | (4, n, fs) => if qIn i n then some (pc + 1, L, .int (qKon fs i.toNatClampNeg) :: st, s) else none
    | (7, _, _) => if 0 ≤ i.toInt ∧ i.toInt < (s.1 71 0).toInt then some (pc + 1, L, .int (s.1 o i.toNatClampNeg) :: st, s) else none
    | _ => none
  | _ => none
def qBald (Z : Nat → qSh) : qOp := fun _ x => match x with
  | (pc, L, .int i :: .ref o :: st, s) => match Z o with
    | (1, n, _) => if qIn i n then some (pc + 1, L, .int (s.1 o i.toNatClampNeg) :: st, s) else none
    | (5, n, fs) => if qIn i n then some (pc + 1, L, .int (qKon fs i.toNatClampNeg) :: st, s) else none
    | _ => none
  | _ => none
def qIast (Z : Nat → qSh) : qOp := fun _ x => match x with
  | (pc, L, .int v :: .int i :: .ref o :: st, s) => match Z o with
    | (0, n, _) => if qIn i n then some (pc + 1, L, st, qW s o i.toNatClampNeg v) else none
    | _ => none
  | _ => none
def qBast (Z : Nat → qSh) : qOp := fun _ x => match x with
  | (pc, L, .int v :: .int i :: .ref o :: st, s) => match Z o with
    | (1, n, _) => if qIn i n ∧ (v = 0 ∨ v = 1) then some (pc + 1, L, st, qW s o i.toNatClampNeg v) else none
    | _ => none
  | _ => none
/-- of the row of Journeys: only by fixed places 0 and 1 -/
def qAald (Z : Nat → qSh) : qOp := fun _ x => match x with
  | (pc, L, .int i :: .ref o :: st, s) => match Z o with
    | (2, 2, [a, b]) => bif Nat.blt a 150 && Nat.blt b 150 then (if i = 0 then some (pc + 1, L, .ref a :: st, s) else if i = 1 then some (pc + 1, L, .ref b :: st, s) else none) else none
    | _ => none
  | _ => none
def qAlen (Z : Nat → qSh) : qOp := fun _ x => match x with
  | (pc, L, .ref o :: st, s) => match Z o with
    | (0, n, _) => some (pc + 1, L, .int (Int32.ofNat n) :: st, s)
    | (4, n, _) => some (pc + 1, L, .int (Int32.ofNat n) :: st, s)
    | (5, n, _) => some (pc + 1, L, .int (Int32.ofNat n) :: st, s)
    | (7, _, _) => some (pc + 1, L, .int (s.1 71 0) :: st, s)
    | _ => none
  | _ => none
def qWid : List Value → Nat
  | [] => 0
  | v :: l => v.category + qWid l
/-- System.arraycopy between rows of ints -/
def qCopy (Z : Nat → qSh) : qOp := fun _ x => match x with
  | (pc, L, .int n :: .int dp :: .ref o2 :: .int sp :: .ref o :: st, s) => match Z o, Z o2 with
    | (0, n0, _), (0, n1, _) => if (0 ≤ sp.toInt ∧ 0 ≤ dp.toInt ∧ 0 ≤ n.toInt) ∧ sp.toInt + n.toInt ≤ (n0 : Int) ∧ dp.toInt + n.toInt ≤ (n1 : Int) then (bif Nat.ble (qWid st) 8 then some (pc + 3, L, st, qCpy s o o2 sp.toNatClampNeg dp.toNatClampNeg n.toNatClampNeg) else none) else none
    | _, _ => none
  | _ => none
/-- what an object is that is called: of kind c, or (c = 99) a text, or (c = 100) nothing to be called -/
def qRcv (Z : Nat → qSh) (c : Nat) (vs : List Value) : Bool := bif Nat.beq c 100 then true else match vs with
  | .ref o :: _ => match Z o with
    | (3, c2, _) => Nat.beq c2 c
    | (6, _, _) => Nat.beq c 99
    | _ => false
  | _ => false
/-- a call of method y with n arguments (the receiver among them) -/
def qInvI (Z : Nat → qSh) (y c n : Nat) : qOp := fun C x => match x with
  | (pc, L, st, s) => bif qRcv Z c (st.take n).reverse && (Nat.beq (st.take n).length n && Nat.ble (qWid (st.drop n)) 8) then (qI (C y (st.take n).reverse s)).bind (fun q => some (pc + 3, L, .int q.1 :: st.drop n, q.2)) else none
def qInvV (Z : Nat → qSh) (y c n : Nat) : qOp := fun C x => match x with
  | (pc, L, st, s) => bif qRcv Z c (st.take n).reverse && (Nat.beq (st.take n).length n && Nat.ble (qWid (st.drop n)) 8) then (qV (C y (st.take n).reverse s)).bind (fun q => some (pc + 3, L, st.drop n, q)) else none
def qInvR (Z : Nat → qSh) (y c n : Nat) : qOp := fun C x => match x with
  | (pc, L, st, s) => bif qRcv Z c (st.take n).reverse && (Nat.beq (st.take n).length n && Nat.ble (qWid (st.drop n)) 8) then (qR (C y (st.take n).reverse s)).bind (fun q => some (pc + 3, L, .ref q.1 :: st.drop n, q.2)) else none
/-! tables as trees -/
def qNo : qTab := fun _ => .inl 0
def qLf (p : Nat) (f : Nat ⊕ qOp) : qTab := fun pc => bif Nat.beq pc p then f else .inl 0
def qNd (k : Nat) (a b : qTab) : qTab := fun pc => bif Nat.ble k pc then b pc else a pc
end
section
/-! THE SMALL MACHINE IS SOUND: what it answers, the machine of the Statement does -/
abbrev qEnv : Type := Nat × (Nat → Nat) × va_G × (FieldType → ClassId) × Value × Nat × (Nat → Int32)
def qBase (E : qEnv) : Nat := E.1
def qAd (E : qEnv) : Nat → Nat := E.2.1
def qDD (E : qEnv) : va_G := E.2.2.1
def qCA (E : qEnv) : FieldType → ClassId := E.2.2.2.1
def qFm (E : qEnv) : Value := E.2.2.2.2.1
def qLn (E : qEnv) : Nat := E.2.2.2.2.2.1
def qXs (E : qEnv) : Nat → Int32 := E.2.2.2.2.2.2
def qA (E : qEnv) : Nat → Prop := fun q => qBase E ≤ q
def qX (E : qEnv) (v : Value) : Value := match v with
  | .ref k => bif Nat.blt k 150 then .ref (qAd E k) else qFm E
  | v => v
def qJT : FieldType := .object "GiantStair$Journey"
def qTy (E : qEnv) : List (ClassId × FieldType) := [(qCA E .int, .int), (qCA E .boolean, .boolean), (qCA E qJT, qJT)]
def qFv (E : qEnv) (g : Nat → Int32) (t : Int64) (k f : Nat) : Value := match f with
  | 0 => .null
  | 1 => .int (g k)
  | 2 => .int (g k)
  | 3 => .long t
  | r + 4 => .ref (qAd E r)
def qFs (E : qEnv) (g : Nat → Int32) (t : Int64) : Nat → List Nat → List Value
  | _, [] => []
  | k, f :: l => qFv E g t k f :: qFs E g t (k + 1) l
def qMk (E : qEnv) (g : Nat → Int32) (t : Int64) (sh : qSh) : va_E := match sh with
  | (0, n, _) => .inl (qCA E .int, n, .inl g)
  | (1, n, _) => .inl (qCA E .boolean, n, .inl g)
  | (2, n, fs) => .inl (qCA E qJT, n, .inr (.inr (.inr (.inr (fun i => if i < fs.length then some (qAd E (qNth fs i)) else none)))))
  | (_, c, fs) => .inr (c, qFs E g t 0 fs)
def qWld (Z : Nat → qSh) (N : Nat) (E : qEnv) (s : qMem) : va_W := (List.range N).map (fun o => (qAd E o, qMk E (s.1 o) s.2 (Z o)))
def qOkE (Z : Nat → qSh) (N : Nat) (E : qEnv) : Prop := (∀ i j, i < N → j < N → qAd E i = qAd E j → i = j) ∧ (∀ i, i < N → qBase E ≤ qAd E i) ∧ ((qFm E).category = 1 ∧ (qFm E = .null ∨ ∃ a, qFm E = .ref a)) ∧ (∀ o, (Z o).1 < 4 → o < N) ∧ N ≤ 60
def qSc (E : qEnv) (s : qMem) : Prop := (∀ j, j < qLn E → s.1 70 j = qXs E j) ∧ s.1 71 0 = nI (qLn E)
theorem qX_cat {E : qEnv} (h : (qFm E).category = 1) (v : Value) : (qX E v).category = v.category := by
  cases v <;> try rfl
  rename_i k
  show (bif Nat.blt k 150 then Value.ref (qAd E k) else qFm E).category = 1
  cases Nat.blt k 150
  · exact h
  · rfl
theorem qX_wid {E : qEnv} (h : (qFm E).category = 1) (st : List Value) : ((st.map (qX E)).map (fun v => v.category)).sum = qWid st := by
  induction st with
  | nil => rfl
  | cons v st ih =>
    rw [List.map_cons, List.map_cons, List.sum_cons, qX_cat h, ih]
    rfl
theorem qX_ref {E : qEnv} {k : Nat} (h : Nat.blt k 150 = true) : qX E (.ref k) = .ref (qAd E k) := by
  show (bif Nat.blt k 150 then Value.ref (qAd E k) else qFm E) = Value.ref (qAd E k)
  rw [h]
  rfl
theorem qWld_at {Z : Nat → qSh} {N : Nat} {E : qEnv} {s : qMem} {o : Nat} (h : o < N) : (qWld Z N E s)[o]? = some (qAd E o, qMk E (s.1 o) s.2 (Z o)) := by
  unfold qWld
  rw [List.getElem?_map, List.getElem?_range h]
  rfl
theorem qWld_len {Z : Nat → qSh} {N : Nat} {E : qEnv} {s : qMem} : (qWld Z N E s).length = N := by
  unfold qWld
  rw [List.length_map, List.length_range]
theorem qWld_get {Z : Nat → qSh} {N : Nat} {E : qEnv} {s : qMem} {k : Nat} {q : Nat × va_E} (h : (qWld Z N E s)[k]? = some q) : k < N ∧ q = (qAd E k, qMk E (s.1 k) s.2 (Z k)) := by
  have hk : k < N := by
    have := (List.getElem?_eq_some_iff.mp h).1
    rwa [qWld_len] at this
  rw [qWld_at hk] at h
  exact ⟨hk, (Option.some.inj h).symm⟩
theorem qWld_D {Z : Nat → qSh} {N : Nat} {E : qEnv} {s : qMem} (h : qOkE Z N E) : va_D (qA E) (qWld Z N E s) := by
  refine ⟨fun i j p q hi hj e => ?_, fun k q hk => ?_⟩
  · obtain ⟨a1, rfl⟩ := qWld_get hi
    obtain ⟨a2, rfl⟩ := qWld_get hj
    exact h.1 i j a1 a2 e
  · obtain ⟨a1, rfl⟩ := qWld_get hk
    exact h.2.1 k a1
theorem qWld_upd {Z : Nat → qSh} {N : Nat} {E : qEnv} {s s2 : qMem} {o : Nat} {e : va_E} (ho : o < N) (h1 : ∀ k, k < N → k ≠ o → qMk E (s2.1 k) s2.2 (Z k) = qMk E (s.1 k) s.2 (Z k)) (h2 : qMk E (s2.1 o) s2.2 (Z o) = e) : (qWld Z N E s).set o (qAd E o, e) = qWld Z N E s2 := by
  apply List.ext_getElem?
  intro k
  by_cases hk : k < N
  · rw [qWld_at hk]
    by_cases e1 : k = o
    · subst e1
      rw [List.getElem?_set_self (by rw [qWld_len]; exact hk), h2]
    · rw [List.getElem?_set_ne (fun z => e1 z.symm), qWld_at hk, h1 k hk e1]
  · rw [List.getElem?_eq_none (by rw [List.length_set, qWld_len]; omega), List.getElem?_eq_none (by rw [qWld_len]; omega)]
theorem qW_other {s : qMem} {o k a : Nat} {v : Int32} (h : a ≠ o) : (qW s o k v).1 a = s.1 a := by
  funext b
  show (if a = o ∧ b = k then v else s.1 a b) = s.1 a b
  rw [if_neg (fun z => h z.1)]
theorem qW_row {s : qMem} {o k : Nat} {v : Int32} : (qW s o k v).1 o = upd (s.1 o) k v := by
  funext b
  show (if o = o ∧ b = k then v else s.1 o b) = upd (s.1 o) k v b
  by_cases hb : b = k
  · subst hb
    rw [if_pos ⟨rfl, rfl⟩]
    exact pk_us.symm
  · rw [if_neg (fun z => hb z.2)]
    exact (pk_un hb).symm
theorem qFs_get {E : qEnv} {g : Nat → Int32} {t : Int64} : ∀ (fs : List Nat) (j k : Nat), qNth fs k ≠ 0 → (qFs E g t j fs)[k]? = some (qFv E g t (j + k) (qNth fs k)) := by
  intro fs
  induction fs with
  | nil => intro j k h; exact absurd rfl h
  | cons f fs ih =>
    intro j k h
    cases k with
    | zero => rfl
    | succ k =>
      have := ih (j + 1) k h
      rw [show j + 1 + k = j + (k + 1) from by omega] at this
      exact this
theorem qFs_len {E : qEnv} {g : Nat → Int32} {t : Int64} : ∀ (fs : List Nat) (j k : Nat), qNth fs k ≠ 0 → k < (qFs E g t j fs).length := by
  intro fs j k h
  exact (List.getElem?_eq_some_iff.mp (qFs_get fs j k h)).1
theorem qFs_far {E : qEnv} {g : Nat → Int32} {t : Int64} {i : Nat} {v : Int32} : ∀ (fs : List Nat) (j : Nat), i < j → qFs E (upd g i v) t j fs = qFs E g t j fs := by
  intro fs
  induction fs with
  | nil => intro j _; rfl
  | cons f fs ih =>
    intro j h
    have e : qFv E (upd g i v) t j f = qFv E g t j f := by
      rcases f with _ | _ | _ | _ | f <;> try rfl
      · show Value.int (upd g i v j) = Value.int (g j)
        rw [pk_un (by omega)]
      · show Value.int (upd g i v j) = Value.int (g j)
        rw [pk_un (by omega)]
    rw [qFs, qFs, e, ih (j + 1) (by omega)]
theorem qFs_set {E : qEnv} {g : Nat → Int32} {t : Int64} {v : Int32} : ∀ (fs : List Nat) (j k : Nat), (qNth fs k = 1 ∨ qNth fs k = 2) → (qFs E g t j fs).set k (.int v) = qFs E (upd g (j + k) v) t j fs := by
  intro fs
  induction fs with
  | nil => intro j k h; rcases h with h | h <;> cases h
  | cons f fs ih =>
    intro j k h
    cases k with
    | zero =>
      rw [qFs, qFs, List.set_cons_zero, Nat.add_zero, qFs_far fs (j + 1) (by omega)]
      have h : f = 1 ∨ f = 2 := h
      rcases h with rfl | rfl
      · show Value.int v :: _ = Value.int (upd g j v j) :: _
        rw [pk_us]
      · show Value.int v :: _ = Value.int (upd g j v j) :: _
        rw [pk_us]
    | succ k =>
      have e : qFv E (upd g (j + (k + 1)) v) t j f = qFv E g t j f := by
        rcases f with _ | _ | _ | _ | f <;> try rfl
        · show Value.int (upd g (j + (k + 1)) v j) = Value.int (g j)
          rw [pk_un (by omega)]
        · show Value.int (upd g (j + (k + 1)) v j) = Value.int (g j)
          rw [pk_un (by omega)]
      rw [qFs, qFs, List.set_cons_succ, e, ih (j + 1) k h, show j + 1 + k = j + (k + 1) from by omega]
theorem qFs_setL {E : qEnv} {g : Nat → Int32} {t v : Int64} : ∀ (fs : List Nat) (j k : Nat), qNth fs k = 3 → (∀ i, qNth fs i = 3 → i = k) → (qFs E g t j fs).set k (.long v) = qFs E g v j fs := by
  intro fs
  induction fs with
  | nil => intro j k h; cases h
  | cons f fs ih =>
    intro j k h hu
    have far : ∀ (l : List Nat) (i : Nat), (∀ z, qNth l z ≠ 3) → qFs E g t i l = qFs E g v i l := by
      intro l
      induction l with
      | nil => intro i _; rfl
      | cons a l ih2 =>
        intro i hz
        have h0 : a ≠ 3 := hz 0
        have e : qFv E g t i a = qFv E g v i a := by
          rcases a with _ | _ | _ | _ | a <;> try rfl
          exact absurd rfl h0
        rw [qFs, qFs, e, ih2 (i + 1) (fun z => hz (z + 1))]
    cases k with
    | zero =>
      have h : f = 3 := h
      subst h
      rw [qFs, qFs, List.set_cons_zero, far fs (j + 1) (fun z hz => by have := hu (z + 1) hz; omega)]
      rfl
    | succ k =>
      have h0 : f ≠ 3 := fun z => by have := hu 0 z; omega
      have e : qFv E g t j f = qFv E g v j f := by
        rcases f with _ | _ | _ | _ | f <;> try rfl
        exact absurd rfl h0
      rw [qFs, qFs, List.set_cons_succ, e, ih (j + 1) k h (fun i hi => by have := hu (i + 1) hi; omega)]
def qLV (E : qEnv) (nL wp : Nat) (ls : Array Slot) (L : List (Option Value)) : Prop := ls.size = nL ∧ lv_wf ls ∧ L.length = nL ∧ (∀ (i : Nat) (v : Value), qLk L i = some v → ls[i]? = some (.val (qX E v))) ∧ ∀ (i : Nat) (v : Value), qLk L i = some v → v.category = 2 → i = wp
theorem qLk_put : ∀ {L : List (Option Value)} {i j : Nat} {v w : Value}, qLk (qPut L i v) j = some w → (j = i ∧ w = v) ∨ (j ≠ i ∧ qLk L j = some w) := by
  intro L
  induction L with
  | nil => intro i j v w h; cases h
  | cons a L ih =>
    intro i j v w h
    cases i with
    | zero =>
      cases j with
      | zero => exact Or.inl ⟨rfl, (Option.some.inj h).symm⟩
      | succ j => exact Or.inr ⟨by omega, h⟩
    | succ i =>
      cases j with
      | zero => exact Or.inr ⟨by omega, h⟩
      | succ j =>
        rcases ih (i := i) (j := j) h with ⟨h1, h2⟩ | ⟨h1, h2⟩
        · exact Or.inl ⟨by omega, h2⟩
        · exact Or.inr ⟨by omega, h2⟩
theorem qPut_len : ∀ {L : List (Option Value)} {i : Nat} {v : Value}, (qPut L i v).length = L.length := by
  intro L
  induction L with
  | nil => intro i v; rfl
  | cons a L ih =>
    intro i v
    cases i with
    | zero => rfl
    | succ i => show (qPut L i v).length + 1 = L.length + 1; rw [ih]
theorem qLk_drop : ∀ {m : List Bool} {L : List (Option Value)} {i : Nat} {v : Value}, qLk (qDrop m L) i = some v → qLk L i = some v := by
  intro m
  induction m with
  | nil => intro L i v h; cases L <;> exact h
  | cons b m ih =>
    intro L i v h
    cases L with
    | nil => exact h
    | cons a L =>
      cases i with
      | zero =>
        cases b with
        | true => exact h
        | false => cases h
      | succ i => exact ih (L := L) (i := i) h
theorem qDrop_len : ∀ {m : List Bool} {L : List (Option Value)}, (qDrop m L).length = L.length := by
  intro m
  induction m with
  | nil => intro L; cases L <;> rfl
  | cons b m ih =>
    intro L
    cases L with
    | nil => rfl
    | cons a L => show (qDrop m L).length + 1 = L.length + 1; rw [ih]
theorem qLV_drop {E : qEnv} {nL wp : Nat} {ls : Array Slot} {L : List (Option Value)} (m : List Bool) (h : qLV E nL wp ls L) : qLV E nL wp ls (qDrop m L) := ⟨h.1, h.2.1, qDrop_len.trans h.2.2.1, fun i v q => h.2.2.2.1 i v (qLk_drop q), fun i v q => h.2.2.2.2 i v (qLk_drop q)⟩
/-- the same locals as pairs -/
def qEc (E : qEnv) (L : List (Option Value)) : List (Nat × Value) := (List.range L.length).filterMap (fun i => (qLk L i).map (fun v => (i, qX E v)))
theorem qLk_lt : ∀ {L : List (Option Value)} {i : Nat} {v : Value}, qLk L i = some v → i < L.length := by
  intro L
  induction L with
  | nil => intro i v h; cases h
  | cons a L ih =>
    intro i v h
    cases i with
    | zero => exact Nat.zero_lt_succ _
    | succ i => exact Nat.succ_lt_succ (ih h)
theorem qEc_mem {E : qEnv} {L : List (Option Value)} {i : Nat} {v : Value} (h : qLk L i = some v) : (i, qX E v) ∈ qEc E L := by
  unfold qEc
  rw [List.mem_filterMap]
  exact ⟨i, List.mem_range.mpr (qLk_lt h), by rw [h]; rfl⟩
theorem qEc_of {E : qEnv} {L : List (Option Value)} {q : Nat × Value} (h : q ∈ qEc E L) : ∃ v, qLk L q.1 = some v ∧ q.2 = qX E v := by
  unfold qEc at h
  rw [List.mem_filterMap] at h
  obtain ⟨i, -, hi⟩ := h
  cases hq : qLk L i with
  | none => rw [hq] at hi; cases hi
  | some v =>
    rw [hq] at hi
    cases hi
    exact ⟨v, hq, rfl⟩
theorem qLV_has {E : qEnv} {nL wp : Nat} {ls : Array Slot} {L : List (Option Value)} (h : qLV E nL wp ls L) : lv_has ls nL (qEc E L) := by
  refine ⟨h.1, h.2.1, fun q hq => ?_⟩
  obtain ⟨v, h1, h2⟩ := qEc_of hq
  rw [h2]
  exact h.2.2.2.1 _ _ h1
theorem qLV_put {E : qEnv} {nL wp : Nat} {ls ls2 : Array Slot} {L : List (Option Value)} {i : Nat} {v : Value} (hm : (qFm E).category = 1) (h : qLV E nL wp ls L) (hv : v.category = 1) (hw : i ≠ wp + 1) (h2 : lv_has ls2 nL ((i, qX E v) :: (qEc E L).filter (fun q => !(q.1 == i) && !(q.1 + 1 == i && q.2.category == 2)))) : qLV E nL wp ls2 (qPut L i v) := by
  refine ⟨h2.1, h2.2.1, qPut_len.trans h.2.2.1, fun j w hj => ?_, fun j w hj hc => ?_⟩
  · rcases qLk_put hj with ⟨rfl, rfl⟩ | ⟨h3, h4⟩
    · exact h2.2.2 _ List.mem_cons_self
    · refine h2.2.2 (j, qX E w) (List.mem_cons_of_mem _ (List.mem_filter.mpr ⟨qEc_mem h4, ?_⟩))
      have e1 : (j == i) = false := by simp [h3]
      have e2 : (j + 1 == i && (qX E w).category == 2) = false := by
        rw [qX_cat hm]
        by_cases hc : w.category = 2
        · have := h.2.2.2.2 j w h4 hc
          have e3 : (j + 1 == i) = false := by
            simp
            omega
          rw [e3]
          rfl
        · have e3 : (w.category == 2) = false := by simp [hc]
          rw [e3, Bool.and_false]
      show (!(j == i) && !(j + 1 == i && (qX E w).category == 2)) = true
      rw [e1, e2]
      rfl
  · rcases qLk_put hj with ⟨rfl, rfl⟩ | ⟨h3, h4⟩
    · omega
    · exact h.2.2.2.2 j w h4 hc
def qFr (Z : Nat → qSh) (N : Nat) (ST : qEnv → State → Heap → Prop) (E : qEnv) (Ts : List Cond) (own : String) (cc : ByteArray) (nL d : Nat) (p : Program) (R : Room) (s : State) (m : MethodId) (args : Array Value) (c : Code) (cells slots : Nat) : Prop :=
  p.tables.exec = Jvm.exec ∧ c.code = cc ∧ c.maxLocals = nL ∧ (∀ w ∈ Ts, w.before args s = true) ∧ s.vm.findClass own = some m.cls ∧ va_K (qDD E) vwCl (qTy E) s ∧ qBase E ≤ s.heap.size ∧ ST E s s.heap ∧ qOkE Z N E ∧ (d + 1 ≤ R.frames ∧ 40 * (d + 1) ≤ R.locals) ∧ cells ≤ R.cells ∧ slots ≤ R.slots
def qWM (Z : Nat → qSh) (N : Nat) (E : qEnv) (nL wp : Nat) (p : Program) (l : Launch) (e : Env) (R : Room) (s : State) (m : MethodId) (args : Array Value) (below : List Frame) (meth : Method) (c : Code) (cells slots : Nat) (Q : State → Prop) (x : qSt) : Prop :=
  ∀ (H : Heap) (locs : List Loc) (ls : Array Slot), va_P (qDD E) vwCl (qWld Z N E x.2.2.2) H → va_S (qA E) s.heap H locs → qLV E nL wp ls x.2.1 → qSc E x.2.2.2 → W p l e R s m args below meth c H locs cells slots Q (F0 m x.1 ls (x.2.2.1.map (qX E)))
/-- the world as a method finds it -/
def qWorld (Z : Nat → qSh) (N : Nat) (ST : qEnv → State → Heap → Prop) (E : qEnv) (s : qMem) (U : State) : Prop := qBase E ≤ U.heap.size ∧ va_P (qDD E) vwCl (qWld Z N E s) U.heap ∧ va_K (qDD E) vwCl (qTy E) U ∧ ST E U U.heap ∧ qSc E s
def qQ (Z : Nat → qSh) (N : Nat) (E : qEnv) (r : Option Value) (s2 : qMem) : Array Value → State → Outcome → State → Prop := fun _ st oc t => (oc = .returned (r.map (qX E)) ∧ va_P (qDD E) vwCl (qWld Z N E s2) t.heap ∧ qSc E s2) ∧ va_F (qA E) st t
def qRm (d : Nat) : Room := { frames := d, cells := 0, slots := 0, locals := 40 * d }
/-- the methods: name, words -/
abbrev qNmT : Type := Nat → MethodName × List Cond
def qIH (MT : Nat → qMI) (NM : qNmT) (Z : Nat → qSh) (N : Nat) (ST : qEnv → State → Heap → Prop) (E : qEnv) (l : Launch) (d : Nat) : Prop :=
  ∀ (y : Nat) (vs : List Value) (s : qMem) (r : Option Value) (s2 : qMem), qCall MT d y vs s = some (r, s2) → Met l (NM y).1 (NM y).2 (qRm d) (va_Pc (vs.map (qX E)) (fun U => qWorld Z N ST E s U)) (qQ Z N E r s2) 0 0 (qA E)
def qSnd (MT : Nat → qMI) (NM : qNmT) (Z : Nat → qSh) (N : Nat) (ST : qEnv → State → Heap → Prop) (Ts : List Cond) (own : String) (cc : ByteArray) (nL wp pc : Nat) (f : qOp) : Prop :=
  ∀ (E : qEnv) (d : Nat) (p : Program) (l : Launch) (e : Env) (R : Room) (s : State) (m : MethodId) (args : Array Value) (below : List Frame) (meth : Method) (c : Code) (cells slots : Nat) (Q : State → Prop), qFr Z N ST E Ts own cc nL d p R s m args c cells slots → qIH MT NM Z N ST E l d →
    ∀ (L : List (Option Value)) (st : List Value) (t : qMem) (x : qSt), f (qCall MT d) (pc, L, st, t) = some x → qWM Z N E nL wp p l e R s m args below meth c cells slots Q x → qWM Z N E nL wp p l e R s m args below meth c cells slots Q (pc, L, st, t)
section QS
variable {MT : Nat → qMI} {NM : qNmT} {Z : Nat → qSh} {N : Nat} {ST : qEnv → State → Heap → Prop} {Ts : List Cond} {own : String} {cc : ByteArray} {nL wp pc : Nat}
theorem q_mask {m : List Bool} {f : qOp} (h : qSnd MT NM Z N ST Ts own cc nL wp pc f) : qSnd MT NM Z N ST Ts own cc nL wp pc (qMask m f) := by
  intro E d p l e R s me args below meth c cells slots Q F I L st t x hf hx H locs ls hP hS hL hc
  exact h E d p l e R s me args below meth c cells slots Q F I (qDrop m L) st t x hf hx H locs ls hP hS (qLV_drop m hL) hc
theorem q_iconst {k : Int} {v : Int32} (hdg : decode cc pc = .ok (.iconst k, 1)) (hv : Int32.ofInt k = v) : qSnd MT NM Z N ST Ts own cc nL wp pc (qIconst 1 v) := by
  intro E d p l e R s me args below meth c cells slots Q F I L st t x hf hx H locs ls hP hS hL hc
  obtain ⟨hX, hb, hml, hts, hown, hK, hbs, hst, hE, hR, hC⟩ := F
  cases hf
  exact lv_iconst hX hb hdg hv (hx H locs ls hP hS hL hc)
theorem q_bipush {k : Int} {v : Int32} (hdg : decode cc pc = .ok (.bipush k, 2)) (hv : (Int8.ofInt k).toInt32 = v) : qSnd MT NM Z N ST Ts own cc nL wp pc (qIconst 2 v) := by
  intro E d p l e R s me args below meth c cells slots Q F I L st t x hf hx H locs ls hP hS hL hc
  obtain ⟨hX, hb, hml, hts, hown, hK, hbs, hst, hE, hR, hC⟩ := F
  cases hf
  exact lv_bipush hX hb hdg hv (hx H locs ls hP hS hL hc)
theorem q_sipush {k : Int} {v : Int32} (hdg : decode cc pc = .ok (.sipush k, 3)) (hv : (Int16.ofInt k).toInt32 = v) : qSnd MT NM Z N ST Ts own cc nL wp pc (qIconst 3 v) := by
  intro E d p l e R s me args below meth c cells slots Q F I L st t x hf hx H locs ls hP hS hL hc
  obtain ⟨hX, hb, hml, hts, hown, hK, hbs, hst, hE, hR, hC⟩ := F
  cases hf
  exact lv_sipush hX hb hdg hv (hx H locs ls hP hS hL hc)
theorem q_ldc {k : Nat} {v : Int32} (hdg : decode cc pc = .ok (.ldc k, 2)) (hw : Cond.constant own k v ∈ Ts) : qSnd MT NM Z N ST Ts own cc nL wp pc (qIconst 2 v) := by
  intro E d p l e R s me args below meth c cells slots Q F I L st t x hf hx H locs ls hP hS hL hc
  obtain ⟨hX, hb, hml, hts, hown, hK, hbs, hst, hE, hR, hC⟩ := F
  cases hf
  exact lv_ldc hX hb hown (hts _ hw) hdg (hx H locs ls hP hS hL hc)
theorem q_ldcw {k : Nat} {v : Int32} (hdg : decode cc pc = .ok (.ldc_w k, 3)) (hw : Cond.constant own k v ∈ Ts) : qSnd MT NM Z N ST Ts own cc nL wp pc (qIconst 3 v) := by
  intro E d p l e R s me args below meth c cells slots Q F I L st t x hf hx H locs ls hP hS hL hc
  obtain ⟨hX, hb, hml, hts, hown, hK, hbs, hst, hE, hR, hC⟩ := F
  cases hf
  exact lv_ldcw hX hb hown (hts _ hw) hdg (hx H locs ls hP hS hL hc)
theorem q_ldc2 {k : Nat} {v : Int64} (hdg : decode cc pc = .ok (.ldc2_w k, 3)) (hw : Cond.constantLong own k v ∈ Ts) : qSnd MT NM Z N ST Ts own cc nL wp pc (qLconst 3 v) := by
  intro E d p l e R s me args below meth c cells slots Q F I L st t x hf hx H locs ls hP hS hL hc
  obtain ⟨hX, hb, hml, hts, hown, hK, hbs, hst, hE, hR, hC⟩ := F
  cases hf
  exact lv_ldc2 hX hb hown (hts _ hw) hdg (hx H locs ls hP hS hL hc)
theorem q_lconst {k : Fin 2} {v : Int64} (hdg : decode cc pc = .ok (.lconst k, 1)) (hv : Int64.ofNat (k : Nat) = v) : qSnd MT NM Z N ST Ts own cc nL wp pc (qLconst 1 v) := by
  intro E d p l e R s me args below meth c cells slots Q F I L st t x hf hx H locs ls hP hS hL hc
  obtain ⟨hX, hb, hml, hts, hown, hK, hbs, hst, hE, hR, hC⟩ := F
  cases hf
  exact lv_lconst hX hb hdg hv (hx H locs ls hP hS hL hc)
theorem q_iload_n {k : Fin 4} {i : Nat} (hdg : decode cc pc = .ok (.iload_n k, 1)) (hi : (k : Nat) = i) : qSnd MT NM Z N ST Ts own cc nL wp pc (qIload 1 i) := by
  intro E d p l e R s me args below meth c cells slots Q F I L st t x hf hx H locs ls hP hS hL hc
  obtain ⟨hX, hb, hml, hts, hown, hK, hbs, hst, hE, hR, hC⟩ := F
  cases hq : qLk L i with
  | none => simp [qIload, hq] at hf
  | some v =>
    cases v <;> simp only [qIload, hq, reduceCtorEq, Option.some.injEq] at hf
    subst hf
    exact lv_iload_n hX hb hdg hi (hL.2.2.2.1 _ _ hq) (hx H locs ls hP hS hL hc)
theorem q_iload {i : Nat} (hdg : decode cc pc = .ok (.iload i, 2)) : qSnd MT NM Z N ST Ts own cc nL wp pc (qIload 2 i) := by
  intro E d p l e R s me args below meth c cells slots Q F I L st t x hf hx H locs ls hP hS hL hc
  obtain ⟨hX, hb, hml, hts, hown, hK, hbs, hst, hE, hR, hC⟩ := F
  cases hq : qLk L i with
  | none => simp [qIload, hq] at hf
  | some v =>
    cases v <;> simp only [qIload, hq, reduceCtorEq, Option.some.injEq] at hf
    subst hf
    exact lv_iload hX hb hdg (hL.2.2.2.1 _ _ hq) (hx H locs ls hP hS hL hc)
theorem q_lload_n {k : Fin 4} {i : Nat} (hdg : decode cc pc = .ok (.lload_n k, 1)) (hi : (k : Nat) = i) : qSnd MT NM Z N ST Ts own cc nL wp pc (qLload 1 i) := by
  intro E d p l e R s me args below meth c cells slots Q F I L st t x hf hx H locs ls hP hS hL hc
  obtain ⟨hX, hb, hml, hts, hown, hK, hbs, hst, hE, hR, hC⟩ := F
  cases hq : qLk L i with
  | none => simp [qLload, hq] at hf
  | some v =>
    cases v <;> simp only [qLload, hq, reduceCtorEq, Option.some.injEq] at hf
    subst hf
    exact lv_lload_n hX hb hdg hi (hL.2.2.2.1 _ _ hq) (hx H locs ls hP hS hL hc)
theorem q_aload_n {k : Fin 4} {i : Nat} (hdg : decode cc pc = .ok (.aload_n k, 1)) (hi : (k : Nat) = i) : qSnd MT NM Z N ST Ts own cc nL wp pc (qAload 1 i) := by
  intro E d p l e R s me args below meth c cells slots Q F I L st t x hf hx H locs ls hP hS hL hc
  obtain ⟨hX, hb, hml, hts, hown, hK, hbs, hst, hE, hR, hC⟩ := F
  cases hq : qLk L i with
  | none => simp [qAload, hq] at hf
  | some v =>
    cases v <;> simp only [qAload, hq, reduceCtorEq] at hf
    rename_i v
    cases hk : Nat.blt v 150 with
    | false => rw [hk] at hf; cases hf
    | true =>
      rw [hk] at hf
      cases hf
      have h1 := hL.2.2.2.1 _ _ hq
      rw [qX_ref hk] at h1
      have h2 := hx H locs ls hP hS hL hc
      simp only [List.map_cons, qX_ref hk] at h2
      exact lv_aload_n hX hb hdg hi (x := qAd E v) h1 h2
theorem q_aload {i : Nat} (hdg : decode cc pc = .ok (.aload i, 2)) : qSnd MT NM Z N ST Ts own cc nL wp pc (qAload 2 i) := by
  intro E d p l e R s me args below meth c cells slots Q F I L st t x hf hx H locs ls hP hS hL hc
  obtain ⟨hX, hb, hml, hts, hown, hK, hbs, hst, hE, hR, hC⟩ := F
  cases hq : qLk L i with
  | none => simp [qAload, hq] at hf
  | some v =>
    cases v <;> simp only [qAload, hq, reduceCtorEq] at hf
    rename_i v
    cases hk : Nat.blt v 150 with
    | false => rw [hk] at hf; cases hf
    | true =>
      rw [hk] at hf
      cases hf
      have h1 := hL.2.2.2.1 _ _ hq
      rw [qX_ref hk] at h1
      have h2 := hx H locs ls hP hS hL hc
      simp only [List.map_cons, qX_ref hk] at h2
      exact lv_aload hX hb hdg (x := qAd E v) h1 h2
theorem q_istore_n {k : Fin 4} {i : Nat} (hdg : decode cc pc = .ok (.istore_n k, 1)) (hi : (k : Nat) = i) (hn : i < nL) (hw : i ≠ wp + 1) : qSnd MT NM Z N ST Ts own cc nL wp pc (qIstore 1 i) := by
  intro E d p l e R s me args below meth c cells slots Q F I L st t x hf hx H locs ls hP hS hL hc
  obtain ⟨hX, hb, hml, hts, hown, hK, hbs, hst, hE, hR, hC⟩ := F
  rcases st with _ | ⟨v, st⟩
  · cases hf
  · cases v <;> simp only [qIstore, reduceCtorEq, Option.some.injEq] at hf
    subst hf
    exact lv_istore_n hX hb hdg hi (qLV_has hL) hn rfl (fun ls2 h2 => hx H locs ls2 hP hS (qLV_put hE.2.2.1.1 hL rfl hw h2) hc)
theorem q_astore_n {k : Fin 4} {i : Nat} (hdg : decode cc pc = .ok (.astore_n k, 1)) (hi : (k : Nat) = i) (hn : i < nL) (hw : i ≠ wp + 1) : qSnd MT NM Z N ST Ts own cc nL wp pc (qAstore 1 i) := by
  intro E d p l e R s me args below meth c cells slots Q F I L st t x hf hx H locs ls hP hS hL hc
  obtain ⟨hX, hb, hml, hts, hown, hK, hbs, hst, hE, hR, hC⟩ := F
  rcases st with _ | ⟨v, st⟩
  · cases hf
  · cases v <;> simp only [qAstore, reduceCtorEq] at hf
    rename_i v
    cases hk : Nat.blt v 150 with
    | false => rw [hk] at hf; cases hf
    | true =>
      rw [hk] at hf
      cases hf
      show W p l e R s me args below meth c H locs cells slots Q (F0 me pc ls (qX E (.ref v) :: st.map (qX E)))
      rw [qX_ref hk]
      refine lv_astore_n hX hb hdg hi (qLV_has hL) hn rfl (fun ls2 h2 => hx H locs ls2 hP hS (qLV_put hE.2.2.1.1 hL rfl hw ?_) hc)
      rw [qX_ref hk]
      exact h2
theorem q_istore {i : Nat} (hdg : decode cc pc = .ok (.istore i, 2)) (hn : i < nL) (hw : i ≠ wp + 1) : qSnd MT NM Z N ST Ts own cc nL wp pc (qIstore 2 i) := by
  intro E d p l e R s me args below meth c cells slots Q F I L st t x hf hx H locs ls hP hS hL hc
  obtain ⟨hX, hb, hml, hts, hown, hK, hbs, hst, hE, hR, hC⟩ := F
  rcases st with _ | ⟨v, st⟩
  · cases hf
  · cases v <;> simp only [qIstore, reduceCtorEq, Option.some.injEq] at hf
    subst hf
    exact lv_istore hX hb hdg (qLV_has hL) hn rfl (fun ls2 h2 => hx H locs ls2 hP hS (qLV_put hE.2.2.1.1 hL rfl hw h2) hc)
theorem q_astore {i : Nat} (hdg : decode cc pc = .ok (.astore i, 2)) (hn : i < nL) (hw : i ≠ wp + 1) : qSnd MT NM Z N ST Ts own cc nL wp pc (qAstore 2 i) := by
  intro E d p l e R s me args below meth c cells slots Q F I L st t x hf hx H locs ls hP hS hL hc
  obtain ⟨hX, hb, hml, hts, hown, hK, hbs, hst, hE, hR, hC⟩ := F
  rcases st with _ | ⟨v, st⟩
  · cases hf
  · cases v <;> simp only [qAstore, reduceCtorEq] at hf
    rename_i v
    cases hk : Nat.blt v 150 with
    | false => rw [hk] at hf; cases hf
    | true =>
      rw [hk] at hf
      cases hf
      show W p l e R s me args below meth c H locs cells slots Q (F0 me pc ls (qX E (.ref v) :: st.map (qX E)))
      rw [qX_ref hk]
      refine lv_astore hX hb hdg (qLV_has hL) hn rfl (fun ls2 h2 => hx H locs ls2 hP hS (qLV_put hE.2.2.1.1 hL rfl hw ?_) hc)
      rw [qX_ref hk]
      exact h2
theorem q_iinc {i : Nat} {k : Int} {v : Int32} (hdg : decode cc pc = .ok (.iinc i k, 3)) (hv : Int32.ofInt k = v) (hn : i < nL) (hw : i ≠ wp + 1) : qSnd MT NM Z N ST Ts own cc nL wp pc (qIinc i v) := by
  intro E d p l e R s me args below meth c cells slots Q F I L st t x hf hx H locs ls hP hS hL hc
  obtain ⟨hX, hb, hml, hts, hown, hK, hbs, hst, hE, hR, hC⟩ := F
  cases hq : qLk L i with
  | none => simp [qIinc, hq] at hf
  | some u =>
    cases u <;> simp only [qIinc, hq, reduceCtorEq, Option.some.injEq] at hf
    rename_i u
    subst hf
    obtain ⟨j, hj⟩ := List.getElem?_of_mem (qEc_mem (E := E) hq)
    exact lv_iinc hX hb hdg (qLV_has hL) hj (by rw [hv]) hn rfl (fun ls2 h2 => hx H locs ls2 hP hS (qLV_put hE.2.2.1.1 hL rfl hw h2) hc)
theorem q_iadd (hdg : decode cc pc = .ok (.iadd, 1)) : qSnd MT NM Z N ST Ts own cc nL wp pc (qBin (fun a b => a + b)) := by
  intro E d p l e R s me args below meth c cells slots Q F I L st t x hf hx H locs ls hP hS hL hc
  obtain ⟨hX, hb, hml, hts, hown, hK, hbs, hst, hE, hR, hC⟩ := F
  rcases st with _ | ⟨a, st⟩
  · cases hf
  · cases a <;> simp only [qBin, reduceCtorEq] at hf
    rename_i b
    rcases st with _ | ⟨a, st⟩
    · cases hf
    · cases a <;> simp only [reduceCtorEq, Option.some.injEq] at hf
      rename_i a
      subst hf
      exact lv_iadd hX hb hdg (hx H locs ls hP hS hL hc)
theorem q_isub (hdg : decode cc pc = .ok (.isub, 1)) : qSnd MT NM Z N ST Ts own cc nL wp pc (qBin (fun a b => a - b)) := by
  intro E d p l e R s me args below meth c cells slots Q F I L st t x hf hx H locs ls hP hS hL hc
  obtain ⟨hX, hb, hml, hts, hown, hK, hbs, hst, hE, hR, hC⟩ := F
  rcases st with _ | ⟨a, st⟩
  · cases hf
  · cases a <;> simp only [qBin, reduceCtorEq] at hf
    rename_i b
    rcases st with _ | ⟨a, st⟩
    · cases hf
    · cases a <;> simp only [reduceCtorEq, Option.some.injEq] at hf
      rename_i a
      subst hf
      exact lv_isub hX hb hdg (hx H locs ls hP hS hL hc)
theorem q_imul (hdg : decode cc pc = .ok (.imul, 1)) : qSnd MT NM Z N ST Ts own cc nL wp pc (qBin (fun a b => a * b)) := by
  intro E d p l e R s me args below meth c cells slots Q F I L st t x hf hx H locs ls hP hS hL hc
  obtain ⟨hX, hb, hml, hts, hown, hK, hbs, hst, hE, hR, hC⟩ := F
  rcases st with _ | ⟨a, st⟩
  · cases hf
  · cases a <;> simp only [qBin, reduceCtorEq] at hf
    rename_i b
    rcases st with _ | ⟨a, st⟩
    · cases hf
    · cases a <;> simp only [reduceCtorEq, Option.some.injEq] at hf
      rename_i a
      subst hf
      exact lv_imul hX hb hdg (hx H locs ls hP hS hL hc)
theorem q_iand (hdg : decode cc pc = .ok (.iand, 1)) : qSnd MT NM Z N ST Ts own cc nL wp pc (qBin (fun a b => a &&& b)) := by
  intro E d p l e R s me args below meth c cells slots Q F I L st t x hf hx H locs ls hP hS hL hc
  obtain ⟨hX, hb, hml, hts, hown, hK, hbs, hst, hE, hR, hC⟩ := F
  rcases st with _ | ⟨a, st⟩
  · cases hf
  · cases a <;> simp only [qBin, reduceCtorEq] at hf
    rename_i b
    rcases st with _ | ⟨a, st⟩
    · cases hf
    · cases a <;> simp only [reduceCtorEq, Option.some.injEq] at hf
      rename_i a
      subst hf
      exact lv_iand hX hb hdg (hx H locs ls hP hS hL hc)
theorem q_ior (hdg : decode cc pc = .ok (.ior, 1)) : qSnd MT NM Z N ST Ts own cc nL wp pc (qBin (fun a b => a ||| b)) := by
  intro E d p l e R s me args below meth c cells slots Q F I L st t x hf hx H locs ls hP hS hL hc
  obtain ⟨hX, hb, hml, hts, hown, hK, hbs, hst, hE, hR, hC⟩ := F
  rcases st with _ | ⟨a, st⟩
  · cases hf
  · cases a <;> simp only [qBin, reduceCtorEq] at hf
    rename_i b
    rcases st with _ | ⟨a, st⟩
    · cases hf
    · cases a <;> simp only [reduceCtorEq, Option.some.injEq] at hf
      rename_i a
      subst hf
      exact lv_ior hX hb hdg (hx H locs ls hP hS hL hc)
theorem q_ishl (hdg : decode cc pc = .ok (.ishl, 1)) : qSnd MT NM Z N ST Ts own cc nL wp pc (qBin (fun a b => a <<< (b &&& 31))) := by
  intro E d p l e R s me args below meth c cells slots Q F I L st t x hf hx H locs ls hP hS hL hc
  obtain ⟨hX, hb, hml, hts, hown, hK, hbs, hst, hE, hR, hC⟩ := F
  rcases st with _ | ⟨a, st⟩
  · cases hf
  · cases a <;> simp only [qBin, reduceCtorEq] at hf
    rename_i b
    rcases st with _ | ⟨a, st⟩
    · cases hf
    · cases a <;> simp only [reduceCtorEq, Option.some.injEq] at hf
      rename_i a
      subst hf
      exact lv_ishl hX hb hdg (hx H locs ls hP hS hL hc)
theorem q_ishr (hdg : decode cc pc = .ok (.ishr, 1)) : qSnd MT NM Z N ST Ts own cc nL wp pc (qBin (fun a b => a >>> (b &&& 31))) := by
  intro E d p l e R s me args below meth c cells slots Q F I L st t x hf hx H locs ls hP hS hL hc
  obtain ⟨hX, hb, hml, hts, hown, hK, hbs, hst, hE, hR, hC⟩ := F
  rcases st with _ | ⟨a, st⟩
  · cases hf
  · cases a <;> simp only [qBin, reduceCtorEq] at hf
    rename_i b
    rcases st with _ | ⟨a, st⟩
    · cases hf
    · cases a <;> simp only [reduceCtorEq, Option.some.injEq] at hf
      rename_i a
      subst hf
      exact lv_ishr hX hb hdg (hx H locs ls hP hS hL hc)
theorem q_iushr (hdg : decode cc pc = .ok (.iushr, 1)) : qSnd MT NM Z N ST Ts own cc nL wp pc (qBin (fun a b => (a.toUInt32 >>> (b.toUInt32 &&& Int32.toUInt32 31)).toInt32)) := by
  intro E d p l e R s me args below meth c cells slots Q F I L st t x hf hx H locs ls hP hS hL hc
  obtain ⟨hX, hb, hml, hts, hown, hK, hbs, hst, hE, hR, hC⟩ := F
  rcases st with _ | ⟨a, st⟩
  · cases hf
  · cases a <;> simp only [qBin, reduceCtorEq] at hf
    rename_i b
    rcases st with _ | ⟨a, st⟩
    · cases hf
    · cases a <;> simp only [reduceCtorEq, Option.some.injEq] at hf
      rename_i a
      subst hf
      exact lv_iushr hX hb hdg rfl (hx H locs ls hP hS hL hc)
theorem q_idiv (hdg : decode cc pc = .ok (.idiv, 1)) : qSnd MT NM Z N ST Ts own cc nL wp pc (qDiv (fun a b => a / b)) := by
  intro E d p l e R s me args below meth c cells slots Q F I L st t x hf hx H locs ls hP hS hL hc
  obtain ⟨hX, hb, hml, hts, hown, hK, hbs, hst, hE, hR, hC⟩ := F
  rcases st with _ | ⟨a, st⟩
  · cases hf
  · cases a <;> simp only [qDiv, reduceCtorEq] at hf
    rename_i b
    rcases st with _ | ⟨a, st⟩
    · cases hf
    · cases a <;> simp only [reduceCtorEq] at hf
      rename_i a
      by_cases h0 : b = 0
      · rw [if_pos h0] at hf
        cases hf
      · rw [if_neg h0] at hf
        cases hf
        exact lv_idiv hX hb hdg h0 (hx H locs ls hP hS hL hc)
theorem q_irem (hdg : decode cc pc = .ok (.irem, 1)) : qSnd MT NM Z N ST Ts own cc nL wp pc (qDiv (fun a b => a - a / b * b)) := by
  intro E d p l e R s me args below meth c cells slots Q F I L st t x hf hx H locs ls hP hS hL hc
  obtain ⟨hX, hb, hml, hts, hown, hK, hbs, hst, hE, hR, hC⟩ := F
  rcases st with _ | ⟨a, st⟩
  · cases hf
  · cases a <;> simp only [qDiv, reduceCtorEq] at hf
    rename_i b
    rcases st with _ | ⟨a, st⟩
    · cases hf
    · cases a <;> simp only [reduceCtorEq] at hf
      rename_i a
      by_cases h0 : b = 0
      · rw [if_pos h0] at hf
        cases hf
      · rw [if_neg h0] at hf
        cases hf
        exact lv_irem hX hb hdg h0 (hx H locs ls hP hS hL hc)
theorem q_ineg (hdg : decode cc pc = .ok (.ineg, 1)) : qSnd MT NM Z N ST Ts own cc nL wp pc (qUn (fun a => -a)) := by
  intro E d p l e R s me args below meth c cells slots Q F I L st t x hf hx H locs ls hP hS hL hc
  obtain ⟨hX, hb, hml, hts, hown, hK, hbs, hst, hE, hR, hC⟩ := F
  rcases st with _ | ⟨a, st⟩
  · cases hf
  · cases a <;> simp only [qUn, reduceCtorEq, Option.some.injEq] at hf
    rename_i a
    subst hf
    exact lv_ineg hX hb hdg (hx H locs ls hP hS hL hc)
theorem q_i2c (hdg : decode cc pc = .ok (.i2c, 1)) : qSnd MT NM Z N ST Ts own cc nL wp pc (qUn (fun a => (a.toUInt32 % 65536).toInt32)) := by
  intro E d p l e R s me args below meth c cells slots Q F I L st t x hf hx H locs ls hP hS hL hc
  obtain ⟨hX, hb, hml, hts, hown, hK, hbs, hst, hE, hR, hC⟩ := F
  rcases st with _ | ⟨a, st⟩
  · cases hf
  · cases a <;> simp only [qUn, reduceCtorEq, Option.some.injEq] at hf
    rename_i a
    subst hf
    exact lv_i2c hX hb hdg rfl (hx H locs ls hP hS hL hc)
theorem q_i2l (hdg : decode cc pc = .ok (.i2l, 1)) : qSnd MT NM Z N ST Ts own cc nL wp pc (qI2l) := by
  intro E d p l e R s me args below meth c cells slots Q F I L st t x hf hx H locs ls hP hS hL hc
  obtain ⟨hX, hb, hml, hts, hown, hK, hbs, hst, hE, hR, hC⟩ := F
  rcases st with _ | ⟨a, st⟩
  · cases hf
  · cases a <;> simp only [qI2l, reduceCtorEq, Option.some.injEq] at hf
    rename_i a
    subst hf
    exact lv_i2l hX hb hdg rfl (hx H locs ls hP hS hL hc)
theorem q_l2i (hdg : decode cc pc = .ok (.l2i, 1)) : qSnd MT NM Z N ST Ts own cc nL wp pc (qL2i) := by
  intro E d p l e R s me args below meth c cells slots Q F I L st t x hf hx H locs ls hP hS hL hc
  obtain ⟨hX, hb, hml, hts, hown, hK, hbs, hst, hE, hR, hC⟩ := F
  rcases st with _ | ⟨a, st⟩
  · cases hf
  · cases a <;> simp only [qL2i, reduceCtorEq, Option.some.injEq] at hf
    rename_i a
    subst hf
    exact lv_l2i hX hb hdg rfl (hx H locs ls hP hS hL hc)
theorem q_ladd (hdg : decode cc pc = .ok (.ladd, 1)) : qSnd MT NM Z N ST Ts own cc nL wp pc (qLBin (fun a b => a + b)) := by
  intro E d p l e R s me args below meth c cells slots Q F I L st t x hf hx H locs ls hP hS hL hc
  obtain ⟨hX, hb, hml, hts, hown, hK, hbs, hst, hE, hR, hC⟩ := F
  rcases st with _ | ⟨a, st⟩
  · cases hf
  · cases a <;> simp only [qLBin, reduceCtorEq] at hf
    rename_i b
    rcases st with _ | ⟨a, st⟩
    · cases hf
    · cases a <;> simp only [reduceCtorEq, Option.some.injEq] at hf
      rename_i a
      subst hf
      exact lv_ladd hX hb hdg (hx H locs ls hP hS hL hc)
theorem q_lsub (hdg : decode cc pc = .ok (.lsub, 1)) : qSnd MT NM Z N ST Ts own cc nL wp pc (qLBin (fun a b => a - b)) := by
  intro E d p l e R s me args below meth c cells slots Q F I L st t x hf hx H locs ls hP hS hL hc
  obtain ⟨hX, hb, hml, hts, hown, hK, hbs, hst, hE, hR, hC⟩ := F
  rcases st with _ | ⟨a, st⟩
  · cases hf
  · cases a <;> simp only [qLBin, reduceCtorEq] at hf
    rename_i b
    rcases st with _ | ⟨a, st⟩
    · cases hf
    · cases a <;> simp only [reduceCtorEq, Option.some.injEq] at hf
      rename_i a
      subst hf
      exact lv_lsub hX hb hdg (hx H locs ls hP hS hL hc)
theorem q_lmul (hdg : decode cc pc = .ok (.lmul, 1)) : qSnd MT NM Z N ST Ts own cc nL wp pc (qLBin (fun a b => a * b)) := by
  intro E d p l e R s me args below meth c cells slots Q F I L st t x hf hx H locs ls hP hS hL hc
  obtain ⟨hX, hb, hml, hts, hown, hK, hbs, hst, hE, hR, hC⟩ := F
  rcases st with _ | ⟨a, st⟩
  · cases hf
  · cases a <;> simp only [qLBin, reduceCtorEq] at hf
    rename_i b
    rcases st with _ | ⟨a, st⟩
    · cases hf
    · cases a <;> simp only [reduceCtorEq, Option.some.injEq] at hf
      rename_i a
      subst hf
      exact lv_lmul hX hb hdg (hx H locs ls hP hS hL hc)
theorem q_land (hdg : decode cc pc = .ok (.land, 1)) : qSnd MT NM Z N ST Ts own cc nL wp pc (qLBin (fun a b => a &&& b)) := by
  intro E d p l e R s me args below meth c cells slots Q F I L st t x hf hx H locs ls hP hS hL hc
  obtain ⟨hX, hb, hml, hts, hown, hK, hbs, hst, hE, hR, hC⟩ := F
  rcases st with _ | ⟨a, st⟩
  · cases hf
  · cases a <;> simp only [qLBin, reduceCtorEq] at hf
    rename_i b
    rcases st with _ | ⟨a, st⟩
    · cases hf
    · cases a <;> simp only [reduceCtorEq, Option.some.injEq] at hf
      rename_i a
      subst hf
      exact lv_land hX hb hdg (hx H locs ls hP hS hL hc)
theorem q_lor (hdg : decode cc pc = .ok (.lor, 1)) : qSnd MT NM Z N ST Ts own cc nL wp pc (qLBin (fun a b => a ||| b)) := by
  intro E d p l e R s me args below meth c cells slots Q F I L st t x hf hx H locs ls hP hS hL hc
  obtain ⟨hX, hb, hml, hts, hown, hK, hbs, hst, hE, hR, hC⟩ := F
  rcases st with _ | ⟨a, st⟩
  · cases hf
  · cases a <;> simp only [qLBin, reduceCtorEq] at hf
    rename_i b
    rcases st with _ | ⟨a, st⟩
    · cases hf
    · cases a <;> simp only [reduceCtorEq, Option.some.injEq] at hf
      rename_i a
      subst hf
      exact lv_lor hX hb hdg (hx H locs ls hP hS hL hc)
theorem q_lshl (hdg : decode cc pc = .ok (.lshl, 1)) : qSnd MT NM Z N ST Ts own cc nL wp pc (qLSh (fun a b => a <<< (b.toInt64 &&& 63))) := by
  intro E d p l e R s me args below meth c cells slots Q F I L st t x hf hx H locs ls hP hS hL hc
  obtain ⟨hX, hb, hml, hts, hown, hK, hbs, hst, hE, hR, hC⟩ := F
  rcases st with _ | ⟨a, st⟩
  · cases hf
  · cases a <;> simp only [qLSh, reduceCtorEq] at hf
    rename_i b
    rcases st with _ | ⟨a, st⟩
    · cases hf
    · cases a <;> simp only [reduceCtorEq, Option.some.injEq] at hf
      rename_i a
      subst hf
      exact lv_lshl hX hb hdg rfl (hx H locs ls hP hS hL hc)
theorem q_lshr (hdg : decode cc pc = .ok (.lshr, 1)) : qSnd MT NM Z N ST Ts own cc nL wp pc (qLSh (fun a b => a >>> (b.toInt64 &&& 63))) := by
  intro E d p l e R s me args below meth c cells slots Q F I L st t x hf hx H locs ls hP hS hL hc
  obtain ⟨hX, hb, hml, hts, hown, hK, hbs, hst, hE, hR, hC⟩ := F
  rcases st with _ | ⟨a, st⟩
  · cases hf
  · cases a <;> simp only [qLSh, reduceCtorEq] at hf
    rename_i b
    rcases st with _ | ⟨a, st⟩
    · cases hf
    · cases a <;> simp only [reduceCtorEq, Option.some.injEq] at hf
      rename_i a
      subst hf
      exact lv_lshr hX hb hdg rfl (hx H locs ls hP hS hL hc)
theorem q_lcmp (hdg : decode cc pc = .ok (.lcmp, 1)) : qSnd MT NM Z N ST Ts own cc nL wp pc (qLcmp) := by
  intro E d p l e R s me args below meth c cells slots Q F I L st t x hf hx H locs ls hP hS hL hc
  obtain ⟨hX, hb, hml, hts, hown, hK, hbs, hst, hE, hR, hC⟩ := F
  rcases st with _ | ⟨a, st⟩
  · cases hf
  · cases a <;> simp only [qLcmp, reduceCtorEq] at hf
    rename_i b
    rcases st with _ | ⟨a, st⟩
    · cases hf
    · cases a <;> simp only [reduceCtorEq, Option.some.injEq] at hf
      rename_i a
      subst hf
      exact W.lcmp hX hb hdg (hx H locs ls hP hS hL hc)
theorem q_dup (hdg : decode cc pc = .ok (.dup, 1)) : qSnd MT NM Z N ST Ts own cc nL wp pc (qDup) := by
  intro E d p l e R s me args below meth c cells slots Q F I L st t x hf hx H locs ls hP hS hL hc
  obtain ⟨hX, hb, hml, hts, hown, hK, hbs, hst, hE, hR, hC⟩ := F
  rcases st with _ | ⟨a, st⟩
  · cases hf
  · cases a <;> simp only [qDup, reduceCtorEq] at hf
    · cases hf
      exact lv_dup hX hb hdg rfl (hx H locs ls hP hS hL hc)
    · rename_i a
      cases hk : Nat.blt a 150 with
      | false => rw [hk] at hf; cases hf
      | true =>
        rw [hk] at hf
        cases hf
        exact lv_dup hX hb hdg (by rw [qX_ref hk]; rfl) (hx H locs ls hP hS hL hc)
theorem q_dup2 (hdg : decode cc pc = .ok (.dup2, 1)) : qSnd MT NM Z N ST Ts own cc nL wp pc (qDup2) := by
  intro E d p l e R s me args below meth c cells slots Q F I L st t x hf hx H locs ls hP hS hL hc
  obtain ⟨hX, hb, hml, hts, hown, hK, hbs, hst, hE, hR, hC⟩ := F
  rcases st with _ | ⟨a, st⟩
  · cases hf
  · cases a <;> simp only [qDup2, reduceCtorEq] at hf
    rename_i b
    rcases st with _ | ⟨a, st⟩
    · cases hf
    · cases a <;> simp only [reduceCtorEq] at hf
      rename_i a
      cases hk : Nat.blt a 150 with
      | false => rw [hk] at hf; cases hf
      | true =>
        rw [hk] at hf
        cases hf
        exact lv_dup2_11 hX hb hdg rfl (by rw [qX_ref hk]; rfl) (hx H locs ls hP hS hL hc)
theorem q_pop (hdg : decode cc pc = .ok (.pop, 1)) : qSnd MT NM Z N ST Ts own cc nL wp pc (qPop) := by
  intro E d p l e R s me args below meth c cells slots Q F I L st t x hf hx H locs ls hP hS hL hc
  obtain ⟨hX, hb, hml, hts, hown, hK, hbs, hst, hE, hR, hC⟩ := F
  rcases st with _ | ⟨a, st⟩
  · cases hf
  · cases a <;> simp only [qPop, reduceCtorEq, Option.some.injEq] at hf
    rename_i a
    subst hf
    exact lv_pop hX hb hdg rfl (hx H locs ls hP hS hL hc)
theorem q_goto {off : Int} {tgt : Nat} (hdg : decode cc pc = .ok (.goto off, 3)) (ht : (pc : Int) + off = (tgt : Int)) : qSnd MT NM Z N ST Ts own cc nL wp pc (qGoto tgt) := by
  intro E d p l e R s me args below meth c cells slots Q F I L st t x hf hx H locs ls hP hS hL hc
  obtain ⟨hX, hb, hml, hts, hown, hK, hbs, hst, hE, hR, hC⟩ := F
  cases hf
  exact lv_goto hX hb hdg ht (hx H locs ls hP hS hL hc)
theorem q_ifeq {off : Int} {tgt : Nat} (hdg : decode cc pc = .ok (.ifCond .eq off, 3)) (ht : (pc : Int) + off = (tgt : Int)) : qSnd MT NM Z N ST Ts own cc nL wp pc (qIfeq tgt) := by
  intro E d p l e R s me args below meth c cells slots Q F I L st t x hf hx H locs ls hP hS hL hc
  obtain ⟨hX, hb, hml, hts, hown, hK, hbs, hst, hE, hR, hC⟩ := F
  rcases st with _ | ⟨a, st⟩
  · cases hf
  · cases a <;> simp only [qIfeq, reduceCtorEq] at hf
    rename_i a
    by_cases h0 : a = 0
    · rw [if_pos h0] at hf
      cases hf
      refine lv_if_eq hX hb hdg ht (fun h => ?_) (fun h => ?_)
      · exact hx H locs ls hP hS hL hc
      · exact absurd h0 h
    · rw [if_neg h0] at hf
      cases hf
      refine lv_if_eq hX hb hdg ht (fun h => ?_) (fun h => ?_)
      · exact absurd h h0
      · exact hx H locs ls hP hS hL hc
theorem q_ceq {off : Int} {tgt : Nat} (hdg : decode cc pc = .ok (.if_icmp .eq off, 3)) (ht : (pc : Int) + off = (tgt : Int)) : qSnd MT NM Z N ST Ts own cc nL wp pc (qCeq tgt) := by
  intro E d p l e R s me args below meth c cells slots Q F I L st t x hf hx H locs ls hP hS hL hc
  obtain ⟨hX, hb, hml, hts, hown, hK, hbs, hst, hE, hR, hC⟩ := F
  rcases st with _ | ⟨a, st⟩
  · cases hf
  · cases a <;> simp only [qCeq, reduceCtorEq] at hf
    rename_i b
    rcases st with _ | ⟨a, st⟩
    · cases hf
    · cases a <;> simp only [reduceCtorEq] at hf
      rename_i a
      by_cases h0 : a = b
      · rw [if_pos h0] at hf
        cases hf
        refine lv_icmp_eq hX hb hdg ht (fun h => ?_) (fun h => ?_)
        · exact hx H locs ls hP hS hL hc
        · exact absurd h0 h
      · rw [if_neg h0] at hf
        cases hf
        refine lv_icmp_eq hX hb hdg ht (fun h => ?_) (fun h => ?_)
        · exact absurd h h0
        · exact hx H locs ls hP hS hL hc
theorem q_iflt {off : Int} {tgt : Nat} (hdg : decode cc pc = .ok (.ifCond .lt off, 3)) (ht : (pc : Int) + off = (tgt : Int)) : qSnd MT NM Z N ST Ts own cc nL wp pc (qIflt tgt) := by
  intro E d p l e R s me args below meth c cells slots Q F I L st t x hf hx H locs ls hP hS hL hc
  obtain ⟨hX, hb, hml, hts, hown, hK, hbs, hst, hE, hR, hC⟩ := F
  rcases st with _ | ⟨a, st⟩
  · cases hf
  · cases a <;> simp only [qIflt, reduceCtorEq] at hf
    rename_i a
    by_cases h0 : a < 0
    · rw [if_pos h0] at hf
      cases hf
      refine lv_if_lt hX hb hdg ht (fun h => ?_) (fun h => ?_)
      · exact hx H locs ls hP hS hL hc
      · exact absurd h0 h
    · rw [if_neg h0] at hf
      cases hf
      refine lv_if_lt hX hb hdg ht (fun h => ?_) (fun h => ?_)
      · exact absurd h h0
      · exact hx H locs ls hP hS hL hc
theorem q_clt {off : Int} {tgt : Nat} (hdg : decode cc pc = .ok (.if_icmp .lt off, 3)) (ht : (pc : Int) + off = (tgt : Int)) : qSnd MT NM Z N ST Ts own cc nL wp pc (qClt tgt) := by
  intro E d p l e R s me args below meth c cells slots Q F I L st t x hf hx H locs ls hP hS hL hc
  obtain ⟨hX, hb, hml, hts, hown, hK, hbs, hst, hE, hR, hC⟩ := F
  rcases st with _ | ⟨a, st⟩
  · cases hf
  · cases a <;> simp only [qClt, reduceCtorEq] at hf
    rename_i b
    rcases st with _ | ⟨a, st⟩
    · cases hf
    · cases a <;> simp only [reduceCtorEq] at hf
      rename_i a
      by_cases h0 : a < b
      · rw [if_pos h0] at hf
        cases hf
        refine lv_icmp_lt hX hb hdg ht (fun h => ?_) (fun h => ?_)
        · exact hx H locs ls hP hS hL hc
        · exact absurd h0 h
      · rw [if_neg h0] at hf
        cases hf
        refine lv_icmp_lt hX hb hdg ht (fun h => ?_) (fun h => ?_)
        · exact absurd h h0
        · exact hx H locs ls hP hS hL hc
theorem q_ifge {off : Int} {tgt : Nat} (hdg : decode cc pc = .ok (.ifCond .ge off, 3)) (ht : (pc : Int) + off = (tgt : Int)) : qSnd MT NM Z N ST Ts own cc nL wp pc (qIfge tgt) := by
  intro E d p l e R s me args below meth c cells slots Q F I L st t x hf hx H locs ls hP hS hL hc
  obtain ⟨hX, hb, hml, hts, hown, hK, hbs, hst, hE, hR, hC⟩ := F
  rcases st with _ | ⟨a, st⟩
  · cases hf
  · cases a <;> simp only [qIfge, reduceCtorEq] at hf
    rename_i a
    by_cases h0 : 0 ≤ a
    · rw [if_pos h0] at hf
      cases hf
      refine lv_if_ge hX hb hdg ht (fun h => ?_) (fun h => ?_)
      · exact hx H locs ls hP hS hL hc
      · exact absurd h0 h
    · rw [if_neg h0] at hf
      cases hf
      refine lv_if_ge hX hb hdg ht (fun h => ?_) (fun h => ?_)
      · exact absurd h h0
      · exact hx H locs ls hP hS hL hc
theorem q_cge {off : Int} {tgt : Nat} (hdg : decode cc pc = .ok (.if_icmp .ge off, 3)) (ht : (pc : Int) + off = (tgt : Int)) : qSnd MT NM Z N ST Ts own cc nL wp pc (qCge tgt) := by
  intro E d p l e R s me args below meth c cells slots Q F I L st t x hf hx H locs ls hP hS hL hc
  obtain ⟨hX, hb, hml, hts, hown, hK, hbs, hst, hE, hR, hC⟩ := F
  rcases st with _ | ⟨a, st⟩
  · cases hf
  · cases a <;> simp only [qCge, reduceCtorEq] at hf
    rename_i b
    rcases st with _ | ⟨a, st⟩
    · cases hf
    · cases a <;> simp only [reduceCtorEq] at hf
      rename_i a
      by_cases h0 : b ≤ a
      · rw [if_pos h0] at hf
        cases hf
        refine lv_icmp_ge hX hb hdg ht (fun h => ?_) (fun h => ?_)
        · exact hx H locs ls hP hS hL hc
        · exact absurd h0 h
      · rw [if_neg h0] at hf
        cases hf
        refine lv_icmp_ge hX hb hdg ht (fun h => ?_) (fun h => ?_)
        · exact absurd h h0
        · exact hx H locs ls hP hS hL hc
theorem q_ifgt {off : Int} {tgt : Nat} (hdg : decode cc pc = .ok (.ifCond .gt off, 3)) (ht : (pc : Int) + off = (tgt : Int)) : qSnd MT NM Z N ST Ts own cc nL wp pc (qIfgt tgt) := by
  intro E d p l e R s me args below meth c cells slots Q F I L st t x hf hx H locs ls hP hS hL hc
  obtain ⟨hX, hb, hml, hts, hown, hK, hbs, hst, hE, hR, hC⟩ := F
  rcases st with _ | ⟨a, st⟩
  · cases hf
  · cases a <;> simp only [qIfgt, reduceCtorEq] at hf
    rename_i a
    by_cases h0 : 0 < a
    · rw [if_pos h0] at hf
      cases hf
      refine lv_if_gt hX hb hdg ht (fun h => ?_) (fun h => ?_)
      · exact hx H locs ls hP hS hL hc
      · exact absurd h0 h
    · rw [if_neg h0] at hf
      cases hf
      refine lv_if_gt hX hb hdg ht (fun h => ?_) (fun h => ?_)
      · exact absurd h h0
      · exact hx H locs ls hP hS hL hc
theorem q_cgt {off : Int} {tgt : Nat} (hdg : decode cc pc = .ok (.if_icmp .gt off, 3)) (ht : (pc : Int) + off = (tgt : Int)) : qSnd MT NM Z N ST Ts own cc nL wp pc (qCgt tgt) := by
  intro E d p l e R s me args below meth c cells slots Q F I L st t x hf hx H locs ls hP hS hL hc
  obtain ⟨hX, hb, hml, hts, hown, hK, hbs, hst, hE, hR, hC⟩ := F
  rcases st with _ | ⟨a, st⟩
  · cases hf
  · cases a <;> simp only [qCgt, reduceCtorEq] at hf
    rename_i b
    rcases st with _ | ⟨a, st⟩
    · cases hf
    · cases a <;> simp only [reduceCtorEq] at hf
      rename_i a
      by_cases h0 : b < a
      · rw [if_pos h0] at hf
        cases hf
        refine lv_icmp_gt hX hb hdg ht (fun h => ?_) (fun h => ?_)
        · exact hx H locs ls hP hS hL hc
        · exact absurd h0 h
      · rw [if_neg h0] at hf
        cases hf
        refine lv_icmp_gt hX hb hdg ht (fun h => ?_) (fun h => ?_)
        · exact absurd h h0
        · exact hx H locs ls hP hS hL hc
theorem q_ifle {off : Int} {tgt : Nat} (hdg : decode cc pc = .ok (.ifCond .le off, 3)) (ht : (pc : Int) + off = (tgt : Int)) : qSnd MT NM Z N ST Ts own cc nL wp pc (qIfle tgt) := by
  intro E d p l e R s me args below meth c cells slots Q F I L st t x hf hx H locs ls hP hS hL hc
  obtain ⟨hX, hb, hml, hts, hown, hK, hbs, hst, hE, hR, hC⟩ := F
  rcases st with _ | ⟨a, st⟩
  · cases hf
  · cases a <;> simp only [qIfle, reduceCtorEq] at hf
    rename_i a
    by_cases h0 : a ≤ 0
    · rw [if_pos h0] at hf
      cases hf
      refine lv_if_le hX hb hdg ht (fun h => ?_) (fun h => ?_)
      · exact hx H locs ls hP hS hL hc
      · exact absurd h0 h
    · rw [if_neg h0] at hf
      cases hf
      refine lv_if_le hX hb hdg ht (fun h => ?_) (fun h => ?_)
      · exact absurd h h0
      · exact hx H locs ls hP hS hL hc
theorem q_cle {off : Int} {tgt : Nat} (hdg : decode cc pc = .ok (.if_icmp .le off, 3)) (ht : (pc : Int) + off = (tgt : Int)) : qSnd MT NM Z N ST Ts own cc nL wp pc (qCle tgt) := by
  intro E d p l e R s me args below meth c cells slots Q F I L st t x hf hx H locs ls hP hS hL hc
  obtain ⟨hX, hb, hml, hts, hown, hK, hbs, hst, hE, hR, hC⟩ := F
  rcases st with _ | ⟨a, st⟩
  · cases hf
  · cases a <;> simp only [qCle, reduceCtorEq] at hf
    rename_i b
    rcases st with _ | ⟨a, st⟩
    · cases hf
    · cases a <;> simp only [reduceCtorEq] at hf
      rename_i a
      by_cases h0 : a ≤ b
      · rw [if_pos h0] at hf
        cases hf
        refine lv_icmp_le hX hb hdg ht (fun h => ?_) (fun h => ?_)
        · exact hx H locs ls hP hS hL hc
        · exact absurd h0 h
      · rw [if_neg h0] at hf
        cases hf
        refine lv_icmp_le hX hb hdg ht (fun h => ?_) (fun h => ?_)
        · exact absurd h h0
        · exact hx H locs ls hP hS hL hc
theorem q_ifne {off : Int} {tgt : Nat} (hdg : decode cc pc = .ok (.ifCond .ne off, 3)) (ht : (pc : Int) + off = (tgt : Int)) : qSnd MT NM Z N ST Ts own cc nL wp pc (qIfne tgt) := by
  intro E d p l e R s me args below meth c cells slots Q F I L st t x hf hx H locs ls hP hS hL hc
  obtain ⟨hX, hb, hml, hts, hown, hK, hbs, hst, hE, hR, hC⟩ := F
  rcases st with _ | ⟨a, st⟩
  · cases hf
  · cases a <;> simp only [qIfne, reduceCtorEq] at hf
    rename_i a
    by_cases h0 : a = 0
    · rw [if_pos h0] at hf
      cases hf
      refine lv_if_ne hX hb hdg ht (fun h => ?_) (fun h => ?_)
      · exact absurd h0 h
      · exact hx H locs ls hP hS hL hc
    · rw [if_neg h0] at hf
      cases hf
      refine lv_if_ne hX hb hdg ht (fun h => ?_) (fun h => ?_)
      · exact hx H locs ls hP hS hL hc
      · exact absurd h h0
theorem q_cne {off : Int} {tgt : Nat} (hdg : decode cc pc = .ok (.if_icmp .ne off, 3)) (ht : (pc : Int) + off = (tgt : Int)) : qSnd MT NM Z N ST Ts own cc nL wp pc (qCne tgt) := by
  intro E d p l e R s me args below meth c cells slots Q F I L st t x hf hx H locs ls hP hS hL hc
  obtain ⟨hX, hb, hml, hts, hown, hK, hbs, hst, hE, hR, hC⟩ := F
  rcases st with _ | ⟨a, st⟩
  · cases hf
  · cases a <;> simp only [qCne, reduceCtorEq] at hf
    rename_i b
    rcases st with _ | ⟨a, st⟩
    · cases hf
    · cases a <;> simp only [reduceCtorEq] at hf
      rename_i a
      by_cases h0 : a = b
      · rw [if_pos h0] at hf
        cases hf
        refine lv_icmp_ne hX hb hdg ht (fun h => ?_) (fun h => ?_)
        · exact absurd h0 h
        · exact hx H locs ls hP hS hL hc
      · rw [if_neg h0] at hf
        cases hf
        refine lv_icmp_ne hX hb hdg ht (fun h => ?_) (fun h => ?_)
        · exact hx H locs ls hP hS hL hc
        · exact absurd h h0
theorem q_ifnull {off : Int} (hdg : decode cc pc = .ok (.ifnull off, 3)) : qSnd MT NM Z N ST Ts own cc nL wp pc (qIfnull) := by
  intro E d p l e R s me args below meth c cells slots Q F I L st t x hf hx H locs ls hP hS hL hc
  obtain ⟨hX, hb, hml, hts, hown, hK, hbs, hst, hE, hR, hC⟩ := F
  rcases st with _ | ⟨a, st⟩
  · cases hf
  · cases a <;> simp only [qIfnull, reduceCtorEq] at hf
    rename_i a
    cases hk : Nat.blt a 150 with
    | false => rw [hk] at hf; cases hf
    | true =>
      rw [hk] at hf
      cases hf
      show W p l e R s me args below meth c H locs cells slots Q (F0 me pc ls (qX E (.ref a) :: st.map (qX E)))
      rw [qX_ref hk]
      exact lv_ifnull hX hb hdg (hx H locs ls hP hS hL hc)
theorem q_ifnonnull {off : Int} {tgt : Nat} (hdg : decode cc pc = .ok (.ifnonnull off, 3)) (ht : (pc : Int) + off = (tgt : Int)) : qSnd MT NM Z N ST Ts own cc nL wp pc (qIfnonnull tgt) := by
  intro E d p l e R s me args below meth c cells slots Q F I L st t x hf hx H locs ls hP hS hL hc
  obtain ⟨hX, hb, hml, hts, hown, hK, hbs, hst, hE, hR, hC⟩ := F
  rcases st with _ | ⟨a, st⟩
  · cases hf
  · cases a <;> simp only [qIfnonnull, reduceCtorEq] at hf
    rename_i a
    cases hk : Nat.blt a 150 with
    | false => rw [hk] at hf; cases hf
    | true =>
      rw [hk] at hf
      cases hf
      show W p l e R s me args below meth c H locs cells slots Q (F0 me pc ls (qX E (.ref a) :: st.map (qX E)))
      rw [qX_ref hk]
      exact lv_ifnonnull hX hb hdg ht (hx H locs ls hP hS hL hc)
end QS
end
section
/-! memory steps are sound -/
/-- what is asked of the fixed things: rows of ints, bytes, texts, the script; they go along -/
def qSTok (Z : Nat → qSh) (ST : qEnv → State → Heap → Prop) : Prop :=
  (∀ (E : qEnv) (U : State) (H : Heap), ST E U H →
    (∀ (o n : Nat) (fs : List Nat), Z o = (4, n, fs) → Nat.blt o 150 = true ∧ va_T .int (qAd E o) n (fun j => .int (qKon fs j)) (qA E) U H) ∧
    (∀ (o n : Nat) (fs : List Nat), Z o = (5, n, fs) → Nat.blt o 150 = true ∧ va_T .byte (qAd E o) n (fun j => .int (qKon fs j)) (qA E) U H) ∧
    (∀ (o b : Nat) (fs : List Nat), Z o = (6, b, fs) → Nat.blt o 150 = true ∧ Nat.blt b 150 = true ∧ va_O "java/lang/String" (qAd E o) (qA E) U H ∧ va_OF "java/lang/String" "coder" "B" (.int 0) (qAd E o) (qA E) U H ∧ va_OF "java/lang/String" "value" "[B" (.ref (qAd E b)) (qAd E o) (qA E) U H) ∧
    (∀ (o n : Nat) (fs : List Nat), Z o = (7, n, fs) → o = 70 ∧ qLn E < 2 ^ 31 ∧ va_T .int (qAd E 70) (qLn E) (fun j => .int (qXs E j)) (qA E) U H)) ∧
  (∀ (E : qEnv) (s U : State) (H : Heap) (locs : List Loc), ST E s s.heap → s.WarmedH U.vm → va_S (qA E) s.heap H locs → U.heap = H → ST E U U.heap) ∧
  (∀ (E : qEnv) (U : State) (g : JFrame) (mk : MethodId) (a : Array Value), ST E U U.heap → ST E (U.calling g mk a) (U.calling g mk a).heap)
theorem qFld_spec {Z : Nat → qSh} {o c k f : Nat} (h : qFld Z o c k = f) (h0 : f ≠ 0) : ∃ fs, Z o = (3, c, fs) ∧ qNth fs k = f := by
  unfold qFld at h
  split at h
  · rename_i c2 fs hz
    cases hc : Nat.beq c2 c with
    | false =>
      rw [hc] at h
      exact absurd h.symm h0
    | true =>
      rw [hc] at h
      have e : c2 = c := Nat.eq_of_beq_eq_true hc
      subst e
      exact ⟨fs, hz, h⟩
  · exact absurd h.symm h0
theorem qSc_W {E : qEnv} {s : qMem} {o k : Nat} {v : Int32} (h : o < 60) (hc : qSc E s) : qSc E (qW s o k v) := by
  refine ⟨fun j hj => ?_, ?_⟩
  · rw [qW_other (by omega)]
    exact hc.1 j hj
  · rw [qW_other (by omega)]
    exact hc.2
theorem qBlt {o N : Nat} (h : o < N) (hN : N ≤ 60) : Nat.blt o 150 = true := Nat.ble_eq_true_of_le (by omega)
theorem qIn_vp {i : Int32} {n : Nat} (h : qIn i n) : vp_in i n := vp_in_iff.mpr h
theorem qWld_W {Z : Nat → qSh} {N : Nat} {E : qEnv} {s : qMem} {o k : Nat} {v : Int32} {e : va_E} (ho : o < N) (h : qMk E (upd (s.1 o) k v) s.2 (Z o) = e) : (qWld Z N E s).set o (qAd E o, e) = qWld Z N E (qW s o k v) := by
  refine qWld_upd ho (fun j _ hj => ?_) ?_
  · rw [qW_other hj]
    rfl
  · rw [qW_row]
    exact h
theorem qFs_noL {E : qEnv} {g : Nat → Int32} {t v : Int64} : ∀ (fs : List Nat) (j : Nat), (∀ i, qNth fs i ≠ 3) → qFs E g v j fs = qFs E g t j fs := by
  intro fs
  induction fs with
  | nil => intro j _; rfl
  | cons a l ih =>
    intro j hz
    have h0 : a ≠ 3 := hz 0
    have e : qFv E g v j a = qFv E g t j a := by
      rcases a with _ | _ | _ | _ | a <;> try rfl
      exact absurd rfl h0
    rw [qFs, qFs, e, ih (j + 1) (fun z => hz (z + 1))]
section QM
variable {MT : Nat → qMI} {NM : qNmT} {Z : Nat → qSh} {N : Nat} {ST : qEnv → State → Heap → Prop} {Ts : List Cond} {own : String} {cc : ByteArray} {nL wp pc : Nat}
theorem q_getI {idx ci k NF : Nat} {C : String} {T : u_T} (hdg : decode cc pc = .ok (.getfield idx, 3)) (hin : ∀ w ∈ u_ws C T NF, w ∈ Ts) (hcl : vwCl[ci]? = some (C, T, NF)) (hk : k < NF) (hw : Cond.fieldLink own idx (T k).1 (T k).2.1 (T k).2.2.1 ∈ Ts) : qSnd MT NM Z N ST Ts own cc nL wp pc (qGetI Z ci k) := by
  intro E d p l e R s me args below meth c cells slots Q F I L st t x hf hx H locs ls hP hS hL hc
  obtain ⟨hX, hb, hml, hts, hown, hK, hbs, hst, hE, hR, hC⟩ := F
  rcases st with _ | ⟨a, st⟩
  · cases hf
  · cases a <;> simp only [qGetI, reduceCtorEq] at hf
    rename_i o
    split at hf
    · rename_i hq
      obtain ⟨fs, hz, hn⟩ := qFld_spec hq (by decide)
      have ho : o < N := hE.2.2.2.1 o (by rw [hz]; exact Nat.lt_succ_self 3)
      cases hf
      show W p l e R s me args below meth c H locs cells slots Q (F0 me pc ls (qX E (.ref o) :: st.map (qX E)))
      rw [qX_ref (qBlt ho hE.2.2.2.2)]
      refine va_get hX hb hts hin hown hK hP o (fs := qFs E (t.1 o) t.2 0 fs) (by rw [qWld_at ho, hz]; rfl) hcl k hk (hts _ hw) (fun _ h => h) (v := .int (t.1 o k)) ?_ hdg ?_
      · rw [qFs_get fs 0 k (by rw [hn]; decide), hn, Nat.zero_add]
        rfl
      · exact hx H locs ls hP hS hL hc
    · rename_i hq
      obtain ⟨fs, hz, hn⟩ := qFld_spec hq (by decide)
      have ho : o < N := hE.2.2.2.1 o (by rw [hz]; exact Nat.lt_succ_self 3)
      cases hf
      show W p l e R s me args below meth c H locs cells slots Q (F0 me pc ls (qX E (.ref o) :: st.map (qX E)))
      rw [qX_ref (qBlt ho hE.2.2.2.2)]
      refine va_get hX hb hts hin hown hK hP o (fs := qFs E (t.1 o) t.2 0 fs) (by rw [qWld_at ho, hz]; rfl) hcl k hk (hts _ hw) (fun _ h => h) (v := .int (t.1 o k)) ?_ hdg ?_
      · rw [qFs_get fs 0 k (by rw [hn]; decide), hn, Nat.zero_add]
        rfl
      · exact hx H locs ls hP hS hL hc
    · cases hf
theorem q_getL {idx ci k NF : Nat} {C : String} {T : u_T} (hdg : decode cc pc = .ok (.getfield idx, 3)) (hin : ∀ w ∈ u_ws C T NF, w ∈ Ts) (hcl : vwCl[ci]? = some (C, T, NF)) (hk : k < NF) (hw : Cond.fieldLink own idx (T k).1 (T k).2.1 (T k).2.2.1 ∈ Ts) : qSnd MT NM Z N ST Ts own cc nL wp pc (qGetL Z ci k) := by
  intro E d p l e R s me args below meth c cells slots Q F I L st t x hf hx H locs ls hP hS hL hc
  obtain ⟨hX, hb, hml, hts, hown, hK, hbs, hst, hE, hR, hC⟩ := F
  rcases st with _ | ⟨a, st⟩
  · cases hf
  · cases a <;> simp only [qGetL, reduceCtorEq] at hf
    rename_i o
    split at hf
    · rename_i hq
      obtain ⟨fs, hz, hn⟩ := qFld_spec hq (by decide)
      have ho : o < N := hE.2.2.2.1 o (by rw [hz]; exact Nat.lt_succ_self 3)
      cases hf
      show W p l e R s me args below meth c H locs cells slots Q (F0 me pc ls (qX E (.ref o) :: st.map (qX E)))
      rw [qX_ref (qBlt ho hE.2.2.2.2)]
      refine va_get hX hb hts hin hown hK hP o (fs := qFs E (t.1 o) t.2 0 fs) (by rw [qWld_at ho, hz]; rfl) hcl k hk (hts _ hw) (fun _ h => h) (v := .long t.2) ?_ hdg ?_
      · rw [qFs_get fs 0 k (by rw [hn]; decide), hn, Nat.zero_add]
        rfl
      · exact hx H locs ls hP hS hL hc
    · cases hf
theorem q_getR {idx ci k NF : Nat} {C : String} {T : u_T} (hdg : decode cc pc = .ok (.getfield idx, 3)) (hin : ∀ w ∈ u_ws C T NF, w ∈ Ts) (hcl : vwCl[ci]? = some (C, T, NF)) (hk : k < NF) (hw : Cond.fieldLink own idx (T k).1 (T k).2.1 (T k).2.2.1 ∈ Ts) : qSnd MT NM Z N ST Ts own cc nL wp pc (qGetR Z ci k) := by
  intro E d p l e R s me args below meth c cells slots Q F I L st t x hf hx H locs ls hP hS hL hc
  obtain ⟨hX, hb, hml, hts, hown, hK, hbs, hst, hE, hR, hC⟩ := F
  rcases st with _ | ⟨a, st⟩
  · cases hf
  · cases a <;> simp only [qGetR, reduceCtorEq] at hf
    rename_i o
    split at hf
    · rename_i r hq
      obtain ⟨fs, hz, hn⟩ := qFld_spec hq (by omega)
      have ho : o < N := hE.2.2.2.1 o (by rw [hz]; exact Nat.lt_succ_self 3)
      cases hb2 : Nat.blt r 150 with
      | false => rw [hb2] at hf; cases hf
      | true =>
        rw [hb2] at hf
        cases hf
        show W p l e R s me args below meth c H locs cells slots Q (F0 me pc ls (qX E (.ref o) :: st.map (qX E)))
        rw [qX_ref (qBlt ho hE.2.2.2.2)]
        refine va_get hX hb hts hin hown hK hP o (fs := qFs E (t.1 o) t.2 0 fs) (by rw [qWld_at ho, hz]; rfl) hcl k hk (hts _ hw) (fun _ h => h) (v := .ref (qAd E r)) ?_ hdg ?_
        · rw [qFs_get fs 0 k (by rw [hn]; omega), hn, Nat.zero_add]
          rfl
        · have h2 := hx H locs ls hP hS hL hc
          simp only [List.map_cons, qX_ref hb2] at h2
          exact h2
    · cases hf
theorem q_putI {idx ci k NF : Nat} {C : String} {T : u_T} (hdg : decode cc pc = .ok (.putfield idx, 3)) (hin : ∀ w ∈ u_ws C T NF, w ∈ Ts) (hcl : vwCl[ci]? = some (C, T, NF)) (hk : k < NF) (hw : Cond.fieldLink own idx (T k).1 (T k).2.1 (T k).2.2.1 ∈ Ts) (ty0 : Nat → FieldType) (hty : ∀ k, k < NF → parseFieldDescriptor (T k).2.2.1 = some (ty0 k)) (hnm : ∀ a, a < NF → ∀ b, b < NF → a ≠ b → (T a).2.1 ≠ (T b).2.1) (hfin : (T k).2.2.2 = false) (hd : parseFieldDescriptor (T k).2.2.1 = some .int) : qSnd MT NM Z N ST Ts own cc nL wp pc (qPutI Z ci k) := by
  intro E d p l e R s me args below meth c cells slots Q F I L st t x hf hx H locs ls hP hS hL hc
  obtain ⟨hX, hb, hml, hts, hown, hK, hbs, hst, hE, hR, hC⟩ := F
  rcases st with _ | ⟨a, st⟩
  · cases hf
  · cases a <;> simp only [qPutI, reduceCtorEq] at hf
    rename_i v
    rcases st with _ | ⟨a, st⟩
    · cases hf
    · cases a <;> simp only [reduceCtorEq] at hf
      rename_i o
      split at hf
      · rename_i hq
        obtain ⟨fs, hz, hn⟩ := qFld_spec hq (by decide)
        have ho : o < N := hE.2.2.2.1 o (by rw [hz]; exact Nat.lt_succ_self 3)
        · cases hf
          show W p l e R s me args below meth c H locs cells slots Q (F0 me pc ls (.int v :: qX E (.ref o) :: st.map (qX E)))
          rw [qX_ref (qBlt ho hE.2.2.2.2)]
          refine va_put hX hb hts hin ty0 hty hnm hown hK hP (qWld_D hE) hS o (fs := qFs E (t.1 o) t.2 0 fs) (by rw [qWld_at ho, hz]; rfl) hcl k hk (hts _ hw) (fun _ h => h) hfin (ty := .int) hd rfl rfl (qFs_len fs 0 k (by rw [hn]; decide)) hdg (fun H1 locs1 hP1 _ hS1 => ?_)
          rw [qFs_set fs 0 k (by rw [hn]; decide), Nat.zero_add, qWld_W ho (by rw [hz]; rfl)] at hP1
          exact hx H1 locs1 ls hP1 hS1 hL (qSc_W (Nat.lt_of_lt_of_le ho hE.2.2.2.2) hc)
      · cases hf
theorem q_putZ {idx ci k NF : Nat} {C : String} {T : u_T} (hdg : decode cc pc = .ok (.putfield idx, 3)) (hin : ∀ w ∈ u_ws C T NF, w ∈ Ts) (hcl : vwCl[ci]? = some (C, T, NF)) (hk : k < NF) (hw : Cond.fieldLink own idx (T k).1 (T k).2.1 (T k).2.2.1 ∈ Ts) (ty0 : Nat → FieldType) (hty : ∀ k, k < NF → parseFieldDescriptor (T k).2.2.1 = some (ty0 k)) (hnm : ∀ a, a < NF → ∀ b, b < NF → a ≠ b → (T a).2.1 ≠ (T b).2.1) (hfin : (T k).2.2.2 = false) (hd : parseFieldDescriptor (T k).2.2.1 = some .boolean) : qSnd MT NM Z N ST Ts own cc nL wp pc (qPutZ Z ci k) := by
  intro E d p l e R s me args below meth c cells slots Q F I L st t x hf hx H locs ls hP hS hL hc
  obtain ⟨hX, hb, hml, hts, hown, hK, hbs, hst, hE, hR, hC⟩ := F
  rcases st with _ | ⟨a, st⟩
  · cases hf
  · cases a <;> simp only [qPutZ, reduceCtorEq] at hf
    rename_i v
    rcases st with _ | ⟨a, st⟩
    · cases hf
    · cases a <;> simp only [reduceCtorEq] at hf
      rename_i o
      split at hf
      · rename_i hq
        obtain ⟨fs, hz, hn⟩ := qFld_spec hq (by decide)
        have ho : o < N := hE.2.2.2.1 o (by rw [hz]; exact Nat.lt_succ_self 3)
        by_cases h01 : v = 0 ∨ v = 1
        · rw [if_pos h01] at hf
          cases hf
          show W p l e R s me args below meth c H locs cells slots Q (F0 me pc ls (.int v :: qX E (.ref o) :: st.map (qX E)))
          rw [qX_ref (qBlt ho hE.2.2.2.2)]
          refine va_put hX hb hts hin ty0 hty hnm hown hK hP (qWld_D hE) hS o (fs := qFs E (t.1 o) t.2 0 fs) (by rw [qWld_at ho, hz]; rfl) hcl k hk (hts _ hw) (fun _ h => h) hfin (ty := .boolean) hd (by rcases h01 with rfl | rfl <;> rfl) (by rcases h01 with rfl | rfl <;> rfl) (qFs_len fs 0 k (by rw [hn]; decide)) hdg (fun H1 locs1 hP1 _ hS1 => ?_)
          rw [qFs_set fs 0 k (by rw [hn]; decide), Nat.zero_add, qWld_W ho (by rw [hz]; rfl)] at hP1
          exact hx H1 locs1 ls hP1 hS1 hL (qSc_W (Nat.lt_of_lt_of_le ho hE.2.2.2.2) hc)
        · rw [if_neg h01] at hf
          cases hf
      · cases hf
theorem q_putL {idx ci k NF : Nat} {C : String} {T : u_T} (hdg : decode cc pc = .ok (.putfield idx, 3)) (hin : ∀ w ∈ u_ws C T NF, w ∈ Ts) (hcl : vwCl[ci]? = some (C, T, NF)) (hk : k < NF) (hw : Cond.fieldLink own idx (T k).1 (T k).2.1 (T k).2.2.1 ∈ Ts) (ty0 : Nat → FieldType) (hty : ∀ k, k < NF → parseFieldDescriptor (T k).2.2.1 = some (ty0 k)) (hnm : ∀ a, a < NF → ∀ b, b < NF → a ≠ b → (T a).2.1 ≠ (T b).2.1) (hfin : (T k).2.2.2 = false) (hd : parseFieldDescriptor (T k).2.2.1 = some .long) (hu : ∀ o c2 fs j, Z o = (3, c2, fs) → qNth fs j = 3 → c2 = ci ∧ j = k) (hone : ∀ o o2 fs fs2, Z o = (3, ci, fs) → Z o2 = (3, ci, fs2) → o = o2) (hfar : ∀ j kd c2 fs2, j < N → Z j = (kd + 4, c2, fs2) → False) : qSnd MT NM Z N ST Ts own cc nL wp pc (qPutL Z ci k) := by
  intro E d p l e R s me args below meth c cells slots Q F I L st t x hf hx H locs ls hP hS hL hc
  obtain ⟨hX, hb, hml, hts, hown, hK, hbs, hst, hE, hR, hC⟩ := F
  rcases st with _ | ⟨a, st⟩
  · cases hf
  · cases a <;> simp only [qPutL, reduceCtorEq] at hf
    rename_i v
    rcases st with _ | ⟨a, st⟩
    · cases hf
    · cases a <;> simp only [reduceCtorEq] at hf
      rename_i o
      split at hf
      · rename_i hq
        obtain ⟨fs, hz, hn⟩ := qFld_spec hq (by decide)
        have ho : o < N := hE.2.2.2.1 o (by rw [hz]; exact Nat.lt_succ_self 3)
        cases hf
        show W p l e R s me args below meth c H locs cells slots Q (F0 me pc ls (.long v :: qX E (.ref o) :: st.map (qX E)))
        rw [qX_ref (qBlt ho hE.2.2.2.2)]
        refine va_put hX hb hts hin ty0 hty hnm hown hK hP (qWld_D hE) hS o (fs := qFs E (t.1 o) t.2 0 fs) (by rw [qWld_at ho, hz]; rfl) hcl k hk (hts _ hw) (fun _ h => h) hfin (ty := .long) hd rfl rfl (qFs_len fs 0 k (by rw [hn]; decide)) hdg (fun H1 locs1 hP1 _ hS1 => ?_)
        rw [qFs_setL fs 0 k hn (fun i hi => (hu o ci fs i hz hi).2)] at hP1
        have e2 : (qWld Z N E t).set o (qAd E o, .inr (ci, qFs E (t.1 o) v 0 fs)) = qWld Z N E (t.1, v) := by
          refine qWld_upd ho (fun j hj hne => ?_) (by rw [hz]; rfl)
          show qMk E (t.1 j) v (Z j) = qMk E (t.1 j) t.2 (Z j)
          rcases hzj : Z j with ⟨kd, c2, fs2⟩
          rcases kd with _ | _ | _ | _ | kd
          · rfl
          · rfl
          · rfl
          · refine congrArg (fun q => Sum.inr (c2, q)) (qFs_noL fs2 0 (fun i hi => hne ?_))
            obtain ⟨rfl, -⟩ := hu j c2 fs2 i hzj hi
            exact hone j o fs2 fs hzj hz
          · exact (hfar j kd c2 fs2 hj hzj).elim
        rw [e2] at hP1
        exact hx H1 locs1 ls hP1 hS1 hL hc
      · cases hf
end QM
end
section
/-! rows, texts, statics -/
theorem qCpy_other {s : qMem} {o o2 sp dp n a : Nat} (h : a ≠ o2) : (qCpy s o o2 sp dp n).1 a = s.1 a := by
  funext b
  show (if a = o2 then va_cpy (s.1 o) (s.1 o2) sp dp n b else s.1 a b) = s.1 a b
  rw [if_neg h]
theorem qCpy_row {s : qMem} {o o2 sp dp n : Nat} : (qCpy s o o2 sp dp n).1 o2 = va_cpy (s.1 o) (s.1 o2) sp dp n := by
  funext b
  show (if o2 = o2 then va_cpy (s.1 o) (s.1 o2) sp dp n b else s.1 o2 b) = va_cpy (s.1 o) (s.1 o2) sp dp n b
  rw [if_pos rfl]
section QR
variable {MT : Nat → qMI} {NM : qNmT} {Z : Nat → qSh} {N : Nat} {ST : qEnv → State → Heap → Prop} {Ts : List Cond} {own : String} {cc : ByteArray} {nL wp pc : Nat}
theorem q_iald (hQ : qSTok Z ST) (hdg : decode cc pc = .ok (.iaload, 1)) : qSnd MT NM Z N ST Ts own cc nL wp pc (qIald Z) := by
  intro E d p l e R s me args below meth c cells slots Q F I L st t x hf hx H locs ls hP hS hL hc
  obtain ⟨hX, hb, hml, hts, hown, hK, hbs, hst, hE, hR, hC⟩ := F
  rcases st with _ | ⟨a, st⟩
  · cases hf
  · cases a <;> simp only [qIald, reduceCtorEq] at hf
    rename_i i
    rcases st with _ | ⟨a, st⟩
    · cases hf
    · cases a <;> (try simp only [reduceCtorEq] at hf)
      rename_i o
      show W p l e R s me args below meth c H locs cells slots Q (F0 me pc ls (.int i :: qX E (.ref o) :: st.map (qX E)))
      obtain ⟨h4, h5, h6, h7⟩ := hQ.1 E s s.heap hst
      split at hf
      · rename_i n fs hz
        by_cases hi : qIn i n
        · rw [if_pos hi] at hf
          cases hf
          have ho : o < N := hE.2.2.2.1 o (by rw [hz]; exact Nat.zero_lt_succ 3)
          rw [qX_ref (qBlt ho hE.2.2.2.2)]
          exact va_iald hX hb hK hP o 0 (f := t.1 o) (by rw [qWld_at ho, hz]; rfl) rfl (qIn_vp hi) hdg (hx H locs ls hP hS hL hc)
        · rw [if_neg hi] at hf
          cases hf
      · rename_i n fs hz
        by_cases hi : qIn i n
        · rw [if_pos hi] at hf
          cases hf
          obtain ⟨hk, hT⟩ := h4 o n fs hz
          rw [qX_ref hk]
          exact va_ti hX hb hT hS (qIn_vp hi) rfl hdg (hx H locs ls hP hS hL hc)
        · rw [if_neg hi] at hf
          cases hf
      · rename_i n fs hz
        obtain ⟨rfl, hL2, hT⟩ := h7 o n fs hz
        rw [hc.2, nI_toInt hL2] at hf
        by_cases hi : 0 ≤ i.toInt ∧ i.toInt < (qLn E : Int)
        · rw [if_pos hi] at hf
          cases hf
          rw [qX_ref rfl]
          have hlt : i.toNatClampNeg < qLn E := Nat.not_le.mp fun q => qIn_vp hi (Or.inr q)
          exact va_ti hX hb hT hS (qIn_vp hi) (v := .int (t.1 70 i.toNatClampNeg)) (by rw [hc.1 _ hlt]) hdg (hx H locs ls hP hS hL hc)
        · rw [if_neg hi] at hf
          cases hf
      · cases hf
theorem q_bald (hQ : qSTok Z ST) (hdg : decode cc pc = .ok (.baload, 1)) : qSnd MT NM Z N ST Ts own cc nL wp pc (qBald Z) := by
  intro E d p l e R s me args below meth c cells slots Q F I L st t x hf hx H locs ls hP hS hL hc
  obtain ⟨hX, hb, hml, hts, hown, hK, hbs, hst, hE, hR, hC⟩ := F
  rcases st with _ | ⟨a, st⟩
  · cases hf
  · cases a <;> simp only [qBald, reduceCtorEq] at hf
    rename_i i
    rcases st with _ | ⟨a, st⟩
    · cases hf
    · cases a <;> (try simp only [reduceCtorEq] at hf)
      rename_i o
      show W p l e R s me args below meth c H locs cells slots Q (F0 me pc ls (.int i :: qX E (.ref o) :: st.map (qX E)))
      obtain ⟨h4, h5, h6, h7⟩ := hQ.1 E s s.heap hst
      split at hf
      · rename_i n fs hz
        by_cases hi : qIn i n
        · rw [if_pos hi] at hf
          cases hf
          have ho : o < N := hE.2.2.2.1 o (by rw [hz]; exact (by decide : 1 < 4))
          rw [qX_ref (qBlt ho hE.2.2.2.2)]
          exact va_zald hX hb hK hP o 1 (f := t.1 o) (by rw [qWld_at ho, hz]; rfl) rfl (qIn_vp hi) hdg (hx H locs ls hP hS hL hc)
        · rw [if_neg hi] at hf
          cases hf
      · rename_i n fs hz
        by_cases hi : qIn i n
        · rw [if_pos hi] at hf
          cases hf
          obtain ⟨hk, hT⟩ := h5 o n fs hz
          rw [qX_ref hk]
          exact va_tb hX hb hT hS (qIn_vp hi) rfl hdg (hx H locs ls hP hS hL hc)
        · rw [if_neg hi] at hf
          cases hf
      · cases hf
theorem q_iast (hdg : decode cc pc = .ok (.iastore, 1)) : qSnd MT NM Z N ST Ts own cc nL wp pc (qIast Z) := by
  intro E d p l e R s me args below meth c cells slots Q F I L st t x hf hx H locs ls hP hS hL hc
  obtain ⟨hX, hb, hml, hts, hown, hK, hbs, hst, hE, hR, hC⟩ := F
  rcases st with _ | ⟨a, st⟩
  · cases hf
  · cases a <;> simp only [qIast, reduceCtorEq] at hf
    rename_i v
    rcases st with _ | ⟨a, st⟩
    · cases hf
    · cases a <;> (try simp only [reduceCtorEq] at hf)
      rename_i i
      rcases st with _ | ⟨a, st⟩
      · cases hf
      · cases a <;> (try simp only [reduceCtorEq] at hf)
        rename_i o
        show W p l e R s me args below meth c H locs cells slots Q (F0 me pc ls (.int v :: .int i :: qX E (.ref o) :: st.map (qX E)))
        split at hf
        · rename_i n fs hz
          by_cases hi : qIn i n
          · rw [if_pos hi] at hf
            cases hf
            have ho : o < N := hE.2.2.2.1 o (by rw [hz]; exact Nat.zero_lt_succ 3)
            rw [qX_ref (qBlt ho hE.2.2.2.2)]
            refine va_iast hX hb hK hP (qWld_D hE) hS o 0 (f := t.1 o) (by rw [qWld_at ho, hz]; rfl) rfl (qIn_vp hi) hdg (fun H1 locs1 hP1 _ hS1 => ?_)
            rw [qWld_W ho (by rw [hz]; rfl)] at hP1
            exact hx H1 locs1 ls hP1 hS1 hL (qSc_W (Nat.lt_of_lt_of_le ho hE.2.2.2.2) hc)
          · rw [if_neg hi] at hf
            cases hf
        · cases hf
theorem q_bast (hdg : decode cc pc = .ok (.bastore, 1)) : qSnd MT NM Z N ST Ts own cc nL wp pc (qBast Z) := by
  intro E d p l e R s me args below meth c cells slots Q F I L st t x hf hx H locs ls hP hS hL hc
  obtain ⟨hX, hb, hml, hts, hown, hK, hbs, hst, hE, hR, hC⟩ := F
  rcases st with _ | ⟨a, st⟩
  · cases hf
  · cases a <;> simp only [qBast, reduceCtorEq] at hf
    rename_i v
    rcases st with _ | ⟨a, st⟩
    · cases hf
    · cases a <;> (try simp only [reduceCtorEq] at hf)
      rename_i i
      rcases st with _ | ⟨a, st⟩
      · cases hf
      · cases a <;> (try simp only [reduceCtorEq] at hf)
        rename_i o
        show W p l e R s me args below meth c H locs cells slots Q (F0 me pc ls (.int v :: .int i :: qX E (.ref o) :: st.map (qX E)))
        split at hf
        · rename_i n fs hz
          by_cases hi : qIn i n ∧ (v = 0 ∨ v = 1)
          · rw [if_pos hi] at hf
            cases hf
            have ho : o < N := hE.2.2.2.1 o (by rw [hz]; exact (by decide : 1 < 4))
            have hv : vp_nar .boolean v = v := by rcases hi.2 with rfl | rfl <;> rfl
            rw [qX_ref (qBlt ho hE.2.2.2.2)]
            refine va_zast hX hb hK hP (qWld_D hE) hS o 1 (f := t.1 o) (by rw [qWld_at ho, hz]; rfl) rfl (qIn_vp hi.1) hdg (fun H1 locs1 hP1 _ hS1 => ?_)
            rw [hv, qWld_W ho (by rw [hz]; rfl)] at hP1
            exact hx H1 locs1 ls hP1 hS1 hL (qSc_W (Nat.lt_of_lt_of_le ho hE.2.2.2.2) hc)
          · rw [if_neg hi] at hf
            cases hf
        · cases hf
theorem q_aald (hdg : decode cc pc = .ok (.aaload, 1)) : qSnd MT NM Z N ST Ts own cc nL wp pc (qAald Z) := by
  intro E d p l e R s me args below meth c cells slots Q F I L st t x hf hx H locs ls hP hS hL hc
  obtain ⟨hX, hb, hml, hts, hown, hK, hbs, hst, hE, hR, hC⟩ := F
  rcases st with _ | ⟨a, st⟩
  · cases hf
  · cases a <;> simp only [qAald, reduceCtorEq] at hf
    rename_i i
    rcases st with _ | ⟨a, st⟩
    · cases hf
    · cases a <;> (try simp only [reduceCtorEq] at hf)
      rename_i o
      show W p l e R s me args below meth c H locs cells slots Q (F0 me pc ls (.int i :: qX E (.ref o) :: st.map (qX E)))
      split at hf
      · rename_i a b hz
        have ho : o < N := hE.2.2.2.1 o (by rw [hz]; exact (by decide : 2 < 4))
        rw [qX_ref (qBlt ho hE.2.2.2.2)]
        cases hab : (Nat.blt a 150 && Nat.blt b 150) with
        | false => rw [hab] at hf; cases hf
        | true =>
          rw [hab] at hf
          simp only [cond_true] at hf
          rw [Bool.and_eq_true] at hab
          have key : ∀ (k : Nat) (r : Nat), i.toNatClampNeg = k → vp_in i 2 → qNth [a, b] k = r → Nat.blt r 150 = true → k < 2 → W p l e R s me args below meth c H locs cells slots Q (F0 me (pc + 1) ls (qX E (.ref r) :: st.map (qX E))) → W p l e R s me args below meth c H locs cells slots Q (F0 me pc ls (.int i :: .ref (qAd E o) :: st.map (qX E))) := by
            intro k r hik hin hr hb2 hk2 hw
            refine va_aldq hX hb hK hP o 2 (n := 2) (C := "GiantStair$Journey") (by rw [qWld_at ho, hz]; rfl) rfl hin hdg ?_
            rw [hik]
            have e : (if k < [a, b].length then some (qAd E (qNth [a, b] k)) else none) = some (qAd E r) := by rw [if_pos (show k < [a, b].length from hk2), hr]
            rw [e]
            rw [qX_ref hb2] at hw
            exact hw
          by_cases h0 : i = 0
          · rw [if_pos h0] at hf
            cases hf
            subst h0
            exact key 0 a rfl (vp_in_iff.mpr ⟨by decide, by decide⟩) rfl hab.1 (by decide) (hx H locs ls hP hS hL hc)
          · rw [if_neg h0] at hf
            by_cases h1 : i = 1
            · rw [if_pos h1] at hf
              cases hf
              subst h1
              exact key 1 b rfl (vp_in_iff.mpr ⟨by decide, by decide⟩) rfl hab.2 (by decide) (hx H locs ls hP hS hL hc)
            · rw [if_neg h1] at hf
              cases hf
      · cases hf
theorem q_alen (hQ : qSTok Z ST) (hdg : decode cc pc = .ok (.arraylength, 1)) : qSnd MT NM Z N ST Ts own cc nL wp pc (qAlen Z) := by
  intro E d p l e R s me args below meth c cells slots Q F I L st t x hf hx H locs ls hP hS hL hc
  obtain ⟨hX, hb, hml, hts, hown, hK, hbs, hst, hE, hR, hC⟩ := F
  rcases st with _ | ⟨a, st⟩
  · cases hf
  · cases a <;> simp only [qAlen, reduceCtorEq] at hf
    rename_i o
    show W p l e R s me args below meth c H locs cells slots Q (F0 me pc ls (qX E (.ref o) :: st.map (qX E)))
    obtain ⟨h4, h5, h6, h7⟩ := hQ.1 E s s.heap hst
    split at hf
    · rename_i n fs hz
      cases hf
      have ho : o < N := hE.2.2.2.1 o (by rw [hz]; exact Nat.zero_lt_succ 3)
      rw [qX_ref (qBlt ho hE.2.2.2.2)]
      exact va_alen hX hb hK hP o 0 (x := (n, .inl (t.1 o))) (by rw [qWld_at ho, hz]; rfl) rfl rfl hdg (hx H locs ls hP hS hL hc)
    · rename_i n fs hz
      cases hf
      obtain ⟨hk, hT⟩ := h4 o n fs hz
      rw [qX_ref hk]
      exact va_tlen hX hb hT hS rfl hdg (hx H locs ls hP hS hL hc)
    · rename_i n fs hz
      cases hf
      obtain ⟨hk, hT⟩ := h5 o n fs hz
      rw [qX_ref hk]
      exact va_tlen hX hb hT hS rfl hdg (hx H locs ls hP hS hL hc)
    · rename_i n fs hz
      cases hf
      obtain ⟨rfl, hL2, hT⟩ := h7 o n fs hz
      rw [qX_ref rfl]
      exact va_tlen hX hb hT hS (v := t.1 71 0) hc.2.symm hdg (hx H locs ls hP hS hL hc)
    · cases hf
theorem q_getTV (hQ : qSTok Z ST) {idx : Nat} (hdg : decode cc pc = .ok (.getfield idx, 3)) (hw : Cond.fieldLink own idx "java/lang/String" "value" "[B" ∈ Ts) : qSnd MT NM Z N ST Ts own cc nL wp pc (qGetTV Z) := by
  intro E d p l e R s me args below meth c cells slots Q F I L st t x hf hx H locs ls hP hS hL hc
  obtain ⟨hX, hb, hml, hts, hown, hK, hbs, hst, hE, hR, hC⟩ := F
  rcases st with _ | ⟨a, st⟩
  · cases hf
  · cases a <;> simp only [qGetTV, reduceCtorEq] at hf
    rename_i o
    show W p l e R s me args below meth c H locs cells slots Q (F0 me pc ls (qX E (.ref o) :: st.map (qX E)))
    obtain ⟨h4, h5, h6, h7⟩ := hQ.1 E s s.heap hst
    split at hf
    · rename_i b fs hz
      cases hf
      have h9 := h6 o b fs hz
      rw [qX_ref h9.1]
      refine vk_getf hX hb h9.2.2.2.2 hS hown (hts _ hw) (fun _ h => h) hdg ?_
      have h2 := hx H locs ls hP hS hL hc
      simp only [List.map_cons, qX_ref h9.2.1] at h2
      exact h2
    · cases hf
theorem q_getTC (hQ : qSTok Z ST) {idx : Nat} (hdg : decode cc pc = .ok (.getfield idx, 3)) (hw : Cond.fieldLink own idx "java/lang/String" "coder" "B" ∈ Ts) : qSnd MT NM Z N ST Ts own cc nL wp pc (qGetTC Z) := by
  intro E d p l e R s me args below meth c cells slots Q F I L st t x hf hx H locs ls hP hS hL hc
  obtain ⟨hX, hb, hml, hts, hown, hK, hbs, hst, hE, hR, hC⟩ := F
  rcases st with _ | ⟨a, st⟩
  · cases hf
  · cases a <;> simp only [qGetTC, reduceCtorEq] at hf
    rename_i o
    show W p l e R s me args below meth c H locs cells slots Q (F0 me pc ls (qX E (.ref o) :: st.map (qX E)))
    obtain ⟨h4, h5, h6, h7⟩ := hQ.1 E s s.heap hst
    split at hf
    · rename_i b fs hz
      cases hf
      have h9 := h6 o b fs hz
      rw [qX_ref h9.1]
      refine vk_getf hX hb h9.2.2.2.1 hS hown (hts _ hw) (fun _ h => h) hdg ?_
      have h2 := hx H locs ls hP hS hL hc
      
      exact h2
    · cases hf
theorem q_gets {idx o : Nat} {C n ds : String} (hz : ∀ (E : qEnv) (U : State) (H : Heap), ST E U H → va_Z C n ds (qX E (.ref o)) (qA E) U H) (hdg : decode cc pc = .ok (.getstatic idx, 3)) (hw : Cond.fieldLink own idx C n ds ∈ Ts) : qSnd MT NM Z N ST Ts own cc nL wp pc (qStat o) := by
  intro E d p l e R s me args below meth c cells slots Q F I L st t x hf hx H locs ls hP hS hL hc
  obtain ⟨hX, hb, hml, hts, hown, hK, hbs, hst, hE, hR, hC⟩ := F
  cases hf
  exact va_gets hX hb (hz E s s.heap hst) hS hown (hts _ hw) (fun _ h => h) hdg (hx H locs ls hP hS hL hc)
theorem q_getsI {idx : Nat} {v : Int32} {C n ds : String} (hz : ∀ (E : qEnv) (U : State) (H : Heap), ST E U H → va_Z C n ds (.int v) (qA E) U H) (hdg : decode cc pc = .ok (.getstatic idx, 3)) (hw : Cond.fieldLink own idx C n ds ∈ Ts) : qSnd MT NM Z N ST Ts own cc nL wp pc (qIconst 3 v) := by
  intro E d p l e R s me args below meth c cells slots Q F I L st t x hf hx H locs ls hP hS hL hc
  obtain ⟨hX, hb, hml, hts, hown, hK, hbs, hst, hE, hR, hC⟩ := F
  cases hf
  exact va_gets hX hb (hz E s s.heap hst) hS hown (hts _ hw) (fun _ h => h) hdg (hx H locs ls hP hS hL hc)
theorem q_ldcS {idx o : Nat} {tx : String} (hk : Nat.blt o 150 = true) (hz : ∀ (E : qEnv) (U : State) (H : Heap), ST E U H → vk_R own idx tx (qAd E o) U) (hdg : decode cc pc = .ok (.ldc idx, 2)) : qSnd MT NM Z N ST Ts own cc nL wp pc (fun _ x => match x with | (pc, L, st, s) => some (pc + 2, L, .ref o :: st, s)) := by
  intro E d p l e R s me args below meth c cells slots Q F I L st t x hf hx H locs ls hP hS hL hc
  obtain ⟨hX, hb, hml, hts, hown, hK, hbs, hst, hE, hR, hC⟩ := F
  cases hf
  have h2 := hx H locs ls hP hS hL hc
  simp only [List.map_cons, qX_ref hk] at h2
  exact va_ldcS hX hb hown (hz E s s.heap hst) hdg h2
theorem q_copy {idx : Nat} (hdg : decode cc pc = .ok (.invokestatic idx, 3)) (h1w : Cond.methodLink own idx arraycopyName ∈ Ts) (h2w : Cond.native arraycopyName ∈ Ts) (h3w : Cond.static arraycopyName ∈ Ts) (h4w : Cond.initialized "java/lang/System" ∈ Ts) : qSnd MT NM Z N ST Ts own cc nL wp pc (qCopy Z) := by
  intro E d p l e R s me args below meth c cells slots Q F I L st t x hf hx H locs ls hP hS hL hc
  obtain ⟨hX, hb, hml, hts, hown, hK, hbs, hst, hE, hR, hC⟩ := F
  rcases st with _ | ⟨a, st⟩
  · cases hf
  · cases a <;> simp only [qCopy, reduceCtorEq] at hf
    rename_i n
    rcases st with _ | ⟨a, st⟩
    · cases hf
    · cases a <;> (try simp only [reduceCtorEq] at hf)
      rename_i dp
      rcases st with _ | ⟨a, st⟩
      · cases hf
      · cases a <;> (try simp only [reduceCtorEq] at hf)
        rename_i o2
        rcases st with _ | ⟨a, st⟩
        · cases hf
        · cases a <;> (try simp only [reduceCtorEq] at hf)
          rename_i sp
          rcases st with _ | ⟨a, st⟩
          · cases hf
          · cases a <;> (try simp only [reduceCtorEq] at hf)
            rename_i o
            show W p l e R s me args below meth c H locs cells slots Q (F0 me pc ls (.int n :: .int dp :: qX E (.ref o2) :: .int sp :: qX E (.ref o) :: st.map (qX E)))
            split at hf
            · rename_i n0 fs n1 fs2 hz hz2
              by_cases hi : (0 ≤ sp.toInt ∧ 0 ≤ dp.toInt ∧ 0 ≤ n.toInt) ∧ sp.toInt + n.toInt ≤ (n0 : Int) ∧ dp.toInt + n.toInt ≤ (n1 : Int)
              · rw [if_pos hi] at hf
                cases hwd : Nat.ble (qWid st) 8 with
                | false => rw [hwd] at hf; cases hf
                | true =>
                rw [hwd] at hf
                cases hf
                have ho : o < N := hE.2.2.2.1 o (by rw [hz]; exact Nat.zero_lt_succ 3)
                have ho2 : o2 < N := hE.2.2.2.1 o2 (by rw [hz2]; exact Nat.zero_lt_succ 3)
                rw [qX_ref (qBlt ho hE.2.2.2.2), qX_ref (qBlt ho2 hE.2.2.2.2)]
                obtain ⟨⟨g1, g2, g3⟩, g4, g5⟩ := hi
                have ng : ∀ z : Int32, 0 ≤ z.toInt → ¬ z < 0 := fun z hz h => by
                  have := Int32.lt_iff_toInt_lt.mp h
                  have e0 : (0 : Int32).toInt = 0 := by decide
                  omega
                have nn : ∀ z : Int32, 0 ≤ z.toInt → (z.toNatClampNeg : Int) = z.toInt := fun z hz => by
                  show ((z.toInt.toNat : Nat) : Int) = z.toInt
                  omega
                have q1 := nn sp g1
                have q2 := nn dp g2
                have q3 := nn n g3
                have hwid : ((st.map (qX E)).map fun v => v.category).sum ≤ 8 := by
                  rw [qX_wid hE.2.2.1.1]
                  exact Nat.le_of_ble_eq_true hwd
                refine va_copyi hX hb (by rw [hml]; exact hL.1.symm) hown (hts _ h1w) (hts _ h2w) (hts _ h3w) (hts _ h4w) hK hP (qWld_D hE) hS o o2 0 0 (f := t.1 o) (g := t.1 o2) (by rw [qWld_at ho, hz]; rfl) (by rw [qWld_at ho2, hz2]; rfl) rfl rfl rfl (ng sp g1) (ng dp g2) (ng n g3) (by omega) (by omega) (fun _ _ => rfl) (by omega) ?_ hdg (fun H1 locs1 hP1 _ hS1 => ?_)
                · have e : nativeFrameWords "java/lang/System" "arraycopy" 5 = 7 := by decide
                  rw [e]
                  omega
                · have e2 : (qWld Z N E t).set o2 (qAd E o2, .inl (qCA E .int, n1, .inl (va_cpy (t.1 o) (t.1 o2) sp.toNatClampNeg dp.toNatClampNeg n.toNatClampNeg))) = qWld Z N E (qCpy t o o2 sp.toNatClampNeg dp.toNatClampNeg n.toNatClampNeg) := by
                    refine qWld_upd ho2 (fun j _ hj => ?_) ?_
                    · rw [qCpy_other hj]
                      rfl
                    · rw [qCpy_row, hz2]
                      rfl
                  rw [e2] at hP1
                  refine hx H1 locs1 ls hP1 hS1 hL ⟨fun j hj => ?_, ?_⟩
                  · show (qCpy t o o2 _ _ _).1 70 j = _
                    have h60 := Nat.lt_of_lt_of_le ho2 hE.2.2.2.2
                    rw [qCpy_other (Nat.ne_of_gt (Nat.lt_of_lt_of_le h60 (by decide)))]
                    exact hc.1 j hj
                  · show (qCpy t o o2 _ _ _).1 71 0 = _
                    have h60 := Nat.lt_of_lt_of_le ho2 hE.2.2.2.2
                    rw [qCpy_other (Nat.ne_of_gt (Nat.lt_of_lt_of_le h60 (by decide)))]
                    exact hc.2
              · rw [if_neg hi] at hf
                cases hf
            · cases hf
end QR
end
section
/-! calls are sound -/
theorem q_back {p : Program} {l : Launch} {e : Env} {R : Room} {s : State} {m : MethodId} {args : Array Value} {below : List Frame} {meth : Method} {c : Code} {H H0 : Heap} {locs : List Loc} {cells slots : Nat} {Q : State → Prop} {pc : Nat} {ls : Array Slot} {rest st0 : List Value} {a : Array Value} {Z : Nat → qSh} {N : Nat} {E : qEnv} {r : Option Value} {s2 : qMem}
    (hr : va_Run p l e R s m args below meth c H locs cells slots 0 0 (F0 m pc ls st0) rest (qQ Z N E r s2 a) (qA E)) (hS : va_S (qA E) H0 H locs)
    (kk : ∀ (H1 : Heap) (locs1 : List Loc), va_P (qDD E) vwCl (qWld Z N E s2) H1 → va_S (qA E) H0 H1 locs1 → qSc E s2 → W p l e R s m args below meth c H1 locs1 cells slots Q (F0 m (pc + 3) ls ((r.map (qX E)).toList ++ rest))) : W p l e R s m args below meth c H locs cells slots Q (F0 m pc ls st0) := by
  intro T hT X
  obtain ⟨v, st₀, t, T', L, h0, X', hL, e1, e2, ⟨⟨hv, hP, hc⟩, hz, hk⟩, st⟩ := hr T hT X
  have hv2 : v = r.map (qX E) := by cases hv; rfl
  subst hv2
  rw [h0] at hz hk
  obtain ⟨t2, a1, b1⟩ := kk T'.heap (locs ++ L) (by rw [e1]; exact hP)
    ⟨Nat.le_trans hS.1 (by rw [e1]; exact hz), fun q h1 h2 => by rw [e1, hk q (Nat.lt_of_lt_of_le h1 hS.1) h2]; exact hS.2.1 q h1 h2, fun q hq => by
      rcases List.mem_append.mp hq with h | h
      · exact hS.2.2 q h
      · exact hL q h⟩ hc T' rfl X'
  exact ⟨t2, st t2 a1, b1⟩
theorem qWorld_blind {Z : Nat → qSh} {N : Nat} {ST : qEnv → State → Heap → Prop} {E : qEnv} {t : qMem} {U : State} (hQ : qSTok Z ST) (g : JFrame) (mk : MethodId) (a : Array Value) (h : qWorld Z N ST E t U) : qWorld Z N ST E t (U.calling g mk a) := ⟨h.1, h.2.1, va_K.moved (u := U) (U := U.calling g mk a) (Vm.Alike.refl U.vm) h.2.2.1, hQ.2.2 E U g mk a h.2.2.2.1, h.2.2.2.2⟩
theorem qWorld_blindP {Z : Nat → qSh} {N : Nat} {ST : qEnv → State → Heap → Prop} {E : qEnv} {t : qMem} (hQ : qSTok Z ST) (av : List Value) : FrameBlind (va_Pc av (fun U => qWorld Z N ST E t U)) := fun a U g mk h => ⟨h.1, qWorld_blind hQ g mk a h.2⟩
section QCL
variable {MT : Nat → qMI} {NM : qNmT} {Z : Nat → qSh} {N : Nat} {ST : qEnv → State → Heap → Prop} {Ts : List Cond} {own : String} {cc : ByteArray} {nL wp pc : Nat}
variable {E : qEnv} {d : Nat} {p : Program} {l : Launch} {e : Env} {R : Room} {s : State} {me : MethodId} {args : Array Value} {below : List Frame} {meth : Method} {c : Code} {cells slots : Nat} {Q : State → Prop}
theorem q_world {H : Heap} {locs : List Loc} {t : qMem} (hQ : qSTok Z ST) (F : qFr Z N ST E Ts own cc nL d p R s me args c cells slots) (hP : va_P (qDD E) vwCl (qWld Z N E t) H) (hS : va_S (qA E) s.heap H locs) (hc : qSc E t) (U : State) (hU : U.heap = H) (hW : s.WarmedH U.vm) : qWorld Z N ST E t U := by
  obtain ⟨hX, hb, hml, hts, hown, hK, hbs, hst, hE, hR, hC⟩ := F
  refine ⟨by rw [hU]; exact Nat.le_trans hbs hS.1, by rw [hU]; exact hP, va_K.moved hW.alike hK, hQ.2.1 E s U H locs hst hW hS hU, hc⟩
theorem q_runV {y k n idx maxL o : Nat} {C : String} {Y : MethodName} {wsY ws' : List Cond} {bytes : ByteArray} {ret : Option FieldType} {As st : List Value} {t t2 : qMem} {r : Option Value} {H : Heap} {locs : List Loc} {ls : Array Slot} (hQ : qSTok Z ST) (hNM : NM y = (Y, wsY)) (hG : GoodIn Ts (wsV own idx C Y wsY)) (hws : wsY = Cond.code Y bytes maxL ret :: ws') (hd : Y.cls = C ∧ Y.cls ≠ "java/lang/invoke/MethodHandle" ∧ Y.cls ≠ "java/lang/invoke/VarHandle" ∧ (parseMethodDescriptor Y.desc).map (fun d => d.parameters.length) = some n) (hmx : maxL ≤ 20) (hk : (∃ q : vw_C, vwCl[k]? = some q ∧ q.1 = C) ∨ (k = 99 ∧ C = "java/lang/String"))
    (hdg : decode cc pc = .ok (.invokevirtual idx, 3)) (F : qFr Z N ST E Ts own cc nL d p R s me args c cells slots) (I : qIH MT NM Z N ST E l d) (hrc : qRcv Z k (.ref o :: As) = true) (hkn : k ≠ 100) (hn : As.length = n) (hwd : qWid st ≤ 8) (hcall : qCall MT d y (.ref o :: As) t = some (r, t2))
    (hP : va_P (qDD E) vwCl (qWld Z N E t) H) (hS : va_S (qA E) s.heap H locs) (hL : ls.size = nL) (hc : qSc E t)
    (kk : ∀ (H1 : Heap) (locs1 : List Loc), va_P (qDD E) vwCl (qWld Z N E t2) H1 → va_S (qA E) s.heap H1 locs1 → qSc E t2 → W p l e R s me args below meth c H1 locs1 cells slots Q (F0 me (pc + 3) ls ((r.map (qX E)).toList ++ st.map (qX E)))) : W p l e R s me args below meth c H locs cells slots Q (F0 me pc ls ((As.map (qX E)).reverse ++ qX E (.ref o) :: st.map (qX E))) := by
  have hM := I y (.ref o :: As) t r t2 hcall
  rw [hNM] at hM
  have hw := q_world hQ F hP hS hc
  obtain ⟨hX, hb, hml, hts, hown, hK, hbs, hst, hE, hR, hC⟩ := F
  have hob : Nat.blt o 150 = true ∧ ∃ cell : Cell, H[qAd E o]? = some cell ∧ cell.vm.isStatics = false ∧ s.vm.findClass C = some cell.cls := by
    unfold qRcv at hrc
    cases h100 : Nat.beq k 100 with
    | true => exact absurd (Nat.eq_of_beq_eq_true h100) hkn
    | false =>
      rw [h100] at hrc
      simp only [cond_false] at hrc
      split at hrc
      · rename_i c2 fs hz
        have e2 : c2 = k := Nat.eq_of_beq_eq_true hrc
        subst e2
        have ho : o < N := hE.2.2.2.1 o (by rw [hz]; exact Nat.lt_succ_self 3)
        refine ⟨qBlt ho hE.2.2.2.2, ?_⟩
        rcases hk with ⟨q, hq, rfl⟩ | ⟨rfl, rfl⟩
        · exact va_recv hK hP hq (q0 := o) (fs := qFs E (t.1 o) t.2 0 fs) (by rw [qWld_at ho, hz]; rfl)
        · have := (hP o _ (qWld_at ho))
          rw [hz] at this
          obtain ⟨r, h1, -⟩ := this
          cases h1
      · rename_i b fs hz
        have e2 : k = 99 := Nat.eq_of_beq_eq_true hrc
        have h9 := (hQ.1 E s s.heap hst).2.2.1 o b fs hz
        refine ⟨h9.1, ?_⟩
        rcases hk with ⟨q, hq, rfl⟩ | ⟨-, rfl⟩
        · rw [e2] at hq
          cases hq
        · obtain ⟨cell, h1, h2, h3, -⟩ := h9.2.2.1.kept hS.2.1
          exact ⟨cell, h1, h2, h3⟩
      · cases hrc
  rw [qX_ref hob.1]
  have hPre : PreV s H C (qAd E o) (va_Pc ((Value.ref o :: As).map (qX E)) (fun U => qWorld Z N ST E t U)) (As.map (qX E)) := by
    refine ⟨qWorld_blindP hQ _, hob.2, fun U hU hW => ⟨?_, hw U hU hW⟩⟩
    rw [List.map_cons, qX_ref hob.1]
  refine q_back (va_runV (As := As.map (qX E)) (rest := st.map (qX E)) ⟨hX, hb, hml, hown, hts⟩ hM (cwV n hts hG hws rfl rfl hd ⟨?_, ?_⟩) hPre rfl (by rw [List.length_map]; exact hn) hL rfl (lv_room (by rw [qX_wid hE.2.2.1.1]; exact hwd)) hdg hC) hS kk
  · exact hR.1
  · show 8 + (maxL + 11) + 40 * d ≤ R.locals
    omega
theorem q_runS {y n idx maxL : Nat} {Y : MethodName} {wsY ws' : List Cond} {bytes : ByteArray} {ret : Option FieldType} {As st : List Value} {t t2 : qMem} {r : Option Value} {H : Heap} {locs : List Loc} {ls : Array Slot} (hQ : qSTok Z ST) (hNM : NM y = (Y, wsY)) (hG : GoodIn Ts (va_wsS own idx Y wsY)) (hws : wsY = Cond.code Y bytes maxL ret :: ws') (hd : Y.cls ≠ "java/lang/invoke/MethodHandle" ∧ Y.cls ≠ "java/lang/invoke/VarHandle" ∧ (parseMethodDescriptor Y.desc).map (fun d => d.parameters.length) = some n) (hmx : maxL ≤ 20)
    (hdg : decode cc pc = .ok (.invokestatic idx, 3)) (F : qFr Z N ST E Ts own cc nL d p R s me args c cells slots) (I : qIH MT NM Z N ST E l d) (hn : As.length = n) (hwd : qWid st ≤ 8) (hcall : qCall MT d y As t = some (r, t2))
    (hP : va_P (qDD E) vwCl (qWld Z N E t) H) (hS : va_S (qA E) s.heap H locs) (hL : ls.size = nL) (hc : qSc E t)
    (kk : ∀ (H1 : Heap) (locs1 : List Loc), va_P (qDD E) vwCl (qWld Z N E t2) H1 → va_S (qA E) s.heap H1 locs1 → qSc E t2 → W p l e R s me args below meth c H1 locs1 cells slots Q (F0 me (pc + 3) ls ((r.map (qX E)).toList ++ st.map (qX E)))) : W p l e R s me args below meth c H locs cells slots Q (F0 me pc ls ((As.map (qX E)).reverse ++ st.map (qX E))) := by
  have hM := I y As t r t2 hcall
  rw [hNM] at hM
  have hw := q_world hQ F hP hS hc
  obtain ⟨hX, hb, hml, hts, hown, hK, hbs, hst, hE, hR, hC⟩ := F
  have hPre : PreS s H (va_Pc (As.map (qX E)) (fun U => qWorld Z N ST E t U)) (As.map (qX E)) := ⟨qWorld_blindP hQ _, fun U hU hW => ⟨rfl, hw U hU hW⟩⟩
  refine q_back (va_runS (As := As.map (qX E)) (rest := st.map (qX E)) ⟨hX, hb, hml, hown, hts⟩ hM (va_cwS n hts hG hws rfl rfl hd ⟨?_, ?_⟩) hPre rfl (by rw [List.length_map]; exact hn) hL rfl (lv_room (by rw [qX_wid hE.2.2.1.1]; exact hwd)) hdg hC) hS kk
  · exact hR.1
  · show 8 + (maxL + 11) + 40 * d ≤ R.locals
    omega
end QCL
theorem qI_spec {o : Option (Option Value × qMem)} {q : Int32 × qMem} (h : qI o = some q) : o = some (some (.int q.1), q.2) := by
  cases o with
  | none => cases h
  | some z =>
    obtain ⟨v, s⟩ := z
    cases v with
    | none => exact absurd (show (none : Option (Int32 × qMem)) = some q from h) (fun z => by cases z)
    | some w =>
      cases w with
      | int r =>
        have h2 : some (r, s) = some q := h
        rw [← Option.some.inj h2]
      | _ => exact absurd (show (none : Option (Int32 × qMem)) = some q from h) (fun z => by cases z)
theorem qV_spec {o : Option (Option Value × qMem)} {q : qMem} (h : qV o = some q) : o = some (none, q) := by
  cases o with
  | none => cases h
  | some z =>
    obtain ⟨v, s⟩ := z
    cases v with
    | none =>
      have h2 : some s = some q := h
      rw [← Option.some.inj h2]
    | some w => exact absurd (show (none : Option qMem) = some q from h) (fun z => by cases z)
theorem qR_spec {o : Option (Option Value × qMem)} {q : Nat × qMem} (h : qR o = some q) : o = some (some (.ref q.1), q.2) := by
  cases o with
  | none => cases h
  | some z =>
    obtain ⟨v, s⟩ := z
    cases v with
    | none => exact absurd (show (none : Option (Nat × qMem)) = some q from h) (fun z => by cases z)
    | some w =>
      cases w with
      | ref r =>
        have h2 : some (r, s) = some q := h
        rw [← Option.some.inj h2]
      | _ => exact absurd (show (none : Option (Nat × qMem)) = some q from h) (fun z => by cases z)
/-- the stack is the arguments, the last on top, and what is left -/
theorem q_stack (E : qEnv) (n : Nat) (st : List Value) : st.map (qX E) = ((st.take n).reverse.map (qX E)).reverse ++ (st.drop n).map (qX E) := by
  rw [List.map_reverse, List.reverse_reverse, ← List.map_append, List.take_append_drop]
theorem qRcv_spec {Z : Nat → qSh} {k : Nat} {vs : List Value} (hk : k ≠ 100) (h : qRcv Z k vs = true) : ∃ (o : Nat) (As : List Value), vs = .ref o :: As := by
  unfold qRcv at h
  cases h100 : Nat.beq k 100 with
  | true => exact absurd (Nat.eq_of_beq_eq_true h100) hk
  | false =>
    rw [h100] at h
    simp only [cond_false] at h
    split at h
    · exact ⟨_, _, rfl⟩
    · cases h
section QCM
variable {MT : Nat → qMI} {NM : qNmT} {Z : Nat → qSh} {N : Nat} {ST : qEnv → State → Heap → Prop} {Ts : List Cond} {own : String} {cc : ByteArray} {nL wp pc : Nat}
theorem q_invVI {y k n idx maxL : Nat} {C : String} {Y : MethodName} {wsY ws' : List Cond} {bytes : ByteArray} {ret : Option FieldType} (hQ : qSTok Z ST) (hNM : NM y = (Y, wsY)) (hG : GoodIn Ts (wsV own idx C Y wsY)) (hws : wsY = Cond.code Y bytes maxL ret :: ws') (hd : Y.cls = C ∧ Y.cls ≠ "java/lang/invoke/MethodHandle" ∧ Y.cls ≠ "java/lang/invoke/VarHandle" ∧ (parseMethodDescriptor Y.desc).map (fun d => d.parameters.length) = some n) (hmx : maxL ≤ 20) (hk : (∃ q : vw_C, vwCl[k]? = some q ∧ q.1 = C) ∨ (k = 99 ∧ C = "java/lang/String")) (hkn : k ≠ 100) (hdg : decode cc pc = .ok (.invokevirtual idx, 3)) : qSnd MT NM Z N ST Ts own cc nL wp pc (qInvI Z y k (n + 1)) := by
  intro E d p l e R s me args below meth c cells slots Q F I L st t x hf hx H locs ls hP hS hL hc
  simp only [qInvI] at hf
  cases hg : (qRcv Z k (st.take (n + 1)).reverse && (Nat.beq (st.take (n + 1)).length (n + 1) && Nat.ble (qWid (st.drop (n + 1))) 8)) with
  | false => rw [hg] at hf; cases hf
  | true =>
    rw [hg] at hf
    simp only [cond_true] at hf
    rw [Bool.and_eq_true, Bool.and_eq_true] at hg
    obtain ⟨hg1, hg2, hg3⟩ := hg
    have hlen := Nat.eq_of_beq_eq_true hg2
    have hwd := Nat.le_of_ble_eq_true hg3
    cases hq : qI (qCall MT d y (st.take (n + 1)).reverse t) with
    | none => rw [hq] at hf; cases hf
    | some q =>
      rw [hq] at hf
      cases hf
      have hcall := qI_spec hq
      show W p l e R s me args below meth c H locs cells slots Q (F0 me pc ls (st.map (qX E)))
      rw [q_stack E (n + 1) st]
      have hlen2 : (st.take (n + 1)).reverse.length = n + 1 := by rw [List.length_reverse]; exact hlen
      revert hg1 hcall hlen2
      generalize (st.take (n + 1)).reverse = vs
      intro hg1 hcall hlen2
      obtain ⟨o, As, rfl⟩ := qRcv_spec hkn hg1
      rw [List.map_cons, List.reverse_cons, List.append_assoc]
      exact q_runV hQ hNM hG hws hd hmx hk hdg F I hg1 hkn (Nat.succ.inj hlen2) hwd hcall hP hS hL.1 hc (fun H1 locs1 hP1 hS1 hc1 => hx H1 locs1 ls hP1 hS1 hL hc1)
theorem q_invSI {y n idx maxL : Nat} {Y : MethodName} {wsY ws' : List Cond} {bytes : ByteArray} {ret : Option FieldType} (hQ : qSTok Z ST) (hNM : NM y = (Y, wsY)) (hG : GoodIn Ts (va_wsS own idx Y wsY)) (hws : wsY = Cond.code Y bytes maxL ret :: ws') (hd : Y.cls ≠ "java/lang/invoke/MethodHandle" ∧ Y.cls ≠ "java/lang/invoke/VarHandle" ∧ (parseMethodDescriptor Y.desc).map (fun d => d.parameters.length) = some n) (hmx : maxL ≤ 20) (hdg : decode cc pc = .ok (.invokestatic idx, 3)) : qSnd MT NM Z N ST Ts own cc nL wp pc (qInvI Z y 100 n) := by
  intro E d p l e R s me args below meth c cells slots Q F I L st t x hf hx H locs ls hP hS hL hc
  simp only [qInvI] at hf
  cases hg : (qRcv Z 100 (st.take n).reverse && (Nat.beq (st.take n).length n && Nat.ble (qWid (st.drop n)) 8)) with
  | false => rw [hg] at hf; cases hf
  | true =>
    rw [hg] at hf
    simp only [cond_true] at hf
    rw [Bool.and_eq_true, Bool.and_eq_true] at hg
    obtain ⟨hg1, hg2, hg3⟩ := hg
    have hlen := Nat.eq_of_beq_eq_true hg2
    have hwd := Nat.le_of_ble_eq_true hg3
    cases hq : qI (qCall MT d y (st.take n).reverse t) with
    | none => rw [hq] at hf; cases hf
    | some q =>
      rw [hq] at hf
      cases hf
      have hcall := qI_spec hq
      show W p l e R s me args below meth c H locs cells slots Q (F0 me pc ls (st.map (qX E)))
      rw [q_stack E n st]
      exact q_runS hQ hNM hG hws hd hmx hdg F I (by rw [List.length_reverse]; exact hlen) hwd hcall hP hS hL.1 hc (fun H1 locs1 hP1 hS1 hc1 => hx H1 locs1 ls hP1 hS1 hL hc1)
theorem q_invVV {y k n idx maxL : Nat} {C : String} {Y : MethodName} {wsY ws' : List Cond} {bytes : ByteArray} {ret : Option FieldType} (hQ : qSTok Z ST) (hNM : NM y = (Y, wsY)) (hG : GoodIn Ts (wsV own idx C Y wsY)) (hws : wsY = Cond.code Y bytes maxL ret :: ws') (hd : Y.cls = C ∧ Y.cls ≠ "java/lang/invoke/MethodHandle" ∧ Y.cls ≠ "java/lang/invoke/VarHandle" ∧ (parseMethodDescriptor Y.desc).map (fun d => d.parameters.length) = some n) (hmx : maxL ≤ 20) (hk : (∃ q : vw_C, vwCl[k]? = some q ∧ q.1 = C) ∨ (k = 99 ∧ C = "java/lang/String")) (hkn : k ≠ 100) (hdg : decode cc pc = .ok (.invokevirtual idx, 3)) : qSnd MT NM Z N ST Ts own cc nL wp pc (qInvV Z y k (n + 1)) := by
  intro E d p l e R s me args below meth c cells slots Q F I L st t x hf hx H locs ls hP hS hL hc
  simp only [qInvV] at hf
  cases hg : (qRcv Z k (st.take (n + 1)).reverse && (Nat.beq (st.take (n + 1)).length (n + 1) && Nat.ble (qWid (st.drop (n + 1))) 8)) with
  | false => rw [hg] at hf; cases hf
  | true =>
    rw [hg] at hf
    simp only [cond_true] at hf
    rw [Bool.and_eq_true, Bool.and_eq_true] at hg
    obtain ⟨hg1, hg2, hg3⟩ := hg
    have hlen := Nat.eq_of_beq_eq_true hg2
    have hwd := Nat.le_of_ble_eq_true hg3
    cases hq : qV (qCall MT d y (st.take (n + 1)).reverse t) with
    | none => rw [hq] at hf; cases hf
    | some q =>
      rw [hq] at hf
      cases hf
      have hcall := qV_spec hq
      show W p l e R s me args below meth c H locs cells slots Q (F0 me pc ls (st.map (qX E)))
      rw [q_stack E (n + 1) st]
      have hlen2 : (st.take (n + 1)).reverse.length = n + 1 := by rw [List.length_reverse]; exact hlen
      revert hg1 hcall hlen2
      generalize (st.take (n + 1)).reverse = vs
      intro hg1 hcall hlen2
      obtain ⟨o, As, rfl⟩ := qRcv_spec hkn hg1
      rw [List.map_cons, List.reverse_cons, List.append_assoc]
      exact q_runV hQ hNM hG hws hd hmx hk hdg F I hg1 hkn (Nat.succ.inj hlen2) hwd hcall hP hS hL.1 hc (fun H1 locs1 hP1 hS1 hc1 => hx H1 locs1 ls hP1 hS1 hL hc1)
theorem q_invSV {y n idx maxL : Nat} {Y : MethodName} {wsY ws' : List Cond} {bytes : ByteArray} {ret : Option FieldType} (hQ : qSTok Z ST) (hNM : NM y = (Y, wsY)) (hG : GoodIn Ts (va_wsS own idx Y wsY)) (hws : wsY = Cond.code Y bytes maxL ret :: ws') (hd : Y.cls ≠ "java/lang/invoke/MethodHandle" ∧ Y.cls ≠ "java/lang/invoke/VarHandle" ∧ (parseMethodDescriptor Y.desc).map (fun d => d.parameters.length) = some n) (hmx : maxL ≤ 20) (hdg : decode cc pc = .ok (.invokestatic idx, 3)) : qSnd MT NM Z N ST Ts own cc nL wp pc (qInvV Z y 100 n) := by
  intro E d p l e R s me args below meth c cells slots Q F I L st t x hf hx H locs ls hP hS hL hc
  simp only [qInvV] at hf
  cases hg : (qRcv Z 100 (st.take n).reverse && (Nat.beq (st.take n).length n && Nat.ble (qWid (st.drop n)) 8)) with
  | false => rw [hg] at hf; cases hf
  | true =>
    rw [hg] at hf
    simp only [cond_true] at hf
    rw [Bool.and_eq_true, Bool.and_eq_true] at hg
    obtain ⟨hg1, hg2, hg3⟩ := hg
    have hlen := Nat.eq_of_beq_eq_true hg2
    have hwd := Nat.le_of_ble_eq_true hg3
    cases hq : qV (qCall MT d y (st.take n).reverse t) with
    | none => rw [hq] at hf; cases hf
    | some q =>
      rw [hq] at hf
      cases hf
      have hcall := qV_spec hq
      show W p l e R s me args below meth c H locs cells slots Q (F0 me pc ls (st.map (qX E)))
      rw [q_stack E n st]
      exact q_runS hQ hNM hG hws hd hmx hdg F I (by rw [List.length_reverse]; exact hlen) hwd hcall hP hS hL.1 hc (fun H1 locs1 hP1 hS1 hc1 => hx H1 locs1 ls hP1 hS1 hL hc1)
theorem q_invVR {y k n idx maxL : Nat} {C : String} {Y : MethodName} {wsY ws' : List Cond} {bytes : ByteArray} {ret : Option FieldType} (hQ : qSTok Z ST) (hNM : NM y = (Y, wsY)) (hG : GoodIn Ts (wsV own idx C Y wsY)) (hws : wsY = Cond.code Y bytes maxL ret :: ws') (hd : Y.cls = C ∧ Y.cls ≠ "java/lang/invoke/MethodHandle" ∧ Y.cls ≠ "java/lang/invoke/VarHandle" ∧ (parseMethodDescriptor Y.desc).map (fun d => d.parameters.length) = some n) (hmx : maxL ≤ 20) (hk : (∃ q : vw_C, vwCl[k]? = some q ∧ q.1 = C) ∨ (k = 99 ∧ C = "java/lang/String")) (hkn : k ≠ 100) (hdg : decode cc pc = .ok (.invokevirtual idx, 3)) : qSnd MT NM Z N ST Ts own cc nL wp pc (qInvR Z y k (n + 1)) := by
  intro E d p l e R s me args below meth c cells slots Q F I L st t x hf hx H locs ls hP hS hL hc
  simp only [qInvR] at hf
  cases hg : (qRcv Z k (st.take (n + 1)).reverse && (Nat.beq (st.take (n + 1)).length (n + 1) && Nat.ble (qWid (st.drop (n + 1))) 8)) with
  | false => rw [hg] at hf; cases hf
  | true =>
    rw [hg] at hf
    simp only [cond_true] at hf
    rw [Bool.and_eq_true, Bool.and_eq_true] at hg
    obtain ⟨hg1, hg2, hg3⟩ := hg
    have hlen := Nat.eq_of_beq_eq_true hg2
    have hwd := Nat.le_of_ble_eq_true hg3
    cases hq : qR (qCall MT d y (st.take (n + 1)).reverse t) with
    | none => rw [hq] at hf; cases hf
    | some q =>
      rw [hq] at hf
      cases hf
      have hcall := qR_spec hq
      show W p l e R s me args below meth c H locs cells slots Q (F0 me pc ls (st.map (qX E)))
      rw [q_stack E (n + 1) st]
      have hlen2 : (st.take (n + 1)).reverse.length = n + 1 := by rw [List.length_reverse]; exact hlen
      revert hg1 hcall hlen2
      generalize (st.take (n + 1)).reverse = vs
      intro hg1 hcall hlen2
      obtain ⟨o, As, rfl⟩ := qRcv_spec hkn hg1
      rw [List.map_cons, List.reverse_cons, List.append_assoc]
      exact q_runV hQ hNM hG hws hd hmx hk hdg F I hg1 hkn (Nat.succ.inj hlen2) hwd hcall hP hS hL.1 hc (fun H1 locs1 hP1 hS1 hc1 => hx H1 locs1 ls hP1 hS1 hL hc1)
theorem q_invSR {y n idx maxL : Nat} {Y : MethodName} {wsY ws' : List Cond} {bytes : ByteArray} {ret : Option FieldType} (hQ : qSTok Z ST) (hNM : NM y = (Y, wsY)) (hG : GoodIn Ts (va_wsS own idx Y wsY)) (hws : wsY = Cond.code Y bytes maxL ret :: ws') (hd : Y.cls ≠ "java/lang/invoke/MethodHandle" ∧ Y.cls ≠ "java/lang/invoke/VarHandle" ∧ (parseMethodDescriptor Y.desc).map (fun d => d.parameters.length) = some n) (hmx : maxL ≤ 20) (hdg : decode cc pc = .ok (.invokestatic idx, 3)) : qSnd MT NM Z N ST Ts own cc nL wp pc (qInvR Z y 100 n) := by
  intro E d p l e R s me args below meth c cells slots Q F I L st t x hf hx H locs ls hP hS hL hc
  simp only [qInvR] at hf
  cases hg : (qRcv Z 100 (st.take n).reverse && (Nat.beq (st.take n).length n && Nat.ble (qWid (st.drop n)) 8)) with
  | false => rw [hg] at hf; cases hf
  | true =>
    rw [hg] at hf
    simp only [cond_true] at hf
    rw [Bool.and_eq_true, Bool.and_eq_true] at hg
    obtain ⟨hg1, hg2, hg3⟩ := hg
    have hlen := Nat.eq_of_beq_eq_true hg2
    have hwd := Nat.le_of_ble_eq_true hg3
    cases hq : qR (qCall MT d y (st.take n).reverse t) with
    | none => rw [hq] at hf; cases hf
    | some q =>
      rw [hq] at hf
      cases hf
      have hcall := qR_spec hq
      show W p l e R s me args below meth c H locs cells slots Q (F0 me pc ls (st.map (qX E)))
      rw [q_stack E n st]
      exact q_runS hQ hNM hG hws hd hmx hdg F I (by rw [List.length_reverse]; exact hlen) hwd hcall hP hS hL.1 hc (fun H1 locs1 hP1 hS1 hc1 => hx H1 locs1 ls hP1 hS1 hL hc1)
end QCM
end
section
/-! a method is sound -/
def qRetAt (cc : ByteArray) (pc k : Nat) : Prop := match k with
  | 0 => decode cc pc = .ok (.ireturn, 1)
  | 1 => decode cc pc = .ok (.areturn, 1)
  | _ => decode cc pc = .ok (.return_, 1)
def qRk (rt : Option FieldType) (k : Nat) : Bool := match rt, k with
  | none, 2 => true
  | some (.object _), 1 => true
  | some .int, 0 => true
  | some .boolean, 0 => true
  | some .char, 0 => true
  | some .byte, 0 => true
  | _, _ => false
theorem qRk_spec {rt : Option FieldType} {k : Nat} (h : qRk rt k = true) : (k = 0 ∧ rt ≠ none ∧ ∀ n, rt ≠ some (.object n)) ∨ (k = 1 ∧ ∃ n, rt = some (.object n)) ∨ (2 ≤ k ∧ rt = none) := by
  unfold qRk at h
  split at h
  · exact Or.inr (Or.inr ⟨Nat.le_refl _, rfl⟩)
  · exact Or.inr (Or.inl ⟨rfl, _, rfl⟩)
  · exact Or.inl ⟨rfl, (fun z => by cases z), fun n z => by cases z⟩
  · exact Or.inl ⟨rfl, (fun z => by cases z), fun n z => by cases z⟩
  · exact Or.inl ⟨rfl, (fun z => by cases z), fun n z => by cases z⟩
  · exact Or.inl ⟨rfl, (fun z => by cases z), fun n z => by cases z⟩
  · cases h
def qStepOk (MT : Nat → qMI) (NM : qNmT) (Z : Nat → qSh) (N : Nat) (ST : qEnv → State → Heap → Prop) (Ts : List Cond) (own : String) (cc : ByteArray) (nL wp : Nat) (rt : Option FieldType) (pc : Nat) (q : Nat ⊕ qOp) : Prop := match q with
  | .inl 0 => True
  | .inl (k + 1) => qRetAt cc pc k ∧ qRk rt k = true
  | .inr f => qSnd MT NM Z N ST Ts own cc nL wp pc f
def qTabOk (MT : Nat → qMI) (NM : qNmT) (Z : Nat → qSh) (N : Nat) (ST : qEnv → State → Heap → Prop) (Ts : List Cond) (own : String) (cc : ByteArray) (nL wp : Nat) (rt : Option FieldType) (T : qTab) : Prop := ∀ pc, qStepOk MT NM Z N ST Ts own cc nL wp rt pc (T pc)
section QT
variable {MT : Nat → qMI} {NM : qNmT} {Z : Nat → qSh} {N : Nat} {ST : qEnv → State → Heap → Prop} {Ts : List Cond} {own : String} {cc : ByteArray} {nL wp : Nat} {rt : Option FieldType}
theorem qT_no : qTabOk MT NM Z N ST Ts own cc nL wp rt qNo := fun _ => trivial
theorem qT_lf {q : Nat} {f : Nat ⊕ qOp} (h : qStepOk MT NM Z N ST Ts own cc nL wp rt q f) : qTabOk MT NM Z N ST Ts own cc nL wp rt (qLf q f) := by
  intro pc
  unfold qLf
  cases hb : Nat.beq pc q with
  | false => exact trivial
  | true =>
    have e : pc = q := Nat.eq_of_beq_eq_true hb
    subst e
    exact h
theorem qT_nd {k : Nat} {a b : qTab} (ha : qTabOk MT NM Z N ST Ts own cc nL wp rt a) (hb : qTabOk MT NM Z N ST Ts own cc nL wp rt b) : qTabOk MT NM Z N ST Ts own cc nL wp rt (qNd k a b) := by
  intro pc
  unfold qNd
  cases Nat.ble k pc with
  | false => exact ha pc
  | true => exact hb pc
theorem qRun_ok {T : qTab} (hT : qTabOk MT NM Z N ST Ts own cc nL wp rt T) {E : qEnv} {d : Nat} {p : Program} {l : Launch} {e : Env} {R : Room} {s : State} {me : MethodId} {args : Array Value} {below : List Frame} {meth : Method} {c : Code} {cells slots : Nat} {Q : State → Prop} (F : qFr Z N ST E Ts own cc nL d p R s me args c cells slots) (I : qIH MT NM Z N ST E l d) :
    ∀ (n : Nat) (x t : qSt), qRun (qCall MT d) T n x = some t → (∃ k, qRetAt cc t.1 k ∧ qRk rt k = true) ∧ (qWM Z N E nL wp p l e R s me args below meth c cells slots Q t → qWM Z N E nL wp p l e R s me args below meth c cells slots Q x) := by
  intro n
  induction n with
  | zero => intro x t h; cases h
  | succ n ih =>
    intro x t h
    rw [qRun] at h
    have hx := hT x.1
    cases hq : T x.1 with
    | inl k =>
      rw [hq] at h
      cases k with
      | zero => cases h
      | succ k =>
        cases h
        rw [hq] at hx
        exact ⟨⟨k, hx⟩, id⟩
    | inr f =>
      rw [hq] at h hx
      simp only at h
      cases hf : f (qCall MT d) x with
      | none => rw [hf] at h; cases h
      | some z =>
        rw [hf] at h
        obtain ⟨h1, h2⟩ := ih z t h
        refine ⟨h1, fun hw => ?_⟩
        obtain ⟨pc, L, st, m⟩ := x
        exact hx E d p l e R s me args below meth c cells slots Q F I L st m z hf (h2 hw)
end QT
theorem q_args {E : qEnv} {wp : Nat} (hm : (qFm E).category = 1) : ∀ (vs : List Value) (i : Nat), qAok wp i vs = true → (lg_sl (vs.map (qX E))).length = (qFl vs).length ∧ ∀ (j : Nat) (v : Value), qLk (qFl vs) j = some v → (i + j, qX E v) ∈ lv_args i (vs.map (qX E)) ∧ (v.category = 2 → i + j = wp) := by
  intro vs
  induction vs with
  | nil => intro i _; exact ⟨rfl, fun j v h => by cases h⟩
  | cons a vs ih =>
    intro i h
    have one : ∀ (b : Value), (qX E b).category = 1 → b.category = 1 → qFl (b :: vs) = some b :: qFl vs → qAok wp (i + 1) vs = true → (lg_sl ((b :: vs).map (qX E))).length = (qFl (b :: vs)).length ∧ ∀ (j : Nat) (v : Value), qLk (qFl (b :: vs)) j = some v → (i + j, qX E v) ∈ lv_args i ((b :: vs).map (qX E)) ∧ (v.category = 2 → i + j = wp) := by
      intro b hb hb2 hq hk
      obtain ⟨h1, h2⟩ := ih (i + 1) hk
      rw [hq]
      have e1 : lg_sl ((b :: vs).map (qX E)) = Slot.val (qX E b) :: lg_sl (vs.map (qX E)) := by
        unfold lg_sl
        rw [List.map_cons, List.flatMap_cons, if_neg (by rw [hb]; decide)]
        rfl
      have e2 : lv_args i ((b :: vs).map (qX E)) = (i, qX E b) :: lv_args (i + 1) (vs.map (qX E)) := by
        rw [List.map_cons, lv_args, if_neg (by rw [hb]; decide)]
      rw [e1, e2]
      refine ⟨by rw [List.length_cons, List.length_cons, h1], fun j v hj => ?_⟩
      cases j with
      | zero =>
        have e3 : b = v := Option.some.inj hj
        subst e3
        exact ⟨List.mem_cons_self, fun hc => by omega⟩
      | succ j =>
        obtain ⟨h3, h4⟩ := h2 j v hj
        rw [show i + (j + 1) = i + 1 + j from by omega]
        exact ⟨List.mem_cons_of_mem _ h3, h4⟩
    cases a with
    | int x => exact one _ rfl rfl rfl h
    | ref k => exact one _ (qX_cat hm (.ref k)) rfl rfl h
    | long x =>
      have h' : (Nat.beq i wp && qAok wp (i + 2) vs) = true := h
      rw [Bool.and_eq_true] at h'
      obtain ⟨h1, h2⟩ := ih (i + 2) h'.2
      have hi := Nat.eq_of_beq_eq_true h'.1
      have e1 : lg_sl ((Value.long x :: vs).map (qX E)) = Slot.val (.long x) :: Slot.second :: lg_sl (vs.map (qX E)) := rfl
      have e2 : lv_args i ((Value.long x :: vs).map (qX E)) = (i, .long x) :: lv_args (i + 2) (vs.map (qX E)) := rfl
      rw [e1, e2]
      refine ⟨by rw [List.length_cons, List.length_cons, h1]; rfl, fun j v hj => ?_⟩
      cases j with
      | zero =>
        have e3 : Value.long x = v := Option.some.inj hj
        subst e3
        exact ⟨List.mem_cons_self, fun _ => hi⟩
      | succ j =>
        cases j with
        | zero => cases hj
        | succ j =>
          obtain ⟨h3, h4⟩ := h2 j v hj
          rw [show i + (j + 1 + 1) = i + 2 + j from by omega]
          exact ⟨List.mem_cons_of_mem _ h3, h4⟩
    | _ => cases h
theorem qLk_pad : ∀ {n : Nat} {L : List (Option Value)} {i : Nat} {v : Value}, qLk (qPad n L) i = some v → qLk L i = some v := by
  intro n
  induction n with
  | zero => intro L i v h; cases h
  | succ n ih =>
    intro L i v h
    cases L with
    | nil =>
      cases i with
      | zero => cases h
      | succ i => exact ih (L := []) (i := i) h
    | cons a L =>
      cases i with
      | zero => exact h
      | succ i => exact ih (L := L) (i := i) h
theorem qPad_len : ∀ {n : Nat} {L : List (Option Value)}, (qPad n L).length = n := by
  intro n
  induction n with
  | zero => intro L; rfl
  | succ n ih =>
    intro L
    cases L with
    | nil => show (qPad n []).length + 1 = n + 1; rw [ih]
    | cons a L => show (qPad n L).length + 1 = n + 1; rw [ih]
/-- what is to be known of a method -/
def qMethOk (MT : Nat → qMI) (NM : qNmT) (Z : Nat → qSh) (N : Nat) (ST : qEnv → State → Heap → Prop) (y : Nat) : Prop :=
  ∃ (Y : MethodName) (cc : ByteArray), NM y = (Y, Cond.code Y cc (MT y).2.1 (MT y).2.2.1 :: gT) ∧ plainName Y.cls = true ∧ qTabOk MT NM Z N ST (Cond.code Y cc (MT y).2.1 (MT y).2.2.1 :: gT) Y.cls cc (MT y).2.1 (MT y).2.2.2 (MT y).2.2.1 (MT y).1
theorem narrow_char {v : Int32} (h1 : 0 ≤ v.toInt) (h2 : v.toInt < 65536) : narrow .char (.int v) = .int v := by
  have e : narrow .char (.int v) = .int (v.toUInt32.toUInt16.toUInt32.toInt32) := rfl
  rw [e, lg_i2c_small h1 h2]
theorem qRet_ok {MT : Nat → qMI} {NM : qNmT} {Z : Nat → qSh} {N : Nat} {ST : qEnv → State → Heap → Prop} {Ts : List Cond} {own : String} {cc : ByteArray} {nL wp : Nat} {E : qEnv} {d : Nat} {p : Program} {l : Launch} {e : Env} {R : Room} {s : State} {me : MethodId} {args : Array Value} {below : List Frame} {meth : Method} {c : Code} {rt : Option FieldType} {t : qSt} {r : Option Value} {k : Nat}
    (F : qFr Z N ST E Ts own cc nL d p R s me args c 0 0) (hlk : meth.locks = false) (hr : meth.sig.returnType = rt) (hk : qRetAt cc t.1 k) (h : qRet rt t.2.2.1 = some r) (hk2 : (k = 0 ∧ rt ≠ none ∧ ∀ n, rt ≠ some (.object n)) ∨ (k = 1 ∧ ∃ n, rt = some (.object n)) ∨ (2 ≤ k ∧ rt = none)) :
    qWM Z N E nL wp p l e R s me args below meth c 0 0 (MQ below (qQ Z N E r t.2.2.2) args s 0 0 (qA E)) t := by
  intro H locs ls hP hS hL hc
  obtain ⟨hX, hb, hml, hts, hown, hK, hbs, hst, hE, hR, hC⟩ := F
  obtain ⟨pc, L, st, m⟩ := t
  have hpost : ∀ u : State, u.heap = H → s.WarmedH u.vm → qQ Z N E r m args s (.returned (r.map (qX E))) u := fun u hu _ => ⟨⟨rfl, by rw [hu]; exact hP, hc⟩, hS.F hu⟩
  have fi : ∀ (v : Int32) (ty : FieldType), st = [.int v] → r = some (.int v) → rt = some ty → narrow ty (.int v) = .int v → k = 0 → W p l e R s me args below meth c H locs 0 0 (MQ below (qQ Z N E r m) args s 0 0 (qA E)) (F0 me pc ls (st.map (qX E))) := by
    intro v ty h1 h2 h3 h4 h5
    subst h1; subst h2; subst h3; subst h5
    exact W.zret hX hb hr h4 hpost hS.2.2 hk
  cases rt with
  | none =>
    rcases hk2 with ⟨-, h0, -⟩ | ⟨-, n, h0⟩ | ⟨hk2, -⟩
    · exact absurd rfl h0
    · cases h0
    · cases st with
      | cons a st => cases h
      | nil =>
        have e : r = none := (Option.some.inj h).symm
        subst e
        have hk' : decode cc pc = .ok (.return_, 1) := by
          rcases k with _ | _ | k
          · omega
          · omega
          · exact hk
        exact W.vret hX hb hr hpost hS.2.2 hk'
  | some ty =>
    rcases hk2 with ⟨hk2, -, hno⟩ | ⟨hk2, n, h0⟩ | ⟨-, h0⟩
    · rcases st with _ | ⟨a, st⟩
      · cases ty <;> cases h
      · rcases st with _ | ⟨b, st⟩
        · cases a with
          | int v =>
            cases ty with
            | int => exact fi v .int rfl (Option.some.inj h).symm rfl rfl hk2
            | boolean =>
              have h' : (if v = 0 ∨ v = 1 then some (some (Value.int v)) else none) = some r := h
              by_cases h01 : v = 0 ∨ v = 1
              · rw [if_pos h01] at h'
                exact fi v .boolean rfl (Option.some.inj h').symm rfl (by rcases h01 with rfl | rfl <;> rfl) hk2
              · rw [if_neg h01] at h'
                cases h'
            | char =>
              have h' : (if 0 ≤ v.toInt ∧ v.toInt < 65536 then some (some (Value.int v)) else none) = some r := h
              by_cases h01 : 0 ≤ v.toInt ∧ v.toInt < 65536
              · rw [if_pos h01] at h'
                exact fi v .char rfl (Option.some.inj h').symm rfl (narrow_char h01.1 h01.2) hk2
              · rw [if_neg h01] at h'
                cases h'
            | byte =>
              have h' : (if v = 0 then some (some (Value.int v)) else none) = some r := h
              by_cases h01 : v = 0
              · rw [if_pos h01] at h'
                exact fi v .byte rfl (Option.some.inj h').symm rfl (by rw [h01]; rfl) hk2
              · rw [if_neg h01] at h'
                cases h'
            | object n => exact absurd rfl (hno n)
            | _ => cases h
          | _ =>
            cases ty <;> first | exact absurd rfl (hno _) | (cases h; done)
        · cases ty <;> first | cases h | (cases a <;> cases h)
    · cases h0
      rcases st with _ | ⟨a, st⟩
      · cases h
      · rcases st with _ | ⟨b, st⟩
        · cases a with
          | ref j =>
            have e : r = some (.ref j) := (Option.some.inj h).symm
            subst e; subst hk2
            have hv : qX E (.ref j) = .null ∨ ∃ a, qX E (.ref j) = .ref a := by
              cases hj : Nat.blt j 150 with
              | true => exact Or.inr ⟨_, qX_ref hj⟩
              | false =>
                have e2 : qX E (.ref j) = qFm E := by
                  show (bif Nat.blt j 150 then Value.ref (qAd E j) else qFm E) = qFm E
                  rw [hj]
                  rfl
                rw [e2]
                exact hE.2.2.1.2
            exact W.aret hX hb hr (Or.inl ⟨n, rfl⟩) hv hpost hS.2.2 hk
          | _ => cases h
        · cases a <;> cases h
    · cases h0
theorem q_all {MT : Nat → qMI} {NM : qNmT} {Z : Nat → qSh} {N : Nat} {ST : qEnv → State → Heap → Prop} (hall : ∀ y, (MT y).1 = qNo ∨ qMethOk MT NM Z N ST y) (E : qEnv) (hE : qOkE Z N E) (l : Launch) : ∀ d, qIH MT NM Z N ST E l d := by
  intro d
  induction d with
  | zero => intro y vs s r s2 h; cases h
  | succ d ih =>
    intro y vs t r t2 h
    have h' : (bif qAok (MT y).2.2.2 0 vs && Nat.ble (qFl vs).length (MT y).2.1 then (qDen (qCall MT d) (MT y).1 (0, qPad (MT y).2.1 (qFl vs), [], t)).bind (fun t => (qRet (MT y).2.2.1 t.2.2.1).map (fun r => (r, t.2.2.2))) else none) = some (r, t2) := h
    cases hg : (qAok (MT y).2.2.2 0 vs && Nat.ble (qFl vs).length (MT y).2.1) with
    | false => rw [hg] at h'; cases h'
    | true =>
      rw [hg] at h'
      simp only [cond_true] at h'
      rw [Bool.and_eq_true] at hg
      cases hd : qDen (qCall MT d) (MT y).1 (0, qPad (MT y).2.1 (qFl vs), [], t) with
      | none => rw [hd] at h'; cases h'
      | some z =>
        rw [hd] at h'
        simp only [Option.bind_some] at h'
        cases hr : qRet (MT y).2.2.1 z.2.2.1 with
        | none => rw [hr] at h'; cases h'
        | some r2 =>
          rw [hr] at h'
          cases h'
          obtain ⟨n, hn⟩ := qDen_run hd
          rcases hall y with hno | ⟨Y, cc, hNM, hpl, htab⟩
          · rw [hno] at hn
            cases n with
            | zero => cases hn
            | succ n => cases hn
          · rw [hNM]
            refine Met.ofW (cc := cc) (maxL := (MT y).2.1) (ret := (MT y).2.2.1) hpl rfl ?_
            intro p e s me args below meth c s₁ B hml hv
            obtain ⟨hargs, hbs, hP, hK, hst, hc⟩ := hv
            subst hargs
            have F : qFr Z N ST E (Cond.code Y cc (MT y).2.1 (MT y).2.2.1 :: gT) Y.cls cc (MT y).2.1 d p (headSpec (Cond.code Y cc (MT y).2.1 (MT y).2.2.1 :: gT) (qRm (d + 1))).room s me ((vs.map (qX E)).toArray) c 0 0 := ⟨B.exec, B.bytes, hml, atoms_spec (ws := Cond.code Y cc (MT y).2.1 (MT y).2.2.1 :: gT) B.pre, findClass_of_methodNamed B.named, hK, hbs, hst, hE, ⟨Nat.le_refl _, Nat.le_refl _⟩, Nat.le_refl _, Nat.le_refl _⟩
            obtain ⟨⟨k, hk, hk2⟩, hw⟩ := qRun_ok htab F ih n _ z hn (e := e) (below := below) (meth := meth) (Q := MQ below (qQ Z N E r z.2.2.2) ((vs.map (qX E)).toArray) s 0 0 (qA E))
            have hw2 := hw (qRet_ok F B.notSynchronized B.returns hk hr (qRk_spec hk2))
            obtain ⟨a1, a2⟩ := q_args (E := E) hE.2.2.1.1 vs 0 hg.1
            have hle : (lg_sl (vs.map (qX E))).length ≤ (MT y).2.1 := by
              rw [a1]
              exact Nat.le_of_ble_eq_true hg.2
            have hl := lv_entry (vs.map (qX E)) hle
            rw [lg_entry_eq]
            generalize (lg_sl (vs.map (qX E)) ++ List.replicate ((MT y).2.1 - (lg_sl (vs.map (qX E))).length) Slot.unset).toArray = ls at hl ⊢
            refine hw2 s.heap [] ls hP va_S.rf ⟨hl.1, hl.2.1, qPad_len, fun i v hi => ?_, fun i v hi hcat => ?_⟩ hc
            · have := (a2 i v (qLk_pad hi)).1
              rw [Nat.zero_add] at this
              exact hl.2.2 _ this
            · have := (a2 i v (qLk_pad hi)).2 hcat
              rwa [Nat.zero_add] at this
end
