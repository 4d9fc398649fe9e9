section
-- ===== PART A: goes FIRST, ahead of the names: the tables' words, and 'selects' of the private methods out of them =====
/-- a private method of a class that the tables say can be made, by its rows of tables_1 -/
def lw_okq (q : MethodName × Nat) : Prop := (q.1.cls ≠ "java/lang/invoke/MethodHandle" ∧ q.1.cls ≠ "java/lang/invoke/VarHandle") ∧ Cond.instantiable q.1.cls q.2 ∈ tables_1 ∧ Cond.privateMethod q.1 ∈ tables_1 ∧ Cond.instanceMethod q.1 ∈ tables_1
theorem lw_p0 : lw_okq (⟨"OneWaySpell", "put", "(I)V"⟩, 13) := ⟨⟨by decide +kernel, by decide +kernel⟩, List.mem_of_getElem? (i := 19) (by decide +kernel), List.mem_of_getElem? (i := 212) (by decide +kernel), List.mem_of_getElem? (i := 213) (by decide +kernel)⟩
theorem lw_p1 : lw_okq (⟨"OneWaySpell$Teller", "tell", "([BI)V"⟩, 9) := ⟨⟨by decide +kernel, by decide +kernel⟩, List.mem_of_getElem? (i := 98) (by decide +kernel), List.mem_of_getElem? (i := 224) (by decide +kernel), List.mem_of_getElem? (i := 225) (by decide +kernel)⟩
theorem lw_p2 : lw_okq (⟨"OneWaySpell$Teller", "takeRow", "(JI)V"⟩, 9) := ⟨⟨by decide +kernel, by decide +kernel⟩, List.mem_of_getElem? (i := 98) (by decide +kernel), List.mem_of_getElem? (i := 234) (by decide +kernel), List.mem_of_getElem? (i := 235) (by decide +kernel)⟩
theorem lw_p3 : lw_okq (⟨"OneWaySpell$Teller", "takeLine", "(Z)V"⟩, 9) := ⟨⟨by decide +kernel, by decide +kernel⟩, List.mem_of_getElem? (i := 98) (by decide +kernel), List.mem_of_getElem? (i := 239) (by decide +kernel), List.mem_of_getElem? (i := 240) (by decide +kernel)⟩
theorem lw_p4 : lw_okq (⟨"OneWaySpell$Teller", "takeName", "(JZ)V"⟩, 9) := ⟨⟨by decide +kernel, by decide +kernel⟩, List.mem_of_getElem? (i := 98) (by decide +kernel), List.mem_of_getElem? (i := 243) (by decide +kernel), List.mem_of_getElem? (i := 244) (by decide +kernel)⟩
theorem lw_p5 : lw_okq (⟨"OneWaySpell$Teller", "takeGroup", "(JI)V"⟩, 9) := ⟨⟨by decide +kernel, by decide +kernel⟩, List.mem_of_getElem? (i := 98) (by decide +kernel), List.mem_of_getElem? (i := 247) (by decide +kernel), List.mem_of_getElem? (i := 248) (by decide +kernel)⟩
theorem lw_p6 : lw_okq (⟨"OneWaySpell$Teller", "takeSign", "(I)V"⟩, 9) := ⟨⟨by decide +kernel, by decide +kernel⟩, List.mem_of_getElem? (i := 98) (by decide +kernel), List.mem_of_getElem? (i := 251) (by decide +kernel), List.mem_of_getElem? (i := 252) (by decide +kernel)⟩
theorem lw_p7 : lw_okq (⟨"OneWaySpell$Groups", "takeTold", "(LOneWaySpell$Teller;)V"⟩, 10) := ⟨⟨by decide +kernel, by decide +kernel⟩, List.mem_of_getElem? (i := 27) (by decide +kernel), List.mem_of_getElem? (i := 258) (by decide +kernel), List.mem_of_getElem? (i := 259) (by decide +kernel)⟩
theorem lw_p8 : lw_okq (⟨"OneWaySpell$Word", "clear", "()V"⟩, 5) := ⟨⟨by decide +kernel, by decide +kernel⟩, List.mem_of_getElem? (i := 139) (by decide +kernel), List.mem_of_getElem? (i := 265) (by decide +kernel), List.mem_of_getElem? (i := 266) (by decide +kernel)⟩
theorem lw_p9 : lw_okq (⟨"OneWaySpell$Groups", "has", "(I)Z"⟩, 10) := ⟨⟨by decide +kernel, by decide +kernel⟩, List.mem_of_getElem? (i := 27) (by decide +kernel), List.mem_of_getElem? (i := 277) (by decide +kernel), List.mem_of_getElem? (i := 278) (by decide +kernel)⟩
theorem lw_p10 : lw_okq (⟨"OneWaySpell$Groups", "isIn", "(I)Z"⟩, 10) := ⟨⟨by decide +kernel, by decide +kernel⟩, List.mem_of_getElem? (i := 27) (by decide +kernel), List.mem_of_getElem? (i := 281) (by decide +kernel), List.mem_of_getElem? (i := 282) (by decide +kernel)⟩
theorem lw_p11 : lw_okq (⟨"OneWaySpell$Groups", "unlikeLetters", "()I"⟩, 10) := ⟨⟨by decide +kernel, by decide +kernel⟩, List.mem_of_getElem? (i := 27) (by decide +kernel), List.mem_of_getElem? (i := 296) (by decide +kernel), List.mem_of_getElem? (i := 297) (by decide +kernel)⟩
theorem lw_p12 : lw_okq (⟨"OneWaySpell$Groups", "noneBeginsAnother", "()Z"⟩, 10) := ⟨⟨by decide +kernel, by decide +kernel⟩, List.mem_of_getElem? (i := 27) (by decide +kernel), List.mem_of_getElem? (i := 309) (by decide +kernel), List.mem_of_getElem? (i := 310) (by decide +kernel)⟩
theorem lw_p13 : lw_okq (⟨"OneWaySpell$Groups", "groupBegins", "(II)Z"⟩, 10) := ⟨⟨by decide +kernel, by decide +kernel⟩, List.mem_of_getElem? (i := 27) (by decide +kernel), List.mem_of_getElem? (i := 313) (by decide +kernel), List.mem_of_getElem? (i := 314) (by decide +kernel)⟩
theorem lw_p14 : lw_okq (⟨"OneWaySpell$Groups", "noneEndsAnother", "()Z"⟩, 10) := ⟨⟨by decide +kernel, by decide +kernel⟩, List.mem_of_getElem? (i := 27) (by decide +kernel), List.mem_of_getElem? (i := 320) (by decide +kernel), List.mem_of_getElem? (i := 321) (by decide +kernel)⟩
theorem lw_p15 : lw_okq (⟨"OneWaySpell$Groups", "overlap", "(II)I"⟩, 10) := ⟨⟨by decide +kernel, by decide +kernel⟩, List.mem_of_getElem? (i := 27) (by decide +kernel), List.mem_of_getElem? (i := 334) (by decide +kernel), List.mem_of_getElem? (i := 335) (by decide +kernel)⟩
def lw_privs_1 : List (MethodName × Nat) := [(⟨"OneWaySpell", "put", "(I)V"⟩, 13), (⟨"OneWaySpell$Teller", "tell", "([BI)V"⟩, 9), (⟨"OneWaySpell$Teller", "takeRow", "(JI)V"⟩, 9), (⟨"OneWaySpell$Teller", "takeLine", "(Z)V"⟩, 9), (⟨"OneWaySpell$Teller", "takeName", "(JZ)V"⟩, 9), (⟨"OneWaySpell$Teller", "takeGroup", "(JI)V"⟩, 9), (⟨"OneWaySpell$Teller", "takeSign", "(I)V"⟩, 9), (⟨"OneWaySpell$Groups", "takeTold", "(LOneWaySpell$Teller;)V"⟩, 10), (⟨"OneWaySpell$Word", "clear", "()V"⟩, 5), (⟨"OneWaySpell$Groups", "has", "(I)Z"⟩, 10), (⟨"OneWaySpell$Groups", "isIn", "(I)Z"⟩, 10), (⟨"OneWaySpell$Groups", "unlikeLetters", "()I"⟩, 10), (⟨"OneWaySpell$Groups", "noneBeginsAnother", "()Z"⟩, 10), (⟨"OneWaySpell$Groups", "groupBegins", "(II)Z"⟩, 10), (⟨"OneWaySpell$Groups", "noneEndsAnother", "()Z"⟩, 10), (⟨"OneWaySpell$Groups", "overlap", "(II)I"⟩, 10)]
theorem lw_r1 : ∀ q ∈ lw_privs_1, lw_okq q := List.forall_mem_cons.mpr ⟨lw_p0, List.forall_mem_cons.mpr ⟨lw_p1, List.forall_mem_cons.mpr ⟨lw_p2, List.forall_mem_cons.mpr ⟨lw_p3, List.forall_mem_cons.mpr ⟨lw_p4, List.forall_mem_cons.mpr ⟨lw_p5, List.forall_mem_cons.mpr ⟨lw_p6, List.forall_mem_cons.mpr ⟨lw_p7, List.forall_mem_cons.mpr ⟨lw_p8, List.forall_mem_cons.mpr ⟨lw_p9, List.forall_mem_cons.mpr ⟨lw_p10, List.forall_mem_cons.mpr ⟨lw_p11, List.forall_mem_cons.mpr ⟨lw_p12, List.forall_mem_cons.mpr ⟨lw_p13, List.forall_mem_cons.mpr ⟨lw_p14, List.forall_mem_cons.mpr ⟨lw_p15, fun _ h => absurd h List.not_mem_nil⟩⟩⟩⟩⟩⟩⟩⟩⟩⟩⟩⟩⟩⟩⟩⟩
theorem lw_p16 : lw_okq (⟨"OneWaySpell", "freshTails", "()LOneWaySpell$Tails;"⟩, 13) := ⟨⟨by decide +kernel, by decide +kernel⟩, List.mem_of_getElem? (i := 19) (by decide +kernel), List.mem_of_getElem? (i := 346) (by decide +kernel), List.mem_of_getElem? (i := 347) (by decide +kernel)⟩
theorem lw_p17 : lw_okq (⟨"OneWaySpell$Tails", "build", "(LOneWaySpell$Groups;Z)V"⟩, 12) := ⟨⟨by decide +kernel, by decide +kernel⟩, List.mem_of_getElem? (i := 350) (by decide +kernel), List.mem_of_getElem? (i := 400) (by decide +kernel), List.mem_of_getElem? (i := 401) (by decide +kernel)⟩
theorem lw_p18 : lw_okq (⟨"OneWaySpell$Tails", "addFirstRound", "(LOneWaySpell$Groups;)V"⟩, 12) := ⟨⟨by decide +kernel, by decide +kernel⟩, List.mem_of_getElem? (i := 350) (by decide +kernel), List.mem_of_getElem? (i := 404) (by decide +kernel), List.mem_of_getElem? (i := 405) (by decide +kernel)⟩
theorem lw_p19 : lw_okq (⟨"OneWaySpell$Tails", "add", "(JII)V"⟩, 12) := ⟨⟨by decide +kernel, by decide +kernel⟩, List.mem_of_getElem? (i := 350) (by decide +kernel), List.mem_of_getElem? (i := 410) (by decide +kernel), List.mem_of_getElem? (i := 411) (by decide +kernel)⟩
theorem lw_p20 : lw_okq (⟨"OneWaySpell$Tails", "find", "(J)I"⟩, 12) := ⟨⟨by decide +kernel, by decide +kernel⟩, List.mem_of_getElem? (i := 350) (by decide +kernel), List.mem_of_getElem? (i := 415) (by decide +kernel), List.mem_of_getElem? (i := 416) (by decide +kernel)⟩
theorem lw_p21 : lw_okq (⟨"OneWaySpell$Tails", "sortAsInDictionary", "(II)V"⟩, 12) := ⟨⟨by decide +kernel, by decide +kernel⟩, List.mem_of_getElem? (i := 350) (by decide +kernel), List.mem_of_getElem? (i := 419) (by decide +kernel), List.mem_of_getElem? (i := 420) (by decide +kernel)⟩
theorem lw_p22 : lw_okq (⟨"OneWaySpell$Tails", "seekDoubt", "(LOneWaySpell$Groups;I)V"⟩, 12) := ⟨⟨by decide +kernel, by decide +kernel⟩, List.mem_of_getElem? (i := 350) (by decide +kernel), List.mem_of_getElem? (i := 426) (by decide +kernel), List.mem_of_getElem? (i := 427) (by decide +kernel)⟩
theorem lw_p23 : lw_okq (⟨"OneWaySpell$Tails", "addNextRound", "(LOneWaySpell$Groups;II)V"⟩, 12) := ⟨⟨by decide +kernel, by decide +kernel⟩, List.mem_of_getElem? (i := 350) (by decide +kernel), List.mem_of_getElem? (i := 430) (by decide +kernel), List.mem_of_getElem? (i := 431) (by decide +kernel)⟩
theorem lw_p24 : lw_okq (⟨"OneWaySpell$Tails", "sizeOf", "(I)I"⟩, 12) := ⟨⟨by decide +kernel, by decide +kernel⟩, List.mem_of_getElem? (i := 350) (by decide +kernel), List.mem_of_getElem? (i := 439) (by decide +kernel), List.mem_of_getElem? (i := 440) (by decide +kernel)⟩
theorem lw_p25 : lw_okq (⟨"OneWaySpell$Tails", "indexOf", "(II)I"⟩, 12) := ⟨⟨by decide +kernel, by decide +kernel⟩, List.mem_of_getElem? (i := 350) (by decide +kernel), List.mem_of_getElem? (i := 447) (by decide +kernel), List.mem_of_getElem? (i := 448) (by decide +kernel)⟩
theorem lw_p26 : lw_okq (⟨"OneWaySpell", "freshTree", "()LOneWaySpell$Tree;"⟩, 13) := ⟨⟨by decide +kernel, by decide +kernel⟩, List.mem_of_getElem? (i := 19) (by decide +kernel), List.mem_of_getElem? (i := 497) (by decide +kernel), List.mem_of_getElem? (i := 498) (by decide +kernel)⟩
theorem lw_p27 : lw_okq (⟨"OneWaySpell$Tree", "build", "(LOneWaySpell$Groups;)V"⟩, 11) := ⟨⟨by decide +kernel, by decide +kernel⟩, List.mem_of_getElem? (i := 501) (by decide +kernel), List.mem_of_getElem? (i := 553) (by decide +kernel), List.mem_of_getElem? (i := 554) (by decide +kernel)⟩
theorem lw_p28 : lw_okq (⟨"OneWaySpell$Tree", "plant", "(JI)V"⟩, 11) := ⟨⟨by decide +kernel, by decide +kernel⟩, List.mem_of_getElem? (i := 501) (by decide +kernel), List.mem_of_getElem? (i := 564) (by decide +kernel), List.mem_of_getElem? (i := 565) (by decide +kernel)⟩
theorem lw_p29 : lw_okq (⟨"OneWaySpell$Tree", "linkSuffixes", "(I)V"⟩, 11) := ⟨⟨by decide +kernel, by decide +kernel⟩, List.mem_of_getElem? (i := 501) (by decide +kernel), List.mem_of_getElem? (i := 569) (by decide +kernel), List.mem_of_getElem? (i := 570) (by decide +kernel)⟩
theorem lw_p30 : lw_okq (⟨"OneWaySpell$Tree", "back", "(II)I"⟩, 11) := ⟨⟨by decide +kernel, by decide +kernel⟩, List.mem_of_getElem? (i := 501) (by decide +kernel), List.mem_of_getElem? (i := 573) (by decide +kernel), List.mem_of_getElem? (i := 574) (by decide +kernel)⟩
theorem lw_p31 : lw_okq (⟨"OneWaySpell$Tree", "next", "(II)I"⟩, 11) := ⟨⟨by decide +kernel, by decide +kernel⟩, List.mem_of_getElem? (i := 501) (by decide +kernel), List.mem_of_getElem? (i := 577) (by decide +kernel), List.mem_of_getElem? (i := 578) (by decide +kernel)⟩
def lw_privs_2 : List (MethodName × Nat) := [(⟨"OneWaySpell", "freshTails", "()LOneWaySpell$Tails;"⟩, 13), (⟨"OneWaySpell$Tails", "build", "(LOneWaySpell$Groups;Z)V"⟩, 12), (⟨"OneWaySpell$Tails", "addFirstRound", "(LOneWaySpell$Groups;)V"⟩, 12), (⟨"OneWaySpell$Tails", "add", "(JII)V"⟩, 12), (⟨"OneWaySpell$Tails", "find", "(J)I"⟩, 12), (⟨"OneWaySpell$Tails", "sortAsInDictionary", "(II)V"⟩, 12), (⟨"OneWaySpell$Tails", "seekDoubt", "(LOneWaySpell$Groups;I)V"⟩, 12), (⟨"OneWaySpell$Tails", "addNextRound", "(LOneWaySpell$Groups;II)V"⟩, 12), (⟨"OneWaySpell$Tails", "sizeOf", "(I)I"⟩, 12), (⟨"OneWaySpell$Tails", "indexOf", "(II)I"⟩, 12), (⟨"OneWaySpell", "freshTree", "()LOneWaySpell$Tree;"⟩, 13), (⟨"OneWaySpell$Tree", "build", "(LOneWaySpell$Groups;)V"⟩, 11), (⟨"OneWaySpell$Tree", "plant", "(JI)V"⟩, 11), (⟨"OneWaySpell$Tree", "linkSuffixes", "(I)V"⟩, 11), (⟨"OneWaySpell$Tree", "back", "(II)I"⟩, 11), (⟨"OneWaySpell$Tree", "next", "(II)I"⟩, 11)]
theorem lw_r2 : ∀ q ∈ lw_privs_2, lw_okq q := List.forall_mem_cons.mpr ⟨lw_p16, List.forall_mem_cons.mpr ⟨lw_p17, List.forall_mem_cons.mpr ⟨lw_p18, List.forall_mem_cons.mpr ⟨lw_p19, List.forall_mem_cons.mpr ⟨lw_p20, List.forall_mem_cons.mpr ⟨lw_p21, List.forall_mem_cons.mpr ⟨lw_p22, List.forall_mem_cons.mpr ⟨lw_p23, List.forall_mem_cons.mpr ⟨lw_p24, List.forall_mem_cons.mpr ⟨lw_p25, List.forall_mem_cons.mpr ⟨lw_p26, List.forall_mem_cons.mpr ⟨lw_p27, List.forall_mem_cons.mpr ⟨lw_p28, List.forall_mem_cons.mpr ⟨lw_p29, List.forall_mem_cons.mpr ⟨lw_p30, List.forall_mem_cons.mpr ⟨lw_p31, fun _ h => absurd h List.not_mem_nil⟩⟩⟩⟩⟩⟩⟩⟩⟩⟩⟩⟩⟩⟩⟩⟩
theorem lw_p32 : lw_okq (⟨"OneWaySpell$Tree", "listBySign", "()V"⟩, 11) := ⟨⟨by decide +kernel, by decide +kernel⟩, List.mem_of_getElem? (i := 501) (by decide +kernel), List.mem_of_getElem? (i := 581) (by decide +kernel), List.mem_of_getElem? (i := 582) (by decide +kernel)⟩
theorem lw_p33 : lw_okq (⟨"OneWaySpell$Twins", "find", "(LOneWaySpell$Tree;)Z"⟩, 10) := ⟨⟨by decide +kernel, by decide +kernel⟩, List.mem_of_getElem? (i := 460) (by decide +kernel), List.mem_of_getElem? (i := 585) (by decide +kernel), List.mem_of_getElem? (i := 586) (by decide +kernel)⟩
theorem lw_p34 : lw_okq (⟨"OneWaySpell$Twins", "push", "(IIII)V"⟩, 10) := ⟨⟨by decide +kernel, by decide +kernel⟩, List.mem_of_getElem? (i := 460) (by decide +kernel), List.mem_of_getElem? (i := 590) (by decide +kernel), List.mem_of_getElem? (i := 591) (by decide +kernel)⟩
theorem lw_p35 : lw_okq (⟨"OneWaySpell$Twins", "goOn", "(LOneWaySpell$Tree;II)Z"⟩, 10) := ⟨⟨by decide +kernel, by decide +kernel⟩, List.mem_of_getElem? (i := 460) (by decide +kernel), List.mem_of_getElem? (i := 594) (by decide +kernel), List.mem_of_getElem? (i := 595) (by decide +kernel)⟩
theorem lw_p36 : lw_okq (⟨"OneWaySpell$Tree", "isUsed", "(I)Z"⟩, 11) := ⟨⟨by decide +kernel, by decide +kernel⟩, List.mem_of_getElem? (i := 501) (by decide +kernel), List.mem_of_getElem? (i := 598) (by decide +kernel), List.mem_of_getElem? (i := 599) (by decide +kernel)⟩
theorem lw_p37 : lw_okq (⟨"OneWaySpell$Twins", "step", "(LOneWaySpell$Tree;II)Z"⟩, 10) := ⟨⟨by decide +kernel, by decide +kernel⟩, List.mem_of_getElem? (i := 460) (by decide +kernel), List.mem_of_getElem? (i := 602) (by decide +kernel), List.mem_of_getElem? (i := 603) (by decide +kernel)⟩
theorem lw_p38 : lw_okq (⟨"OneWaySpell$Twins", "copyTo", "(LOneWaySpell$Word;)V"⟩, 10) := ⟨⟨by decide +kernel, by decide +kernel⟩, List.mem_of_getElem? (i := 460) (by decide +kernel), List.mem_of_getElem? (i := 608) (by decide +kernel), List.mem_of_getElem? (i := 609) (by decide +kernel)⟩
theorem lw_p39 : lw_okq (⟨"OneWaySpell$Word", "add", "(I)V"⟩, 5) := ⟨⟨by decide +kernel, by decide +kernel⟩, List.mem_of_getElem? (i := 139) (by decide +kernel), List.mem_of_getElem? (i := 613) (by decide +kernel), List.mem_of_getElem? (i := 614) (by decide +kernel)⟩
theorem lw_p40 : lw_okq (⟨"OneWaySpell$Tails", "lookAhead", "(LOneWaySpell$Groups;)I"⟩, 12) := ⟨⟨by decide +kernel, by decide +kernel⟩, List.mem_of_getElem? (i := 350) (by decide +kernel), List.mem_of_getElem? (i := 621) (by decide +kernel), List.mem_of_getElem? (i := 622) (by decide +kernel)⟩
theorem lw_p41 : lw_okq (⟨"OneWaySpell$Tails", "prepareSteps", "(LOneWaySpell$Groups;)V"⟩, 12) := ⟨⟨by decide +kernel, by decide +kernel⟩, List.mem_of_getElem? (i := 350) (by decide +kernel), List.mem_of_getElem? (i := 625) (by decide +kernel), List.mem_of_getElem? (i := 626) (by decide +kernel)⟩
theorem lw_p42 : lw_okq (⟨"OneWaySpell$Tails", "deepen", "(I)Z"⟩, 12) := ⟨⟨by decide +kernel, by decide +kernel⟩, List.mem_of_getElem? (i := 350) (by decide +kernel), List.mem_of_getElem? (i := 633) (by decide +kernel), List.mem_of_getElem? (i := 634) (by decide +kernel)⟩
theorem lw_p43 : lw_okq (⟨"OneWaySpell$Tails", "inCommon", "(LOneWaySpell$Groups;II)I"⟩, 12) := ⟨⟨by decide +kernel, by decide +kernel⟩, List.mem_of_getElem? (i := 350) (by decide +kernel), List.mem_of_getElem? (i := 637) (by decide +kernel), List.mem_of_getElem? (i := 638) (by decide +kernel)⟩
theorem lw_p44 : lw_okq (⟨"OneWaySpell$Word", "countWays", "(LOneWaySpell$Groups;)V"⟩, 5) := ⟨⟨by decide +kernel, by decide +kernel⟩, List.mem_of_getElem? (i := 139) (by decide +kernel), List.mem_of_getElem? (i := 666) (by decide +kernel), List.mem_of_getElem? (i := 667) (by decide +kernel)⟩
theorem lw_p45 : lw_okq (⟨"OneWaySpell$Word", "fits", "(LOneWaySpell$Groups;II)Z"⟩, 5) := ⟨⟨by decide +kernel, by decide +kernel⟩, List.mem_of_getElem? (i := 139) (by decide +kernel), List.mem_of_getElem? (i := 670) (by decide +kernel), List.mem_of_getElem? (i := 671) (by decide +kernel)⟩
theorem lw_p46 : lw_okq (⟨"OneWaySpell$Word", "standing", "(JII)I"⟩, 5) := ⟨⟨by decide +kernel, by decide +kernel⟩, List.mem_of_getElem? (i := 139) (by decide +kernel), List.mem_of_getElem? (i := 675) (by decide +kernel), List.mem_of_getElem? (i := 676) (by decide +kernel)⟩
theorem lw_p47 : lw_okq (⟨"OneWaySpell$Word", "groupOfReading", "(LOneWaySpell$Groups;II)I"⟩, 5) := ⟨⟨by decide +kernel, by decide +kernel⟩, List.mem_of_getElem? (i := 139) (by decide +kernel), List.mem_of_getElem? (i := 688) (by decide +kernel), List.mem_of_getElem? (i := 689) (by decide +kernel)⟩
def lw_privs_3 : List (MethodName × Nat) := [(⟨"OneWaySpell$Tree", "listBySign", "()V"⟩, 11), (⟨"OneWaySpell$Twins", "find", "(LOneWaySpell$Tree;)Z"⟩, 10), (⟨"OneWaySpell$Twins", "push", "(IIII)V"⟩, 10), (⟨"OneWaySpell$Twins", "goOn", "(LOneWaySpell$Tree;II)Z"⟩, 10), (⟨"OneWaySpell$Tree", "isUsed", "(I)Z"⟩, 11), (⟨"OneWaySpell$Twins", "step", "(LOneWaySpell$Tree;II)Z"⟩, 10), (⟨"OneWaySpell$Twins", "copyTo", "(LOneWaySpell$Word;)V"⟩, 10), (⟨"OneWaySpell$Word", "add", "(I)V"⟩, 5), (⟨"OneWaySpell$Tails", "lookAhead", "(LOneWaySpell$Groups;)I"⟩, 12), (⟨"OneWaySpell$Tails", "prepareSteps", "(LOneWaySpell$Groups;)V"⟩, 12), (⟨"OneWaySpell$Tails", "deepen", "(I)Z"⟩, 12), (⟨"OneWaySpell$Tails", "inCommon", "(LOneWaySpell$Groups;II)I"⟩, 12), (⟨"OneWaySpell$Word", "countWays", "(LOneWaySpell$Groups;)V"⟩, 5), (⟨"OneWaySpell$Word", "fits", "(LOneWaySpell$Groups;II)Z"⟩, 5), (⟨"OneWaySpell$Word", "standing", "(JII)I"⟩, 5), (⟨"OneWaySpell$Word", "groupOfReading", "(LOneWaySpell$Groups;II)I"⟩, 5)]
theorem lw_r3 : ∀ q ∈ lw_privs_3, lw_okq q := List.forall_mem_cons.mpr ⟨lw_p32, List.forall_mem_cons.mpr ⟨lw_p33, List.forall_mem_cons.mpr ⟨lw_p34, List.forall_mem_cons.mpr ⟨lw_p35, List.forall_mem_cons.mpr ⟨lw_p36, List.forall_mem_cons.mpr ⟨lw_p37, List.forall_mem_cons.mpr ⟨lw_p38, List.forall_mem_cons.mpr ⟨lw_p39, List.forall_mem_cons.mpr ⟨lw_p40, List.forall_mem_cons.mpr ⟨lw_p41, List.forall_mem_cons.mpr ⟨lw_p42, List.forall_mem_cons.mpr ⟨lw_p43, List.forall_mem_cons.mpr ⟨lw_p44, List.forall_mem_cons.mpr ⟨lw_p45, List.forall_mem_cons.mpr ⟨lw_p46, List.forall_mem_cons.mpr ⟨lw_p47, fun _ h => absurd h List.not_mem_nil⟩⟩⟩⟩⟩⟩⟩⟩⟩⟩⟩⟩⟩⟩⟩⟩
theorem lw_p48 : lw_okq (⟨"OneWaySpell$Word", "groupToward", "(LOneWaySpell$Groups;I)I"⟩, 5) := ⟨⟨by decide +kernel, by decide +kernel⟩, List.mem_of_getElem? (i := 139) (by decide +kernel), List.mem_of_getElem? (i := 693) (by decide +kernel), List.mem_of_getElem? (i := 694) (by decide +kernel)⟩
theorem lw_p49 : lw_okq (⟨"OneWaySpell$Word", "unlikeSoundRows", "(LOneWaySpell$Groups;)I"⟩, 5) := ⟨⟨by decide +kernel, by decide +kernel⟩, List.mem_of_getElem? (i := 139) (by decide +kernel), List.mem_of_getElem? (i := 701) (by decide +kernel), List.mem_of_getElem? (i := 702) (by decide +kernel)⟩
theorem lw_p50 : lw_okq (⟨"OneWaySpell", "theReader", "()LOneWaySpell$Reader;"⟩, 13) := ⟨⟨by decide +kernel, by decide +kernel⟩, List.mem_of_getElem? (i := 19) (by decide +kernel), List.mem_of_getElem? (i := 713) (by decide +kernel), List.mem_of_getElem? (i := 714) (by decide +kernel)⟩
theorem lw_p51 : lw_okq (⟨"OneWaySpell$Reader", "countTaken", "(LOneWaySpell$Word;LOneWaySpell$Groups;I)I"⟩, 5) := ⟨⟨by decide +kernel, by decide +kernel⟩, List.mem_of_getElem? (i := 717) (by decide +kernel), List.mem_of_getElem? (i := 739) (by decide +kernel), List.mem_of_getElem? (i := 740) (by decide +kernel)⟩
theorem lw_p52 : lw_okq (⟨"OneWaySpell$Reader", "takenAt", "(LOneWaySpell$Word;LOneWaySpell$Groups;II)I"⟩, 5) := ⟨⟨by decide +kernel, by decide +kernel⟩, List.mem_of_getElem? (i := 717) (by decide +kernel), List.mem_of_getElem? (i := 754) (by decide +kernel), List.mem_of_getElem? (i := 755) (by decide +kernel)⟩
theorem lw_p53 : lw_okq (⟨"OneWaySpell$Reader", "findFool", "(LOneWaySpell$Groups;I)Z"⟩, 5) := ⟨⟨by decide +kernel, by decide +kernel⟩, List.mem_of_getElem? (i := 717) (by decide +kernel), List.mem_of_getElem? (i := 762) (by decide +kernel), List.mem_of_getElem? (i := 763) (by decide +kernel)⟩
theorem lw_p54 : lw_okq (⟨"OneWaySpell$Reader", "startTrial", "(LOneWaySpell$Groups;I)V"⟩, 5) := ⟨⟨by decide +kernel, by decide +kernel⟩, List.mem_of_getElem? (i := 717) (by decide +kernel), List.mem_of_getElem? (i := 768) (by decide +kernel), List.mem_of_getElem? (i := 769) (by decide +kernel)⟩
theorem lw_p55 : lw_okq (⟨"OneWaySpell$Reader", "keepBetter", "()V"⟩, 5) := ⟨⟨by decide +kernel, by decide +kernel⟩, List.mem_of_getElem? (i := 717) (by decide +kernel), List.mem_of_getElem? (i := 773) (by decide +kernel), List.mem_of_getElem? (i := 774) (by decide +kernel)⟩
theorem lw_p56 : lw_okq (⟨"OneWaySpell$Reader", "trialIsEarlier", "()Z"⟩, 5) := ⟨⟨by decide +kernel, by decide +kernel⟩, List.mem_of_getElem? (i := 717) (by decide +kernel), List.mem_of_getElem? (i := 777) (by decide +kernel), List.mem_of_getElem? (i := 778) (by decide +kernel)⟩
theorem lw_p57 : lw_okq (⟨"OneWaySpell$Reader", "coverRest", "(LOneWaySpell$Groups;II)V"⟩, 5) := ⟨⟨by decide +kernel, by decide +kernel⟩, List.mem_of_getElem? (i := 717) (by decide +kernel), List.mem_of_getElem? (i := 782) (by decide +kernel), List.mem_of_getElem? (i := 783) (by decide +kernel)⟩
theorem lw_p58 : lw_okq (⟨"OneWaySpell$Reader", "coverWith", "(LOneWaySpell$Groups;III)V"⟩, 5) := ⟨⟨by decide +kernel, by decide +kernel⟩, List.mem_of_getElem? (i := 717) (by decide +kernel), List.mem_of_getElem? (i := 787) (by decide +kernel), List.mem_of_getElem? (i := 788) (by decide +kernel)⟩
theorem lw_p59 : lw_okq (⟨"OneWaySpell$Reader", "copyTo", "(LOneWaySpell$Word;)V"⟩, 5) := ⟨⟨by decide +kernel, by decide +kernel⟩, List.mem_of_getElem? (i := 717) (by decide +kernel), List.mem_of_getElem? (i := 794) (by decide +kernel), List.mem_of_getElem? (i := 795) (by decide +kernel)⟩
theorem lw_p60 : lw_okq (⟨"OneWaySpell$Word", "longestBeginning", "(LOneWaySpell$Groups;)I"⟩, 5) := ⟨⟨by decide +kernel, by decide +kernel⟩, List.mem_of_getElem? (i := 139) (by decide +kernel), List.mem_of_getElem? (i := 804) (by decide +kernel), List.mem_of_getElem? (i := 805) (by decide +kernel)⟩
theorem lw_p61 : lw_okq (⟨"OneWaySpell$Speller", "ask", "(LOneWaySpell$Groups;IIII)Z"⟩, 7) := ⟨⟨by decide +kernel, by decide +kernel⟩, List.mem_of_getElem? (i := 819) (by decide +kernel), List.mem_of_getElem? (i := 847) (by decide +kernel), List.mem_of_getElem? (i := 848) (by decide +kernel)⟩
theorem lw_p62 : lw_okq (⟨"OneWaySpell$Speller", "search", "(LOneWaySpell$Groups;)Z"⟩, 7) := ⟨⟨by decide +kernel, by decide +kernel⟩, List.mem_of_getElem? (i := 819) (by decide +kernel), List.mem_of_getElem? (i := 851) (by decide +kernel), List.mem_of_getElem? (i := 852) (by decide +kernel)⟩
theorem lw_p63 : lw_okq (⟨"OneWaySpell$Speller", "goOn", "(LOneWaySpell$Groups;IIJ)V"⟩, 7) := ⟨⟨by decide +kernel, by decide +kernel⟩, List.mem_of_getElem? (i := 819) (by decide +kernel), List.mem_of_getElem? (i := 859) (by decide +kernel), List.mem_of_getElem? (i := 860) (by decide +kernel)⟩
def lw_privs_4 : List (MethodName × Nat) := [(⟨"OneWaySpell$Word", "groupToward", "(LOneWaySpell$Groups;I)I"⟩, 5), (⟨"OneWaySpell$Word", "unlikeSoundRows", "(LOneWaySpell$Groups;)I"⟩, 5), (⟨"OneWaySpell", "theReader", "()LOneWaySpell$Reader;"⟩, 13), (⟨"OneWaySpell$Reader", "countTaken", "(LOneWaySpell$Word;LOneWaySpell$Groups;I)I"⟩, 5), (⟨"OneWaySpell$Reader", "takenAt", "(LOneWaySpell$Word;LOneWaySpell$Groups;II)I"⟩, 5), (⟨"OneWaySpell$Reader", "findFool", "(LOneWaySpell$Groups;I)Z"⟩, 5), (⟨"OneWaySpell$Reader", "startTrial", "(LOneWaySpell$Groups;I)V"⟩, 5), (⟨"OneWaySpell$Reader", "keepBetter", "()V"⟩, 5), (⟨"OneWaySpell$Reader", "trialIsEarlier", "()Z"⟩, 5), (⟨"OneWaySpell$Reader", "coverRest", "(LOneWaySpell$Groups;II)V"⟩, 5), (⟨"OneWaySpell$Reader", "coverWith", "(LOneWaySpell$Groups;III)V"⟩, 5), (⟨"OneWaySpell$Reader", "copyTo", "(LOneWaySpell$Word;)V"⟩, 5), (⟨"OneWaySpell$Word", "longestBeginning", "(LOneWaySpell$Groups;)I"⟩, 5), (⟨"OneWaySpell$Speller", "ask", "(LOneWaySpell$Groups;IIII)Z"⟩, 7), (⟨"OneWaySpell$Speller", "search", "(LOneWaySpell$Groups;)Z"⟩, 7), (⟨"OneWaySpell$Speller", "goOn", "(LOneWaySpell$Groups;IIJ)V"⟩, 7)]
theorem lw_r4 : ∀ q ∈ lw_privs_4, lw_okq q := List.forall_mem_cons.mpr ⟨lw_p48, List.forall_mem_cons.mpr ⟨lw_p49, List.forall_mem_cons.mpr ⟨lw_p50, List.forall_mem_cons.mpr ⟨lw_p51, List.forall_mem_cons.mpr ⟨lw_p52, List.forall_mem_cons.mpr ⟨lw_p53, List.forall_mem_cons.mpr ⟨lw_p54, List.forall_mem_cons.mpr ⟨lw_p55, List.forall_mem_cons.mpr ⟨lw_p56, List.forall_mem_cons.mpr ⟨lw_p57, List.forall_mem_cons.mpr ⟨lw_p58, List.forall_mem_cons.mpr ⟨lw_p59, List.forall_mem_cons.mpr ⟨lw_p60, List.forall_mem_cons.mpr ⟨lw_p61, List.forall_mem_cons.mpr ⟨lw_p62, List.forall_mem_cons.mpr ⟨lw_p63, fun _ h => absurd h List.not_mem_nil⟩⟩⟩⟩⟩⟩⟩⟩⟩⟩⟩⟩⟩⟩⟩⟩
theorem lw_p64 : lw_okq (⟨"OneWaySpell$Speller", "countNew", "(LOneWaySpell$Groups;IIJ)J"⟩, 7) := ⟨⟨by decide +kernel, by decide +kernel⟩, List.mem_of_getElem? (i := 819) (by decide +kernel), List.mem_of_getElem? (i := 864) (by decide +kernel), List.mem_of_getElem? (i := 865) (by decide +kernel)⟩
theorem lw_p65 : lw_okq (⟨"OneWaySpell$Speller", "copyTo", "(LOneWaySpell$Groups;LOneWaySpell$Word;)V"⟩, 7) := ⟨⟨by decide +kernel, by decide +kernel⟩, List.mem_of_getElem? (i := 819) (by decide +kernel), List.mem_of_getElem? (i := 871) (by decide +kernel), List.mem_of_getElem? (i := 872) (by decide +kernel)⟩
theorem lw_p66 : lw_okq (⟨"OneWaySpell$Word", "addRow", "(JI)V"⟩, 5) := ⟨⟨by decide +kernel, by decide +kernel⟩, List.mem_of_getElem? (i := 139) (by decide +kernel), List.mem_of_getElem? (i := 876) (by decide +kernel), List.mem_of_getElem? (i := 877) (by decide +kernel)⟩
theorem lw_p67 : lw_okq (⟨"OneWaySpell$Groups", "inByNumber", "(I)I"⟩, 10) := ⟨⟨by decide +kernel, by decide +kernel⟩, List.mem_of_getElem? (i := 27) (by decide +kernel), List.mem_of_getElem? (i := 887) (by decide +kernel), List.mem_of_getElem? (i := 888) (by decide +kernel)⟩
theorem lw_p68 : lw_okq (⟨"OneWaySpell", "freshCensus", "()LOneWaySpell$Census;"⟩, 13) := ⟨⟨by decide +kernel, by decide +kernel⟩, List.mem_of_getElem? (i := 19) (by decide +kernel), List.mem_of_getElem? (i := 896) (by decide +kernel), List.mem_of_getElem? (i := 897) (by decide +kernel)⟩
theorem lw_p69 : lw_okq (⟨"OneWaySpell$Census", "build", "(LOneWaySpell$Tree;I)V"⟩, 11) := ⟨⟨by decide +kernel, by decide +kernel⟩, List.mem_of_getElem? (i := 900) (by decide +kernel), List.mem_of_getElem? (i := 941) (by decide +kernel), List.mem_of_getElem? (i := 942) (by decide +kernel)⟩
theorem lw_p70 : lw_okq (⟨"OneWaySpell$Census", "stateOf", "(II)I"⟩, 11) := ⟨⟨by decide +kernel, by decide +kernel⟩, List.mem_of_getElem? (i := 900) (by decide +kernel), List.mem_of_getElem? (i := 946) (by decide +kernel), List.mem_of_getElem? (i := 947) (by decide +kernel)⟩
theorem lw_p71 : lw_okq (⟨"OneWaySpell$Census", "growStates", "()V"⟩, 11) := ⟨⟨by decide +kernel, by decide +kernel⟩, List.mem_of_getElem? (i := 900) (by decide +kernel), List.mem_of_getElem? (i := 951) (by decide +kernel), List.mem_of_getElem? (i := 952) (by decide +kernel)⟩
theorem lw_p72 : lw_okq (⟨"OneWaySpell$Census", "growSlots", "()V"⟩, 11) := ⟨⟨by decide +kernel, by decide +kernel⟩, List.mem_of_getElem? (i := 900) (by decide +kernel), List.mem_of_getElem? (i := 967) (by decide +kernel), List.mem_of_getElem? (i := 968) (by decide +kernel)⟩
theorem lw_p73 : lw_okq (⟨"OneWaySpell$Census", "addEdge", "(II)V"⟩, 11) := ⟨⟨by decide +kernel, by decide +kernel⟩, List.mem_of_getElem? (i := 900) (by decide +kernel), List.mem_of_getElem? (i := 979) (by decide +kernel), List.mem_of_getElem? (i := 980) (by decide +kernel)⟩
theorem lw_p74 : lw_okq (⟨"OneWaySpell$Census", "countFrom", "(II)V"⟩, 11) := ⟨⟨by decide +kernel, by decide +kernel⟩, List.mem_of_getElem? (i := 900) (by decide +kernel), List.mem_of_getElem? (i := 991) (by decide +kernel), List.mem_of_getElem? (i := 992) (by decide +kernel)⟩
theorem lw_p75 : lw_okq (⟨"OneWaySpell$Census", "amount", "(II)J"⟩, 11) := ⟨⟨by decide +kernel, by decide +kernel⟩, List.mem_of_getElem? (i := 900) (by decide +kernel), List.mem_of_getElem? (i := 995) (by decide +kernel), List.mem_of_getElem? (i := 996) (by decide +kernel)⟩
theorem lw_p76 : lw_okq (⟨"OneWaySpell$Census", "bringTo", "(LOneWaySpell$Word;IJ)Z"⟩, 11) := ⟨⟨by decide +kernel, by decide +kernel⟩, List.mem_of_getElem? (i := 900) (by decide +kernel), List.mem_of_getElem? (i := 1004) (by decide +kernel), List.mem_of_getElem? (i := 1005) (by decide +kernel)⟩
theorem lw_p77 : lw_okq (⟨"OneWaySpell$Census", "rankOf", "(LOneWaySpell$Word;)J"⟩, 11) := ⟨⟨by decide +kernel, by decide +kernel⟩, List.mem_of_getElem? (i := 900) (by decide +kernel), List.mem_of_getElem? (i := 1014) (by decide +kernel), List.mem_of_getElem? (i := 1015) (by decide +kernel)⟩
theorem lw_p78 : lw_okq (⟨"OneWaySpell", "freshBorders", "()LOneWaySpell$Borders;"⟩, 13) := ⟨⟨by decide +kernel, by decide +kernel⟩, List.mem_of_getElem? (i := 19) (by decide +kernel), List.mem_of_getElem? (i := 1022) (by decide +kernel), List.mem_of_getElem? (i := 1023) (by decide +kernel)⟩
theorem lw_p79 : lw_okq (⟨"OneWaySpell$Borders", "build", "(LOneWaySpell$Tree;I)V"⟩, 6) := ⟨⟨by decide +kernel, by decide +kernel⟩, List.mem_of_getElem? (i := 1026) (by decide +kernel), List.mem_of_getElem? (i := 1052) (by decide +kernel), List.mem_of_getElem? (i := 1053) (by decide +kernel)⟩
def lw_privs_5 : List (MethodName × Nat) := [(⟨"OneWaySpell$Speller", "countNew", "(LOneWaySpell$Groups;IIJ)J"⟩, 7), (⟨"OneWaySpell$Speller", "copyTo", "(LOneWaySpell$Groups;LOneWaySpell$Word;)V"⟩, 7), (⟨"OneWaySpell$Word", "addRow", "(JI)V"⟩, 5), (⟨"OneWaySpell$Groups", "inByNumber", "(I)I"⟩, 10), (⟨"OneWaySpell", "freshCensus", "()LOneWaySpell$Census;"⟩, 13), (⟨"OneWaySpell$Census", "build", "(LOneWaySpell$Tree;I)V"⟩, 11), (⟨"OneWaySpell$Census", "stateOf", "(II)I"⟩, 11), (⟨"OneWaySpell$Census", "growStates", "()V"⟩, 11), (⟨"OneWaySpell$Census", "growSlots", "()V"⟩, 11), (⟨"OneWaySpell$Census", "addEdge", "(II)V"⟩, 11), (⟨"OneWaySpell$Census", "countFrom", "(II)V"⟩, 11), (⟨"OneWaySpell$Census", "amount", "(II)J"⟩, 11), (⟨"OneWaySpell$Census", "bringTo", "(LOneWaySpell$Word;IJ)Z"⟩, 11), (⟨"OneWaySpell$Census", "rankOf", "(LOneWaySpell$Word;)J"⟩, 11), (⟨"OneWaySpell", "freshBorders", "()LOneWaySpell$Borders;"⟩, 13), (⟨"OneWaySpell$Borders", "build", "(LOneWaySpell$Tree;I)V"⟩, 6)]
theorem lw_r5 : ∀ q ∈ lw_privs_5, lw_okq q := List.forall_mem_cons.mpr ⟨lw_p64, List.forall_mem_cons.mpr ⟨lw_p65, List.forall_mem_cons.mpr ⟨lw_p66, List.forall_mem_cons.mpr ⟨lw_p67, List.forall_mem_cons.mpr ⟨lw_p68, List.forall_mem_cons.mpr ⟨lw_p69, List.forall_mem_cons.mpr ⟨lw_p70, List.forall_mem_cons.mpr ⟨lw_p71, List.forall_mem_cons.mpr ⟨lw_p72, List.forall_mem_cons.mpr ⟨lw_p73, List.forall_mem_cons.mpr ⟨lw_p74, List.forall_mem_cons.mpr ⟨lw_p75, List.forall_mem_cons.mpr ⟨lw_p76, List.forall_mem_cons.mpr ⟨lw_p77, List.forall_mem_cons.mpr ⟨lw_p78, List.forall_mem_cons.mpr ⟨lw_p79, fun _ h => absurd h List.not_mem_nil⟩⟩⟩⟩⟩⟩⟩⟩⟩⟩⟩⟩⟩⟩⟩⟩
theorem lw_p80 : lw_okq (⟨"OneWaySpell$Borders", "clear", "(I)V"⟩, 6) := ⟨⟨by decide +kernel, by decide +kernel⟩, List.mem_of_getElem? (i := 1026) (by decide +kernel), List.mem_of_getElem? (i := 1056) (by decide +kernel), List.mem_of_getElem? (i := 1057) (by decide +kernel)⟩
theorem lw_p81 : lw_okq (⟨"OneWaySpell$Borders", "lengthen", "(LOneWaySpell$Tree;II)V"⟩, 6) := ⟨⟨by decide +kernel, by decide +kernel⟩, List.mem_of_getElem? (i := 1026) (by decide +kernel), List.mem_of_getElem? (i := 1063) (by decide +kernel), List.mem_of_getElem? (i := 1064) (by decide +kernel)⟩
theorem lw_p82 : lw_okq (⟨"OneWaySpell$Borders", "putAhead", "(LOneWaySpell$Tree;II)V"⟩, 6) := ⟨⟨by decide +kernel, by decide +kernel⟩, List.mem_of_getElem? (i := 1026) (by decide +kernel), List.mem_of_getElem? (i := 1067) (by decide +kernel), List.mem_of_getElem? (i := 1068) (by decide +kernel)⟩
theorem lw_p83 : lw_okq (⟨"OneWaySpell$Borders", "keep", "(I)V"⟩, 6) := ⟨⟨by decide +kernel, by decide +kernel⟩, List.mem_of_getElem? (i := 1026) (by decide +kernel), List.mem_of_getElem? (i := 1077) (by decide +kernel), List.mem_of_getElem? (i := 1078) (by decide +kernel)⟩
theorem lw_p84 : lw_okq (⟨"OneWaySpell$Borders", "sort", "()V"⟩, 6) := ⟨⟨by decide +kernel, by decide +kernel⟩, List.mem_of_getElem? (i := 1026) (by decide +kernel), List.mem_of_getElem? (i := 1082) (by decide +kernel), List.mem_of_getElem? (i := 1083) (by decide +kernel)⟩
theorem lw_p85 : lw_okq (⟨"OneWaySpell$Borders", "findStarts", "()V"⟩, 6) := ⟨⟨by decide +kernel, by decide +kernel⟩, List.mem_of_getElem? (i := 1026) (by decide +kernel), List.mem_of_getElem? (i := 1086) (by decide +kernel), List.mem_of_getElem? (i := 1087) (by decide +kernel)⟩
theorem lw_p86 : lw_okq (⟨"OneWaySpell$Borders", "sizeOf", "(I)I"⟩, 6) := ⟨⟨by decide +kernel, by decide +kernel⟩, List.mem_of_getElem? (i := 1026) (by decide +kernel), List.mem_of_getElem? (i := 1090) (by decide +kernel), List.mem_of_getElem? (i := 1091) (by decide +kernel)⟩
theorem lw_p87 : lw_okq (⟨"OneWaySpell$Borders", "indexOf", "(II)I"⟩, 6) := ⟨⟨by decide +kernel, by decide +kernel⟩, List.mem_of_getElem? (i := 1026) (by decide +kernel), List.mem_of_getElem? (i := 1098) (by decide +kernel), List.mem_of_getElem? (i := 1099) (by decide +kernel)⟩
theorem lw_p88 : lw_okq (⟨"OneWaySpell$Borders", "codeAt", "(I)J"⟩, 6) := ⟨⟨by decide +kernel, by decide +kernel⟩, List.mem_of_getElem? (i := 1026) (by decide +kernel), List.mem_of_getElem? (i := 1103) (by decide +kernel), List.mem_of_getElem? (i := 1104) (by decide +kernel)⟩
theorem lw_p89 : lw_okq (⟨"OneWaySpell", "theCures", "()LOneWaySpell$Cures;"⟩, 13) := ⟨⟨by decide +kernel, by decide +kernel⟩, List.mem_of_getElem? (i := 19) (by decide +kernel), List.mem_of_getElem? (i := 1112) (by decide +kernel), List.mem_of_getElem? (i := 1113) (by decide +kernel)⟩
theorem lw_p90 : lw_okq (⟨"OneWaySpell$Cures", "fewest", "(LOneWaySpell$Groups;I)I"⟩, 12) := ⟨⟨by decide +kernel, by decide +kernel⟩, List.mem_of_getElem? (i := 1116) (by decide +kernel), List.mem_of_getElem? (i := 1163) (by decide +kernel), List.mem_of_getElem? (i := 1164) (by decide +kernel)⟩
theorem lw_p91 : lw_okq (⟨"OneWaySpell$Cures", "findChoosable", "(LOneWaySpell$Groups;)V"⟩, 12) := ⟨⟨by decide +kernel, by decide +kernel⟩, List.mem_of_getElem? (i := 1116) (by decide +kernel), List.mem_of_getElem? (i := 1167) (by decide +kernel), List.mem_of_getElem? (i := 1168) (by decide +kernel)⟩
theorem lw_p92 : lw_okq (⟨"OneWaySpell$Cures", "searchOfSize", "(LOneWaySpell$Groups;II)I"⟩, 12) := ⟨⟨by decide +kernel, by decide +kernel⟩, List.mem_of_getElem? (i := 1116) (by decide +kernel), List.mem_of_getElem? (i := 1172) (by decide +kernel), List.mem_of_getElem? (i := 1173) (by decide +kernel)⟩
theorem lw_p93 : lw_okq (⟨"OneWaySpell$Cures", "chosenMask", "(I)I"⟩, 12) := ⟨⟨by decide +kernel, by decide +kernel⟩, List.mem_of_getElem? (i := 1116) (by decide +kernel), List.mem_of_getElem? (i := 1176) (by decide +kernel), List.mem_of_getElem? (i := 1177) (by decide +kernel)⟩
theorem lw_p94 : lw_okq (⟨"OneWaySpell$Cures", "isRefuted", "(I)Z"⟩, 12) := ⟨⟨by decide +kernel, by decide +kernel⟩, List.mem_of_getElem? (i := 1116) (by decide +kernel), List.mem_of_getElem? (i := 1180) (by decide +kernel), List.mem_of_getElem? (i := 1181) (by decide +kernel)⟩
theorem lw_p95 : lw_okq (⟨"OneWaySpell$Cures", "heals", "(LOneWaySpell$Groups;II)Z"⟩, 12) := ⟨⟨by decide +kernel, by decide +kernel⟩, List.mem_of_getElem? (i := 1116) (by decide +kernel), List.mem_of_getElem? (i := 1184) (by decide +kernel), List.mem_of_getElem? (i := 1185) (by decide +kernel)⟩
def lw_privs_6 : List (MethodName × Nat) := [(⟨"OneWaySpell$Borders", "clear", "(I)V"⟩, 6), (⟨"OneWaySpell$Borders", "lengthen", "(LOneWaySpell$Tree;II)V"⟩, 6), (⟨"OneWaySpell$Borders", "putAhead", "(LOneWaySpell$Tree;II)V"⟩, 6), (⟨"OneWaySpell$Borders", "keep", "(I)V"⟩, 6), (⟨"OneWaySpell$Borders", "sort", "()V"⟩, 6), (⟨"OneWaySpell$Borders", "findStarts", "()V"⟩, 6), (⟨"OneWaySpell$Borders", "sizeOf", "(I)I"⟩, 6), (⟨"OneWaySpell$Borders", "indexOf", "(II)I"⟩, 6), (⟨"OneWaySpell$Borders", "codeAt", "(I)J"⟩, 6), (⟨"OneWaySpell", "theCures", "()LOneWaySpell$Cures;"⟩, 13), (⟨"OneWaySpell$Cures", "fewest", "(LOneWaySpell$Groups;I)I"⟩, 12), (⟨"OneWaySpell$Cures", "findChoosable", "(LOneWaySpell$Groups;)V"⟩, 12), (⟨"OneWaySpell$Cures", "searchOfSize", "(LOneWaySpell$Groups;II)I"⟩, 12), (⟨"OneWaySpell$Cures", "chosenMask", "(I)I"⟩, 12), (⟨"OneWaySpell$Cures", "isRefuted", "(I)Z"⟩, 12), (⟨"OneWaySpell$Cures", "heals", "(LOneWaySpell$Groups;II)Z"⟩, 12)]
theorem lw_r6 : ∀ q ∈ lw_privs_6, lw_okq q := List.forall_mem_cons.mpr ⟨lw_p80, List.forall_mem_cons.mpr ⟨lw_p81, List.forall_mem_cons.mpr ⟨lw_p82, List.forall_mem_cons.mpr ⟨lw_p83, List.forall_mem_cons.mpr ⟨lw_p84, List.forall_mem_cons.mpr ⟨lw_p85, List.forall_mem_cons.mpr ⟨lw_p86, List.forall_mem_cons.mpr ⟨lw_p87, List.forall_mem_cons.mpr ⟨lw_p88, List.forall_mem_cons.mpr ⟨lw_p89, List.forall_mem_cons.mpr ⟨lw_p90, List.forall_mem_cons.mpr ⟨lw_p91, List.forall_mem_cons.mpr ⟨lw_p92, List.forall_mem_cons.mpr ⟨lw_p93, List.forall_mem_cons.mpr ⟨lw_p94, List.forall_mem_cons.mpr ⟨lw_p95, fun _ h => absurd h List.not_mem_nil⟩⟩⟩⟩⟩⟩⟩⟩⟩⟩⟩⟩⟩⟩⟩⟩
theorem lw_p96 : lw_okq (⟨"OneWaySpell$Groups", "copyFrom", "(LOneWaySpell$Groups;)V"⟩, 10) := ⟨⟨by decide +kernel, by decide +kernel⟩, List.mem_of_getElem? (i := 27) (by decide +kernel), List.mem_of_getElem? (i := 1188) (by decide +kernel), List.mem_of_getElem? (i := 1189) (by decide +kernel)⟩
theorem lw_p97 : lw_okq (⟨"OneWaySpell$Groups", "change", "(II)V"⟩, 10) := ⟨⟨by decide +kernel, by decide +kernel⟩, List.mem_of_getElem? (i := 27) (by decide +kernel), List.mem_of_getElem? (i := 1192) (by decide +kernel), List.mem_of_getElem? (i := 1193) (by decide +kernel)⟩
theorem lw_p98 : lw_okq (⟨"OneWaySpell$Cures", "chooseNext", "(I)Z"⟩, 12) := ⟨⟨by decide +kernel, by decide +kernel⟩, List.mem_of_getElem? (i := 1116) (by decide +kernel), List.mem_of_getElem? (i := 1198) (by decide +kernel), List.mem_of_getElem? (i := 1199) (by decide +kernel)⟩
theorem lw_p99 : lw_okq (⟨"OneWaySpell$Groups", "act", "(II)V"⟩, 10) := ⟨⟨by decide +kernel, by decide +kernel⟩, List.mem_of_getElem? (i := 27) (by decide +kernel), List.mem_of_getElem? (i := 1206) (by decide +kernel), List.mem_of_getElem? (i := 1207) (by decide +kernel)⟩
theorem lw_p100 : lw_okq (⟨"OneWaySpell$Groups", "takeBackAct", "()Z"⟩, 10) := ⟨⟨by decide +kernel, by decide +kernel⟩, List.mem_of_getElem? (i := 27) (by decide +kernel), List.mem_of_getElem? (i := 1219) (by decide +kernel), List.mem_of_getElem? (i := 1220) (by decide +kernel)⟩
theorem lw_p101 : lw_okq (⟨"OneWaySpell$Groups", "unmark", "(II)V"⟩, 10) := ⟨⟨by decide +kernel, by decide +kernel⟩, List.mem_of_getElem? (i := 27) (by decide +kernel), List.mem_of_getElem? (i := 1223) (by decide +kernel), List.mem_of_getElem? (i := 1224) (by decide +kernel)⟩
theorem lw_p102 : lw_okq (⟨"OneWaySpellModel", "four", "(I)V"⟩, 77) := ⟨⟨by decide +kernel, by decide +kernel⟩, List.mem_of_getElem? (i := 1227) (by decide +kernel), List.mem_of_getElem? (i := 1473) (by decide +kernel), List.mem_of_getElem? (i := 1474) (by decide +kernel)⟩
theorem lw_p103 : lw_okq (⟨"OneWaySpellModel", "next", "()V"⟩, 77) := ⟨⟨by decide +kernel, by decide +kernel⟩, List.mem_of_getElem? (i := 1227) (by decide +kernel), List.mem_of_getElem? (i := 1488) (by decide +kernel), List.mem_of_getElem? (i := 1489) (by decide +kernel)⟩
theorem lw_p104 : lw_okq (⟨"OneWaySpellModel", "byteAt", "(I)I"⟩, 77) := ⟨⟨by decide +kernel, by decide +kernel⟩, List.mem_of_getElem? (i := 1227) (by decide +kernel), List.mem_of_getElem? (i := 1492) (by decide +kernel), List.mem_of_getElem? (i := 1493) (by decide +kernel)⟩
theorem lw_p105 : lw_okq (⟨"OneWaySpellModel", "isGood", "()Z"⟩, 77) := ⟨⟨by decide +kernel, by decide +kernel⟩, List.mem_of_getElem? (i := 1227) (by decide +kernel), List.mem_of_getElem? (i := 1499) (by decide +kernel), List.mem_of_getElem? (i := 1500) (by decide +kernel)⟩
theorem lw_p106 : lw_okq (⟨"OneWaySpellModel", "readLine", "()V"⟩, 77) := ⟨⟨by decide +kernel, by decide +kernel⟩, List.mem_of_getElem? (i := 1227) (by decide +kernel), List.mem_of_getElem? (i := 1503) (by decide +kernel), List.mem_of_getElem? (i := 1504) (by decide +kernel)⟩
theorem lw_p107 : lw_okq (⟨"OneWaySpellModel", "isSound", "()Z"⟩, 77) := ⟨⟨by decide +kernel, by decide +kernel⟩, List.mem_of_getElem? (i := 1227) (by decide +kernel), List.mem_of_getElem? (i := 1507) (by decide +kernel), List.mem_of_getElem? (i := 1508) (by decide +kernel)⟩
theorem lw_p108 : lw_okq (⟨"OneWaySpellModel", "isShort", "()Z"⟩, 77) := ⟨⟨by decide +kernel, by decide +kernel⟩, List.mem_of_getElem? (i := 1227) (by decide +kernel), List.mem_of_getElem? (i := 1511) (by decide +kernel), List.mem_of_getElem? (i := 1512) (by decide +kernel)⟩
theorem lw_p109 : lw_okq (⟨"OneWaySpellModel", "packed", "()I"⟩, 77) := ⟨⟨by decide +kernel, by decide +kernel⟩, List.mem_of_getElem? (i := 1227) (by decide +kernel), List.mem_of_getElem? (i := 1515) (by decide +kernel), List.mem_of_getElem? (i := 1516) (by decide +kernel)⟩
theorem lw_p110 : lw_okq (⟨"OneWaySpellModel", "fails", "(I)V"⟩, 77) := ⟨⟨by decide +kernel, by decide +kernel⟩, List.mem_of_getElem? (i := 1227) (by decide +kernel), List.mem_of_getElem? (i := 1520) (by decide +kernel), List.mem_of_getElem? (i := 1521) (by decide +kernel)⟩
theorem lw_p111 : lw_okq (⟨"OneWaySpellModel", "goOn", "()V"⟩, 77) := ⟨⟨by decide +kernel, by decide +kernel⟩, List.mem_of_getElem? (i := 1227) (by decide +kernel), List.mem_of_getElem? (i := 1524) (by decide +kernel), List.mem_of_getElem? (i := 1525) (by decide +kernel)⟩
def lw_privs_7 : List (MethodName × Nat) := [(⟨"OneWaySpell$Groups", "copyFrom", "(LOneWaySpell$Groups;)V"⟩, 10), (⟨"OneWaySpell$Groups", "change", "(II)V"⟩, 10), (⟨"OneWaySpell$Cures", "chooseNext", "(I)Z"⟩, 12), (⟨"OneWaySpell$Groups", "act", "(II)V"⟩, 10), (⟨"OneWaySpell$Groups", "takeBackAct", "()Z"⟩, 10), (⟨"OneWaySpell$Groups", "unmark", "(II)V"⟩, 10), (⟨"OneWaySpellModel", "four", "(I)V"⟩, 77), (⟨"OneWaySpellModel", "next", "()V"⟩, 77), (⟨"OneWaySpellModel", "byteAt", "(I)I"⟩, 77), (⟨"OneWaySpellModel", "isGood", "()Z"⟩, 77), (⟨"OneWaySpellModel", "readLine", "()V"⟩, 77), (⟨"OneWaySpellModel", "isSound", "()Z"⟩, 77), (⟨"OneWaySpellModel", "isShort", "()Z"⟩, 77), (⟨"OneWaySpellModel", "packed", "()I"⟩, 77), (⟨"OneWaySpellModel", "fails", "(I)V"⟩, 77), (⟨"OneWaySpellModel", "goOn", "()V"⟩, 77)]
theorem lw_r7 : ∀ q ∈ lw_privs_7, lw_okq q := List.forall_mem_cons.mpr ⟨lw_p96, List.forall_mem_cons.mpr ⟨lw_p97, List.forall_mem_cons.mpr ⟨lw_p98, List.forall_mem_cons.mpr ⟨lw_p99, List.forall_mem_cons.mpr ⟨lw_p100, List.forall_mem_cons.mpr ⟨lw_p101, List.forall_mem_cons.mpr ⟨lw_p102, List.forall_mem_cons.mpr ⟨lw_p103, List.forall_mem_cons.mpr ⟨lw_p104, List.forall_mem_cons.mpr ⟨lw_p105, List.forall_mem_cons.mpr ⟨lw_p106, List.forall_mem_cons.mpr ⟨lw_p107, List.forall_mem_cons.mpr ⟨lw_p108, List.forall_mem_cons.mpr ⟨lw_p109, List.forall_mem_cons.mpr ⟨lw_p110, List.forall_mem_cons.mpr ⟨lw_p111, fun _ h => absurd h List.not_mem_nil⟩⟩⟩⟩⟩⟩⟩⟩⟩⟩⟩⟩⟩⟩⟩⟩
theorem lw_p112 : lw_okq (⟨"OneWaySpellModel", "readName", "()V"⟩, 77) := ⟨⟨by decide +kernel, by decide +kernel⟩, List.mem_of_getElem? (i := 1227) (by decide +kernel), List.mem_of_getElem? (i := 1528) (by decide +kernel), List.mem_of_getElem? (i := 1529) (by decide +kernel)⟩
theorem lw_p113 : lw_okq (⟨"OneWaySpellModel", "mustBe", "(I)V"⟩, 77) := ⟨⟨by decide +kernel, by decide +kernel⟩, List.mem_of_getElem? (i := 1227) (by decide +kernel), List.mem_of_getElem? (i := 1532) (by decide +kernel), List.mem_of_getElem? (i := 1533) (by decide +kernel)⟩
theorem lw_p114 : lw_okq (⟨"OneWaySpellModel", "isSign", "(I)Z"⟩, 77) := ⟨⟨by decide +kernel, by decide +kernel⟩, List.mem_of_getElem? (i := 1227) (by decide +kernel), List.mem_of_getElem? (i := 1536) (by decide +kernel), List.mem_of_getElem? (i := 1537) (by decide +kernel)⟩
theorem lw_p115 : lw_okq (⟨"OneWaySpellModel", "readGroup", "()V"⟩, 77) := ⟨⟨by decide +kernel, by decide +kernel⟩, List.mem_of_getElem? (i := 1227) (by decide +kernel), List.mem_of_getElem? (i := 1540) (by decide +kernel), List.mem_of_getElem? (i := 1541) (by decide +kernel)⟩
theorem lw_p116 : lw_okq (⟨"OneWaySpellModel", "isTold", "(I)Z"⟩, 77) := ⟨⟨by decide +kernel, by decide +kernel⟩, List.mem_of_getElem? (i := 1227) (by decide +kernel), List.mem_of_getElem? (i := 1544) (by decide +kernel), List.mem_of_getElem? (i := 1545) (by decide +kernel)⟩
theorem lw_p117 : lw_okq (⟨"OneWaySpellModel", "another", "()V"⟩, 77) := ⟨⟨by decide +kernel, by decide +kernel⟩, List.mem_of_getElem? (i := 1227) (by decide +kernel), List.mem_of_getElem? (i := 1548) (by decide +kernel), List.mem_of_getElem? (i := 1549) (by decide +kernel)⟩
theorem lw_p118 : lw_okq (⟨"OneWaySpellModel", "isGroup", "(I)Z"⟩, 77) := ⟨⟨by decide +kernel, by decide +kernel⟩, List.mem_of_getElem? (i := 1227) (by decide +kernel), List.mem_of_getElem? (i := 1560) (by decide +kernel), List.mem_of_getElem? (i := 1561) (by decide +kernel)⟩
theorem lw_p119 : lw_okq (⟨"OneWaySpellModel", "letterAt", "(II)I"⟩, 77) := ⟨⟨by decide +kernel, by decide +kernel⟩, List.mem_of_getElem? (i := 1227) (by decide +kernel), List.mem_of_getElem? (i := 1564) (by decide +kernel), List.mem_of_getElem? (i := 1565) (by decide +kernel)⟩
theorem lw_p120 : lw_okq (⟨"OneWaySpellModel", "unlike", "()I"⟩, 77) := ⟨⟨by decide +kernel, by decide +kernel⟩, List.mem_of_getElem? (i := 1227) (by decide +kernel), List.mem_of_getElem? (i := 1575) (by decide +kernel), List.mem_of_getElem? (i := 1576) (by decide +kernel)⟩
theorem lw_p121 : lw_okq (⟨"OneWaySpellModel", "lettersThere", "()I"⟩, 77) := ⟨⟨by decide +kernel, by decide +kernel⟩, List.mem_of_getElem? (i := 1227) (by decide +kernel), List.mem_of_getElem? (i := 1579) (by decide +kernel), List.mem_of_getElem? (i := 1580) (by decide +kernel)⟩
theorem lw_p122 : lw_okq (⟨"OneWaySpellModel", "isFree", "(Z)Z"⟩, 77) := ⟨⟨by decide +kernel, by decide +kernel⟩, List.mem_of_getElem? (i := 1227) (by decide +kernel), List.mem_of_getElem? (i := 1583) (by decide +kernel), List.mem_of_getElem? (i := 1584) (by decide +kernel)⟩
theorem lw_p123 : lw_okq (⟨"OneWaySpellModel", "begins", "(II)Z"⟩, 77) := ⟨⟨by decide +kernel, by decide +kernel⟩, List.mem_of_getElem? (i := 1227) (by decide +kernel), List.mem_of_getElem? (i := 1587) (by decide +kernel), List.mem_of_getElem? (i := 1588) (by decide +kernel)⟩
theorem lw_p124 : lw_okq (⟨"OneWaySpellModel", "alike", "(IIII)I"⟩, 77) := ⟨⟨by decide +kernel, by decide +kernel⟩, List.mem_of_getElem? (i := 1227) (by decide +kernel), List.mem_of_getElem? (i := 1591) (by decide +kernel), List.mem_of_getElem? (i := 1592) (by decide +kernel)⟩
theorem lw_p125 : lw_okq (⟨"OneWaySpellModel", "ends", "(II)Z"⟩, 77) := ⟨⟨by decide +kernel, by decide +kernel⟩, List.mem_of_getElem? (i := 1227) (by decide +kernel), List.mem_of_getElem? (i := 1595) (by decide +kernel), List.mem_of_getElem? (i := 1596) (by decide +kernel)⟩
theorem lw_p126 : lw_okq (⟨"OneWaySpellModel", "layTails", "()V"⟩, 77) := ⟨⟨by decide +kernel, by decide +kernel⟩, List.mem_of_getElem? (i := 1227) (by decide +kernel), List.mem_of_getElem? (i := 1610) (by decide +kernel), List.mem_of_getElem? (i := 1611) (by decide +kernel)⟩
theorem lw_p127 : lw_okq (⟨"OneWaySpellModel", "layEnds", "()V"⟩, 77) := ⟨⟨by decide +kernel, by decide +kernel⟩, List.mem_of_getElem? (i := 1227) (by decide +kernel), List.mem_of_getElem? (i := 1614) (by decide +kernel), List.mem_of_getElem? (i := 1615) (by decide +kernel)⟩
def lw_privs_8 : List (MethodName × Nat) := [(⟨"OneWaySpellModel", "readName", "()V"⟩, 77), (⟨"OneWaySpellModel", "mustBe", "(I)V"⟩, 77), (⟨"OneWaySpellModel", "isSign", "(I)Z"⟩, 77), (⟨"OneWaySpellModel", "readGroup", "()V"⟩, 77), (⟨"OneWaySpellModel", "isTold", "(I)Z"⟩, 77), (⟨"OneWaySpellModel", "another", "()V"⟩, 77), (⟨"OneWaySpellModel", "isGroup", "(I)Z"⟩, 77), (⟨"OneWaySpellModel", "letterAt", "(II)I"⟩, 77), (⟨"OneWaySpellModel", "unlike", "()I"⟩, 77), (⟨"OneWaySpellModel", "lettersThere", "()I"⟩, 77), (⟨"OneWaySpellModel", "isFree", "(Z)Z"⟩, 77), (⟨"OneWaySpellModel", "begins", "(II)Z"⟩, 77), (⟨"OneWaySpellModel", "alike", "(IIII)I"⟩, 77), (⟨"OneWaySpellModel", "ends", "(II)Z"⟩, 77), (⟨"OneWaySpellModel", "layTails", "()V"⟩, 77), (⟨"OneWaySpellModel", "layEnds", "()V"⟩, 77)]
theorem lw_r8 : ∀ q ∈ lw_privs_8, lw_okq q := List.forall_mem_cons.mpr ⟨lw_p112, List.forall_mem_cons.mpr ⟨lw_p113, List.forall_mem_cons.mpr ⟨lw_p114, List.forall_mem_cons.mpr ⟨lw_p115, List.forall_mem_cons.mpr ⟨lw_p116, List.forall_mem_cons.mpr ⟨lw_p117, List.forall_mem_cons.mpr ⟨lw_p118, List.forall_mem_cons.mpr ⟨lw_p119, List.forall_mem_cons.mpr ⟨lw_p120, List.forall_mem_cons.mpr ⟨lw_p121, List.forall_mem_cons.mpr ⟨lw_p122, List.forall_mem_cons.mpr ⟨lw_p123, List.forall_mem_cons.mpr ⟨lw_p124, List.forall_mem_cons.mpr ⟨lw_p125, List.forall_mem_cons.mpr ⟨lw_p126, List.forall_mem_cons.mpr ⟨lw_p127, fun _ h => absurd h List.not_mem_nil⟩⟩⟩⟩⟩⟩⟩⟩⟩⟩⟩⟩⟩⟩⟩⟩
theorem lw_p128 : lw_okq (⟨"OneWaySpellModel", "against", "(III)I"⟩, 77) := ⟨⟨by decide +kernel, by decide +kernel⟩, List.mem_of_getElem? (i := 1227) (by decide +kernel), List.mem_of_getElem? (i := 1618) (by decide +kernel), List.mem_of_getElem? (i := 1619) (by decide +kernel)⟩
theorem lw_p129 : lw_okq (⟨"OneWaySpellModel", "tailSize", "(I)I"⟩, 77) := ⟨⟨by decide +kernel, by decide +kernel⟩, List.mem_of_getElem? (i := 1227) (by decide +kernel), List.mem_of_getElem? (i := 1622) (by decide +kernel), List.mem_of_getElem? (i := 1623) (by decide +kernel)⟩
theorem lw_p130 : lw_okq (⟨"OneWaySpellModel", "tailLetter", "(II)I"⟩, 77) := ⟨⟨by decide +kernel, by decide +kernel⟩, List.mem_of_getElem? (i := 1227) (by decide +kernel), List.mem_of_getElem? (i := 1626) (by decide +kernel), List.mem_of_getElem? (i := 1627) (by decide +kernel)⟩
theorem lw_p131 : lw_okq (⟨"OneWaySpellModel", "leftOf", "(II)I"⟩, 77) := ⟨⟨by decide +kernel, by decide +kernel⟩, List.mem_of_getElem? (i := 1227) (by decide +kernel), List.mem_of_getElem? (i := 1630) (by decide +kernel), List.mem_of_getElem? (i := 1631) (by decide +kernel)⟩
theorem lw_p132 : lw_okq (⟨"OneWaySpellModel", "goesOn", "(I)V"⟩, 77) := ⟨⟨by decide +kernel, by decide +kernel⟩, List.mem_of_getElem? (i := 1227) (by decide +kernel), List.mem_of_getElem? (i := 1634) (by decide +kernel), List.mem_of_getElem? (i := 1635) (by decide +kernel)⟩
theorem lw_p133 : lw_okq (⟨"OneWaySpellModel", "layBest", "()V"⟩, 77) := ⟨⟨by decide +kernel, by decide +kernel⟩, List.mem_of_getElem? (i := 1227) (by decide +kernel), List.mem_of_getElem? (i := 1654) (by decide +kernel), List.mem_of_getElem? (i := 1655) (by decide +kernel)⟩
theorem lw_p134 : lw_okq (⟨"OneWaySpellModel", "tries", "(II)V"⟩, 77) := ⟨⟨by decide +kernel, by decide +kernel⟩, List.mem_of_getElem? (i := 1227) (by decide +kernel), List.mem_of_getElem? (i := 1658) (by decide +kernel), List.mem_of_getElem? (i := 1659) (by decide +kernel)⟩
theorem lw_p135 : lw_okq (⟨"OneWaySpellModel", "takes", "(I)Z"⟩, 77) := ⟨⟨by decide +kernel, by decide +kernel⟩, List.mem_of_getElem? (i := 1227) (by decide +kernel), List.mem_of_getElem? (i := 1662) (by decide +kernel), List.mem_of_getElem? (i := 1663) (by decide +kernel)⟩
theorem lw_p136 : lw_okq (⟨"OneWaySpellModel", "isBefore", "([III)Z"⟩, 77) := ⟨⟨by decide +kernel, by decide +kernel⟩, List.mem_of_getElem? (i := 1227) (by decide +kernel), List.mem_of_getElem? (i := 1666) (by decide +kernel), List.mem_of_getElem? (i := 1667) (by decide +kernel)⟩
theorem lw_p137 : lw_okq (⟨"OneWaySpellModel", "takesWord", "([III)V"⟩, 77) := ⟨⟨by decide +kernel, by decide +kernel⟩, List.mem_of_getElem? (i := 1227) (by decide +kernel), List.mem_of_getElem? (i := 1670) (by decide +kernel), List.mem_of_getElem? (i := 1671) (by decide +kernel)⟩
theorem lw_p138 : lw_okq (⟨"OneWaySpellModel", "layWays", "([II)V"⟩, 77) := ⟨⟨by decide +kernel, by decide +kernel⟩, List.mem_of_getElem? (i := 1227) (by decide +kernel), List.mem_of_getElem? (i := 1698) (by decide +kernel), List.mem_of_getElem? (i := 1699) (by decide +kernel)⟩
theorem lw_p139 : lw_okq (⟨"OneWaySpellModel", "stands", "(I[III)Z"⟩, 77) := ⟨⟨by decide +kernel, by decide +kernel⟩, List.mem_of_getElem? (i := 1227) (by decide +kernel), List.mem_of_getElem? (i := 1702) (by decide +kernel), List.mem_of_getElem? (i := 1703) (by decide +kernel)⟩
theorem lw_p140 : lw_okq (⟨"OneWaySpellModel", "goesBy", "(J)J"⟩, 77) := ⟨⟨by decide +kernel, by decide +kernel⟩, List.mem_of_getElem? (i := 1227) (by decide +kernel), List.mem_of_getElem? (i := 1710) (by decide +kernel), List.mem_of_getElem? (i := 1711) (by decide +kernel)⟩
theorem lw_p141 : lw_okq (⟨"OneWaySpellModel", "takenAt", "(II)I"⟩, 77) := ⟨⟨by decide +kernel, by decide +kernel⟩, List.mem_of_getElem? (i := 1227) (by decide +kernel), List.mem_of_getElem? (i := 1723) (by decide +kernel), List.mem_of_getElem? (i := 1724) (by decide +kernel)⟩
theorem lw_p142 : lw_okq (⟨"OneWaySpellModel", "layCover", "()V"⟩, 77) := ⟨⟨by decide +kernel, by decide +kernel⟩, List.mem_of_getElem? (i := 1227) (by decide +kernel), List.mem_of_getElem? (i := 1735) (by decide +kernel), List.mem_of_getElem? (i := 1736) (by decide +kernel)⟩
theorem lw_p143 : lw_okq (⟨"OneWaySpellModel", "coversBy", "(II)V"⟩, 77) := ⟨⟨by decide +kernel, by decide +kernel⟩, List.mem_of_getElem? (i := 1227) (by decide +kernel), List.mem_of_getElem? (i := 1739) (by decide +kernel), List.mem_of_getElem? (i := 1740) (by decide +kernel)⟩
def lw_privs_9 : List (MethodName × Nat) := [(⟨"OneWaySpellModel", "against", "(III)I"⟩, 77), (⟨"OneWaySpellModel", "tailSize", "(I)I"⟩, 77), (⟨"OneWaySpellModel", "tailLetter", "(II)I"⟩, 77), (⟨"OneWaySpellModel", "leftOf", "(II)I"⟩, 77), (⟨"OneWaySpellModel", "goesOn", "(I)V"⟩, 77), (⟨"OneWaySpellModel", "layBest", "()V"⟩, 77), (⟨"OneWaySpellModel", "tries", "(II)V"⟩, 77), (⟨"OneWaySpellModel", "takes", "(I)Z"⟩, 77), (⟨"OneWaySpellModel", "isBefore", "([III)Z"⟩, 77), (⟨"OneWaySpellModel", "takesWord", "([III)V"⟩, 77), (⟨"OneWaySpellModel", "layWays", "([II)V"⟩, 77), (⟨"OneWaySpellModel", "stands", "(I[III)Z"⟩, 77), (⟨"OneWaySpellModel", "goesBy", "(J)J"⟩, 77), (⟨"OneWaySpellModel", "takenAt", "(II)I"⟩, 77), (⟨"OneWaySpellModel", "layCover", "()V"⟩, 77), (⟨"OneWaySpellModel", "coversBy", "(II)V"⟩, 77)]
theorem lw_r9 : ∀ q ∈ lw_privs_9, lw_okq q := List.forall_mem_cons.mpr ⟨lw_p128, List.forall_mem_cons.mpr ⟨lw_p129, List.forall_mem_cons.mpr ⟨lw_p130, List.forall_mem_cons.mpr ⟨lw_p131, List.forall_mem_cons.mpr ⟨lw_p132, List.forall_mem_cons.mpr ⟨lw_p133, List.forall_mem_cons.mpr ⟨lw_p134, List.forall_mem_cons.mpr ⟨lw_p135, List.forall_mem_cons.mpr ⟨lw_p136, List.forall_mem_cons.mpr ⟨lw_p137, List.forall_mem_cons.mpr ⟨lw_p138, List.forall_mem_cons.mpr ⟨lw_p139, List.forall_mem_cons.mpr ⟨lw_p140, List.forall_mem_cons.mpr ⟨lw_p141, List.forall_mem_cons.mpr ⟨lw_p142, List.forall_mem_cons.mpr ⟨lw_p143, fun _ h => absurd h List.not_mem_nil⟩⟩⟩⟩⟩⟩⟩⟩⟩⟩⟩⟩⟩⟩⟩⟩
theorem lw_p144 : lw_okq (⟨"OneWaySpellModel", "foolsBy", "(III)V"⟩, 77) := ⟨⟨by decide +kernel, by decide +kernel⟩, List.mem_of_getElem? (i := 1227) (by decide +kernel), List.mem_of_getElem? (i := 1743) (by decide +kernel), List.mem_of_getElem? (i := 1744) (by decide +kernel)⟩
theorem lw_p145 : lw_okq (⟨"OneWaySpellModel", "takesLeast", "()V"⟩, 77) := ⟨⟨by decide +kernel, by decide +kernel⟩, List.mem_of_getElem? (i := 1227) (by decide +kernel), List.mem_of_getElem? (i := 1747) (by decide +kernel), List.mem_of_getElem? (i := 1748) (by decide +kernel)⟩
theorem lw_p146 : lw_okq (⟨"OneWaySpellModel", "ofSound", "(II)I"⟩, 77) := ⟨⟨by decide +kernel, by decide +kernel⟩, List.mem_of_getElem? (i := 1227) (by decide +kernel), List.mem_of_getElem? (i := 1759) (by decide +kernel), List.mem_of_getElem? (i := 1760) (by decide +kernel)⟩
theorem lw_p147 : lw_okq (⟨"OneWaySpellModel", "isSpelling", "(I)Z"⟩, 77) := ⟨⟨by decide +kernel, by decide +kernel⟩, List.mem_of_getElem? (i := 1227) (by decide +kernel), List.mem_of_getElem? (i := 1763) (by decide +kernel), List.mem_of_getElem? (i := 1764) (by decide +kernel)⟩
theorem lw_p148 : lw_okq (⟨"OneWaySpellModel", "startsAnew", "()V"⟩, 77) := ⟨⟨by decide +kernel, by decide +kernel⟩, List.mem_of_getElem? (i := 1227) (by decide +kernel), List.mem_of_getElem? (i := 1779) (by decide +kernel), List.mem_of_getElem? (i := 1780) (by decide +kernel)⟩
theorem lw_p149 : lw_okq (⟨"OneWaySpellModel", "layNodes", "()V"⟩, 77) := ⟨⟨by decide +kernel, by decide +kernel⟩, List.mem_of_getElem? (i := 1227) (by decide +kernel), List.mem_of_getElem? (i := 1783) (by decide +kernel), List.mem_of_getElem? (i := 1784) (by decide +kernel)⟩
theorem lw_p150 : lw_okq (⟨"OneWaySpellModel", "countFrom", "(I)V"⟩, 77) := ⟨⟨by decide +kernel, by decide +kernel⟩, List.mem_of_getElem? (i := 1227) (by decide +kernel), List.mem_of_getElem? (i := 1787) (by decide +kernel), List.mem_of_getElem? (i := 1788) (by decide +kernel)⟩
theorem lw_p151 : lw_okq (⟨"OneWaySpellModel", "empties", "(I)V"⟩, 77) := ⟨⟨by decide +kernel, by decide +kernel⟩, List.mem_of_getElem? (i := 1227) (by decide +kernel), List.mem_of_getElem? (i := 1791) (by decide +kernel), List.mem_of_getElem? (i := 1792) (by decide +kernel)⟩
theorem lw_p152 : lw_okq (⟨"OneWaySpellModel", "counts", "(IJ)V"⟩, 77) := ⟨⟨by decide +kernel, by decide +kernel⟩, List.mem_of_getElem? (i := 1227) (by decide +kernel), List.mem_of_getElem? (i := 1795) (by decide +kernel), List.mem_of_getElem? (i := 1796) (by decide +kernel)⟩
theorem lw_p153 : lw_okq (⟨"OneWaySpellModel", "isThere", "(I)Z"⟩, 77) := ⟨⟨by decide +kernel, by decide +kernel⟩, List.mem_of_getElem? (i := 1227) (by decide +kernel), List.mem_of_getElem? (i := 1803) (by decide +kernel), List.mem_of_getElem? (i := 1804) (by decide +kernel)⟩
theorem lw_p154 : lw_okq (⟨"OneWaySpellModel", "steps", "(I)Z"⟩, 77) := ⟨⟨by decide +kernel, by decide +kernel⟩, List.mem_of_getElem? (i := 1227) (by decide +kernel), List.mem_of_getElem? (i := 1807) (by decide +kernel), List.mem_of_getElem? (i := 1808) (by decide +kernel)⟩
theorem lw_p155 : lw_okq (⟨"OneWaySpellModel", "oftenAt", "([JI)I"⟩, 77) := ⟨⟨by decide +kernel, by decide +kernel⟩, List.mem_of_getElem? (i := 1227) (by decide +kernel), List.mem_of_getElem? (i := 1811) (by decide +kernel), List.mem_of_getElem? (i := 1812) (by decide +kernel)⟩
theorem lw_p156 : lw_okq (⟨"OneWaySpellModel", "adds", "(II)V"⟩, 77) := ⟨⟨by decide +kernel, by decide +kernel⟩, List.mem_of_getElem? (i := 1227) (by decide +kernel), List.mem_of_getElem? (i := 1819) (by decide +kernel), List.mem_of_getElem? (i := 1820) (by decide +kernel)⟩
theorem lw_p157 : lw_okq (⟨"OneWaySpellModel", "behindBy", "(II)J"⟩, 77) := ⟨⟨by decide +kernel, by decide +kernel⟩, List.mem_of_getElem? (i := 1227) (by decide +kernel), List.mem_of_getElem? (i := 1827) (by decide +kernel), List.mem_of_getElem? (i := 1828) (by decide +kernel)⟩
theorem lw_p158 : lw_okq (⟨"OneWaySpellModel", "goesThere", "()V"⟩, 77) := ⟨⟨by decide +kernel, by decide +kernel⟩, List.mem_of_getElem? (i := 1227) (by decide +kernel), List.mem_of_getElem? (i := 1831) (by decide +kernel), List.mem_of_getElem? (i := 1832) (by decide +kernel)⟩
theorem lw_p159 : lw_okq (⟨"OneWaySpellModel", "layBorders", "(I)V"⟩, 77) := ⟨⟨by decide +kernel, by decide +kernel⟩, List.mem_of_getElem? (i := 1227) (by decide +kernel), List.mem_of_getElem? (i := 1843) (by decide +kernel), List.mem_of_getElem? (i := 1844) (by decide +kernel)⟩
def lw_privs_10 : List (MethodName × Nat) := [(⟨"OneWaySpellModel", "foolsBy", "(III)V"⟩, 77), (⟨"OneWaySpellModel", "takesLeast", "()V"⟩, 77), (⟨"OneWaySpellModel", "ofSound", "(II)I"⟩, 77), (⟨"OneWaySpellModel", "isSpelling", "(I)Z"⟩, 77), (⟨"OneWaySpellModel", "startsAnew", "()V"⟩, 77), (⟨"OneWaySpellModel", "layNodes", "()V"⟩, 77), (⟨"OneWaySpellModel", "countFrom", "(I)V"⟩, 77), (⟨"OneWaySpellModel", "empties", "(I)V"⟩, 77), (⟨"OneWaySpellModel", "counts", "(IJ)V"⟩, 77), (⟨"OneWaySpellModel", "isThere", "(I)Z"⟩, 77), (⟨"OneWaySpellModel", "steps", "(I)Z"⟩, 77), (⟨"OneWaySpellModel", "oftenAt", "([JI)I"⟩, 77), (⟨"OneWaySpellModel", "adds", "(II)V"⟩, 77), (⟨"OneWaySpellModel", "behindBy", "(II)J"⟩, 77), (⟨"OneWaySpellModel", "goesThere", "()V"⟩, 77), (⟨"OneWaySpellModel", "layBorders", "(I)V"⟩, 77)]
theorem lw_r10 : ∀ q ∈ lw_privs_10, lw_okq q := List.forall_mem_cons.mpr ⟨lw_p144, List.forall_mem_cons.mpr ⟨lw_p145, List.forall_mem_cons.mpr ⟨lw_p146, List.forall_mem_cons.mpr ⟨lw_p147, List.forall_mem_cons.mpr ⟨lw_p148, List.forall_mem_cons.mpr ⟨lw_p149, List.forall_mem_cons.mpr ⟨lw_p150, List.forall_mem_cons.mpr ⟨lw_p151, List.forall_mem_cons.mpr ⟨lw_p152, List.forall_mem_cons.mpr ⟨lw_p153, List.forall_mem_cons.mpr ⟨lw_p154, List.forall_mem_cons.mpr ⟨lw_p155, List.forall_mem_cons.mpr ⟨lw_p156, List.forall_mem_cons.mpr ⟨lw_p157, List.forall_mem_cons.mpr ⟨lw_p158, List.forall_mem_cons.mpr ⟨lw_p159, fun _ h => absurd h List.not_mem_nil⟩⟩⟩⟩⟩⟩⟩⟩⟩⟩⟩⟩⟩⟩⟩⟩
theorem lw_p160 : lw_okq (⟨"OneWaySpellModel", "unpack", "(II)V"⟩, 77) := ⟨⟨by decide +kernel, by decide +kernel⟩, List.mem_of_getElem? (i := 1227) (by decide +kernel), List.mem_of_getElem? (i := 1847) (by decide +kernel), List.mem_of_getElem? (i := 1848) (by decide +kernel)⟩
theorem lw_p161 : lw_okq (⟨"OneWaySpellModel", "layEndsOf", "(I)V"⟩, 77) := ⟨⟨by decide +kernel, by decide +kernel⟩, List.mem_of_getElem? (i := 1227) (by decide +kernel), List.mem_of_getElem? (i := 1851) (by decide +kernel), List.mem_of_getElem? (i := 1852) (by decide +kernel)⟩
theorem lw_p162 : lw_okq (⟨"OneWaySpellModel", "meetsEnd", "(III)Z"⟩, 77) := ⟨⟨by decide +kernel, by decide +kernel⟩, List.mem_of_getElem? (i := 1227) (by decide +kernel), List.mem_of_getElem? (i := 1855) (by decide +kernel), List.mem_of_getElem? (i := 1856) (by decide +kernel)⟩
theorem lw_p163 : lw_okq (⟨"OneWaySpellModel", "isWithin", "(I)Z"⟩, 77) := ⟨⟨by decide +kernel, by decide +kernel⟩, List.mem_of_getElem? (i := 1227) (by decide +kernel), List.mem_of_getElem? (i := 1859) (by decide +kernel), List.mem_of_getElem? (i := 1860) (by decide +kernel)⟩
theorem lw_p164 : lw_okq (⟨"OneWaySpellModel", "puts", "(IIZ)V"⟩, 77) := ⟨⟨by decide +kernel, by decide +kernel⟩, List.mem_of_getElem? (i := 1227) (by decide +kernel), List.mem_of_getElem? (i := 1863) (by decide +kernel), List.mem_of_getElem? (i := 1864) (by decide +kernel)⟩
theorem lw_p165 : lw_okq (⟨"OneWaySpellModel", "cureOf", "(I)I"⟩, 77) := ⟨⟨by decide +kernel, by decide +kernel⟩, List.mem_of_getElem? (i := 1227) (by decide +kernel), List.mem_of_getElem? (i := 1875) (by decide +kernel), List.mem_of_getElem? (i := 1876) (by decide +kernel)⟩
theorem lw_p166 : lw_okq (⟨"OneWaySpellModel", "isCure", "(II)Z"⟩, 77) := ⟨⟨by decide +kernel, by decide +kernel⟩, List.mem_of_getElem? (i := 1227) (by decide +kernel), List.mem_of_getElem? (i := 1879) (by decide +kernel), List.mem_of_getElem? (i := 1880) (by decide +kernel)⟩
theorem lw_p167 : lw_okq (⟨"OneWaySpellModel", "does", "(II)V"⟩, 77) := ⟨⟨by decide +kernel, by decide +kernel⟩, List.mem_of_getElem? (i := 1227) (by decide +kernel), List.mem_of_getElem? (i := 1883) (by decide +kernel), List.mem_of_getElem? (i := 1884) (by decide +kernel)⟩
theorem lw_p168 : lw_okq (⟨"OneWaySpellModel", "marks", "(IZ)V"⟩, 77) := ⟨⟨by decide +kernel, by decide +kernel⟩, List.mem_of_getElem? (i := 1227) (by decide +kernel), List.mem_of_getElem? (i := 1887) (by decide +kernel), List.mem_of_getElem? (i := 1888) (by decide +kernel)⟩
theorem lw_p169 : lw_okq (⟨"OneWaySpellModel", "partsNow", "()Z"⟩, 77) := ⟨⟨by decide +kernel, by decide +kernel⟩, List.mem_of_getElem? (i := 1227) (by decide +kernel), List.mem_of_getElem? (i := 1891) (by decide +kernel), List.mem_of_getElem? (i := 1892) (by decide +kernel)⟩
theorem lw_p170 : lw_okq (⟨"OneWaySpellModel", "comesIn", "(II)Z"⟩, 77) := ⟨⟨by decide +kernel, by decide +kernel⟩, List.mem_of_getElem? (i := 1227) (by decide +kernel), List.mem_of_getElem? (i := 1895) (by decide +kernel), List.mem_of_getElem? (i := 1896) (by decide +kernel)⟩
theorem lw_p171 : lw_okq (⟨"OneWaySpellModel", "unmarks", "(IZ)V"⟩, 77) := ⟨⟨by decide +kernel, by decide +kernel⟩, List.mem_of_getElem? (i := 1227) (by decide +kernel), List.mem_of_getElem? (i := 1899) (by decide +kernel), List.mem_of_getElem? (i := 1900) (by decide +kernel)⟩
theorem lw_p172 : lw_okq (⟨"OneWaySpellModel", "keep", "()V"⟩, 77) := ⟨⟨by decide +kernel, by decide +kernel⟩, List.mem_of_getElem? (i := 1227) (by decide +kernel), List.mem_of_getElem? (i := 1907) (by decide +kernel), List.mem_of_getElem? (i := 1908) (by decide +kernel)⟩
def lw_privs_11 : List (MethodName × Nat) := [(⟨"OneWaySpellModel", "unpack", "(II)V"⟩, 77), (⟨"OneWaySpellModel", "layEndsOf", "(I)V"⟩, 77), (⟨"OneWaySpellModel", "meetsEnd", "(III)Z"⟩, 77), (⟨"OneWaySpellModel", "isWithin", "(I)Z"⟩, 77), (⟨"OneWaySpellModel", "puts", "(IIZ)V"⟩, 77), (⟨"OneWaySpellModel", "cureOf", "(I)I"⟩, 77), (⟨"OneWaySpellModel", "isCure", "(II)Z"⟩, 77), (⟨"OneWaySpellModel", "does", "(II)V"⟩, 77), (⟨"OneWaySpellModel", "marks", "(IZ)V"⟩, 77), (⟨"OneWaySpellModel", "partsNow", "()Z"⟩, 77), (⟨"OneWaySpellModel", "comesIn", "(II)Z"⟩, 77), (⟨"OneWaySpellModel", "unmarks", "(IZ)V"⟩, 77), (⟨"OneWaySpellModel", "keep", "()V"⟩, 77)]
theorem lw_r11 : ∀ q ∈ lw_privs_11, lw_okq q := List.forall_mem_cons.mpr ⟨lw_p160, List.forall_mem_cons.mpr ⟨lw_p161, List.forall_mem_cons.mpr ⟨lw_p162, List.forall_mem_cons.mpr ⟨lw_p163, List.forall_mem_cons.mpr ⟨lw_p164, List.forall_mem_cons.mpr ⟨lw_p165, List.forall_mem_cons.mpr ⟨lw_p166, List.forall_mem_cons.mpr ⟨lw_p167, List.forall_mem_cons.mpr ⟨lw_p168, List.forall_mem_cons.mpr ⟨lw_p169, List.forall_mem_cons.mpr ⟨lw_p170, List.forall_mem_cons.mpr ⟨lw_p171, List.forall_mem_cons.mpr ⟨lw_p172, fun _ h => absurd h List.not_mem_nil⟩⟩⟩⟩⟩⟩⟩⟩⟩⟩⟩⟩⟩
def lw_privs : List (MethodName × Nat) := lw_privs_1 ++ (lw_privs_2 ++ (lw_privs_3 ++ (lw_privs_4 ++ (lw_privs_5 ++ (lw_privs_6 ++ (lw_privs_7 ++ (lw_privs_8 ++ (lw_privs_9 ++ (lw_privs_10 ++ (lw_privs_11))))))))))
def lw_tbl : List Cond := k2_sels lw_privs ++ tables_1
theorem lw_privs_ok : ∀ q ∈ lw_privs, lw_okq q := by
  show ∀ q ∈ lw_privs_1 ++ (lw_privs_2 ++ (lw_privs_3 ++ (lw_privs_4 ++ (lw_privs_5 ++ (lw_privs_6 ++ (lw_privs_7 ++ (lw_privs_8 ++ (lw_privs_9 ++ (lw_privs_10 ++ (lw_privs_11)))))))))), lw_okq q
  exact List.forall_mem_append.mpr ⟨lw_r1, List.forall_mem_append.mpr ⟨lw_r2, List.forall_mem_append.mpr ⟨lw_r3, List.forall_mem_append.mpr ⟨lw_r4, List.forall_mem_append.mpr ⟨lw_r5, List.forall_mem_append.mpr ⟨lw_r6, List.forall_mem_append.mpr ⟨lw_r7, List.forall_mem_append.mpr ⟨lw_r8, List.forall_mem_append.mpr ⟨lw_r9, List.forall_mem_append.mpr ⟨lw_r10, lw_r11⟩⟩⟩⟩⟩⟩⟩⟩⟩⟩
-- ===== end of PART A; then your names; then what follows =====
end
section
/-! the classes whose objects the worlds hold, their fields; the words of the tables that last -/
def gt : List Cond := lw_tbl.filter goodWord
theorem gt_of {ws : List Cond} (h : GoodIn lw_tbl ws) : ∀ w ∈ ws, w ∈ gt := fun w hw => by
  obtain ⟨h1, h2⟩ := h w hw
  refine List.mem_filter.mpr ⟨h1, ?_⟩
  rcases h2 with h2 | ⟨ty, rfl⟩
  · cases w <;> first | rfl | exact h2
  · rfl
theorem gt_good {w : Cond} (h : w ∈ gt) : (w.onTables && w.keeps) = true ∨ ∃ ty, w = .arrayClass ty := good_of_word (List.mem_filter.mp h).2
theorem gt_in {w : Cond} (i : Nat) (h : lw_tbl[i]? = some w) (hg : goodWord w = true) : w ∈ gt := List.mem_filter.mpr ⟨List.mem_of_getElem? h, hg⟩
theorem gt_ps (ws : List Cond) (ps : List Nat) (hp : ws = ps.filterMap (fun i => lw_tbl[i]?)) (h : ws.all goodWord = true) : ∀ w ∈ ws, w ∈ gt := fun w hw => by
  have h1 := List.all_eq_true.mp h w hw
  rw [hp] at hw
  obtain ⟨i, -, hi⟩ := List.mem_filterMap.mp hw
  exact gt_in i hi h1
def cn0 : String := "OneWaySpell$Borders"
def tf0 : u_T := fun k => match k with
  | 0 => ("OneWaySpell$Borders", "passes", "[J", true)
  | 1 => ("OneWaySpell$Borders", "endsInside", "[J", true)
  | 2 => ("OneWaySpell$Borders", "list", "[I", false)
  | 3 => ("OneWaySpell$Borders", "size", "I", false)
  | 4 => ("OneWaySpell$Borders", "start", "[I", true)
  | _ => ("OneWaySpell$Borders", "stamp", "I", false)
def ft0 : Nat → FieldType := fun k => match k with
  | 0 => .array .long
  | 1 => .array .long
  | 2 => .array .int
  | 3 => .int
  | 4 => .array .int
  | _ => .int
def cn1 : String := "OneWaySpell$Census"
def tf1 : u_T := fun k => match k with
  | 0 => ("OneWaySpell$Census", "key", "[I", false)
  | 1 => ("OneWaySpell$Census", "level", "[I", false)
  | 2 => ("OneWaySpell$Census", "some", "[J", false)
  | 3 => ("OneWaySpell$Census", "once", "[J", false)
  | 4 => ("OneWaySpell$Census", "states", "I", false)
  | 5 => ("OneWaySpell$Census", "slot", "[I", false)
  | 6 => ("OneWaySpell$Census", "firstEdge", "[I", false)
  | 7 => ("OneWaySpell$Census", "edgeSign", "[B", false)
  | 8 => ("OneWaySpell$Census", "edgeTo", "[I", false)
  | 9 => ("OneWaySpell$Census", "edgeCount", "I", false)
  | _ => ("OneWaySpell$Census", "stamp", "I", false)
def ft1 : Nat → FieldType := fun k => match k with
  | 0 => .array .int
  | 1 => .array .int
  | 2 => .array .long
  | 3 => .array .long
  | 4 => .int
  | 5 => .array .int
  | 6 => .array .int
  | 7 => .array .byte
  | 8 => .array .int
  | 9 => .int
  | _ => .int
def cn2 : String := "OneWaySpell$Cures"
def tf2 : u_T := fun k => match k with
  | 0 => ("OneWaySpell$Cures", "trial", "LOneWaySpell$Groups;", true)
  | 1 => ("OneWaySpell$Cures", "tails", "LOneWaySpell$Tails;", true)
  | 2 => ("OneWaySpell$Cures", "answer", "[I", true)
  | 3 => ("OneWaySpell$Cures", "answerStamp", "[I", true)
  | 4 => ("OneWaySpell$Cures", "number", "[I", true)
  | 5 => ("OneWaySpell$Cures", "numbers", "I", false)
  | 6 => ("OneWaySpell$Cures", "choosable", "I", false)
  | 7 => ("OneWaySpell$Cures", "chosen", "[I", true)
  | 8 => ("OneWaySpell$Cures", "clash", "[I", true)
  | 9 => ("OneWaySpell$Cures", "clashChosen", "[I", true)
  | 10 => ("OneWaySpell$Cures", "learnt", "I", false)
  | _ => ("OneWaySpell$Cures", "hopeless", "Z", false)
def ft2 : Nat → FieldType := fun k => match k with
  | 0 => .object "OneWaySpell$Groups"
  | 1 => .object "OneWaySpell$Tails"
  | 2 => .array .int
  | 3 => .array .int
  | 4 => .array .int
  | 5 => .int
  | 6 => .int
  | 7 => .array .int
  | 8 => .array .int
  | 9 => .array .int
  | 10 => .int
  | _ => .boolean
def cn3 : String := "OneWaySpell$Groups"
def tf3 : u_T := fun k => match k with
  | 0 => ("OneWaySpell$Groups", "code", "[J", true)
  | 1 => ("OneWaySpell$Groups", "length", "[I", true)
  | 2 => ("OneWaySpell$Groups", "sound", "[I", true)
  | 3 => ("OneWaySpell$Groups", "count", "I", false)
  | 4 => ("OneWaySpell$Groups", "soundCount", "I", false)
  | 5 => ("OneWaySpell$Groups", "in", "I", false)
  | 6 => ("OneWaySpell$Groups", "stamp", "I", false)
  | 7 => ("OneWaySpell$Groups", "actWay", "[I", true)
  | 8 => ("OneWaySpell$Groups", "actMask", "[I", true)
  | _ => ("OneWaySpell$Groups", "actCount", "I", false)
def ft3 : Nat → FieldType := fun k => match k with
  | 0 => .array .long
  | 1 => .array .int
  | 2 => .array .int
  | 3 => .int
  | 4 => .int
  | 5 => .int
  | 6 => .int
  | 7 => .array .int
  | 8 => .array .int
  | _ => .int
def cn4 : String := "OneWaySpell$Reader"
def tf4 : u_T := fun k => match k with
  | 0 => ("OneWaySpell$Reader", "best", "[B", true)
  | 1 => ("OneWaySpell$Reader", "bestSize", "I", false)
  | 2 => ("OneWaySpell$Reader", "trial", "[B", true)
  | 3 => ("OneWaySpell$Reader", "trialSize", "I", false)
  | _ => ("OneWaySpell$Reader", "covered", "[Z", true)
def ft4 : Nat → FieldType := fun k => match k with
  | 0 => .array .byte
  | 1 => .int
  | 2 => .array .byte
  | 3 => .int
  | _ => .array .boolean
def cn5 : String := "OneWaySpell$Speller"
def tf5 : u_T := fun k => match k with
  | 0 => ("OneWaySpell$Speller", "asked", "[I", true)
  | 1 => ("OneWaySpell$Speller", "askedCount", "I", false)
  | 2 => ("OneWaySpell$Speller", "atLeast", "[I", true)
  | 3 => ("OneWaySpell$Speller", "row", "[I", true)
  | 4 => ("OneWaySpell$Speller", "best", "[I", true)
  | 5 => ("OneWaySpell$Speller", "bestSize", "I", false)
  | _ => ("OneWaySpell$Speller", "ways", "[I", true)
def ft5 : Nat → FieldType := fun k => match k with
  | 0 => .array .int
  | 1 => .int
  | 2 => .array .int
  | 3 => .array .int
  | 4 => .array .int
  | 5 => .int
  | _ => .array .int
def cn6 : String := "OneWaySpell$Tails"
def tf6 : u_T := fun k => match k with
  | 0 => ("OneWaySpell$Tails", "code", "[J", true)
  | 1 => ("OneWaySpell$Tails", "length", "[I", true)
  | 2 => ("OneWaySpell$Tails", "from", "[I", true)
  | 3 => ("OneWaySpell$Tails", "size", "I", false)
  | 4 => ("OneWaySpell$Tails", "start", "[I", true)
  | 5 => ("OneWaySpell$Tails", "rounds", "I", false)
  | 6 => ("OneWaySpell$Tails", "doubtRound", "I", false)
  | 7 => ("OneWaySpell$Tails", "clash", "I", false)
  | 8 => ("OneWaySpell$Tails", "stamp", "I", false)
  | 9 => ("OneWaySpell$Tails", "deep", "[I", true)
  | 10 => ("OneWaySpell$Tails", "gain", "[I", true)
  | _ => ("OneWaySpell$Tails", "leadsTo", "[I", true)
def ft6 : Nat → FieldType := fun k => match k with
  | 0 => .array .long
  | 1 => .array .int
  | 2 => .array .int
  | 3 => .int
  | 4 => .array .int
  | 5 => .int
  | 6 => .int
  | 7 => .int
  | 8 => .int
  | 9 => .array .int
  | 10 => .array .int
  | _ => .array .int
def cn7 : String := "OneWaySpell$Teller"
def tf7 : u_T := fun k => match k with
  | 0 => ("OneWaySpell$Teller", "name", "[J", true)
  | 1 => ("OneWaySpell$Teller", "nameCount", "I", false)
  | 2 => ("OneWaySpell$Teller", "code", "[J", true)
  | 3 => ("OneWaySpell$Teller", "length", "[I", true)
  | 4 => ("OneWaySpell$Teller", "sound", "[I", true)
  | 5 => ("OneWaySpell$Teller", "groupCount", "I", false)
  | 6 => ("OneWaySpell$Teller", "state", "I", false)
  | 7 => ("OneWaySpell$Teller", "wrong", "I", false)
  | _ => ("OneWaySpell$Teller", "wrongAt", "I", false)
def ft7 : Nat → FieldType := fun k => match k with
  | 0 => .array .long
  | 1 => .int
  | 2 => .array .long
  | 3 => .array .int
  | 4 => .array .int
  | 5 => .int
  | 6 => .int
  | 7 => .int
  | _ => .int
def cn8 : String := "OneWaySpell$Tree"
def tf8 : u_T := fun k => match k with
  | 0 => ("OneWaySpell$Tree", "child", "[I", true)
  | 1 => ("OneWaySpell$Tree", "suffix", "[I", true)
  | 2 => ("OneWaySpell$Tree", "depth", "[I", true)
  | 3 => ("OneWaySpell$Tree", "whole", "[Z", true)
  | 4 => ("OneWaySpell$Tree", "inner", "[Z", true)
  | 5 => ("OneWaySpell$Tree", "parent", "[I", true)
  | 6 => ("OneWaySpell$Tree", "lastSign", "[I", true)
  | 7 => ("OneWaySpell$Tree", "bySign", "[I", true)
  | 8 => ("OneWaySpell$Tree", "signStart", "[I", true)
  | 9 => ("OneWaySpell$Tree", "size", "I", false)
  | _ => ("OneWaySpell$Tree", "stamp", "I", false)
def ft8 : Nat → FieldType := fun k => match k with
  | 0 => .array .int
  | 1 => .array .int
  | 2 => .array .int
  | 3 => .array .boolean
  | 4 => .array .boolean
  | 5 => .array .int
  | 6 => .array .int
  | 7 => .array .int
  | 8 => .array .int
  | 9 => .int
  | _ => .int
def cn9 : String := "OneWaySpell$Twins"
def tf9 : u_T := fun k => match k with
  | 0 => ("OneWaySpell$Twins", "met", "[Z", true)
  | 1 => ("OneWaySpell$Twins", "state", "[I", true)
  | 2 => ("OneWaySpell$Twins", "parent", "[I", true)
  | 3 => ("OneWaySpell$Twins", "sign", "[B", true)
  | 4 => ("OneWaySpell$Twins", "beginning", "[I", true)
  | 5 => ("OneWaySpell$Twins", "size", "I", false)
  | 6 => ("OneWaySpell$Twins", "beginnings", "I", false)
  | 7 => ("OneWaySpell$Twins", "last", "I", false)
  | 8 => ("OneWaySpell$Twins", "lastSign", "I", false)
  | _ => ("OneWaySpell$Twins", "found", "[B", true)
def ft9 : Nat → FieldType := fun k => match k with
  | 0 => .array .boolean
  | 1 => .array .int
  | 2 => .array .int
  | 3 => .array .byte
  | 4 => .array .int
  | 5 => .int
  | 6 => .int
  | 7 => .int
  | 8 => .int
  | _ => .array .byte
def cn10 : String := "OneWaySpell$Word"
def tf10 : u_T := fun k => match k with
  | 0 => ("OneWaySpell$Word", "sign", "[B", true)
  | 1 => ("OneWaySpell$Word", "size", "I", false)
  | 2 => ("OneWaySpell$Word", "ways", "[J", true)
  | 3 => ("OneWaySpell$Word", "reached", "[Z", true)
  | _ => ("OneWaySpell$Word", "toPass", "J", false)
def ft10 : Nat → FieldType := fun k => match k with
  | 0 => .array .byte
  | 1 => .int
  | 2 => .array .long
  | 3 => .array .boolean
  | _ => .long
def cn11 : String := "OneWaySpell"
def tf11 : u_T := fun k => match k with
  | 0 => ("OneWaySpell", "tape", "[B", true)
  | 1 => ("OneWaySpell", "taped", "I", false)
  | 2 => ("OneWaySpell", "groups", "LOneWaySpell$Groups;", true)
  | 3 => ("OneWaySpell", "teller", "LOneWaySpell$Teller;", true)
  | 4 => ("OneWaySpell", "theWord", "LOneWaySpell$Word;", true)
  | 5 => ("OneWaySpell", "tree", "LOneWaySpell$Tree;", false)
  | 6 => ("OneWaySpell", "tailRounds", "LOneWaySpell$Tails;", false)
  | 7 => ("OneWaySpell", "twins", "LOneWaySpell$Twins;", false)
  | 8 => ("OneWaySpell", "reader", "LOneWaySpell$Reader;", false)
  | 9 => ("OneWaySpell", "speller", "LOneWaySpell$Speller;", false)
  | 10 => ("OneWaySpell", "census", "LOneWaySpell$Census;", false)
  | 11 => ("OneWaySpell", "edges", "LOneWaySpell$Borders;", false)
  | _ => ("OneWaySpell", "cures", "LOneWaySpell$Cures;", false)
def ft11 : Nat → FieldType := fun k => match k with
  | 0 => .array .byte
  | 1 => .int
  | 2 => .object "OneWaySpell$Groups"
  | 3 => .object "OneWaySpell$Teller"
  | 4 => .object "OneWaySpell$Word"
  | 5 => .object "OneWaySpell$Tree"
  | 6 => .object "OneWaySpell$Tails"
  | 7 => .object "OneWaySpell$Twins"
  | 8 => .object "OneWaySpell$Reader"
  | 9 => .object "OneWaySpell$Speller"
  | 10 => .object "OneWaySpell$Census"
  | 11 => .object "OneWaySpell$Borders"
  | _ => .object "OneWaySpell$Cures"
def cn12 : String := "OneWaySpellModel"
def tf12 : u_T := fun k => match k with
  | 0 => ("OneWaySpellModel", "thrown", "I", false)
  | 1 => ("OneWaySpellModel", "letters", "[I", true)
  | 2 => ("OneWaySpellModel", "size", "[I", true)
  | 3 => ("OneWaySpellModel", "soundOf", "[I", true)
  | 4 => ("OneWaySpellModel", "groups", "I", false)
  | 5 => ("OneWaySpellModel", "soundMany", "I", false)
  | 6 => ("OneWaySpellModel", "there", "I", false)
  | 7 => ("OneWaySpellModel", "tape", "[I", true)
  | 8 => ("OneWaySpellModel", "nameRead", "[I", true)
  | 9 => ("OneWaySpellModel", "lettersRead", "[I", true)
  | 10 => ("OneWaySpellModel", "sizeRead", "[I", true)
  | 11 => ("OneWaySpellModel", "soundRead", "[I", true)
  | 12 => ("OneWaySpellModel", "taped", "I", false)
  | 13 => ("OneWaySpellModel", "length", "I", false)
  | 14 => ("OneWaySpellModel", "at", "I", false)
  | 15 => ("OneWaySpellModel", "behind", "I", false)
  | 16 => ("OneWaySpellModel", "token", "I", false)
  | 17 => ("OneWaySpellModel", "faultKind", "I", false)
  | 18 => ("OneWaySpellModel", "faultPlace", "I", false)
  | 19 => ("OneWaySpellModel", "wrong", "I", false)
  | 20 => ("OneWaySpellModel", "wrongAt", "I", false)
  | 21 => ("OneWaySpellModel", "soundsRead", "I", false)
  | 22 => ("OneWaySpellModel", "groupsRead", "I", false)
  | 23 => ("OneWaySpellModel", "word", "[I", true)
  | 24 => ("OneWaySpellModel", "wordSize", "I", false)
  | 25 => ("OneWaySpellModel", "tailsAre", "Z", false)
  | 26 => ("OneWaySpellModel", "nodesAre", "Z", false)
  | 27 => ("OneWaySpellModel", "tailGroup", "[I", true)
  | 28 => ("OneWaySpellModel", "tailAt", "[I", true)
  | 29 => ("OneWaySpellModel", "roundOf", "[I", true)
  | 30 => ("OneWaySpellModel", "endOf", "[I", true)
  | 31 => ("OneWaySpellModel", "toTail", "[I", true)
  | 32 => ("OneWaySpellModel", "tails", "I", false)
  | 33 => ("OneWaySpellModel", "rounds", "I", false)
  | 34 => ("OneWaySpellModel", "doubtRound", "I", false)
  | 35 => ("OneWaySpellModel", "best", "[I", true)
  | 36 => ("OneWaySpellModel", "bestSize", "[I", true)
  | 37 => ("OneWaySpellModel", "trial", "[I", true)
  | 38 => ("OneWaySpellModel", "trialSize", "I", false)
  | 39 => ("OneWaySpellModel", "more", "[I", true)
  | 40 => ("OneWaySpellModel", "ways", "[J", true)
  | 41 => ("OneWaySpellModel", "readAt", "I", false)
  | 42 => ("OneWaySpellModel", "readGroup", "I", false)
  | 43 => ("OneWaySpellModel", "firstRow", "[I", true)
  | 44 => ("OneWaySpellModel", "cover", "[I", true)
  | 45 => ("OneWaySpellModel", "coverSize", "[I", true)
  | 46 => ("OneWaySpellModel", "least", "[I", true)
  | 47 => ("OneWaySpellModel", "leastSize", "I", false)
  | 48 => ("OneWaySpellModel", "comesTo", "[Z", true)
  | 49 => ("OneWaySpellModel", "told", "[I", true)
  | 50 => ("OneWaySpellModel", "chosen", "[I", true)
  | 51 => ("OneWaySpellModel", "nodeNext", "[I", true)
  | 52 => ("OneWaySpellModel", "nodeEnds", "[Z", true)
  | 53 => ("OneWaySpellModel", "nodes", "I", false)
  | 54 => ("OneWaySpellModel", "keys", "[J", true)
  | 55 => ("OneWaySpellModel", "counts", "[J", true)
  | 56 => ("OneWaySpellModel", "isTaken", "[Z", true)
  | 57 => ("OneWaySpellModel", "taken", "[I", true)
  | 58 => ("OneWaySpellModel", "takenMany", "[I", true)
  | 59 => ("OneWaySpellModel", "from", "[J", true)
  | 60 => ("OneWaySpellModel", "to", "[J", true)
  | 61 => ("OneWaySpellModel", "some", "J", false)
  | 62 => ("OneWaySpellModel", "twice", "J", false)
  | 63 => ("OneWaySpellModel", "here", "[J", true)
  | 64 => ("OneWaySpellModel", "gone", "[J", true)
  | 65 => ("OneWaySpellModel", "open", "[I", true)
  | 66 => ("OneWaySpellModel", "openMany", "[I", true)
  | 67 => ("OneWaySpellModel", "border", "[I", true)
  | 68 => ("OneWaySpellModel", "its", "[I", true)
  | 69 => ("OneWaySpellModel", "isEnd", "[Z", true)
  | 70 => ("OneWaySpellModel", "bordersOf", "I", false)
  | 71 => ("OneWaySpellModel", "borderMany", "I", false)
  | 72 => ("OneWaySpellModel", "line", "[I", true)
  | 73 => ("OneWaySpellModel", "isIn", "[Z", true)
  | 74 => ("OneWaySpellModel", "lineMany", "I", false)
  | 75 => ("OneWaySpellModel", "kept", "[I", true)
  | _ => ("OneWaySpellModel", "acts", "I", false)
def ft12 : Nat → FieldType := fun k => match k with
  | 0 => .int
  | 1 => .array .int
  | 2 => .array .int
  | 3 => .array .int
  | 4 => .int
  | 5 => .int
  | 6 => .int
  | 7 => .array .int
  | 8 => .array .int
  | 9 => .array .int
  | 10 => .array .int
  | 11 => .array .int
  | 12 => .int
  | 13 => .int
  | 14 => .int
  | 15 => .int
  | 16 => .int
  | 17 => .int
  | 18 => .int
  | 19 => .int
  | 20 => .int
  | 21 => .int
  | 22 => .int
  | 23 => .array .int
  | 24 => .int
  | 25 => .boolean
  | 26 => .boolean
  | 27 => .array .int
  | 28 => .array .int
  | 29 => .array .int
  | 30 => .array .int
  | 31 => .array .int
  | 32 => .int
  | 33 => .int
  | 34 => .int
  | 35 => .array .int
  | 36 => .array .int
  | 37 => .array .int
  | 38 => .int
  | 39 => .array .int
  | 40 => .array .long
  | 41 => .int
  | 42 => .int
  | 43 => .array .int
  | 44 => .array .int
  | 45 => .array .int
  | 46 => .array .int
  | 47 => .int
  | 48 => .array .boolean
  | 49 => .array .int
  | 50 => .array .int
  | 51 => .array .int
  | 52 => .array .boolean
  | 53 => .int
  | 54 => .array .long
  | 55 => .array .long
  | 56 => .array .boolean
  | 57 => .array .int
  | 58 => .array .int
  | 59 => .array .long
  | 60 => .array .long
  | 61 => .long
  | 62 => .long
  | 63 => .array .long
  | 64 => .array .long
  | 65 => .array .int
  | 66 => .array .int
  | 67 => .array .int
  | 68 => .array .int
  | 69 => .array .boolean
  | 70 => .int
  | 71 => .int
  | 72 => .array .int
  | 73 => .array .boolean
  | 74 => .int
  | 75 => .array .int
  | _ => .int
abbrev cls : List vw_C := [(cn0, tf0, 6), (cn1, tf1, 11), (cn2, tf2, 12), (cn3, tf3, 10), (cn4, tf4, 5), (cn5, tf5, 7), (cn6, tf6, 12), (cn7, tf7, 9), (cn8, tf8, 11), (cn9, tf9, 10), (cn10, tf10, 5), (cn11, tf11, 13), (cn12, tf12, 77)]
def ftL : List (Nat → FieldType) := [ft0, ft1, ft2, ft3, ft4, ft5, ft6, ft7, ft8, ft9, ft10, ft11, ft12]
def fty (ci : Nat) : Nat → FieldType := ftL.getD ci (fun _ => .int)
def fNL : List Nat := [6, 11, 12, 10, 5, 7, 12, 9, 11, 10, 5, 13, 77]
def fN (ci : Nat) : Nat := fNL.getD ci 0
def clsOK (ci : Nat) (C : String) (T : u_T) (N : Nat) : Prop := (∀ w ∈ u_ws C T N, w ∈ gt) ∧ (∀ k, k < N → parseFieldDescriptor (T k).2.2.1 = some (fty ci k)) ∧ (∀ a, a < N → ∀ b, b < N → a ≠ b → (T a).2.1 ≠ (T b).2.1) ∧ (∀ k, k < N → (T k).1 = C) ∧ Cond.instantiable C N ∈ gt ∧ Cond.initialized C ∈ gt ∧ fN ci = N
set_option maxRecDepth 20000 in
theorem clsOK0 : clsOK 0 cn0 tf0 6 := ⟨gt_ps _ [1211, 1213, 1215, 1217, 1219, 1221] (by decide +kernel) (by decide +kernel), by decide +kernel, by decide +kernel, by decide +kernel, gt_in 1199 (by decide +kernel) (by decide +kernel), gt_in 189 (by decide +kernel) (by decide +kernel), rfl⟩
set_option maxRecDepth 20000 in
theorem clsOK1 : clsOK 1 cn1 tf1 11 := ⟨gt_ps _ [1090, 1092, 1094, 1096, 1098, 1100, 1102, 1104, 1106, 1108, 1110] (by decide +kernel) (by decide +kernel), by decide +kernel, by decide +kernel, by decide +kernel, gt_in 1073 (by decide +kernel) (by decide +kernel), gt_in 188 (by decide +kernel) (by decide +kernel), rfl⟩
set_option maxRecDepth 20000 in
theorem clsOK2 : clsOK 2 cn2 tf2 12 := ⟨gt_ps _ [1310, 1312, 1314, 1316, 1318, 1320, 1322, 1324, 1326, 1328, 1330, 1332] (by decide +kernel) (by decide +kernel), by decide +kernel, by decide +kernel, by decide +kernel, gt_in 1289 (by decide +kernel) (by decide +kernel), gt_in 190 (by decide +kernel) (by decide +kernel), rfl⟩
set_option maxRecDepth 20000 in
theorem clsOK3 : clsOK 3 cn3 tf3 10 := ⟨gt_ps _ [246, 248, 250, 252, 254, 256, 258, 260, 262, 264] (by decide +kernel) (by decide +kernel), by decide +kernel, by decide +kernel, by decide +kernel, gt_in 200 (by decide +kernel) (by decide +kernel), gt_in 175 (by decide +kernel) (by decide +kernel), rfl⟩
set_option maxRecDepth 20000 in
theorem clsOK4 : clsOK 4 cn4 tf4 5 := ⟨gt_ps _ [900, 902, 904, 906, 908] (by decide +kernel) (by decide +kernel), by decide +kernel, by decide +kernel, by decide +kernel, gt_in 890 (by decide +kernel) (by decide +kernel), gt_in 186 (by decide +kernel) (by decide +kernel), rfl⟩
set_option maxRecDepth 20000 in
theorem clsOK5 : clsOK 5 cn5 tf5 7 := ⟨gt_ps _ [1004, 1006, 1008, 1010, 1012, 1014, 1016] (by decide +kernel) (by decide +kernel), by decide +kernel, by decide +kernel, by decide +kernel, gt_in 992 (by decide +kernel) (by decide +kernel), gt_in 187 (by decide +kernel) (by decide +kernel), rfl⟩
set_option maxRecDepth 20000 in
theorem clsOK6 : clsOK 6 cn6 tf6 12 := ⟨gt_ps _ [547, 549, 551, 553, 555, 557, 559, 561, 563, 565, 567, 569] (by decide +kernel) (by decide +kernel), by decide +kernel, by decide +kernel, by decide +kernel, gt_in 523 (by decide +kernel) (by decide +kernel), gt_in 182 (by decide +kernel) (by decide +kernel), rfl⟩
set_option maxRecDepth 20000 in
theorem clsOK7 : clsOK 7 cn7 tf7 9 := ⟨gt_ps _ [292, 294, 296, 298, 300, 302, 304, 306, 308] (by decide +kernel) (by decide +kernel), by decide +kernel, by decide +kernel, by decide +kernel, gt_in 271 (by decide +kernel) (by decide +kernel), gt_in 176 (by decide +kernel) (by decide +kernel), rfl⟩
set_option maxRecDepth 20000 in
theorem clsOK8 : clsOK 8 cn8 tf8 11 := ⟨gt_ps _ [702, 704, 706, 708, 710, 712, 714, 716, 718, 720, 722] (by decide +kernel) (by decide +kernel), by decide +kernel, by decide +kernel, by decide +kernel, gt_in 674 (by decide +kernel) (by decide +kernel), gt_in 184 (by decide +kernel) (by decide +kernel), rfl⟩
set_option maxRecDepth 20000 in
theorem clsOK9 : clsOK 9 cn9 tf9 10 := ⟨gt_ps _ [648, 650, 652, 654, 656, 658, 660, 662, 664, 666] (by decide +kernel) (by decide +kernel), by decide +kernel, by decide +kernel, by decide +kernel, gt_in 633 (by decide +kernel) (by decide +kernel), gt_in 183 (by decide +kernel) (by decide +kernel), rfl⟩
set_option maxRecDepth 20000 in
theorem clsOK10 : clsOK 10 cn10 tf10 5 := ⟨gt_ps _ [328, 330, 332, 334, 336] (by decide +kernel) (by decide +kernel), by decide +kernel, by decide +kernel, by decide +kernel, gt_in 312 (by decide +kernel) (by decide +kernel), gt_in 177 (by decide +kernel) (by decide +kernel), rfl⟩
set_option maxRecDepth 20000 in
theorem clsOK11 : clsOK 11 cn11 tf11 13 := ⟨gt_ps _ [353, 355, 357, 359, 361, 363, 365, 367, 369, 371, 373, 375, 377] (by decide +kernel) (by decide +kernel), by decide +kernel, by decide +kernel, by decide +kernel, gt_in 192 (by decide +kernel) (by decide +kernel), gt_in 174 (by decide +kernel) (by decide +kernel), rfl⟩
set_option maxRecDepth 20000 in
theorem clsOK12 : clsOK 12 cn12 tf12 77 := ⟨gt_ps _ [1486, 1488, 1490, 1492, 1494, 1496, 1498, 1500, 1502, 1504, 1506, 1508, 1510, 1512, 1514, 1516, 1518, 1520, 1522, 1524, 1526, 1528, 1530, 1532, 1534, 1536, 1538, 1540, 1542, 1544, 1546, 1548, 1550, 1552, 1554, 1556, 1558, 1560, 1562, 1564, 1566, 1568, 1570, 1572, 1574, 1576, 1578, 1580, 1582, 1584, 1586, 1588, 1590, 1592, 1594, 1596, 1598, 1600, 1602, 1604, 1606, 1608, 1610, 1612, 1614, 1616, 1618, 1620, 1622, 1624, 1626, 1628, 1630, 1632, 1634, 1636, 1638] (by decide +kernel) (by decide +kernel), by decide +kernel, by decide +kernel, by decide +kernel, gt_in 1400 (by decide +kernel) (by decide +kernel), gt_in 178 (by decide +kernel) (by decide +kernel), rfl⟩
theorem cls_ok : ∀ (ci : Nat) (C : String) (T : u_T) (N : Nat), cls[ci]? = some (C, T, N) → clsOK ci C T N := by
  intro ci C T N h
  match ci, h with
  | 0, h => cases h; exact clsOK0
  | 1, h => cases h; exact clsOK1
  | 2, h => cases h; exact clsOK2
  | 3, h => cases h; exact clsOK3
  | 4, h => cases h; exact clsOK4
  | 5, h => cases h; exact clsOK5
  | 6, h => cases h; exact clsOK6
  | 7, h => cases h; exact clsOK7
  | 8, h => cases h; exact clsOK8
  | 9, h => cases h; exact clsOK9
  | 10, h => cases h; exact clsOK10
  | 11, h => cases h; exact clsOK11
  | 12, h => cases h; exact clsOK12
  | ci + 13, h => simp [cls] at h
end
section
/-! THE PURE MACHINE: its state, its relation to the real one. A reference is the number of a cell, in the order in which cells are made; the cell's real address is base + number. -/
abbrev PI : Type := Nat × Nat × Int × Nat × Nat × Nat
abbrev PH : Type := (Nat → Option (Nat × Nat)) × (Nat → Nat → Int32) × (Nat → Nat → Int64) × (Nat → Nat → Option Nat) × Nat × Nat × Nat × (Nat → Int32)
abbrev p_len (i : PI) : Nat := i.2.1
abbrev p_a (i : PI) : Int := i.2.2.1
abbrev p_b (i : PI) : Nat := i.2.2.2.1
abbrev p_c (i : PI) : Nat := i.2.2.2.2.1
abbrev p_e (i : PI) : Nat := i.2.2.2.2.2
def h_sh (h : PH) : Nat → Option (Nat × Nat) := h.1
def h_i (h : PH) : Nat → Nat → Int32 := h.2.1
def h_l (h : PH) : Nat → Nat → Int64 := h.2.2.1
def h_r (h : PH) : Nat → Nat → Option Nat := h.2.2.2.1
def h_ct (h : PH) : Nat := h.2.2.2.2.1
def h_sl (h : PH) : Nat := h.2.2.2.2.2.1
def h_sc (h : PH) : Nat × (Nat → Int32) := h.2.2.2.2.2.2
def up2 {α : Type} (f : Nat → Nat → α) (c k : Nat) (v : α) : Nat → Nat → α := fun c' k' => if c' = c then (if k' = k then v else f c' k') else f c' k'
def upr {α : Type} (f : Nat → Nat → α) (c : Nat) (g : Nat → α) : Nat → Nat → α := fun c' => if c' = c then g else f c'
def w_i (h : PH) (c k : Nat) (v : Int32) : PH := (h_sh h, up2 (h_i h) c k v, h_l h, h_r h, h_ct h, h_sl h, h_sc h)
def w_l (h : PH) (c k : Nat) (v : Int64) : PH := (h_sh h, h_i h, up2 (h_l h) c k v, h_r h, h_ct h, h_sl h, h_sc h)
def w_r (h : PH) (c k : Nat) (v : Option Nat) : PH := (h_sh h, h_i h, h_l h, up2 (h_r h) c k v, h_ct h, h_sl h, h_sc h)
def w_ri (h : PH) (c : Nat) (g : Nat → Int32) : PH := (h_sh h, upr (h_i h) c g, h_l h, h_r h, h_ct h, h_sl h, h_sc h)
def w_rl (h : PH) (c : Nat) (g : Nat → Int64) : PH := (h_sh h, h_i h, upr (h_l h) c g, h_r h, h_ct h, h_sl h, h_sc h)
def h_new (h : PH) (q : Nat × Nat) (n : Nat) : PH := (fun c => if c = h_ct h then some q else h_sh h c, upr (h_i h) (h_ct h) (fun _ => 0), upr (h_l h) (h_ct h) (fun _ => 0), upr (h_r h) (h_ct h) (fun _ => none), h_ct h + 1, h_sl h + n, h_sc h)
theorem up2_row {α : Type} (f : Nat → Nat → α) (c k : Nat) (v : α) : up2 f c k v c = fun j => if j = k then v else f c j := by funext j; simp [up2]
theorem up2_ne {α : Type} (f : Nat → Nat → α) {c c' : Nat} (k : Nat) (v : α) (h : c' ≠ c) : up2 f c k v c' = f c' := by funext j; simp [up2, h]
theorem upr_row {α : Type} (f : Nat → Nat → α) (c : Nat) (g : Nat → α) : upr f c g c = g := by simp [upr]
theorem upr_ne {α : Type} (f : Nat → Nat → α) {c c' : Nat} (g : Nat → α) (h : c' ≠ c) : upr f c g c' = f c' := by simp [upr, h]
/-- what is fixed of the real machine: base, the script's cell, length and numbers; classes and slots; the arrays' classes -/
abbrev Gx : Type := Nat × Nat × Nat × (Nat → Int32) × va_G × (FieldType → ClassId)
def tr (G : Gx) (v : Value) : Value := match v with
  | .ref c => .ref (G.1 + c)
  | .retAddr _ => .ref G.2.1
  | v => v
theorem tr_int (G : Gx) (x : Int32) : tr G (.int x) = .int x := rfl
theorem tr_long (G : Gx) (x : Int64) : tr G (.long x) = .long x := rfl
theorem tr_ref (G : Gx) (c : Nat) : tr G (.ref c) = .ref (G.1 + c) := rfl
theorem tr_null (G : Gx) : tr G .null = .null := rfl
theorem tr_cat (G : Gx) (v : Value) : (tr G v).category = v.category := by cases v <;> rfl
/-- locals: a long stands in two places, of which the second holds a mark -/
def okv (pls : List Value) (i : Nat) (v : Value) : Bool := match v with
  | .int _ => true
  | .ref _ => true
  | .null => true
  | .long _ => pls[i + 1]? == some (.retAddr 2)
  | .retAddr n => n == 1
  | _ => false
def lvs (G : Gx) (pls : List Value) : List (Nat × Value) := (List.range pls.length).filterMap (fun i => match pls[i]? with
  | some v => if okv pls i v = true then some (i, tr G v) else none
  | none => none)
theorem mem_lvs {G : Gx} {pls : List Value} {q : Nat × Value} : q ∈ lvs G pls ↔ ∃ v, pls[q.1]? = some v ∧ okv pls q.1 v = true ∧ q.2 = tr G v := by
  unfold lvs
  constructor
  · intro h
    obtain ⟨i, hi, h⟩ := List.mem_filterMap.mp h
    cases hv : pls[i]? with
    | none => rw [hv] at h; cases h
    | some v =>
      rw [hv] at h
      dsimp only at h
      by_cases ho : okv pls i v = true
      · rw [if_pos ho] at h
        cases h
        exact ⟨v, hv, ho, rfl⟩
      · rw [if_neg ho] at h
        cases h
  · intro ⟨v, hv, ho, e⟩
    refine List.mem_filterMap.mpr ⟨q.1, List.mem_range.mpr (List.getElem?_eq_some_iff.mp hv).1, ?_⟩
    rw [hv]
    dsimp only
    rw [if_pos ho, ← e]
def LV (G : Gx) (rls : Array Slot) (nL : Nat) (pls : List Value) : Prop := lv_has rls nL (lvs G pls) ∧ pls.length = nL
theorem LV.at {G : Gx} {rls : Array Slot} {nL : Nat} {pls : List Value} (h : LV G rls nL pls) {i : Nat} {v : Value} (hv : pls[i]? = some v) (ho : okv pls i v = true) : rls[i]? = some (.val (tr G v)) :=
  h.1.2.2 (i, tr G v) (mem_lvs.mpr ⟨v, hv, ho, rfl⟩)
theorem lv_mono {ls : Array Slot} {n : Nat} {a b : List (Nat × Value)} (h : lv_has ls n a) (hs : ∀ q ∈ b, q ∈ a) : lv_has ls n b := ⟨h.1, h.2.1, fun q hq => h.2.2 q (hs q hq)⟩
theorem lvs_set1 {G : Gx} {pls : List Value} {i : Nat} {v : Value} (hm : v ≠ .retAddr 2) (q : Nat × Value) (hq : q ∈ lvs G (pls.set i v)) :
    q ∈ (i, tr G v) :: (lvs G pls).filter (fun q => !(q.1 == i) && !(q.1 + 1 == i && q.2.category == 2)) := by
  obtain ⟨j, w⟩ := q
  obtain ⟨u, hu, ho, e⟩ := mem_lvs.mp hq
  dsimp only at hu ho e
  by_cases hj : j = i
  · subst hj
    have hl : j < pls.length := by have := (List.getElem?_eq_some_iff.mp hu).1; simpa using this
    rw [List.getElem?_set_self hl] at hu
    cases hu
    rw [e]
    exact List.mem_cons_self
  · refine List.mem_cons_of_mem _ (List.mem_filter.mpr ⟨?_, ?_⟩)
    · rw [List.getElem?_set_ne (Ne.symm hj)] at hu
      refine mem_lvs.mpr ⟨u, hu, ?_, e⟩
      cases u with
      | long x =>
        simp only [okv, beq_iff_eq] at ho ⊢
        by_cases h2 : i = j + 1
        · subst h2
          by_cases hl : j + 1 < pls.length
          · rw [List.getElem?_set_self hl] at ho
            exact absurd (Option.some.inj ho) hm
          · rw [List.getElem?_eq_none (by simp; omega)] at ho
            cases ho
        · rw [List.getElem?_set_ne h2] at ho
          exact ho
      | _ => first | rfl | exact ho
    · simp only [Bool.and_eq_true, Bool.not_eq_true', beq_eq_false_iff_ne, ne_eq, Bool.and_eq_false_iff]
      refine ⟨hj, ?_⟩
      cases u with
      | long x =>
        left
        intro h2
        simp only [okv, beq_iff_eq] at ho
        subst h2
        by_cases hl : j + 1 < pls.length
        · rw [List.getElem?_set_self hl] at ho
          exact hm (Option.some.inj ho)
        · rw [List.getElem?_eq_none (by simp; omega)] at ho
          cases ho
      | double x => cases ho
      | _ => right; rw [e, tr_cat]; intro h; cases h
theorem lvs_set2 {G : Gx} {pls : List Value} {i : Nat} {x : Int64} (q : Nat × Value) (hq : q ∈ lvs G ((pls.set i (.long x)).set (i + 1) (.retAddr 2))) :
    q ∈ (i, Value.long x) :: (lvs G pls).filter (fun q => !(q.1 == i) && (!(q.1 == i + 1) && !(q.1 + 1 == i && q.2.category == 2))) := by
  obtain ⟨j, w⟩ := q
  obtain ⟨u, hu, ho, e⟩ := mem_lvs.mp hq
  dsimp only at hu ho e
  by_cases hj1 : j = i + 1
  · subst hj1
    have hl : i + 1 < pls.length := by have := (List.getElem?_eq_some_iff.mp hu).1; simpa using this
    rw [List.getElem?_set_self (by simpa using hl)] at hu
    cases hu
    cases ho
  · by_cases hj : j = i
    · subst hj
      have hl : j < pls.length := by have := (List.getElem?_eq_some_iff.mp hu).1; simpa using this
      rw [List.getElem?_set_ne (by omega), List.getElem?_set_self hl] at hu
      cases hu
      rw [e]
      exact List.mem_cons_self
    · have hu' : pls[j]? = some u := by
        rw [List.getElem?_set_ne (by omega), List.getElem?_set_ne (by omega)] at hu
        exact hu
      refine List.mem_cons_of_mem _ (List.mem_filter.mpr ⟨?_, ?_⟩)
      · refine mem_lvs.mpr ⟨u, hu', ?_, e⟩
        cases u with
        | long y =>
          simp only [okv, beq_iff_eq] at ho ⊢
          rw [List.getElem?_set_ne (by omega)] at ho
          by_cases h2 : i = j + 1
          · subst h2
            by_cases hl : j + 1 < pls.length
            · rw [List.getElem?_set_self hl] at ho
              cases ho
            · rw [List.getElem?_eq_none (by simp; omega)] at ho
              cases ho
          · rw [List.getElem?_set_ne h2] at ho
            exact ho
        | _ => first | rfl | exact ho
      · simp only [Bool.and_eq_true, Bool.not_eq_true', beq_eq_false_iff_ne, ne_eq, Bool.and_eq_false_iff]
        refine ⟨hj, hj1, ?_⟩
        cases u with
        | long y =>
          left
          intro h2
          simp only [okv, beq_iff_eq] at ho
          subst h2
          rw [List.getElem?_set_ne (by omega)] at ho
          by_cases hl : j + 1 < pls.length
          · rw [List.getElem?_set_self hl] at ho
            cases ho
          · rw [List.getElem?_eq_none (by simp; omega)] at ho
            cases ho
        | double y => cases ho
        | _ => right; rw [e, tr_cat]; intro h; cases h
/-- heaps -/
def fkd (ty : FieldType) : Nat := match ty with
  | .long => 1
  | .object _ => 2
  | .array _ => 2
  | _ => 0
def fval (G : Gx) (h : PH) (ci c k : Nat) : Value := match fkd (fty ci k) with
  | 0 => .int (h_i h c k)
  | 1 => .long (h_l h c k)
  | _ => va_rf ((h_r h c k).map (G.1 + ·))
def cel (G : Gx) (h : PH) (c : Nat) (q : Nat × Nat) : va_E := match q.1 with
  | 0 => .inr (q.2, (List.range (fN q.2)).map (fval G h q.2 c))
  | 1 => .inl (G.2.2.2.2.2 .int, q.2, .inl (h_i h c))
  | 2 => .inl (G.2.2.2.2.2 .byte, q.2, .inl (h_i h c))
  | 3 => .inl (G.2.2.2.2.2 .boolean, q.2, .inl (h_i h c))
  | _ => .inl (G.2.2.2.2.2 .long, q.2, .inr (.inl (h_l h c)))
def Wh (G : Gx) (h : PH) (H : Heap) : Prop := H.size = G.1 + h_ct h ∧ h_sc h = (G.2.2.1, G.2.2.2.1) ∧ ∀ (c : Nat) (q : Nat × Nat), h_sh h c = some q → c < h_ct h ∧ va_at G.2.2.2.2.1 cls (G.1 + c, cel G h c q) H
def Ax (G : Gx) : Nat → Prop := fun q => G.1 ≤ q
def tys (G : Gx) : List (ClassId × FieldType) := [(G.2.2.2.2.2 .int, .int), (G.2.2.2.2.2 .byte, .byte), (G.2.2.2.2.2 .boolean, .boolean), (G.2.2.2.2.2 .long, .long)]
def isNest (w : Cond) : Bool := match w with
  | .fieldLinkNest .. => true
  | .methodLinkNest .. => true
  | _ => false
def nt : List Cond := lw_tbl.filter isNest
def Ks (G : Gx) (U : State) : Prop := va_K G.2.2.2.2.1 cls (tys G) U ∧ ∀ w ∈ nt, va_Nw w U
theorem Ks.warm {G : Gx} {s U : State} (hW : s.WarmedH U.vm) (h : Ks G s) : Ks G U := by
  refine ⟨va_K.moved hW.alike h.1, fun w hw => ?_⟩
  have h1 := h.2 w hw
  have h2 := (List.mem_filter.mp hw).2
  cases w with
  | fieldLinkNest a i b n d x => exact va_Nw.warmF hW h1
  | methodLinkNest a i x y => exact va_Nw.warmM hW h1
  | _ => cases h2
theorem Ks.calling {G : Gx} {U : State} {g : JFrame} {mk : MethodId} {a : Array Value} (h : Ks G U) : Ks G (U.calling g mk a) := by
  refine ⟨va_K.moved (u := U) (U := U.calling g mk a) (Vm.Alike.refl U.vm) h.1, fun w hw => ?_⟩
  have h1 := h.2 w hw
  have h2 := (List.mem_filter.mp hw).2
  cases w with
  | fieldLinkNest a i b n d x => exact va_Nw.same (u := U) rfl rfl h1
  | methodLinkNest a i x y => exact va_Nw.same (u := U) rfl rfl h1
  | _ => cases h2
def cNL : List String := [cn0, cn1, cn2, cn3, cn4, cn5, cn6, cn7, cn8, cn9, cn10, cn11, cn12, "OneWaySpellLaw", "java/lang/Math", "java/lang/Integer", "java/util/Arrays"]
def cN (o : Nat) : String := cNL.getD o ""
/-- what is fixed in a frame -/
def Fx (G : Gx) (p : Program) (s : State) (m : MethodId) (args : Array Value) (meth : Method) (c : Code) (R : Room) (o : Nat) (ini : Bool) (cc : ByteArray) (nL : Nat) : Prop :=
  p.tables.exec = Jvm.exec ∧ c.code = cc ∧ c.maxLocals = nL ∧ s.vm.findClass (cN o) = some m.cls ∧ (∀ w ∈ gt, w.before args s = true) ∧ Ks G s ∧ (ini = true → meth.name = "<init>") ∧ 1 ≤ R.frames ∧ 60 ≤ R.locals ∧ G.1 ≤ s.heap.size ∧ (o = 13 → va_X G.2.1 G.2.2.1 G.2.2.2.1 s s.heap ∧ G.2.1 < s.heap.size ∧ ¬ Ax G G.2.1)
abbrev PS : Type := Nat × List Value × List Value × PH
abbrev PSem : Type := PI → Nat → List Value → List Value → PH → Option PS
abbrev PChk : Type := Nat → Bool → ByteArray → Nat → PI → Bool
def SoundP (chk : PChk) (sem : PSem) : Prop := ∀ (G : Gx) (p : Program) (l : Launch) (e : Env) (R : Room) (s : State) (m : MethodId) (args : Array Value) (below : List Frame) (meth : Method) (c : Code) (Q : State → Prop) (o : Nat) (ini : Bool) (cc : ByteArray) (nL : Nat) (i : PI) (pc : Nat) (pls pst : List Value) (h : PH) (r : PS) (H : Heap) (locs : List Loc) (cells slots : Nat) (rls : Array Slot),
  Fx G p s m args meth c R o ini cc nL → chk o ini cc pc i = true → sem i pc pls pst h = some r → Wh G h H → va_S (Ax G) s.heap H locs → LV G rls nL pls →
  cells + (h_ct r.2.2.2 - h_ct h) ≤ R.cells → slots + (h_sl r.2.2.2 - h_sl h) ≤ R.slots →
  (∀ (H' : Heap) (locs' : List Loc) (rls' : Array Slot), Wh G r.2.2.2 H' → va_S (Ax G) s.heap H' locs' → LV G rls' nL r.2.1 → W p l e R s m args below meth c H' locs' (cells + (h_ct r.2.2.2 - h_ct h)) (slots + (h_sl r.2.2.2 - h_sl h)) Q (F0 m r.1 rls' (r.2.2.1.map (tr G)))) →
  W p l e R s m args below meth c H locs cells slots Q (F0 m pc rls (pst.map (tr G)))
end
section
/-! the instructions that leave the heap as it is -/
def s_iadd : PSem := fun i pc ls st h => match st with
  | .int y :: .int x :: rest => some (pc + 1, ls, .int (x + y) :: rest, h)
  | _ => none
def c_iadd : PChk := fun _ _ cc pc _ => match decode cc pc with
  | .ok (.iadd, 1) => true
  | _ => false
theorem z_iadd : SoundP c_iadd s_iadd := by
  intro G p l e R s m args below meth c Q o ini cc nL i pc pls pst h r H locs cells slots rls F hc hs hW hS hL _ _ k
  obtain ⟨hx, hb, hml, hown, hts, -⟩ := F
  unfold c_iadd at hc
  split at hc
  next hd =>
    unfold s_iadd at hs
    split at hs
    next y x rest =>
      cases hs
      simp only [Nat.sub_self, Nat.add_zero] at k
      exact lv_iadd hx hb hd (k H locs rls hW hS hL)
    · cases hs
  · cases hc
def s_isub : PSem := fun i pc ls st h => match st with
  | .int y :: .int x :: rest => some (pc + 1, ls, .int (x - y) :: rest, h)
  | _ => none
def c_isub : PChk := fun _ _ cc pc _ => match decode cc pc with
  | .ok (.isub, 1) => true
  | _ => false
theorem z_isub : SoundP c_isub s_isub := by
  intro G p l e R s m args below meth c Q o ini cc nL i pc pls pst h r H locs cells slots rls F hc hs hW hS hL _ _ k
  obtain ⟨hx, hb, hml, hown, hts, -⟩ := F
  unfold c_isub at hc
  split at hc
  next hd =>
    unfold s_isub at hs
    split at hs
    next y x rest =>
      cases hs
      simp only [Nat.sub_self, Nat.add_zero] at k
      exact lv_isub hx hb hd (k H locs rls hW hS hL)
    · cases hs
  · cases hc
def s_imul : PSem := fun i pc ls st h => match st with
  | .int y :: .int x :: rest => some (pc + 1, ls, .int (x * y) :: rest, h)
  | _ => none
def c_imul : PChk := fun _ _ cc pc _ => match decode cc pc with
  | .ok (.imul, 1) => true
  | _ => false
theorem z_imul : SoundP c_imul s_imul := by
  intro G p l e R s m args below meth c Q o ini cc nL i pc pls pst h r H locs cells slots rls F hc hs hW hS hL _ _ k
  obtain ⟨hx, hb, hml, hown, hts, -⟩ := F
  unfold c_imul at hc
  split at hc
  next hd =>
    unfold s_imul at hs
    split at hs
    next y x rest =>
      cases hs
      simp only [Nat.sub_self, Nat.add_zero] at k
      exact lv_imul hx hb hd (k H locs rls hW hS hL)
    · cases hs
  · cases hc
def s_iand : PSem := fun i pc ls st h => match st with
  | .int y :: .int x :: rest => some (pc + 1, ls, .int (x &&& y) :: rest, h)
  | _ => none
def c_iand : PChk := fun _ _ cc pc _ => match decode cc pc with
  | .ok (.iand, 1) => true
  | _ => false
theorem z_iand : SoundP c_iand s_iand := by
  intro G p l e R s m args below meth c Q o ini cc nL i pc pls pst h r H locs cells slots rls F hc hs hW hS hL _ _ k
  obtain ⟨hx, hb, hml, hown, hts, -⟩ := F
  unfold c_iand at hc
  split at hc
  next hd =>
    unfold s_iand at hs
    split at hs
    next y x rest =>
      cases hs
      simp only [Nat.sub_self, Nat.add_zero] at k
      exact lv_iand hx hb hd (k H locs rls hW hS hL)
    · cases hs
  · cases hc
def s_ior : PSem := fun i pc ls st h => match st with
  | .int y :: .int x :: rest => some (pc + 1, ls, .int (x ||| y) :: rest, h)
  | _ => none
def c_ior : PChk := fun _ _ cc pc _ => match decode cc pc with
  | .ok (.ior, 1) => true
  | _ => false
theorem z_ior : SoundP c_ior s_ior := by
  intro G p l e R s m args below meth c Q o ini cc nL i pc pls pst h r H locs cells slots rls F hc hs hW hS hL _ _ k
  obtain ⟨hx, hb, hml, hown, hts, -⟩ := F
  unfold c_ior at hc
  split at hc
  next hd =>
    unfold s_ior at hs
    split at hs
    next y x rest =>
      cases hs
      simp only [Nat.sub_self, Nat.add_zero] at k
      exact lv_ior hx hb hd (k H locs rls hW hS hL)
    · cases hs
  · cases hc
def s_ixor : PSem := fun i pc ls st h => match st with
  | .int y :: .int x :: rest => some (pc + 1, ls, .int (x ^^^ y) :: rest, h)
  | _ => none
def c_ixor : PChk := fun _ _ cc pc _ => match decode cc pc with
  | .ok (.ixor, 1) => true
  | _ => false
theorem z_ixor : SoundP c_ixor s_ixor := by
  intro G p l e R s m args below meth c Q o ini cc nL i pc pls pst h r H locs cells slots rls F hc hs hW hS hL _ _ k
  obtain ⟨hx, hb, hml, hown, hts, -⟩ := F
  unfold c_ixor at hc
  split at hc
  next hd =>
    unfold s_ixor at hs
    split at hs
    next y x rest =>
      cases hs
      simp only [Nat.sub_self, Nat.add_zero] at k
      exact lv_ixor hx hb hd (k H locs rls hW hS hL)
    · cases hs
  · cases hc
def s_ishl : PSem := fun i pc ls st h => match st with
  | .int y :: .int x :: rest => some (pc + 1, ls, .int (x <<< (y &&& 31)) :: rest, h)
  | _ => none
def c_ishl : PChk := fun _ _ cc pc _ => match decode cc pc with
  | .ok (.ishl, 1) => true
  | _ => false
theorem z_ishl : SoundP c_ishl s_ishl := by
  intro G p l e R s m args below meth c Q o ini cc nL i pc pls pst h r H locs cells slots rls F hc hs hW hS hL _ _ k
  obtain ⟨hx, hb, hml, hown, hts, -⟩ := F
  unfold c_ishl at hc
  split at hc
  next hd =>
    unfold s_ishl at hs
    split at hs
    next y x rest =>
      cases hs
      simp only [Nat.sub_self, Nat.add_zero] at k
      exact lv_ishl hx hb hd (k H locs rls hW hS hL)
    · cases hs
  · cases hc
def s_ishr : PSem := fun i pc ls st h => match st with
  | .int y :: .int x :: rest => some (pc + 1, ls, .int (x >>> (y &&& 31)) :: rest, h)
  | _ => none
def c_ishr : PChk := fun _ _ cc pc _ => match decode cc pc with
  | .ok (.ishr, 1) => true
  | _ => false
theorem z_ishr : SoundP c_ishr s_ishr := by
  intro G p l e R s m args below meth c Q o ini cc nL i pc pls pst h r H locs cells slots rls F hc hs hW hS hL _ _ k
  obtain ⟨hx, hb, hml, hown, hts, -⟩ := F
  unfold c_ishr at hc
  split at hc
  next hd =>
    unfold s_ishr at hs
    split at hs
    next y x rest =>
      cases hs
      simp only [Nat.sub_self, Nat.add_zero] at k
      exact lv_ishr hx hb hd (k H locs rls hW hS hL)
    · cases hs
  · cases hc
def s_iushr : PSem := fun i pc ls st h => match st with
  | .int y :: .int x :: rest => some (pc + 1, ls, .int ((x.toUInt32 >>> (y.toUInt32 &&& Int32.toUInt32 31)).toInt32) :: rest, h)
  | _ => none
def c_iushr : PChk := fun _ _ cc pc _ => match decode cc pc with
  | .ok (.iushr, 1) => true
  | _ => false
theorem z_iushr : SoundP c_iushr s_iushr := by
  intro G p l e R s m args below meth c Q o ini cc nL i pc pls pst h r H locs cells slots rls F hc hs hW hS hL _ _ k
  obtain ⟨hx, hb, hml, hown, hts, -⟩ := F
  unfold c_iushr at hc
  split at hc
  next hd =>
    unfold s_iushr at hs
    split at hs
    next y x rest =>
      cases hs
      simp only [Nat.sub_self, Nat.add_zero] at k
      exact lv_iushr hx hb hd rfl (k H locs rls hW hS hL)
    · cases hs
  · cases hc
def s_idiv : PSem := fun i pc ls st h => match st with
  | .int y :: .int x :: rest => if y = 0 then none else some (pc + 1, ls, .int (x / y) :: rest, h)
  | _ => none
def c_idiv : PChk := fun _ _ cc pc _ => match decode cc pc with
  | .ok (.idiv, 1) => true
  | _ => false
theorem z_idiv : SoundP c_idiv s_idiv := by
  intro G p l e R s m args below meth c Q o ini cc nL i pc pls pst h r H locs cells slots rls F hc hs hW hS hL _ _ k
  obtain ⟨hx, hb, hml, hown, hts, -⟩ := F
  unfold c_idiv at hc
  split at hc
  next hd =>
    unfold s_idiv at hs
    split at hs
    next y x rest =>
      split at hs
      · cases hs
      next hne =>
        cases hs
        simp only [Nat.sub_self, Nat.add_zero] at k
        exact lv_idiv hx hb hd hne (k H locs rls hW hS hL)
    · cases hs
  · cases hc
def s_irem : PSem := fun i pc ls st h => match st with
  | .int y :: .int x :: rest => if y = 0 then none else some (pc + 1, ls, .int (x - x / y * y) :: rest, h)
  | _ => none
def c_irem : PChk := fun _ _ cc pc _ => match decode cc pc with
  | .ok (.irem, 1) => true
  | _ => false
theorem z_irem : SoundP c_irem s_irem := by
  intro G p l e R s m args below meth c Q o ini cc nL i pc pls pst h r H locs cells slots rls F hc hs hW hS hL _ _ k
  obtain ⟨hx, hb, hml, hown, hts, -⟩ := F
  unfold c_irem at hc
  split at hc
  next hd =>
    unfold s_irem at hs
    split at hs
    next y x rest =>
      split at hs
      · cases hs
      next hne =>
        cases hs
        simp only [Nat.sub_self, Nat.add_zero] at k
        exact lv_irem hx hb hd hne (k H locs rls hW hS hL)
    · cases hs
  · cases hc
def s_ladd : PSem := fun i pc ls st h => match st with
  | .long y :: .long x :: rest => some (pc + 1, ls, .long (x + y) :: rest, h)
  | _ => none
def c_ladd : PChk := fun _ _ cc pc _ => match decode cc pc with
  | .ok (.ladd, 1) => true
  | _ => false
theorem z_ladd : SoundP c_ladd s_ladd := by
  intro G p l e R s m args below meth c Q o ini cc nL i pc pls pst h r H locs cells slots rls F hc hs hW hS hL _ _ k
  obtain ⟨hx, hb, hml, hown, hts, -⟩ := F
  unfold c_ladd at hc
  split at hc
  next hd =>
    unfold s_ladd at hs
    split at hs
    next y x rest =>
      cases hs
      simp only [Nat.sub_self, Nat.add_zero] at k
      exact lv_ladd hx hb hd (k H locs rls hW hS hL)
    · cases hs
  · cases hc
def s_lsub : PSem := fun i pc ls st h => match st with
  | .long y :: .long x :: rest => some (pc + 1, ls, .long (x - y) :: rest, h)
  | _ => none
def c_lsub : PChk := fun _ _ cc pc _ => match decode cc pc with
  | .ok (.lsub, 1) => true
  | _ => false
theorem z_lsub : SoundP c_lsub s_lsub := by
  intro G p l e R s m args below meth c Q o ini cc nL i pc pls pst h r H locs cells slots rls F hc hs hW hS hL _ _ k
  obtain ⟨hx, hb, hml, hown, hts, -⟩ := F
  unfold c_lsub at hc
  split at hc
  next hd =>
    unfold s_lsub at hs
    split at hs
    next y x rest =>
      cases hs
      simp only [Nat.sub_self, Nat.add_zero] at k
      exact lv_lsub hx hb hd (k H locs rls hW hS hL)
    · cases hs
  · cases hc
def s_lmul : PSem := fun i pc ls st h => match st with
  | .long y :: .long x :: rest => some (pc + 1, ls, .long (x * y) :: rest, h)
  | _ => none
def c_lmul : PChk := fun _ _ cc pc _ => match decode cc pc with
  | .ok (.lmul, 1) => true
  | _ => false
theorem z_lmul : SoundP c_lmul s_lmul := by
  intro G p l e R s m args below meth c Q o ini cc nL i pc pls pst h r H locs cells slots rls F hc hs hW hS hL _ _ k
  obtain ⟨hx, hb, hml, hown, hts, -⟩ := F
  unfold c_lmul at hc
  split at hc
  next hd =>
    unfold s_lmul at hs
    split at hs
    next y x rest =>
      cases hs
      simp only [Nat.sub_self, Nat.add_zero] at k
      exact lv_lmul hx hb hd (k H locs rls hW hS hL)
    · cases hs
  · cases hc
def s_land : PSem := fun i pc ls st h => match st with
  | .long y :: .long x :: rest => some (pc + 1, ls, .long (x &&& y) :: rest, h)
  | _ => none
def c_land : PChk := fun _ _ cc pc _ => match decode cc pc with
  | .ok (.land, 1) => true
  | _ => false
theorem z_land : SoundP c_land s_land := by
  intro G p l e R s m args below meth c Q o ini cc nL i pc pls pst h r H locs cells slots rls F hc hs hW hS hL _ _ k
  obtain ⟨hx, hb, hml, hown, hts, -⟩ := F
  unfold c_land at hc
  split at hc
  next hd =>
    unfold s_land at hs
    split at hs
    next y x rest =>
      cases hs
      simp only [Nat.sub_self, Nat.add_zero] at k
      exact lv_land hx hb hd (k H locs rls hW hS hL)
    · cases hs
  · cases hc
def s_lor : PSem := fun i pc ls st h => match st with
  | .long y :: .long x :: rest => some (pc + 1, ls, .long (x ||| y) :: rest, h)
  | _ => none
def c_lor : PChk := fun _ _ cc pc _ => match decode cc pc with
  | .ok (.lor, 1) => true
  | _ => false
theorem z_lor : SoundP c_lor s_lor := by
  intro G p l e R s m args below meth c Q o ini cc nL i pc pls pst h r H locs cells slots rls F hc hs hW hS hL _ _ k
  obtain ⟨hx, hb, hml, hown, hts, -⟩ := F
  unfold c_lor at hc
  split at hc
  next hd =>
    unfold s_lor at hs
    split at hs
    next y x rest =>
      cases hs
      simp only [Nat.sub_self, Nat.add_zero] at k
      exact lv_lor hx hb hd (k H locs rls hW hS hL)
    · cases hs
  · cases hc
def s_lxor : PSem := fun i pc ls st h => match st with
  | .long y :: .long x :: rest => some (pc + 1, ls, .long (x ^^^ y) :: rest, h)
  | _ => none
def c_lxor : PChk := fun _ _ cc pc _ => match decode cc pc with
  | .ok (.lxor, 1) => true
  | _ => false
theorem z_lxor : SoundP c_lxor s_lxor := by
  intro G p l e R s m args below meth c Q o ini cc nL i pc pls pst h r H locs cells slots rls F hc hs hW hS hL _ _ k
  obtain ⟨hx, hb, hml, hown, hts, -⟩ := F
  unfold c_lxor at hc
  split at hc
  next hd =>
    unfold s_lxor at hs
    split at hs
    next y x rest =>
      cases hs
      simp only [Nat.sub_self, Nat.add_zero] at k
      exact lv_lxor hx hb hd (k H locs rls hW hS hL)
    · cases hs
  · cases hc
def s_ldiv : PSem := fun i pc ls st h => match st with
  | .long y :: .long x :: rest => if y = 0 then none else some (pc + 1, ls, .long (x / y) :: rest, h)
  | _ => none
def c_ldiv : PChk := fun _ _ cc pc _ => match decode cc pc with
  | .ok (.ldiv, 1) => true
  | _ => false
theorem z_ldiv : SoundP c_ldiv s_ldiv := by
  intro G p l e R s m args below meth c Q o ini cc nL i pc pls pst h r H locs cells slots rls F hc hs hW hS hL _ _ k
  obtain ⟨hx, hb, hml, hown, hts, -⟩ := F
  unfold c_ldiv at hc
  split at hc
  next hd =>
    unfold s_ldiv at hs
    split at hs
    next y x rest =>
      split at hs
      · cases hs
      next hne =>
        cases hs
        simp only [Nat.sub_self, Nat.add_zero] at k
        exact lv_ldiv hx hb hd hne (k H locs rls hW hS hL)
    · cases hs
  · cases hc
def s_lrem : PSem := fun i pc ls st h => match st with
  | .long y :: .long x :: rest => if y = 0 then none else some (pc + 1, ls, .long (x - x / y * y) :: rest, h)
  | _ => none
def c_lrem : PChk := fun _ _ cc pc _ => match decode cc pc with
  | .ok (.lrem, 1) => true
  | _ => false
theorem z_lrem : SoundP c_lrem s_lrem := by
  intro G p l e R s m args below meth c Q o ini cc nL i pc pls pst h r H locs cells slots rls F hc hs hW hS hL _ _ k
  obtain ⟨hx, hb, hml, hown, hts, -⟩ := F
  unfold c_lrem at hc
  split at hc
  next hd =>
    unfold s_lrem at hs
    split at hs
    next y x rest =>
      split at hs
      · cases hs
      next hne =>
        cases hs
        simp only [Nat.sub_self, Nat.add_zero] at k
        exact lv_lrem hx hb hd hne (k H locs rls hW hS hL)
    · cases hs
  · cases hc
def s_lshl : PSem := fun i pc ls st h => match st with
  | .int y :: .long x :: rest => some (pc + 1, ls, .long (x <<< (y.toInt64 &&& 63)) :: rest, h)
  | _ => none
def c_lshl : PChk := fun _ _ cc pc _ => match decode cc pc with
  | .ok (.lshl, 1) => true
  | _ => false
theorem z_lshl : SoundP c_lshl s_lshl := by
  intro G p l e R s m args below meth c Q o ini cc nL i pc pls pst h r H locs cells slots rls F hc hs hW hS hL _ _ k
  obtain ⟨hx, hb, hml, hown, hts, -⟩ := F
  unfold c_lshl at hc
  split at hc
  next hd =>
    unfold s_lshl at hs
    split at hs
    next y x rest =>
      cases hs
      simp only [Nat.sub_self, Nat.add_zero] at k
      exact lv_lshl hx hb hd rfl (k H locs rls hW hS hL)
    · cases hs
  · cases hc
def s_lushr : PSem := fun i pc ls st h => match st with
  | .int y :: .long x :: rest => some (pc + 1, ls, .long ((x.toUInt64 >>> (y.toInt64.toUInt64 &&& Int64.toUInt64 63)).toInt64) :: rest, h)
  | _ => none
def c_lushr : PChk := fun _ _ cc pc _ => match decode cc pc with
  | .ok (.lushr, 1) => true
  | _ => false
theorem z_lushr : SoundP c_lushr s_lushr := by
  intro G p l e R s m args below meth c Q o ini cc nL i pc pls pst h r H locs cells slots rls F hc hs hW hS hL _ _ k
  obtain ⟨hx, hb, hml, hown, hts, -⟩ := F
  unfold c_lushr at hc
  split at hc
  next hd =>
    unfold s_lushr at hs
    split at hs
    next y x rest =>
      cases hs
      simp only [Nat.sub_self, Nat.add_zero] at k
      exact lv_lushr hx hb hd rfl (k H locs rls hW hS hL)
    · cases hs
  · cases hc
def s_lcmp : PSem := fun i pc ls st h => match st with
  | .long y :: .long x :: rest => some (pc + 1, ls, .int (lg_cmp x y) :: rest, h)
  | _ => none
def c_lcmp : PChk := fun _ _ cc pc _ => match decode cc pc with
  | .ok (.lcmp, 1) => true
  | _ => false
theorem z_lcmp : SoundP c_lcmp s_lcmp := by
  intro G p l e R s m args below meth c Q o ini cc nL i pc pls pst h r H locs cells slots rls F hc hs hW hS hL _ _ k
  obtain ⟨hx, hb, hml, hown, hts, -⟩ := F
  unfold c_lcmp at hc
  split at hc
  next hd =>
    unfold s_lcmp at hs
    split at hs
    next y x rest =>
      cases hs
      simp only [Nat.sub_self, Nat.add_zero] at k
      exact W.lcmp hx hb hd (k H locs rls hW hS hL)
    · cases hs
  · cases hc
def s_ineg : PSem := fun i pc ls st h => match st with
  | .int x :: rest => some (pc + 1, ls, .int (-x) :: rest, h)
  | _ => none
def c_ineg : PChk := fun _ _ cc pc _ => match decode cc pc with
  | .ok (.ineg, 1) => true
  | _ => false
theorem z_ineg : SoundP c_ineg s_ineg := by
  intro G p l e R s m args below meth c Q o ini cc nL i pc pls pst h r H locs cells slots rls F hc hs hW hS hL _ _ k
  obtain ⟨hx, hb, hml, hown, hts, -⟩ := F
  unfold c_ineg at hc
  split at hc
  next hd =>
    unfold s_ineg at hs
    split at hs
    next x rest =>
      cases hs
      simp only [Nat.sub_self, Nat.add_zero] at k
      exact lv_ineg hx hb hd (k H locs rls hW hS hL)
    · cases hs
  · cases hc
def s_i2l : PSem := fun i pc ls st h => match st with
  | .int x :: rest => some (pc + 1, ls, .long x.toInt64 :: rest, h)
  | _ => none
def c_i2l : PChk := fun _ _ cc pc _ => match decode cc pc with
  | .ok (.i2l, 1) => true
  | _ => false
theorem z_i2l : SoundP c_i2l s_i2l := by
  intro G p l e R s m args below meth c Q o ini cc nL i pc pls pst h r H locs cells slots rls F hc hs hW hS hL _ _ k
  obtain ⟨hx, hb, hml, hown, hts, -⟩ := F
  unfold c_i2l at hc
  split at hc
  next hd =>
    unfold s_i2l at hs
    split at hs
    next x rest =>
      cases hs
      simp only [Nat.sub_self, Nat.add_zero] at k
      exact lv_i2l hx hb hd rfl (k H locs rls hW hS hL)
    · cases hs
  · cases hc
def s_l2i : PSem := fun i pc ls st h => match st with
  | .long x :: rest => some (pc + 1, ls, .int x.toInt32 :: rest, h)
  | _ => none
def c_l2i : PChk := fun _ _ cc pc _ => match decode cc pc with
  | .ok (.l2i, 1) => true
  | _ => false
theorem z_l2i : SoundP c_l2i s_l2i := by
  intro G p l e R s m args below meth c Q o ini cc nL i pc pls pst h r H locs cells slots rls F hc hs hW hS hL _ _ k
  obtain ⟨hx, hb, hml, hown, hts, -⟩ := F
  unfold c_l2i at hc
  split at hc
  next hd =>
    unfold s_l2i at hs
    split at hs
    next x rest =>
      cases hs
      simp only [Nat.sub_self, Nat.add_zero] at k
      exact lv_l2i hx hb hd rfl (k H locs rls hW hS hL)
    · cases hs
  · cases hc
def s_i2b : PSem := fun i pc ls st h => match st with
  | .int x :: rest => some (pc + 1, ls, .int x.toInt8.toInt32 :: rest, h)
  | _ => none
def c_i2b : PChk := fun _ _ cc pc _ => match decode cc pc with
  | .ok (.i2b, 1) => true
  | _ => false
theorem z_i2b : SoundP c_i2b s_i2b := by
  intro G p l e R s m args below meth c Q o ini cc nL i pc pls pst h r H locs cells slots rls F hc hs hW hS hL _ _ k
  obtain ⟨hx, hb, hml, hown, hts, -⟩ := F
  unfold c_i2b at hc
  split at hc
  next hd =>
    unfold s_i2b at hs
    split at hs
    next x rest =>
      cases hs
      simp only [Nat.sub_self, Nat.add_zero] at k
      exact lv_i2b hx hb hd rfl (k H locs rls hW hS hL)
    · cases hs
  · cases hc
def s_dup : PSem := fun i pc ls st h => match st with
  | v :: rest => if ¬ v.category = 1 then none else some (pc + 1, ls, v :: v :: rest, h)
  | _ => none
def c_dup : PChk := fun _ _ cc pc _ => match decode cc pc with
  | .ok (.dup, 1) => true
  | _ => false
theorem z_dup : SoundP c_dup s_dup := by
  intro G p l e R s m args below meth c Q o ini cc nL i pc pls pst h r H locs cells slots rls F hc hs hW hS hL _ _ k
  obtain ⟨hx, hb, hml, hown, hts, -⟩ := F
  unfold c_dup at hc
  split at hc
  next hd =>
    unfold s_dup at hs
    split at hs
    next v rest =>
      split at hs
      · cases hs
      next hne =>
        cases hs
        simp only [Nat.sub_self, Nat.add_zero] at k
        exact lv_dup hx hb hd ((tr_cat G _).trans (Decidable.not_not.mp hne)) (k H locs rls hW hS hL)
    · cases hs
  · cases hc
def s_pop : PSem := fun i pc ls st h => match st with
  | v :: rest => if ¬ v.category = 1 then none else some (pc + 1, ls, rest, h)
  | _ => none
def c_pop : PChk := fun _ _ cc pc _ => match decode cc pc with
  | .ok (.pop, 1) => true
  | _ => false
theorem z_pop : SoundP c_pop s_pop := by
  intro G p l e R s m args below meth c Q o ini cc nL i pc pls pst h r H locs cells slots rls F hc hs hW hS hL _ _ k
  obtain ⟨hx, hb, hml, hown, hts, -⟩ := F
  unfold c_pop at hc
  split at hc
  next hd =>
    unfold s_pop at hs
    split at hs
    next v rest =>
      split at hs
      · cases hs
      next hne =>
        cases hs
        simp only [Nat.sub_self, Nat.add_zero] at k
        exact lv_pop hx hb hd ((tr_cat G _).trans (Decidable.not_not.mp hne)) (k H locs rls hW hS hL)
    · cases hs
  · cases hc
def s_pop2 : PSem := fun i pc ls st h => match st with
  | v :: rest => if ¬ v.category = 2 then none else some (pc + 1, ls, rest, h)
  | _ => none
def c_pop2 : PChk := fun _ _ cc pc _ => match decode cc pc with
  | .ok (.pop2, 1) => true
  | _ => false
theorem z_pop2 : SoundP c_pop2 s_pop2 := by
  intro G p l e R s m args below meth c Q o ini cc nL i pc pls pst h r H locs cells slots rls F hc hs hW hS hL _ _ k
  obtain ⟨hx, hb, hml, hown, hts, -⟩ := F
  unfold c_pop2 at hc
  split at hc
  next hd =>
    unfold s_pop2 at hs
    split at hs
    next v rest =>
      split at hs
      · cases hs
      next hne =>
        cases hs
        simp only [Nat.sub_self, Nat.add_zero] at k
        exact lv_pop2_2 hx hb hd ((tr_cat G _).trans (Decidable.not_not.mp hne)) (k H locs rls hW hS hL)
    · cases hs
  · cases hc
def s_dup22 : PSem := fun i pc ls st h => match st with
  | v :: rest => if ¬ v.category = 2 then none else some (pc + 1, ls, v :: v :: rest, h)
  | _ => none
def c_dup22 : PChk := fun _ _ cc pc _ => match decode cc pc with
  | .ok (.dup2, 1) => true
  | _ => false
theorem z_dup22 : SoundP c_dup22 s_dup22 := by
  intro G p l e R s m args below meth c Q o ini cc nL i pc pls pst h r H locs cells slots rls F hc hs hW hS hL _ _ k
  obtain ⟨hx, hb, hml, hown, hts, -⟩ := F
  unfold c_dup22 at hc
  split at hc
  next hd =>
    unfold s_dup22 at hs
    split at hs
    next v rest =>
      split at hs
      · cases hs
      next hne =>
        cases hs
        simp only [Nat.sub_self, Nat.add_zero] at k
        exact lv_dup2_2 hx hb hd ((tr_cat G _).trans (Decidable.not_not.mp hne)) (k H locs rls hW hS hL)
    · cases hs
  · cases hc
def s_dup211 : PSem := fun i pc ls st h => match st with
  | v :: w :: rest => if ¬ (v.category = 1 ∧ w.category = 1) then none else some (pc + 1, ls, v :: w :: v :: w :: rest, h)
  | _ => none
def c_dup211 : PChk := fun _ _ cc pc _ => match decode cc pc with
  | .ok (.dup2, 1) => true
  | _ => false
theorem z_dup211 : SoundP c_dup211 s_dup211 := by
  intro G p l e R s m args below meth c Q o ini cc nL i pc pls pst h r H locs cells slots rls F hc hs hW hS hL _ _ k
  obtain ⟨hx, hb, hml, hown, hts, -⟩ := F
  unfold c_dup211 at hc
  split at hc
  next hd =>
    unfold s_dup211 at hs
    split at hs
    next v w rest =>
      split at hs
      · cases hs
      next hne =>
        cases hs
        simp only [Nat.sub_self, Nat.add_zero] at k
        exact lv_dup2_11 hx hb hd ((tr_cat G _).trans (Decidable.not_not.mp hne).1) ((tr_cat G _).trans (Decidable.not_not.mp hne).2) (k H locs rls hW hS hL)
    · cases hs
  · cases hc
def s_ipush : PSem := fun i pc ls st h => some (pc + p_len i, ls, .int (Int32.ofInt (p_a i)) :: st, h)
def c_ipush : PChk := fun o _ cc pc i => match decode cc pc with
  | .ok (.iconst n, 1) => p_len i == 1 && (Int32.ofInt n == Int32.ofInt (p_a i))
  | .ok (.bipush n, 2) => p_len i == 2 && ((Int8.ofInt n).toInt32 == Int32.ofInt (p_a i))
  | .ok (.sipush n, 3) => p_len i == 3 && ((Int16.ofInt n).toInt32 == Int32.ofInt (p_a i))
  | _ => false
theorem z_ipush : SoundP c_ipush s_ipush := by
  intro G p l e R s m args below meth c Q o ini cc nL i pc pls pst h r H locs cells slots rls F hc hs hW hS hL _ _ k
  obtain ⟨hx, hb, hml, hown, hts, -⟩ := F
  unfold s_ipush at hs
  cases hs
  simp only [Nat.sub_self, Nat.add_zero] at k
  try dsimp only at k
  unfold c_ipush at hc
  split at hc
  next n hd =>
    simp only [Bool.and_eq_true, beq_iff_eq] at hc
    obtain ⟨hl, hv⟩ := hc
    rw [hl] at k
    exact lv_iconst hx hb hd hv (k H locs rls hW hS hL)
  next n hd =>
    simp only [Bool.and_eq_true, beq_iff_eq] at hc
    obtain ⟨hl, hv⟩ := hc
    rw [hl] at k
    exact lv_bipush hx hb hd hv (k H locs rls hW hS hL)
  next n hd =>
    simp only [Bool.and_eq_true, beq_iff_eq] at hc
    obtain ⟨hl, hv⟩ := hc
    rw [hl] at k
    exact lv_sipush hx hb hd hv (k H locs rls hW hS hL)
  · cases hc
def s_lpush : PSem := fun i pc ls st h => some (pc + p_len i, ls, .long (Int64.ofInt (p_a i)) :: st, h)
def c_lpush : PChk := fun o _ cc pc i => match decode cc pc with
  | .ok (.lconst n, 1) => p_len i == 1 && (Int64.ofNat (n : Nat) == Int64.ofInt (p_a i))
  | _ => false
theorem z_lpush : SoundP c_lpush s_lpush := by
  intro G p l e R s m args below meth c Q o ini cc nL i pc pls pst h r H locs cells slots rls F hc hs hW hS hL _ _ k
  obtain ⟨hx, hb, hml, hown, hts, -⟩ := F
  unfold s_lpush at hs
  cases hs
  simp only [Nat.sub_self, Nat.add_zero] at k
  try dsimp only at k
  unfold c_lpush at hc
  split at hc
  next n hd =>
    simp only [Bool.and_eq_true, beq_iff_eq] at hc
    obtain ⟨hl, hv⟩ := hc
    rw [hl] at k
    exact lv_lconst hx hb hd hv (k H locs rls hW hS hL)
  · cases hc
def s_ldc : PSem := fun i pc ls st h => some (pc + p_len i, ls, .int (Int32.ofInt (p_a i)) :: st, h)
def c_ldc : PChk := fun o _ cc pc i => match decode cc pc with
  | .ok (.ldc n, 2) => p_len i == 2 && decide (lw_tbl[p_b i]? = some (.constant (cN o) n (Int32.ofInt (p_a i)))) && goodWord (.constant (cN o) n (Int32.ofInt (p_a i)))
  | .ok (.ldc_w n, 3) => p_len i == 3 && decide (lw_tbl[p_b i]? = some (.constant (cN o) n (Int32.ofInt (p_a i)))) && goodWord (.constant (cN o) n (Int32.ofInt (p_a i)))
  | _ => false
theorem z_ldc : SoundP c_ldc s_ldc := by
  intro G p l e R s m args below meth c Q o ini cc nL i pc pls pst h r H locs cells slots rls F hc hs hW hS hL _ _ k
  obtain ⟨hx, hb, hml, hown, hts, -⟩ := F
  unfold s_ldc at hs
  cases hs
  simp only [Nat.sub_self, Nat.add_zero] at k
  try dsimp only at k
  unfold c_ldc at hc
  split at hc
  next n hd =>
    simp only [Bool.and_eq_true, beq_iff_eq, decide_eq_true_eq] at hc
    obtain ⟨⟨hl, hv⟩, hg⟩ := hc
    rw [hl] at k
    exact lv_ldc hx hb hown (hts _ (gt_in _ hv hg)) hd (k H locs rls hW hS hL)
  next n hd =>
    simp only [Bool.and_eq_true, beq_iff_eq, decide_eq_true_eq] at hc
    obtain ⟨⟨hl, hv⟩, hg⟩ := hc
    rw [hl] at k
    exact lv_ldcw hx hb hown (hts _ (gt_in _ hv hg)) hd (k H locs rls hW hS hL)
  · cases hc
def s_ldc2 : PSem := fun i pc ls st h => some (pc + p_len i, ls, .long (Int64.ofInt (p_a i)) :: st, h)
def c_ldc2 : PChk := fun o _ cc pc i => match decode cc pc with
  | .ok (.ldc2_w n, 3) => p_len i == 3 && decide (lw_tbl[p_b i]? = some (.constantLong (cN o) n (Int64.ofInt (p_a i)))) && goodWord (.constantLong (cN o) n (Int64.ofInt (p_a i)))
  | _ => false
theorem z_ldc2 : SoundP c_ldc2 s_ldc2 := by
  intro G p l e R s m args below meth c Q o ini cc nL i pc pls pst h r H locs cells slots rls F hc hs hW hS hL _ _ k
  obtain ⟨hx, hb, hml, hown, hts, -⟩ := F
  unfold s_ldc2 at hs
  cases hs
  simp only [Nat.sub_self, Nat.add_zero] at k
  try dsimp only at k
  unfold c_ldc2 at hc
  split at hc
  next n hd =>
    simp only [Bool.and_eq_true, beq_iff_eq, decide_eq_true_eq] at hc
    obtain ⟨⟨hl, hv⟩, hg⟩ := hc
    rw [hl] at k
    exact lv_ldc2 hx hb hown (hts _ (gt_in _ hv hg)) hd (k H locs rls hW hS hL)
  · cases hc
def s_iload : PSem := fun i pc ls st h => match ls[p_b i]? with
  | some (.int x) => some (pc + p_len i, ls, .int x :: st, h)
  | _ => none
def c_iload : PChk := fun _ _ cc pc i => match decode cc pc with
  | .ok (.iload_n n, 1) => p_len i == 1 && n.val == p_b i
  | .ok (.iload n, 2) => p_len i == 2 && n == p_b i
  | _ => false
theorem z_iload : SoundP c_iload s_iload := by
  intro G p l e R s m args below meth c Q o ini cc nL i pc pls pst h r H locs cells slots rls F hc hs hW hS hL _ _ k
  obtain ⟨hx, hb, hml, hown, hts, -⟩ := F
  unfold s_iload at hs
  split at hs
  next x hv =>
    cases hs
    simp only [Nat.sub_self, Nat.add_zero] at k
    try dsimp only at k
    unfold c_iload at hc
    split at hc
    next n hd =>
      simp only [Bool.and_eq_true, beq_iff_eq] at hc
      rw [hc.1] at k
      exact lv_iload_n hx hb hd hc.2 (hL.at hv rfl) (k H locs rls hW hS hL)
    next n hd =>
      simp only [Bool.and_eq_true, beq_iff_eq] at hc
      rw [hc.1] at k
      rw [hc.2] at hd
      exact lv_iload hx hb hd (hL.at hv rfl) (k H locs rls hW hS hL)
    · cases hc
  · cases hs
def s_aload : PSem := fun i pc ls st h => match ls[p_b i]? with
  | some (.ref x) => some (pc + p_len i, ls, .ref x :: st, h)
  | _ => none
def c_aload : PChk := fun _ _ cc pc i => match decode cc pc with
  | .ok (.aload_n n, 1) => p_len i == 1 && n.val == p_b i
  | .ok (.aload n, 2) => p_len i == 2 && n == p_b i
  | _ => false
theorem z_aload : SoundP c_aload s_aload := by
  intro G p l e R s m args below meth c Q o ini cc nL i pc pls pst h r H locs cells slots rls F hc hs hW hS hL _ _ k
  obtain ⟨hx, hb, hml, hown, hts, -⟩ := F
  unfold s_aload at hs
  split at hs
  next x hv =>
    cases hs
    simp only [Nat.sub_self, Nat.add_zero] at k
    try dsimp only at k
    unfold c_aload at hc
    split at hc
    next n hd =>
      simp only [Bool.and_eq_true, beq_iff_eq] at hc
      rw [hc.1] at k
      exact lv_aload_n hx hb hd hc.2 (hL.at hv rfl) (k H locs rls hW hS hL)
    next n hd =>
      simp only [Bool.and_eq_true, beq_iff_eq] at hc
      rw [hc.1] at k
      rw [hc.2] at hd
      exact lv_aload hx hb hd (hL.at hv rfl) (k H locs rls hW hS hL)
    · cases hc
  · cases hs
def s_lload : PSem := fun i pc ls st h => match ls[p_b i]? with
  | some (.long x) => if okv ls (p_b i) (.long x) = true then some (pc + p_len i, ls, .long x :: st, h) else none
  | _ => none
def c_lload : PChk := fun _ _ cc pc i => match decode cc pc with
  | .ok (.lload_n n, 1) => p_len i == 1 && n.val == p_b i
  | .ok (.lload n, 2) => p_len i == 2 && n == p_b i
  | _ => false
theorem z_lload : SoundP c_lload s_lload := by
  intro G p l e R s m args below meth c Q o ini cc nL i pc pls pst h r H locs cells slots rls F hc hs hW hS hL _ _ k
  obtain ⟨hx, hb, hml, hown, hts, -⟩ := F
  unfold s_lload at hs
  split at hs
  next x hv =>
    split at hs
    next ho =>
      cases hs
      simp only [Nat.sub_self, Nat.add_zero] at k
      try dsimp only at k
      unfold c_lload at hc
      split at hc
      next n hd =>
        simp only [Bool.and_eq_true, beq_iff_eq] at hc
        rw [hc.1] at k
        exact lv_lload_n hx hb hd hc.2 (hL.at hv ho) (k H locs rls hW hS hL)
      next n hd =>
        simp only [Bool.and_eq_true, beq_iff_eq] at hc
        rw [hc.1] at k
        rw [hc.2] at hd
        exact lv_lload hx hb hd (hL.at hv ho) (k H locs rls hW hS hL)
      · cases hc
    · cases hs
  · cases hs
def s_aloadS : PSem := fun i pc ls st h => match ls[p_b i]? with
  | some (.retAddr x) => if okv ls (p_b i) (.retAddr x) = true then some (pc + p_len i, ls, .retAddr x :: st, h) else none
  | _ => none
def c_aloadS : PChk := fun _ _ cc pc i => match decode cc pc with
  | .ok (.aload_n n, 1) => p_len i == 1 && n.val == p_b i
  | .ok (.aload n, 2) => p_len i == 2 && n == p_b i
  | _ => false
theorem z_aloadS : SoundP c_aloadS s_aloadS := by
  intro G p l e R s m args below meth c Q o ini cc nL i pc pls pst h r H locs cells slots rls F hc hs hW hS hL _ _ k
  obtain ⟨hx, hb, hml, hown, hts, -⟩ := F
  unfold s_aloadS at hs
  split at hs
  next x hv =>
    split at hs
    next ho =>
      cases hs
      simp only [Nat.sub_self, Nat.add_zero] at k
      try dsimp only at k
      unfold c_aloadS at hc
      split at hc
      next n hd =>
        simp only [Bool.and_eq_true, beq_iff_eq] at hc
        rw [hc.1] at k
        exact lv_aload_n hx hb hd hc.2 (hL.at hv ho) (k H locs rls hW hS hL)
      next n hd =>
        simp only [Bool.and_eq_true, beq_iff_eq] at hc
        rw [hc.1] at k
        rw [hc.2] at hd
        exact lv_aload hx hb hd (hL.at hv ho) (k H locs rls hW hS hL)
      · cases hc
    · cases hs
  · cases hs
def s_istore : PSem := fun i pc ls st h => match st with
  | .int x :: rest => if p_b i < ls.length then some (pc + p_len i, ls.set (p_b i) (.int x), rest, h) else none
  | _ => none
def c_istore : PChk := fun _ _ cc pc i => match decode cc pc with
  | .ok (.istore_n n, 1) => p_len i == 1 && n.val == p_b i
  | .ok (.istore n, 2) => p_len i == 2 && n == p_b i
  | _ => false
theorem z_istore : SoundP c_istore s_istore := by
  intro G p l e R s m args below meth c Q o ini cc nL i pc pls pst h r H locs cells slots rls F hc hs hW hS hL _ _ k
  obtain ⟨hx, hb, hml, hown, hts, -⟩ := F
  unfold s_istore at hs
  split at hs
  next x rest =>
    split at hs
    next hlt =>
      cases hs
      simp only [Nat.sub_self, Nat.add_zero] at k
      try dsimp only at k
      unfold c_istore at hc
      split at hc
      next n hd =>
        simp only [Bool.and_eq_true, beq_iff_eq] at hc
        rw [hc.1] at k
        exact lv_istore_n hx hb hd hc.2 hL.1 (by rw [← hL.2]; exact hlt) rfl (fun ls hl => k H locs ls hW hS ⟨lv_mono hl (lvs_set1 (v := .int x) (by intro q; cases q)), by rw [List.length_set]; exact hL.2⟩)
      next n hd =>
        simp only [Bool.and_eq_true, beq_iff_eq] at hc
        rw [hc.1] at k
        rw [hc.2] at hd
        exact lv_istore hx hb hd hL.1 (by rw [← hL.2]; exact hlt) rfl (fun ls hl => k H locs ls hW hS ⟨lv_mono hl (lvs_set1 (v := .int x) (by intro q; cases q)), by rw [List.length_set]; exact hL.2⟩)
      · cases hc
    · cases hs
  · cases hs
def s_astore : PSem := fun i pc ls st h => match st with
  | .ref x :: rest => if p_b i < ls.length then some (pc + p_len i, ls.set (p_b i) (.ref x), rest, h) else none
  | _ => none
def c_astore : PChk := fun _ _ cc pc i => match decode cc pc with
  | .ok (.astore_n n, 1) => p_len i == 1 && n.val == p_b i
  | .ok (.astore n, 2) => p_len i == 2 && n == p_b i
  | _ => false
theorem z_astore : SoundP c_astore s_astore := by
  intro G p l e R s m args below meth c Q o ini cc nL i pc pls pst h r H locs cells slots rls F hc hs hW hS hL _ _ k
  obtain ⟨hx, hb, hml, hown, hts, -⟩ := F
  unfold s_astore at hs
  split at hs
  next x rest =>
    split at hs
    next hlt =>
      cases hs
      simp only [Nat.sub_self, Nat.add_zero] at k
      try dsimp only at k
      unfold c_astore at hc
      split at hc
      next n hd =>
        simp only [Bool.and_eq_true, beq_iff_eq] at hc
        rw [hc.1] at k
        exact lv_astore_n hx hb hd hc.2 hL.1 (by rw [← hL.2]; exact hlt) rfl (fun ls hl => k H locs ls hW hS ⟨lv_mono hl (lvs_set1 (v := .ref x) (by intro q; cases q)), by rw [List.length_set]; exact hL.2⟩)
      next n hd =>
        simp only [Bool.and_eq_true, beq_iff_eq] at hc
        rw [hc.1] at k
        rw [hc.2] at hd
        exact lv_astore hx hb hd hL.1 (by rw [← hL.2]; exact hlt) rfl (fun ls hl => k H locs ls hW hS ⟨lv_mono hl (lvs_set1 (v := .ref x) (by intro q; cases q)), by rw [List.length_set]; exact hL.2⟩)
      · cases hc
    · cases hs
  · cases hs
def s_lstore : PSem := fun i pc ls st h => match st with
  | .long x :: rest => if p_b i + 1 < ls.length then some (pc + p_len i, (ls.set (p_b i) (.long x)).set (p_b i + 1) (.retAddr 2), rest, h) else none
  | _ => none
def c_lstore : PChk := fun _ _ cc pc i => match decode cc pc with
  | .ok (.lstore_n n, 1) => p_len i == 1 && n.val == p_b i
  | .ok (.lstore n, 2) => p_len i == 2 && n == p_b i
  | _ => false
theorem z_lstore : SoundP c_lstore s_lstore := by
  intro G p l e R s m args below meth c Q o ini cc nL i pc pls pst h r H locs cells slots rls F hc hs hW hS hL _ _ k
  obtain ⟨hx, hb, hml, hown, hts, -⟩ := F
  unfold s_lstore at hs
  split at hs
  next x rest =>
    split at hs
    next hlt =>
      cases hs
      simp only [Nat.sub_self, Nat.add_zero] at k
      try dsimp only at k
      unfold c_lstore at hc
      split at hc
      next n hd =>
        simp only [Bool.and_eq_true, beq_iff_eq] at hc
        rw [hc.1] at k
        exact lv_lstore_n hx hb hd hc.2 hL.1 (by rw [← hL.2]; exact hlt) rfl (fun ls hl => k H locs ls hW hS ⟨lv_mono hl lvs_set2, by rw [List.length_set, List.length_set]; exact hL.2⟩)
      next n hd =>
        simp only [Bool.and_eq_true, beq_iff_eq] at hc
        rw [hc.1] at k
        rw [hc.2] at hd
        exact lv_lstore hx hb hd hL.1 (by rw [← hL.2]; exact hlt) rfl (fun ls hl => k H locs ls hW hS ⟨lv_mono hl lvs_set2, by rw [List.length_set, List.length_set]; exact hL.2⟩)
      · cases hc
    · cases hs
  · cases hs
def s_iinc : PSem := fun i pc ls st h => match ls[p_b i]? with
  | some (.int x) => some (pc + 3, ls.set (p_b i) (.int (x + Int32.ofInt (p_a i))), st, h)
  | _ => none
def c_iinc : PChk := fun _ _ cc pc i => match decode cc pc with
  | .ok (.iinc n a, 3) => n == p_b i && a == p_a i
  | _ => false
theorem z_iinc : SoundP c_iinc s_iinc := by
  intro G p l e R s m args below meth c Q o ini cc nL i pc pls pst h r H locs cells slots rls F hc hs hW hS hL _ _ k
  obtain ⟨hx, hb, hml, hown, hts, -⟩ := F
  unfold s_iinc at hs
  split at hs
  next x hv =>
    cases hs
    simp only [Nat.sub_self, Nat.add_zero] at k
    unfold c_iinc at hc
    split at hc
    next n a hd =>
      simp only [Bool.and_eq_true, beq_iff_eq] at hc
      rw [hc.1, hc.2] at hd
      obtain ⟨kk, hkk⟩ := List.getElem?_of_mem (mem_lvs.mpr ⟨_, hv, rfl, rfl⟩ : (p_b i, tr G (.int x)) ∈ lvs G pls)
      refine lv_iinc hx hb hd hL.1 hkk rfl (by rw [← hL.2]; exact (List.getElem?_eq_some_iff.mp hv).1) rfl ?_
      exact fun ls hl => k H locs ls hW hS ⟨lv_mono hl (lvs_set1 (v := .int (x + Int32.ofInt (p_a i))) (by intro q; cases q)), by rw [List.length_set]; exact hL.2⟩
    · cases hc
  · cases hs
def s_if_eq : PSem := fun i pc ls st h => match st with
  | .int x :: rest => some (if x = 0 then p_b i else pc + 3, ls, rest, h)
  | _ => none
def c_if_eq : PChk := fun _ _ cc pc i => match decode cc pc with
  | .ok (.ifCond .eq off, 3) => decide ((pc : Int) + off = (p_b i : Int))
  | _ => false
theorem z_if_eq : SoundP c_if_eq s_if_eq := by
  intro G p l e R s m args below meth c Q o ini cc nL i pc pls pst h r H locs cells slots rls F hc hs hW hS hL _ _ k
  obtain ⟨hx, hb, hml, hown, hts, -⟩ := F
  unfold c_if_eq at hc
  split at hc
  next off hd =>
    have ht := of_decide_eq_true hc
    unfold s_if_eq at hs
    split at hs
    next x rest =>
      cases hs
      simp only [Nat.sub_self, Nat.add_zero] at k
      exact lv_if_eq hx hb hd ht (fun hz => by have k := k H locs rls hW hS hL; rw [if_pos hz] at k; exact k) (fun hz => by have k := k H locs rls hW hS hL; rw [if_neg hz] at k; exact k)
    · cases hs
  · cases hc
def s_icmp_eq : PSem := fun i pc ls st h => match st with
  | .int y :: .int x :: rest => some (if x = y then p_b i else pc + 3, ls, rest, h)
  | _ => none
def c_icmp_eq : PChk := fun _ _ cc pc i => match decode cc pc with
  | .ok (.if_icmp .eq off, 3) => decide ((pc : Int) + off = (p_b i : Int))
  | _ => false
theorem z_icmp_eq : SoundP c_icmp_eq s_icmp_eq := by
  intro G p l e R s m args below meth c Q o ini cc nL i pc pls pst h r H locs cells slots rls F hc hs hW hS hL _ _ k
  obtain ⟨hx, hb, hml, hown, hts, -⟩ := F
  unfold c_icmp_eq at hc
  split at hc
  next off hd =>
    have ht := of_decide_eq_true hc
    unfold s_icmp_eq at hs
    split at hs
    next y x rest =>
      cases hs
      simp only [Nat.sub_self, Nat.add_zero] at k
      exact lv_icmp_eq hx hb hd ht (fun hz => by have k := k H locs rls hW hS hL; rw [if_pos hz] at k; exact k) (fun hz => by have k := k H locs rls hW hS hL; rw [if_neg hz] at k; exact k)
    · cases hs
  · cases hc
def s_if_ne : PSem := fun i pc ls st h => match st with
  | .int x :: rest => some (if x = 0 then pc + 3 else p_b i, ls, rest, h)
  | _ => none
def c_if_ne : PChk := fun _ _ cc pc i => match decode cc pc with
  | .ok (.ifCond .ne off, 3) => decide ((pc : Int) + off = (p_b i : Int))
  | _ => false
theorem z_if_ne : SoundP c_if_ne s_if_ne := by
  intro G p l e R s m args below meth c Q o ini cc nL i pc pls pst h r H locs cells slots rls F hc hs hW hS hL _ _ k
  obtain ⟨hx, hb, hml, hown, hts, -⟩ := F
  unfold c_if_ne at hc
  split at hc
  next off hd =>
    have ht := of_decide_eq_true hc
    unfold s_if_ne at hs
    split at hs
    next x rest =>
      cases hs
      simp only [Nat.sub_self, Nat.add_zero] at k
      exact lv_if_ne hx hb hd ht (fun hz => by have k := k H locs rls hW hS hL; rw [if_neg hz] at k; exact k) (fun hz => by have k := k H locs rls hW hS hL; rw [if_pos hz] at k; exact k)
    · cases hs
  · cases hc
def s_icmp_ne : PSem := fun i pc ls st h => match st with
  | .int y :: .int x :: rest => some (if x = y then pc + 3 else p_b i, ls, rest, h)
  | _ => none
def c_icmp_ne : PChk := fun _ _ cc pc i => match decode cc pc with
  | .ok (.if_icmp .ne off, 3) => decide ((pc : Int) + off = (p_b i : Int))
  | _ => false
theorem z_icmp_ne : SoundP c_icmp_ne s_icmp_ne := by
  intro G p l e R s m args below meth c Q o ini cc nL i pc pls pst h r H locs cells slots rls F hc hs hW hS hL _ _ k
  obtain ⟨hx, hb, hml, hown, hts, -⟩ := F
  unfold c_icmp_ne at hc
  split at hc
  next off hd =>
    have ht := of_decide_eq_true hc
    unfold s_icmp_ne at hs
    split at hs
    next y x rest =>
      cases hs
      simp only [Nat.sub_self, Nat.add_zero] at k
      exact lv_icmp_ne hx hb hd ht (fun hz => by have k := k H locs rls hW hS hL; rw [if_neg hz] at k; exact k) (fun hz => by have k := k H locs rls hW hS hL; rw [if_pos hz] at k; exact k)
    · cases hs
  · cases hc
def s_if_lt : PSem := fun i pc ls st h => match st with
  | .int x :: rest => some (if x < 0 then p_b i else pc + 3, ls, rest, h)
  | _ => none
def c_if_lt : PChk := fun _ _ cc pc i => match decode cc pc with
  | .ok (.ifCond .lt off, 3) => decide ((pc : Int) + off = (p_b i : Int))
  | _ => false
theorem z_if_lt : SoundP c_if_lt s_if_lt := by
  intro G p l e R s m args below meth c Q o ini cc nL i pc pls pst h r H locs cells slots rls F hc hs hW hS hL _ _ k
  obtain ⟨hx, hb, hml, hown, hts, -⟩ := F
  unfold c_if_lt at hc
  split at hc
  next off hd =>
    have ht := of_decide_eq_true hc
    unfold s_if_lt at hs
    split at hs
    next x rest =>
      cases hs
      simp only [Nat.sub_self, Nat.add_zero] at k
      exact lv_if_lt hx hb hd ht (fun hz => by have k := k H locs rls hW hS hL; rw [if_pos hz] at k; exact k) (fun hz => by have k := k H locs rls hW hS hL; rw [if_neg hz] at k; exact k)
    · cases hs
  · cases hc
def s_icmp_lt : PSem := fun i pc ls st h => match st with
  | .int y :: .int x :: rest => some (if x < y then p_b i else pc + 3, ls, rest, h)
  | _ => none
def c_icmp_lt : PChk := fun _ _ cc pc i => match decode cc pc with
  | .ok (.if_icmp .lt off, 3) => decide ((pc : Int) + off = (p_b i : Int))
  | _ => false
theorem z_icmp_lt : SoundP c_icmp_lt s_icmp_lt := by
  intro G p l e R s m args below meth c Q o ini cc nL i pc pls pst h r H locs cells slots rls F hc hs hW hS hL _ _ k
  obtain ⟨hx, hb, hml, hown, hts, -⟩ := F
  unfold c_icmp_lt at hc
  split at hc
  next off hd =>
    have ht := of_decide_eq_true hc
    unfold s_icmp_lt at hs
    split at hs
    next y x rest =>
      cases hs
      simp only [Nat.sub_self, Nat.add_zero] at k
      exact lv_icmp_lt hx hb hd ht (fun hz => by have k := k H locs rls hW hS hL; rw [if_pos hz] at k; exact k) (fun hz => by have k := k H locs rls hW hS hL; rw [if_neg hz] at k; exact k)
    · cases hs
  · cases hc
def s_if_ge : PSem := fun i pc ls st h => match st with
  | .int x :: rest => some (if 0 ≤ x then p_b i else pc + 3, ls, rest, h)
  | _ => none
def c_if_ge : PChk := fun _ _ cc pc i => match decode cc pc with
  | .ok (.ifCond .ge off, 3) => decide ((pc : Int) + off = (p_b i : Int))
  | _ => false
theorem z_if_ge : SoundP c_if_ge s_if_ge := by
  intro G p l e R s m args below meth c Q o ini cc nL i pc pls pst h r H locs cells slots rls F hc hs hW hS hL _ _ k
  obtain ⟨hx, hb, hml, hown, hts, -⟩ := F
  unfold c_if_ge at hc
  split at hc
  next off hd =>
    have ht := of_decide_eq_true hc
    unfold s_if_ge at hs
    split at hs
    next x rest =>
      cases hs
      simp only [Nat.sub_self, Nat.add_zero] at k
      exact lv_if_ge hx hb hd ht (fun hz => by have k := k H locs rls hW hS hL; rw [if_pos hz] at k; exact k) (fun hz => by have k := k H locs rls hW hS hL; rw [if_neg hz] at k; exact k)
    · cases hs
  · cases hc
def s_icmp_ge : PSem := fun i pc ls st h => match st with
  | .int y :: .int x :: rest => some (if y ≤ x then p_b i else pc + 3, ls, rest, h)
  | _ => none
def c_icmp_ge : PChk := fun _ _ cc pc i => match decode cc pc with
  | .ok (.if_icmp .ge off, 3) => decide ((pc : Int) + off = (p_b i : Int))
  | _ => false
theorem z_icmp_ge : SoundP c_icmp_ge s_icmp_ge := by
  intro G p l e R s m args below meth c Q o ini cc nL i pc pls pst h r H locs cells slots rls F hc hs hW hS hL _ _ k
  obtain ⟨hx, hb, hml, hown, hts, -⟩ := F
  unfold c_icmp_ge at hc
  split at hc
  next off hd =>
    have ht := of_decide_eq_true hc
    unfold s_icmp_ge at hs
    split at hs
    next y x rest =>
      cases hs
      simp only [Nat.sub_self, Nat.add_zero] at k
      exact lv_icmp_ge hx hb hd ht (fun hz => by have k := k H locs rls hW hS hL; rw [if_pos hz] at k; exact k) (fun hz => by have k := k H locs rls hW hS hL; rw [if_neg hz] at k; exact k)
    · cases hs
  · cases hc
def s_if_gt : PSem := fun i pc ls st h => match st with
  | .int x :: rest => some (if 0 < x then p_b i else pc + 3, ls, rest, h)
  | _ => none
def c_if_gt : PChk := fun _ _ cc pc i => match decode cc pc with
  | .ok (.ifCond .gt off, 3) => decide ((pc : Int) + off = (p_b i : Int))
  | _ => false
theorem z_if_gt : SoundP c_if_gt s_if_gt := by
  intro G p l e R s m args below meth c Q o ini cc nL i pc pls pst h r H locs cells slots rls F hc hs hW hS hL _ _ k
  obtain ⟨hx, hb, hml, hown, hts, -⟩ := F
  unfold c_if_gt at hc
  split at hc
  next off hd =>
    have ht := of_decide_eq_true hc
    unfold s_if_gt at hs
    split at hs
    next x rest =>
      cases hs
      simp only [Nat.sub_self, Nat.add_zero] at k
      exact lv_if_gt hx hb hd ht (fun hz => by have k := k H locs rls hW hS hL; rw [if_pos hz] at k; exact k) (fun hz => by have k := k H locs rls hW hS hL; rw [if_neg hz] at k; exact k)
    · cases hs
  · cases hc
def s_icmp_gt : PSem := fun i pc ls st h => match st with
  | .int y :: .int x :: rest => some (if y < x then p_b i else pc + 3, ls, rest, h)
  | _ => none
def c_icmp_gt : PChk := fun _ _ cc pc i => match decode cc pc with
  | .ok (.if_icmp .gt off, 3) => decide ((pc : Int) + off = (p_b i : Int))
  | _ => false
theorem z_icmp_gt : SoundP c_icmp_gt s_icmp_gt := by
  intro G p l e R s m args below meth c Q o ini cc nL i pc pls pst h r H locs cells slots rls F hc hs hW hS hL _ _ k
  obtain ⟨hx, hb, hml, hown, hts, -⟩ := F
  unfold c_icmp_gt at hc
  split at hc
  next off hd =>
    have ht := of_decide_eq_true hc
    unfold s_icmp_gt at hs
    split at hs
    next y x rest =>
      cases hs
      simp only [Nat.sub_self, Nat.add_zero] at k
      exact lv_icmp_gt hx hb hd ht (fun hz => by have k := k H locs rls hW hS hL; rw [if_pos hz] at k; exact k) (fun hz => by have k := k H locs rls hW hS hL; rw [if_neg hz] at k; exact k)
    · cases hs
  · cases hc
def s_if_le : PSem := fun i pc ls st h => match st with
  | .int x :: rest => some (if x ≤ 0 then p_b i else pc + 3, ls, rest, h)
  | _ => none
def c_if_le : PChk := fun _ _ cc pc i => match decode cc pc with
  | .ok (.ifCond .le off, 3) => decide ((pc : Int) + off = (p_b i : Int))
  | _ => false
theorem z_if_le : SoundP c_if_le s_if_le := by
  intro G p l e R s m args below meth c Q o ini cc nL i pc pls pst h r H locs cells slots rls F hc hs hW hS hL _ _ k
  obtain ⟨hx, hb, hml, hown, hts, -⟩ := F
  unfold c_if_le at hc
  split at hc
  next off hd =>
    have ht := of_decide_eq_true hc
    unfold s_if_le at hs
    split at hs
    next x rest =>
      cases hs
      simp only [Nat.sub_self, Nat.add_zero] at k
      exact lv_if_le hx hb hd ht (fun hz => by have k := k H locs rls hW hS hL; rw [if_pos hz] at k; exact k) (fun hz => by have k := k H locs rls hW hS hL; rw [if_neg hz] at k; exact k)
    · cases hs
  · cases hc
def s_icmp_le : PSem := fun i pc ls st h => match st with
  | .int y :: .int x :: rest => some (if x ≤ y then p_b i else pc + 3, ls, rest, h)
  | _ => none
def c_icmp_le : PChk := fun _ _ cc pc i => match decode cc pc with
  | .ok (.if_icmp .le off, 3) => decide ((pc : Int) + off = (p_b i : Int))
  | _ => false
theorem z_icmp_le : SoundP c_icmp_le s_icmp_le := by
  intro G p l e R s m args below meth c Q o ini cc nL i pc pls pst h r H locs cells slots rls F hc hs hW hS hL _ _ k
  obtain ⟨hx, hb, hml, hown, hts, -⟩ := F
  unfold c_icmp_le at hc
  split at hc
  next off hd =>
    have ht := of_decide_eq_true hc
    unfold s_icmp_le at hs
    split at hs
    next y x rest =>
      cases hs
      simp only [Nat.sub_self, Nat.add_zero] at k
      exact lv_icmp_le hx hb hd ht (fun hz => by have k := k H locs rls hW hS hL; rw [if_pos hz] at k; exact k) (fun hz => by have k := k H locs rls hW hS hL; rw [if_neg hz] at k; exact k)
    · cases hs
  · cases hc
def s_goto : PSem := fun i pc ls st h => some (p_b i, ls, st, h)
def c_goto : PChk := fun _ _ cc pc i => match decode cc pc with
  | .ok (.goto off, 3) => decide ((pc : Int) + off = (p_b i : Int))
  | _ => false
theorem z_goto : SoundP c_goto s_goto := by
  intro G p l e R s m args below meth c Q o ini cc nL i pc pls pst h r H locs cells slots rls F hc hs hW hS hL _ _ k
  obtain ⟨hx, hb, hml, hown, hts, -⟩ := F
  unfold c_goto at hc
  split at hc
  next off hd =>
    cases hs
    simp only [Nat.sub_self, Nat.add_zero] at k
    exact lv_goto hx hb hd (of_decide_eq_true hc) (k H locs rls hW hS hL)
  · cases hc
def s_nonnull : PSem := fun i pc ls st h => match st with
  | .ref x :: rest => some (p_b i, ls, rest, h)
  | .null :: rest => some (pc + 3, ls, rest, h)
  | _ => none
def c_nonnull : PChk := fun _ _ cc pc i => match decode cc pc with
  | .ok (.ifnonnull off, 3) => decide ((pc : Int) + off = (p_b i : Int))
  | _ => false
theorem z_nonnull : SoundP c_nonnull s_nonnull := by
  intro G p l e R s m args below meth c Q o ini cc nL i pc pls pst h r H locs cells slots rls F hc hs hW hS hL _ _ k
  obtain ⟨hx, hb, hml, hown, hts, -⟩ := F
  unfold c_nonnull at hc
  split at hc
  next off hd =>
    unfold s_nonnull at hs
    split at hs
    next x rest =>
      cases hs
      simp only [Nat.sub_self, Nat.add_zero] at k
      exact lv_ifnonnull hx hb hd (of_decide_eq_true hc) (k H locs rls hW hS hL)
    next rest =>
      cases hs
      simp only [Nat.sub_self, Nat.add_zero] at k
      exact lv_ifnonnullN hx hb hd (k H locs rls hW hS hL)
    · cases hs
  · cases hc
end
section
/-! the links of fields: own class, index, class, field -/
def flOK (q : Nat × Nat × Nat × Nat) : Prop := ∃ (C : String) (T : u_T) (N : Nat), cls[q.2.2.1]? = some (C, T, N) ∧ q.2.2.2 < N ∧ Cond.fieldLink (cN q.1) q.2.1 C (T q.2.2.2).2.1 (T q.2.2.2).2.2.1 ∈ gt
def fnOK (q : Nat × Nat × Nat × Nat) : Prop := ∃ (C : String) (T : u_T) (N : Nat), cls[q.2.2.1]? = some (C, T, N) ∧ q.2.2.2 < N ∧ Cond.fieldLinkNest (cN q.1) q.2.1 C (T q.2.2.2).2.1 (T q.2.2.2).2.2.1 "OneWaySpell" ∈ nt
theorem nt_in {w : Cond} (i : Nat) (h : lw_tbl[i]? = some w) (hg : isNest w = true) : w ∈ nt := List.mem_filter.mpr ⟨List.mem_of_getElem? h, hg⟩
def flT_0 : List (Nat × Nat × Nat × Nat) := [(3, 9, 3, 0), (3, 15, 3, 1), (3, 19, 3, 2), (3, 28, 3, 3), (3, 47, 3, 4), (3, 36, 3, 5), (3, 62, 3, 6), (3, 22, 3, 7), (3, 25, 3, 8), (3, 59, 3, 9), (7, 11, 7, 0), (7, 29, 7, 1), (7, 15, 7, 2), (7, 18, 7, 3), (7, 22, 7, 4), (7, 32, 7, 5), (7, 35, 7, 6), (7, 38, 7, 7), (7, 25, 7, 8), (10, 11, 10, 0), (10, 23, 10, 1), (10, 15, 10, 2), (10, 19, 10, 3), (10, 70, 10, 4), (11, 9, 11, 0), (11, 34, 11, 1), (11, 16, 11, 2), (11, 23, 11, 3), (11, 30, 11, 4), (11, 288, 11, 5), (11, 302, 11, 6), (11, 132, 11, 7), (11, 327, 11, 8), (11, 210, 11, 9), (11, 311, 11, 10), (11, 320, 11, 11), (11, 332, 11, 12), (6, 11, 6, 0), (6, 15, 6, 1), (6, 19, 6, 2)]
set_option maxRecDepth 20000 in
theorem flT_0_ok : ∀ q ∈ flT_0, flOK q := List.forall_mem_cons.mpr ⟨⟨_, _, _, rfl, by decide, gt_in 205 (by decide +kernel) rfl⟩, List.forall_mem_cons.mpr ⟨⟨_, _, _, rfl, by decide, gt_in 212 (by decide +kernel) rfl⟩, List.forall_mem_cons.mpr ⟨⟨_, _, _, rfl, by decide, gt_in 220 (by decide +kernel) rfl⟩, List.forall_mem_cons.mpr ⟨⟨_, _, _, rfl, by decide, gt_in 224 (by decide +kernel) rfl⟩, List.forall_mem_cons.mpr ⟨⟨_, _, _, rfl, by decide, gt_in 233 (by decide +kernel) rfl⟩, List.forall_mem_cons.mpr ⟨⟨_, _, _, rfl, by decide, gt_in 235 (by decide +kernel) rfl⟩, List.forall_mem_cons.mpr ⟨⟨_, _, _, rfl, by decide, gt_in 240 (by decide +kernel) rfl⟩, List.forall_mem_cons.mpr ⟨⟨_, _, _, rfl, by decide, gt_in 242 (by decide +kernel) rfl⟩, List.forall_mem_cons.mpr ⟨⟨_, _, _, rfl, by decide, gt_in 243 (by decide +kernel) rfl⟩, List.forall_mem_cons.mpr ⟨⟨_, _, _, rfl, by decide, gt_in 244 (by decide +kernel) rfl⟩, List.forall_mem_cons.mpr ⟨⟨_, _, _, rfl, by decide, gt_in 276 (by decide +kernel) rfl⟩, List.forall_mem_cons.mpr ⟨⟨_, _, _, rfl, by decide, gt_in 277 (by decide +kernel) rfl⟩, List.forall_mem_cons.mpr ⟨⟨_, _, _, rfl, by decide, gt_in 279 (by decide +kernel) rfl⟩, List.forall_mem_cons.mpr ⟨⟨_, _, _, rfl, by decide, gt_in 281 (by decide +kernel) rfl⟩, List.forall_mem_cons.mpr ⟨⟨_, _, _, rfl, by decide, gt_in 283 (by decide +kernel) rfl⟩, List.forall_mem_cons.mpr ⟨⟨_, _, _, rfl, by decide, gt_in 285 (by decide +kernel) rfl⟩, List.forall_mem_cons.mpr ⟨⟨_, _, _, rfl, by decide, gt_in 287 (by decide +kernel) rfl⟩, List.forall_mem_cons.mpr ⟨⟨_, _, _, rfl, by decide, gt_in 288 (by decide +kernel) rfl⟩, List.forall_mem_cons.mpr ⟨⟨_, _, _, rfl, by decide, gt_in 290 (by decide +kernel) rfl⟩, List.forall_mem_cons.mpr ⟨⟨_, _, _, rfl, by decide, gt_in 317 (by decide +kernel) rfl⟩, List.forall_mem_cons.mpr ⟨⟨_, _, _, rfl, by decide, gt_in 320 (by decide +kernel) rfl⟩, List.forall_mem_cons.mpr ⟨⟨_, _, _, rfl, by decide, gt_in 324 (by decide +kernel) rfl⟩, List.forall_mem_cons.mpr ⟨⟨_, _, _, rfl, by decide, gt_in 326 (by decide +kernel) rfl⟩, List.forall_mem_cons.mpr ⟨⟨_, _, _, rfl, by decide, gt_in 327 (by decide +kernel) rfl⟩, List.forall_mem_cons.mpr ⟨⟨_, _, _, rfl, by decide, gt_in 340 (by decide +kernel) rfl⟩, List.forall_mem_cons.mpr ⟨⟨_, _, _, rfl, by decide, gt_in 341 (by decide +kernel) rfl⟩, List.forall_mem_cons.mpr ⟨⟨_, _, _, rfl, by decide, gt_in 342 (by decide +kernel) rfl⟩, List.forall_mem_cons.mpr ⟨⟨_, _, _, rfl, by decide, gt_in 343 (by decide +kernel) rfl⟩, List.forall_mem_cons.mpr ⟨⟨_, _, _, rfl, by decide, gt_in 344 (by decide +kernel) rfl⟩, List.forall_mem_cons.mpr ⟨⟨_, _, _, rfl, by decide, gt_in 345 (by decide +kernel) rfl⟩, List.forall_mem_cons.mpr ⟨⟨_, _, _, rfl, by decide, gt_in 346 (by decide +kernel) rfl⟩, List.forall_mem_cons.mpr ⟨⟨_, _, _, rfl, by decide, gt_in 347 (by decide +kernel) rfl⟩, List.forall_mem_cons.mpr ⟨⟨_, _, _, rfl, by decide, gt_in 348 (by decide +kernel) rfl⟩, List.forall_mem_cons.mpr ⟨⟨_, _, _, rfl, by decide, gt_in 349 (by decide +kernel) rfl⟩, List.forall_mem_cons.mpr ⟨⟨_, _, _, rfl, by decide, gt_in 350 (by decide +kernel) rfl⟩, List.forall_mem_cons.mpr ⟨⟨_, _, _, rfl, by decide, gt_in 351 (by decide +kernel) rfl⟩, List.forall_mem_cons.mpr ⟨⟨_, _, _, rfl, by decide, gt_in 352 (by decide +kernel) rfl⟩, List.forall_mem_cons.mpr ⟨⟨_, _, _, rfl, by decide, gt_in 528 (by decide +kernel) rfl⟩, List.forall_mem_cons.mpr ⟨⟨_, _, _, rfl, by decide, gt_in 530 (by decide +kernel) rfl⟩, List.forall_mem_cons.mpr ⟨⟨_, _, _, rfl, by decide, gt_in 532 (by decide +kernel) rfl⟩, fun _ h => absurd h List.not_mem_nil⟩⟩⟩⟩⟩⟩⟩⟩⟩⟩⟩⟩⟩⟩⟩⟩⟩⟩⟩⟩⟩⟩⟩⟩⟩⟩⟩⟩⟩⟩⟩⟩⟩⟩⟩⟩⟩⟩⟩⟩
def flT_1 : List (Nat × Nat × Nat × Nat) := [(6, 44, 6, 3), (6, 22, 6, 4), (6, 47, 6, 5), (6, 25, 6, 6), (6, 50, 6, 7), (6, 29, 6, 8), (6, 32, 6, 9), (6, 35, 6, 10), (6, 38, 6, 11), (9, 13, 9, 0), (9, 17, 9, 1), (9, 21, 9, 2), (9, 24, 9, 3), (9, 28, 9, 4), (9, 42, 9, 5), (9, 46, 9, 6), (9, 64, 9, 7), (9, 67, 9, 8), (9, 33, 9, 9), (8, 11, 8, 0), (8, 15, 8, 1), (8, 18, 8, 2), (8, 21, 8, 3), (8, 25, 8, 4), (8, 28, 8, 5), (8, 31, 8, 6), (8, 34, 8, 7), (8, 37, 8, 8), (8, 56, 8, 9), (8, 40, 8, 10), (4, 11, 4, 0), (4, 49, 4, 1), (4, 15, 4, 2), (4, 71, 4, 3), (4, 18, 4, 4), (5, 11, 5, 0), (5, 27, 5, 1), (5, 15, 5, 2), (5, 18, 5, 3), (5, 21, 5, 4)]
set_option maxRecDepth 20000 in
theorem flT_1_ok : ∀ q ∈ flT_1, flOK q := List.forall_mem_cons.mpr ⟨⟨_, _, _, rfl, by decide, gt_in 533 (by decide +kernel) rfl⟩, List.forall_mem_cons.mpr ⟨⟨_, _, _, rfl, by decide, gt_in 534 (by decide +kernel) rfl⟩, List.forall_mem_cons.mpr ⟨⟨_, _, _, rfl, by decide, gt_in 535 (by decide +kernel) rfl⟩, List.forall_mem_cons.mpr ⟨⟨_, _, _, rfl, by decide, gt_in 537 (by decide +kernel) rfl⟩, List.forall_mem_cons.mpr ⟨⟨_, _, _, rfl, by decide, gt_in 540 (by decide +kernel) rfl⟩, List.forall_mem_cons.mpr ⟨⟨_, _, _, rfl, by decide, gt_in 542 (by decide +kernel) rfl⟩, List.forall_mem_cons.mpr ⟨⟨_, _, _, rfl, by decide, gt_in 544 (by decide +kernel) rfl⟩, List.forall_mem_cons.mpr ⟨⟨_, _, _, rfl, by decide, gt_in 545 (by decide +kernel) rfl⟩, List.forall_mem_cons.mpr ⟨⟨_, _, _, rfl, by decide, gt_in 546 (by decide +kernel) rfl⟩, List.forall_mem_cons.mpr ⟨⟨_, _, _, rfl, by decide, gt_in 638 (by decide +kernel) rfl⟩, List.forall_mem_cons.mpr ⟨⟨_, _, _, rfl, by decide, gt_in 639 (by decide +kernel) rfl⟩, List.forall_mem_cons.mpr ⟨⟨_, _, _, rfl, by decide, gt_in 640 (by decide +kernel) rfl⟩, List.forall_mem_cons.mpr ⟨⟨_, _, _, rfl, by decide, gt_in 641 (by decide +kernel) rfl⟩, List.forall_mem_cons.mpr ⟨⟨_, _, _, rfl, by decide, gt_in 642 (by decide +kernel) rfl⟩, List.forall_mem_cons.mpr ⟨⟨_, _, _, rfl, by decide, gt_in 643 (by decide +kernel) rfl⟩, List.forall_mem_cons.mpr ⟨⟨_, _, _, rfl, by decide, gt_in 644 (by decide +kernel) rfl⟩, List.forall_mem_cons.mpr ⟨⟨_, _, _, rfl, by decide, gt_in 645 (by decide +kernel) rfl⟩, List.forall_mem_cons.mpr ⟨⟨_, _, _, rfl, by decide, gt_in 646 (by decide +kernel) rfl⟩, List.forall_mem_cons.mpr ⟨⟨_, _, _, rfl, by decide, gt_in 647 (by decide +kernel) rfl⟩, List.forall_mem_cons.mpr ⟨⟨_, _, _, rfl, by decide, gt_in 679 (by decide +kernel) rfl⟩, List.forall_mem_cons.mpr ⟨⟨_, _, _, rfl, by decide, gt_in 680 (by decide +kernel) rfl⟩, List.forall_mem_cons.mpr ⟨⟨_, _, _, rfl, by decide, gt_in 681 (by decide +kernel) rfl⟩, List.forall_mem_cons.mpr ⟨⟨_, _, _, rfl, by decide, gt_in 683 (by decide +kernel) rfl⟩, List.forall_mem_cons.mpr ⟨⟨_, _, _, rfl, by decide, gt_in 687 (by decide +kernel) rfl⟩, List.forall_mem_cons.mpr ⟨⟨_, _, _, rfl, by decide, gt_in 691 (by decide +kernel) rfl⟩, List.forall_mem_cons.mpr ⟨⟨_, _, _, rfl, by decide, gt_in 693 (by decide +kernel) rfl⟩, List.forall_mem_cons.mpr ⟨⟨_, _, _, rfl, by decide, gt_in 694 (by decide +kernel) rfl⟩, List.forall_mem_cons.mpr ⟨⟨_, _, _, rfl, by decide, gt_in 696 (by decide +kernel) rfl⟩, List.forall_mem_cons.mpr ⟨⟨_, _, _, rfl, by decide, gt_in 699 (by decide +kernel) rfl⟩, List.forall_mem_cons.mpr ⟨⟨_, _, _, rfl, by decide, gt_in 700 (by decide +kernel) rfl⟩, List.forall_mem_cons.mpr ⟨⟨_, _, _, rfl, by decide, gt_in 895 (by decide +kernel) rfl⟩, List.forall_mem_cons.mpr ⟨⟨_, _, _, rfl, by decide, gt_in 896 (by decide +kernel) rfl⟩, List.forall_mem_cons.mpr ⟨⟨_, _, _, rfl, by decide, gt_in 897 (by decide +kernel) rfl⟩, List.forall_mem_cons.mpr ⟨⟨_, _, _, rfl, by decide, gt_in 898 (by decide +kernel) rfl⟩, List.forall_mem_cons.mpr ⟨⟨_, _, _, rfl, by decide, gt_in 899 (by decide +kernel) rfl⟩, List.forall_mem_cons.mpr ⟨⟨_, _, _, rfl, by decide, gt_in 997 (by decide +kernel) rfl⟩, List.forall_mem_cons.mpr ⟨⟨_, _, _, rfl, by decide, gt_in 998 (by decide +kernel) rfl⟩, List.forall_mem_cons.mpr ⟨⟨_, _, _, rfl, by decide, gt_in 999 (by decide +kernel) rfl⟩, List.forall_mem_cons.mpr ⟨⟨_, _, _, rfl, by decide, gt_in 1000 (by decide +kernel) rfl⟩, List.forall_mem_cons.mpr ⟨⟨_, _, _, rfl, by decide, gt_in 1001 (by decide +kernel) rfl⟩, fun _ h => absurd h List.not_mem_nil⟩⟩⟩⟩⟩⟩⟩⟩⟩⟩⟩⟩⟩⟩⟩⟩⟩⟩⟩⟩⟩⟩⟩⟩⟩⟩⟩⟩⟩⟩⟩⟩⟩⟩⟩⟩⟩⟩⟩⟩
def flT_2 : List (Nat × Nat × Nat × Nat) := [(5, 40, 5, 5), (5, 24, 5, 6), (1, 11, 1, 0), (1, 15, 1, 1), (1, 18, 1, 2), (1, 22, 1, 3), (1, 42, 1, 4), (1, 25, 1, 5), (1, 28, 1, 6), (1, 31, 1, 7), (1, 35, 1, 8), (1, 45, 1, 9), (1, 38, 1, 10), (0, 11, 0, 0), (0, 15, 0, 1), (0, 18, 0, 2), (0, 29, 0, 3), (0, 22, 0, 4), (0, 25, 0, 5), (2, 12, 2, 0), (2, 21, 2, 1), (2, 25, 2, 2), (2, 29, 2, 3), (2, 32, 2, 4), (2, 59, 2, 5), (2, 66, 2, 6), (2, 35, 2, 7), (2, 38, 2, 8), (2, 41, 2, 9), (2, 48, 2, 10), (2, 51, 2, 11), (12, 155, 12, 0), (12, 7, 12, 1), (12, 13, 12, 2), (12, 16, 12, 3), (12, 158, 12, 4), (12, 253, 12, 5), (12, 256, 12, 6), (12, 19, 12, 7), (12, 22, 12, 8)]
set_option maxRecDepth 20000 in
theorem flT_2_ok : ∀ q ∈ flT_2, flOK q := List.forall_mem_cons.mpr ⟨⟨_, _, _, rfl, by decide, gt_in 1002 (by decide +kernel) rfl⟩, List.forall_mem_cons.mpr ⟨⟨_, _, _, rfl, by decide, gt_in 1003 (by decide +kernel) rfl⟩, List.forall_mem_cons.mpr ⟨⟨_, _, _, rfl, by decide, gt_in 1078 (by decide +kernel) rfl⟩, List.forall_mem_cons.mpr ⟨⟨_, _, _, rfl, by decide, gt_in 1079 (by decide +kernel) rfl⟩, List.forall_mem_cons.mpr ⟨⟨_, _, _, rfl, by decide, gt_in 1080 (by decide +kernel) rfl⟩, List.forall_mem_cons.mpr ⟨⟨_, _, _, rfl, by decide, gt_in 1081 (by decide +kernel) rfl⟩, List.forall_mem_cons.mpr ⟨⟨_, _, _, rfl, by decide, gt_in 1082 (by decide +kernel) rfl⟩, List.forall_mem_cons.mpr ⟨⟨_, _, _, rfl, by decide, gt_in 1083 (by decide +kernel) rfl⟩, List.forall_mem_cons.mpr ⟨⟨_, _, _, rfl, by decide, gt_in 1084 (by decide +kernel) rfl⟩, List.forall_mem_cons.mpr ⟨⟨_, _, _, rfl, by decide, gt_in 1085 (by decide +kernel) rfl⟩, List.forall_mem_cons.mpr ⟨⟨_, _, _, rfl, by decide, gt_in 1086 (by decide +kernel) rfl⟩, List.forall_mem_cons.mpr ⟨⟨_, _, _, rfl, by decide, gt_in 1087 (by decide +kernel) rfl⟩, List.forall_mem_cons.mpr ⟨⟨_, _, _, rfl, by decide, gt_in 1088 (by decide +kernel) rfl⟩, List.forall_mem_cons.mpr ⟨⟨_, _, _, rfl, by decide, gt_in 1204 (by decide +kernel) rfl⟩, List.forall_mem_cons.mpr ⟨⟨_, _, _, rfl, by decide, gt_in 1205 (by decide +kernel) rfl⟩, List.forall_mem_cons.mpr ⟨⟨_, _, _, rfl, by decide, gt_in 1206 (by decide +kernel) rfl⟩, List.forall_mem_cons.mpr ⟨⟨_, _, _, rfl, by decide, gt_in 1207 (by decide +kernel) rfl⟩, List.forall_mem_cons.mpr ⟨⟨_, _, _, rfl, by decide, gt_in 1208 (by decide +kernel) rfl⟩, List.forall_mem_cons.mpr ⟨⟨_, _, _, rfl, by decide, gt_in 1209 (by decide +kernel) rfl⟩, List.forall_mem_cons.mpr ⟨⟨_, _, _, rfl, by decide, gt_in 1298 (by decide +kernel) rfl⟩, List.forall_mem_cons.mpr ⟨⟨_, _, _, rfl, by decide, gt_in 1299 (by decide +kernel) rfl⟩, List.forall_mem_cons.mpr ⟨⟨_, _, _, rfl, by decide, gt_in 1300 (by decide +kernel) rfl⟩, List.forall_mem_cons.mpr ⟨⟨_, _, _, rfl, by decide, gt_in 1301 (by decide +kernel) rfl⟩, List.forall_mem_cons.mpr ⟨⟨_, _, _, rfl, by decide, gt_in 1302 (by decide +kernel) rfl⟩, List.forall_mem_cons.mpr ⟨⟨_, _, _, rfl, by decide, gt_in 1303 (by decide +kernel) rfl⟩, List.forall_mem_cons.mpr ⟨⟨_, _, _, rfl, by decide, gt_in 1304 (by decide +kernel) rfl⟩, List.forall_mem_cons.mpr ⟨⟨_, _, _, rfl, by decide, gt_in 1305 (by decide +kernel) rfl⟩, List.forall_mem_cons.mpr ⟨⟨_, _, _, rfl, by decide, gt_in 1306 (by decide +kernel) rfl⟩, List.forall_mem_cons.mpr ⟨⟨_, _, _, rfl, by decide, gt_in 1307 (by decide +kernel) rfl⟩, List.forall_mem_cons.mpr ⟨⟨_, _, _, rfl, by decide, gt_in 1308 (by decide +kernel) rfl⟩, List.forall_mem_cons.mpr ⟨⟨_, _, _, rfl, by decide, gt_in 1309 (by decide +kernel) rfl⟩, List.forall_mem_cons.mpr ⟨⟨_, _, _, rfl, by decide, gt_in 1409 (by decide +kernel) rfl⟩, List.forall_mem_cons.mpr ⟨⟨_, _, _, rfl, by decide, gt_in 1410 (by decide +kernel) rfl⟩, List.forall_mem_cons.mpr ⟨⟨_, _, _, rfl, by decide, gt_in 1411 (by decide +kernel) rfl⟩, List.forall_mem_cons.mpr ⟨⟨_, _, _, rfl, by decide, gt_in 1412 (by decide +kernel) rfl⟩, List.forall_mem_cons.mpr ⟨⟨_, _, _, rfl, by decide, gt_in 1413 (by decide +kernel) rfl⟩, List.forall_mem_cons.mpr ⟨⟨_, _, _, rfl, by decide, gt_in 1414 (by decide +kernel) rfl⟩, List.forall_mem_cons.mpr ⟨⟨_, _, _, rfl, by decide, gt_in 1415 (by decide +kernel) rfl⟩, List.forall_mem_cons.mpr ⟨⟨_, _, _, rfl, by decide, gt_in 1416 (by decide +kernel) rfl⟩, List.forall_mem_cons.mpr ⟨⟨_, _, _, rfl, by decide, gt_in 1417 (by decide +kernel) rfl⟩, fun _ h => absurd h List.not_mem_nil⟩⟩⟩⟩⟩⟩⟩⟩⟩⟩⟩⟩⟩⟩⟩⟩⟩⟩⟩⟩⟩⟩⟩⟩⟩⟩⟩⟩⟩⟩⟩⟩⟩⟩⟩⟩⟩⟩⟩⟩
def flT_3 : List (Nat × Nat × Nat × Nat) := [(12, 25, 12, 9), (12, 28, 12, 10), (12, 31, 12, 11), (12, 169, 12, 12), (12, 176, 12, 13), (12, 186, 12, 14), (12, 179, 12, 15), (12, 189, 12, 16), (12, 250, 12, 17), (12, 34, 12, 18), (12, 196, 12, 19), (12, 199, 12, 20), (12, 223, 12, 21), (12, 229, 12, 22), (12, 38, 12, 23), (12, 259, 12, 24), (12, 268, 12, 25), (12, 272, 12, 26), (12, 41, 12, 27), (12, 44, 12, 28), (12, 47, 12, 29), (12, 50, 12, 30), (12, 53, 12, 31), (12, 314, 12, 32), (12, 327, 12, 33), (12, 330, 12, 34), (12, 57, 12, 35), (12, 60, 12, 36), (12, 63, 12, 37), (12, 339, 12, 38), (12, 66, 12, 39), (12, 69, 12, 40), (12, 374, 12, 41), (12, 377, 12, 42), (12, 73, 12, 43), (12, 76, 12, 44), (12, 79, 12, 45), (12, 82, 12, 46), (12, 391, 12, 47), (12, 85, 12, 48)]
set_option maxRecDepth 20000 in
theorem flT_3_ok : ∀ q ∈ flT_3, flOK q := List.forall_mem_cons.mpr ⟨⟨_, _, _, rfl, by decide, gt_in 1418 (by decide +kernel) rfl⟩, List.forall_mem_cons.mpr ⟨⟨_, _, _, rfl, by decide, gt_in 1419 (by decide +kernel) rfl⟩, List.forall_mem_cons.mpr ⟨⟨_, _, _, rfl, by decide, gt_in 1420 (by decide +kernel) rfl⟩, List.forall_mem_cons.mpr ⟨⟨_, _, _, rfl, by decide, gt_in 1421 (by decide +kernel) rfl⟩, List.forall_mem_cons.mpr ⟨⟨_, _, _, rfl, by decide, gt_in 1422 (by decide +kernel) rfl⟩, List.forall_mem_cons.mpr ⟨⟨_, _, _, rfl, by decide, gt_in 1423 (by decide +kernel) rfl⟩, List.forall_mem_cons.mpr ⟨⟨_, _, _, rfl, by decide, gt_in 1424 (by decide +kernel) rfl⟩, List.forall_mem_cons.mpr ⟨⟨_, _, _, rfl, by decide, gt_in 1425 (by decide +kernel) rfl⟩, List.forall_mem_cons.mpr ⟨⟨_, _, _, rfl, by decide, gt_in 1426 (by decide +kernel) rfl⟩, List.forall_mem_cons.mpr ⟨⟨_, _, _, rfl, by decide, gt_in 1427 (by decide +kernel) rfl⟩, List.forall_mem_cons.mpr ⟨⟨_, _, _, rfl, by decide, gt_in 1428 (by decide +kernel) rfl⟩, List.forall_mem_cons.mpr ⟨⟨_, _, _, rfl, by decide, gt_in 1429 (by decide +kernel) rfl⟩, List.forall_mem_cons.mpr ⟨⟨_, _, _, rfl, by decide, gt_in 1430 (by decide +kernel) rfl⟩, List.forall_mem_cons.mpr ⟨⟨_, _, _, rfl, by decide, gt_in 1431 (by decide +kernel) rfl⟩, List.forall_mem_cons.mpr ⟨⟨_, _, _, rfl, by decide, gt_in 1432 (by decide +kernel) rfl⟩, List.forall_mem_cons.mpr ⟨⟨_, _, _, rfl, by decide, gt_in 1433 (by decide +kernel) rfl⟩, List.forall_mem_cons.mpr ⟨⟨_, _, _, rfl, by decide, gt_in 1434 (by decide +kernel) rfl⟩, List.forall_mem_cons.mpr ⟨⟨_, _, _, rfl, by decide, gt_in 1435 (by decide +kernel) rfl⟩, List.forall_mem_cons.mpr ⟨⟨_, _, _, rfl, by decide, gt_in 1436 (by decide +kernel) rfl⟩, List.forall_mem_cons.mpr ⟨⟨_, _, _, rfl, by decide, gt_in 1437 (by decide +kernel) rfl⟩, List.forall_mem_cons.mpr ⟨⟨_, _, _, rfl, by decide, gt_in 1438 (by decide +kernel) rfl⟩, List.forall_mem_cons.mpr ⟨⟨_, _, _, rfl, by decide, gt_in 1439 (by decide +kernel) rfl⟩, List.forall_mem_cons.mpr ⟨⟨_, _, _, rfl, by decide, gt_in 1440 (by decide +kernel) rfl⟩, List.forall_mem_cons.mpr ⟨⟨_, _, _, rfl, by decide, gt_in 1441 (by decide +kernel) rfl⟩, List.forall_mem_cons.mpr ⟨⟨_, _, _, rfl, by decide, gt_in 1442 (by decide +kernel) rfl⟩, List.forall_mem_cons.mpr ⟨⟨_, _, _, rfl, by decide, gt_in 1443 (by decide +kernel) rfl⟩, List.forall_mem_cons.mpr ⟨⟨_, _, _, rfl, by decide, gt_in 1444 (by decide +kernel) rfl⟩, List.forall_mem_cons.mpr ⟨⟨_, _, _, rfl, by decide, gt_in 1445 (by decide +kernel) rfl⟩, List.forall_mem_cons.mpr ⟨⟨_, _, _, rfl, by decide, gt_in 1446 (by decide +kernel) rfl⟩, List.forall_mem_cons.mpr ⟨⟨_, _, _, rfl, by decide, gt_in 1447 (by decide +kernel) rfl⟩, List.forall_mem_cons.mpr ⟨⟨_, _, _, rfl, by decide, gt_in 1448 (by decide +kernel) rfl⟩, List.forall_mem_cons.mpr ⟨⟨_, _, _, rfl, by decide, gt_in 1449 (by decide +kernel) rfl⟩, List.forall_mem_cons.mpr ⟨⟨_, _, _, rfl, by decide, gt_in 1450 (by decide +kernel) rfl⟩, List.forall_mem_cons.mpr ⟨⟨_, _, _, rfl, by decide, gt_in 1451 (by decide +kernel) rfl⟩, List.forall_mem_cons.mpr ⟨⟨_, _, _, rfl, by decide, gt_in 1452 (by decide +kernel) rfl⟩, List.forall_mem_cons.mpr ⟨⟨_, _, _, rfl, by decide, gt_in 1453 (by decide +kernel) rfl⟩, List.forall_mem_cons.mpr ⟨⟨_, _, _, rfl, by decide, gt_in 1454 (by decide +kernel) rfl⟩, List.forall_mem_cons.mpr ⟨⟨_, _, _, rfl, by decide, gt_in 1455 (by decide +kernel) rfl⟩, List.forall_mem_cons.mpr ⟨⟨_, _, _, rfl, by decide, gt_in 1456 (by decide +kernel) rfl⟩, List.forall_mem_cons.mpr ⟨⟨_, _, _, rfl, by decide, gt_in 1457 (by decide +kernel) rfl⟩, fun _ h => absurd h List.not_mem_nil⟩⟩⟩⟩⟩⟩⟩⟩⟩⟩⟩⟩⟩⟩⟩⟩⟩⟩⟩⟩⟩⟩⟩⟩⟩⟩⟩⟩⟩⟩⟩⟩⟩⟩⟩⟩⟩⟩⟩⟩
def flT_4 : List (Nat × Nat × Nat × Nat) := [(12, 89, 12, 49), (12, 92, 12, 50), (12, 95, 12, 51), (12, 98, 12, 52), (12, 414, 12, 53), (12, 102, 12, 54), (12, 106, 12, 55), (12, 109, 12, 56), (12, 112, 12, 57), (12, 115, 12, 58), (12, 118, 12, 59), (12, 121, 12, 60), (12, 450, 12, 61), (12, 454, 12, 62), (12, 124, 12, 63), (12, 127, 12, 64), (12, 131, 12, 65), (12, 134, 12, 66), (12, 137, 12, 67), (12, 140, 12, 68), (12, 143, 12, 69), (12, 275, 12, 70), (12, 476, 12, 71), (12, 146, 12, 72), (12, 149, 12, 73), (12, 495, 12, 74), (12, 152, 12, 75), (12, 262, 12, 76)]
set_option maxRecDepth 20000 in
theorem flT_4_ok : ∀ q ∈ flT_4, flOK q := List.forall_mem_cons.mpr ⟨⟨_, _, _, rfl, by decide, gt_in 1458 (by decide +kernel) rfl⟩, List.forall_mem_cons.mpr ⟨⟨_, _, _, rfl, by decide, gt_in 1459 (by decide +kernel) rfl⟩, List.forall_mem_cons.mpr ⟨⟨_, _, _, rfl, by decide, gt_in 1460 (by decide +kernel) rfl⟩, List.forall_mem_cons.mpr ⟨⟨_, _, _, rfl, by decide, gt_in 1461 (by decide +kernel) rfl⟩, List.forall_mem_cons.mpr ⟨⟨_, _, _, rfl, by decide, gt_in 1462 (by decide +kernel) rfl⟩, List.forall_mem_cons.mpr ⟨⟨_, _, _, rfl, by decide, gt_in 1463 (by decide +kernel) rfl⟩, List.forall_mem_cons.mpr ⟨⟨_, _, _, rfl, by decide, gt_in 1464 (by decide +kernel) rfl⟩, List.forall_mem_cons.mpr ⟨⟨_, _, _, rfl, by decide, gt_in 1465 (by decide +kernel) rfl⟩, List.forall_mem_cons.mpr ⟨⟨_, _, _, rfl, by decide, gt_in 1466 (by decide +kernel) rfl⟩, List.forall_mem_cons.mpr ⟨⟨_, _, _, rfl, by decide, gt_in 1467 (by decide +kernel) rfl⟩, List.forall_mem_cons.mpr ⟨⟨_, _, _, rfl, by decide, gt_in 1468 (by decide +kernel) rfl⟩, List.forall_mem_cons.mpr ⟨⟨_, _, _, rfl, by decide, gt_in 1469 (by decide +kernel) rfl⟩, List.forall_mem_cons.mpr ⟨⟨_, _, _, rfl, by decide, gt_in 1470 (by decide +kernel) rfl⟩, List.forall_mem_cons.mpr ⟨⟨_, _, _, rfl, by decide, gt_in 1471 (by decide +kernel) rfl⟩, List.forall_mem_cons.mpr ⟨⟨_, _, _, rfl, by decide, gt_in 1472 (by decide +kernel) rfl⟩, List.forall_mem_cons.mpr ⟨⟨_, _, _, rfl, by decide, gt_in 1473 (by decide +kernel) rfl⟩, List.forall_mem_cons.mpr ⟨⟨_, _, _, rfl, by decide, gt_in 1474 (by decide +kernel) rfl⟩, List.forall_mem_cons.mpr ⟨⟨_, _, _, rfl, by decide, gt_in 1475 (by decide +kernel) rfl⟩, List.forall_mem_cons.mpr ⟨⟨_, _, _, rfl, by decide, gt_in 1476 (by decide +kernel) rfl⟩, List.forall_mem_cons.mpr ⟨⟨_, _, _, rfl, by decide, gt_in 1477 (by decide +kernel) rfl⟩, List.forall_mem_cons.mpr ⟨⟨_, _, _, rfl, by decide, gt_in 1478 (by decide +kernel) rfl⟩, List.forall_mem_cons.mpr ⟨⟨_, _, _, rfl, by decide, gt_in 1479 (by decide +kernel) rfl⟩, List.forall_mem_cons.mpr ⟨⟨_, _, _, rfl, by decide, gt_in 1480 (by decide +kernel) rfl⟩, List.forall_mem_cons.mpr ⟨⟨_, _, _, rfl, by decide, gt_in 1481 (by decide +kernel) rfl⟩, List.forall_mem_cons.mpr ⟨⟨_, _, _, rfl, by decide, gt_in 1482 (by decide +kernel) rfl⟩, List.forall_mem_cons.mpr ⟨⟨_, _, _, rfl, by decide, gt_in 1483 (by decide +kernel) rfl⟩, List.forall_mem_cons.mpr ⟨⟨_, _, _, rfl, by decide, gt_in 1484 (by decide +kernel) rfl⟩, List.forall_mem_cons.mpr ⟨⟨_, _, _, rfl, by decide, gt_in 1485 (by decide +kernel) rfl⟩, fun _ h => absurd h List.not_mem_nil⟩⟩⟩⟩⟩⟩⟩⟩⟩⟩⟩⟩⟩⟩⟩⟩⟩⟩⟩⟩⟩⟩⟩⟩⟩⟩⟩⟩
def flT : List (Nat × Nat × Nat × Nat) := flT_0 ++ (flT_1 ++ (flT_2 ++ (flT_3 ++ (flT_4))))
theorem flT_ok : ∀ q ∈ flT, flOK q := (List.forall_mem_append.mpr ⟨flT_0_ok, (List.forall_mem_append.mpr ⟨flT_1_ok, (List.forall_mem_append.mpr ⟨flT_2_ok, (List.forall_mem_append.mpr ⟨flT_3_ok, flT_4_ok⟩)⟩)⟩)⟩)
def flN_0 : List (Nat × Nat × Nat × Nat) := [(8, 66, 3, 0), (6, 80, 3, 0), (10, 41, 3, 0), (5, 70, 3, 0), (11, 76, 3, 0), (4, 74, 3, 0), (8, 70, 3, 1), (4, 22, 3, 1), (2, 76, 3, 1), (6, 81, 3, 1), (5, 57, 3, 1), (10, 44, 3, 1), (11, 70, 3, 1), (5, 54, 3, 2), (11, 66, 3, 2), (10, 80, 3, 2), (8, 59, 3, 3), (6, 69, 3, 3), (2, 69, 3, 3), (5, 47, 3, 3), (4, 28, 3, 3), (11, 56, 3, 3), (10, 51, 3, 3), (5, 31, 3, 4), (11, 84, 3, 4), (11, 87, 3, 5), (6, 41, 3, 6), (8, 44, 3, 6), (2, 44, 3, 6), (11, 298, 3, 6), (11, 97, 3, 9), (3, 44, 7, 1), (3, 50, 7, 2), (3, 57, 7, 3), (3, 58, 7, 4), (3, 39, 7, 5), (11, 46, 7, 7), (11, 59, 7, 8), (1, 122, 10, 0), (11, 168, 10, 0)]
set_option maxRecDepth 20000 in
theorem flN_0_ok : ∀ q ∈ flN_0, fnOK q := List.forall_mem_cons.mpr ⟨⟨_, _, _, rfl, by decide, nt_in 206 (by decide +kernel) rfl⟩, List.forall_mem_cons.mpr ⟨⟨_, _, _, rfl, by decide, nt_in 207 (by decide +kernel) rfl⟩, List.forall_mem_cons.mpr ⟨⟨_, _, _, rfl, by decide, nt_in 208 (by decide +kernel) rfl⟩, List.forall_mem_cons.mpr ⟨⟨_, _, _, rfl, by decide, nt_in 209 (by decide +kernel) rfl⟩, List.forall_mem_cons.mpr ⟨⟨_, _, _, rfl, by decide, nt_in 210 (by decide +kernel) rfl⟩, List.forall_mem_cons.mpr ⟨⟨_, _, _, rfl, by decide, nt_in 211 (by decide +kernel) rfl⟩, List.forall_mem_cons.mpr ⟨⟨_, _, _, rfl, by decide, nt_in 213 (by decide +kernel) rfl⟩, List.forall_mem_cons.mpr ⟨⟨_, _, _, rfl, by decide, nt_in 214 (by decide +kernel) rfl⟩, List.forall_mem_cons.mpr ⟨⟨_, _, _, rfl, by decide, nt_in 215 (by decide +kernel) rfl⟩, List.forall_mem_cons.mpr ⟨⟨_, _, _, rfl, by decide, nt_in 216 (by decide +kernel) rfl⟩, List.forall_mem_cons.mpr ⟨⟨_, _, _, rfl, by decide, nt_in 217 (by decide +kernel) rfl⟩, List.forall_mem_cons.mpr ⟨⟨_, _, _, rfl, by decide, nt_in 218 (by decide +kernel) rfl⟩, List.forall_mem_cons.mpr ⟨⟨_, _, _, rfl, by decide, nt_in 219 (by decide +kernel) rfl⟩, List.forall_mem_cons.mpr ⟨⟨_, _, _, rfl, by decide, nt_in 221 (by decide +kernel) rfl⟩, List.forall_mem_cons.mpr ⟨⟨_, _, _, rfl, by decide, nt_in 222 (by decide +kernel) rfl⟩, List.forall_mem_cons.mpr ⟨⟨_, _, _, rfl, by decide, nt_in 223 (by decide +kernel) rfl⟩, List.forall_mem_cons.mpr ⟨⟨_, _, _, rfl, by decide, nt_in 225 (by decide +kernel) rfl⟩, List.forall_mem_cons.mpr ⟨⟨_, _, _, rfl, by decide, nt_in 226 (by decide +kernel) rfl⟩, List.forall_mem_cons.mpr ⟨⟨_, _, _, rfl, by decide, nt_in 227 (by decide +kernel) rfl⟩, List.forall_mem_cons.mpr ⟨⟨_, _, _, rfl, by decide, nt_in 228 (by decide +kernel) rfl⟩, List.forall_mem_cons.mpr ⟨⟨_, _, _, rfl, by decide, nt_in 229 (by decide +kernel) rfl⟩, List.forall_mem_cons.mpr ⟨⟨_, _, _, rfl, by decide, nt_in 230 (by decide +kernel) rfl⟩, List.forall_mem_cons.mpr ⟨⟨_, _, _, rfl, by decide, nt_in 231 (by decide +kernel) rfl⟩, List.forall_mem_cons.mpr ⟨⟨_, _, _, rfl, by decide, nt_in 232 (by decide +kernel) rfl⟩, List.forall_mem_cons.mpr ⟨⟨_, _, _, rfl, by decide, nt_in 234 (by decide +kernel) rfl⟩, List.forall_mem_cons.mpr ⟨⟨_, _, _, rfl, by decide, nt_in 236 (by decide +kernel) rfl⟩, List.forall_mem_cons.mpr ⟨⟨_, _, _, rfl, by decide, nt_in 237 (by decide +kernel) rfl⟩, List.forall_mem_cons.mpr ⟨⟨_, _, _, rfl, by decide, nt_in 238 (by decide +kernel) rfl⟩, List.forall_mem_cons.mpr ⟨⟨_, _, _, rfl, by decide, nt_in 239 (by decide +kernel) rfl⟩, List.forall_mem_cons.mpr ⟨⟨_, _, _, rfl, by decide, nt_in 241 (by decide +kernel) rfl⟩, List.forall_mem_cons.mpr ⟨⟨_, _, _, rfl, by decide, nt_in 245 (by decide +kernel) rfl⟩, List.forall_mem_cons.mpr ⟨⟨_, _, _, rfl, by decide, nt_in 278 (by decide +kernel) rfl⟩, List.forall_mem_cons.mpr ⟨⟨_, _, _, rfl, by decide, nt_in 280 (by decide +kernel) rfl⟩, List.forall_mem_cons.mpr ⟨⟨_, _, _, rfl, by decide, nt_in 282 (by decide +kernel) rfl⟩, List.forall_mem_cons.mpr ⟨⟨_, _, _, rfl, by decide, nt_in 284 (by decide +kernel) rfl⟩, List.forall_mem_cons.mpr ⟨⟨_, _, _, rfl, by decide, nt_in 286 (by decide +kernel) rfl⟩, List.forall_mem_cons.mpr ⟨⟨_, _, _, rfl, by decide, nt_in 289 (by decide +kernel) rfl⟩, List.forall_mem_cons.mpr ⟨⟨_, _, _, rfl, by decide, nt_in 291 (by decide +kernel) rfl⟩, List.forall_mem_cons.mpr ⟨⟨_, _, _, rfl, by decide, nt_in 318 (by decide +kernel) rfl⟩, List.forall_mem_cons.mpr ⟨⟨_, _, _, rfl, by decide, nt_in 319 (by decide +kernel) rfl⟩, fun _ h => absurd h List.not_mem_nil⟩⟩⟩⟩⟩⟩⟩⟩⟩⟩⟩⟩⟩⟩⟩⟩⟩⟩⟩⟩⟩⟩⟩⟩⟩⟩⟩⟩⟩⟩⟩⟩⟩⟩⟩⟩⟩⟩⟩⟩
def flN_1 : List (Nat × Nat × Nat × Nat) := [(4, 42, 10, 1), (11, 94, 10, 1), (1, 119, 10, 1), (11, 175, 10, 2), (11, 130, 6, 0), (11, 131, 6, 1), (11, 120, 6, 5), (2, 104, 6, 6), (11, 115, 6, 6), (2, 107, 6, 7), (11, 307, 6, 8), (9, 80, 8, 2), (1, 82, 8, 3), (9, 83, 8, 3), (0, 77, 8, 3), (0, 39, 8, 4), (1, 91, 8, 4), (9, 77, 8, 4), (0, 80, 8, 5), (0, 70, 8, 7), (0, 67, 8, 8), (0, 36, 8, 9), (11, 295, 8, 10), (11, 316, 1, 10), (11, 325, 0, 5)]
set_option maxRecDepth 20000 in
theorem flN_1_ok : ∀ q ∈ flN_1, fnOK q := List.forall_mem_cons.mpr ⟨⟨_, _, _, rfl, by decide, nt_in 321 (by decide +kernel) rfl⟩, List.forall_mem_cons.mpr ⟨⟨_, _, _, rfl, by decide, nt_in 322 (by decide +kernel) rfl⟩, List.forall_mem_cons.mpr ⟨⟨_, _, _, rfl, by decide, nt_in 323 (by decide +kernel) rfl⟩, List.forall_mem_cons.mpr ⟨⟨_, _, _, rfl, by decide, nt_in 325 (by decide +kernel) rfl⟩, List.forall_mem_cons.mpr ⟨⟨_, _, _, rfl, by decide, nt_in 529 (by decide +kernel) rfl⟩, List.forall_mem_cons.mpr ⟨⟨_, _, _, rfl, by decide, nt_in 531 (by decide +kernel) rfl⟩, List.forall_mem_cons.mpr ⟨⟨_, _, _, rfl, by decide, nt_in 536 (by decide +kernel) rfl⟩, List.forall_mem_cons.mpr ⟨⟨_, _, _, rfl, by decide, nt_in 538 (by decide +kernel) rfl⟩, List.forall_mem_cons.mpr ⟨⟨_, _, _, rfl, by decide, nt_in 539 (by decide +kernel) rfl⟩, List.forall_mem_cons.mpr ⟨⟨_, _, _, rfl, by decide, nt_in 541 (by decide +kernel) rfl⟩, List.forall_mem_cons.mpr ⟨⟨_, _, _, rfl, by decide, nt_in 543 (by decide +kernel) rfl⟩, List.forall_mem_cons.mpr ⟨⟨_, _, _, rfl, by decide, nt_in 682 (by decide +kernel) rfl⟩, List.forall_mem_cons.mpr ⟨⟨_, _, _, rfl, by decide, nt_in 684 (by decide +kernel) rfl⟩, List.forall_mem_cons.mpr ⟨⟨_, _, _, rfl, by decide, nt_in 685 (by decide +kernel) rfl⟩, List.forall_mem_cons.mpr ⟨⟨_, _, _, rfl, by decide, nt_in 686 (by decide +kernel) rfl⟩, List.forall_mem_cons.mpr ⟨⟨_, _, _, rfl, by decide, nt_in 688 (by decide +kernel) rfl⟩, List.forall_mem_cons.mpr ⟨⟨_, _, _, rfl, by decide, nt_in 689 (by decide +kernel) rfl⟩, List.forall_mem_cons.mpr ⟨⟨_, _, _, rfl, by decide, nt_in 690 (by decide +kernel) rfl⟩, List.forall_mem_cons.mpr ⟨⟨_, _, _, rfl, by decide, nt_in 692 (by decide +kernel) rfl⟩, List.forall_mem_cons.mpr ⟨⟨_, _, _, rfl, by decide, nt_in 695 (by decide +kernel) rfl⟩, List.forall_mem_cons.mpr ⟨⟨_, _, _, rfl, by decide, nt_in 697 (by decide +kernel) rfl⟩, List.forall_mem_cons.mpr ⟨⟨_, _, _, rfl, by decide, nt_in 698 (by decide +kernel) rfl⟩, List.forall_mem_cons.mpr ⟨⟨_, _, _, rfl, by decide, nt_in 701 (by decide +kernel) rfl⟩, List.forall_mem_cons.mpr ⟨⟨_, _, _, rfl, by decide, nt_in 1089 (by decide +kernel) rfl⟩, List.forall_mem_cons.mpr ⟨⟨_, _, _, rfl, by decide, nt_in 1210 (by decide +kernel) rfl⟩, fun _ h => absurd h List.not_mem_nil⟩⟩⟩⟩⟩⟩⟩⟩⟩⟩⟩⟩⟩⟩⟩⟩⟩⟩⟩⟩⟩⟩⟩⟩⟩
def flN : List (Nat × Nat × Nat × Nat) := flN_0 ++ (flN_1)
theorem flN_ok : ∀ q ∈ flN, fnOK q := (List.forall_mem_append.mpr ⟨flN_0_ok, flN_1_ok⟩)
end
section
/-! the instructions that read or change the heap -/
theorem va_P1 {D : va_G} {cl : List vw_C} {q : Nat × va_E} {H : Heap} (h : va_at D cl q H) : va_P D cl [q] H := fun k x hx => by
  match k, hx with
  | 0, hx => cases hx; exact h
  | k + 1, hx => simp at hx
theorem Wh.at {G : Gx} {h : PH} {H : Heap} (hW : Wh G h H) {c : Nat} {q : Nat × Nat} (hs : h_sh h c = some q) : va_at G.2.2.2.2.1 cls (G.1 + c, cel G h c q) H := (hW.2.2 c q hs).2
theorem cel_congr {G : Gx} {h h' : PH} {c : Nat} (e1 : h_i h' c = h_i h c) (e2 : h_l h' c = h_l h c) (e3 : h_r h' c = h_r h c) (q : Nat × Nat) : cel G h' c q = cel G h c q := by
  have e : fval G h' q.2 c = fval G h q.2 c := by
    funext k
    simp only [fval, e1, e2, e3]
  simp only [cel, e, e1, e2]
theorem Wh.put {G : Gx} {h h' : PH} {H H1 : Heap} (hW : Wh G h H) {c : Nat} {q : Nat × Nat} (hs : h_sh h c = some q) (z : H1.size = H.size) (oq : ∀ x : Nat, x ≠ G.1 + c → H1[x]? = H[x]?) (hat : va_at G.2.2.2.2.1 cls (G.1 + c, cel G h' c q) H1)
    (es : h_sh h' = h_sh h) (ec : h_ct h' = h_ct h) (esc : h_sc h' = h_sc h) (eo : ∀ c', c' ≠ c → h_i h' c' = h_i h c' ∧ h_l h' c' = h_l h c' ∧ h_r h' c' = h_r h c') : Wh G h' H1 := by
  refine ⟨by rw [z, ec]; exact hW.1, esc.trans hW.2.1, fun c' q' hs' => ?_⟩
  rw [es] at hs'
  obtain ⟨h1, h2⟩ := hW.2.2 c' q' hs'
  refine ⟨by rw [ec]; exact h1, ?_⟩
  by_cases hc : c' = c
  · subst hc
    cases hs.symm.trans hs'
    exact hat
  · obtain ⟨e1, e2, e3⟩ := eo c' hc
    rw [cel_congr e1 e2 e3]
    exact h2.kept (oq _ (by show G.1 + c' ≠ G.1 + c; omega))
theorem Wh.lt {G : Gx} {h : PH} {H : Heap} (hW : Wh G h H) {c : Nat} {q : Nat × Nat} (hs : h_sh h c = some q) : c < h_ct h := (hW.2.2 c q hs).1
theorem Ax_ad (G : Gx) (c : Nat) : Ax G (G.1 + c) := Nat.le_add_right _ _
-- arrays: reading
def s_iaload : PSem := fun i pc ls st h => match st with
  | .int x :: .ref a :: rest => match h_sh h a with
    | some (1, n) => if x < 0 ∨ n ≤ x.toNatClampNeg then none else some (pc + 1, ls, .int (h_i h a x.toNatClampNeg) :: rest, h)
    | _ => none
  | _ => none
def c_iaload : PChk := fun _ _ cc pc _ => match decode cc pc with
  | .ok (.iaload, 1) => true
  | _ => false
theorem z_iaload : SoundP c_iaload s_iaload := by
  intro G p l e R s m args below meth c Q o ini cc nL i pc pls pst h r H locs cells slots rls F hc hs hW hS hL _ _ k
  obtain ⟨hx, hb, hml, hown, hts, hK, -⟩ := F
  unfold c_iaload at hc
  split at hc
  next hd =>
    unfold s_iaload at hs
    split at hs
    next x a rest =>
      split at hs
      next n hsh =>
        split at hs
        · cases hs
        next hne =>
          cases hs
          simp only [Nat.sub_self, Nat.add_zero] at k
          exact va_iald hx hb hK.1 (va_P1 (hW.at hsh)) 0 0 rfl rfl hne hd (k H locs rls hW hS hL)
      · cases hs
    · cases hs
  · cases hc
def s_laload : PSem := fun i pc ls st h => match st with
  | .int x :: .ref a :: rest => match h_sh h a with
    | some (4, n) => if x < 0 ∨ n ≤ x.toNatClampNeg then none else some (pc + 1, ls, .long (h_l h a x.toNatClampNeg) :: rest, h)
    | _ => none
  | _ => none
def c_laload : PChk := fun _ _ cc pc _ => match decode cc pc with
  | .ok (.laload, 1) => true
  | _ => false
theorem z_laload : SoundP c_laload s_laload := by
  intro G p l e R s m args below meth c Q o ini cc nL i pc pls pst h r H locs cells slots rls F hc hs hW hS hL _ _ k
  obtain ⟨hx, hb, hml, hown, hts, hK, -⟩ := F
  unfold c_laload at hc
  split at hc
  next hd =>
    unfold s_laload at hs
    split at hs
    next x a rest =>
      split at hs
      next n hsh =>
        split at hs
        · cases hs
        next hne =>
          cases hs
          simp only [Nat.sub_self, Nat.add_zero] at k
          exact va_lald hx hb hK.1 (va_P1 (hW.at hsh)) 0 3 rfl rfl hne hd (k H locs rls hW hS hL)
      · cases hs
    · cases hs
  · cases hc
def s_baload : PSem := fun i pc ls st h => match st with
  | .int x :: .ref a :: rest => match h_sh h a with
    | some (2, n) => if x < 0 ∨ n ≤ x.toNatClampNeg then none else some (pc + 1, ls, .int (h_i h a x.toNatClampNeg) :: rest, h)
    | some (3, n) => if x < 0 ∨ n ≤ x.toNatClampNeg then none else some (pc + 1, ls, .int (h_i h a x.toNatClampNeg) :: rest, h)
    | _ => none
  | _ => none
def c_baload : PChk := fun _ _ cc pc _ => match decode cc pc with
  | .ok (.baload, 1) => true
  | _ => false
theorem z_baload : SoundP c_baload s_baload := by
  intro G p l e R s m args below meth c Q o ini cc nL i pc pls pst h r H locs cells slots rls F hc hs hW hS hL _ _ k
  obtain ⟨hx, hb, hml, hown, hts, hK, -⟩ := F
  unfold c_baload at hc
  split at hc
  next hd =>
    unfold s_baload at hs
    split at hs
    next x a rest =>
      split at hs
      next n hsh =>
        split at hs
        · cases hs
        next hne =>
          cases hs
          simp only [Nat.sub_self, Nat.add_zero] at k
          exact va_bald hx hb hK.1 (va_P1 (hW.at hsh)) 0 1 rfl rfl hne hd (k H locs rls hW hS hL)
      next n hsh =>
        split at hs
        · cases hs
        next hne =>
          cases hs
          simp only [Nat.sub_self, Nat.add_zero] at k
          exact va_zald hx hb hK.1 (va_P1 (hW.at hsh)) 0 2 rfl rfl hne hd (k H locs rls hW hS hL)
      · cases hs
    · cases hs
  · cases hc
def s_alen : PSem := fun i pc ls st h => match st with
  | .ref a :: rest => match h_sh h a with
    | some (1, n) => some (pc + 1, ls, .int (Int32.ofNat n) :: rest, h)
    | some (2, n) => some (pc + 1, ls, .int (Int32.ofNat n) :: rest, h)
    | some (3, n) => some (pc + 1, ls, .int (Int32.ofNat n) :: rest, h)
    | some (4, n) => some (pc + 1, ls, .int (Int32.ofNat n) :: rest, h)
    | _ => none
  | _ => none
def c_alen : PChk := fun _ _ cc pc _ => match decode cc pc with
  | .ok (.arraylength, 1) => true
  | _ => false
theorem z_alen : SoundP c_alen s_alen := by
  intro G p l e R s m args below meth c Q o ini cc nL i pc pls pst h r H locs cells slots rls F hc hs hW hS hL _ _ k
  obtain ⟨hx, hb, hml, hown, hts, hK, -⟩ := F
  unfold c_alen at hc
  split at hc
  next hd =>
    unfold s_alen at hs
    split at hs
    next a rest =>
      split at hs
      next n hsh =>
        cases hs
        simp only [Nat.sub_self, Nat.add_zero] at k
        exact va_alen hx hb hK.1 (va_P1 (hW.at hsh)) 0 0 rfl rfl rfl hd (k H locs rls hW hS hL)
      next n hsh =>
        cases hs
        simp only [Nat.sub_self, Nat.add_zero] at k
        exact va_alen hx hb hK.1 (va_P1 (hW.at hsh)) 0 1 rfl rfl rfl hd (k H locs rls hW hS hL)
      next n hsh =>
        cases hs
        simp only [Nat.sub_self, Nat.add_zero] at k
        exact va_alen hx hb hK.1 (va_P1 (hW.at hsh)) 0 2 rfl rfl rfl hd (k H locs rls hW hS hL)
      next n hsh =>
        cases hs
        simp only [Nat.sub_self, Nat.add_zero] at k
        exact va_alen hx hb hK.1 (va_P1 (hW.at hsh)) 0 3 rfl rfl rfl hd (k H locs rls hW hS hL)
      · cases hs
    · cases hs
  · cases hc
-- arrays: writing
def s_iastore : PSem := fun i pc ls st h => match st with
  | .int v :: .int x :: .ref a :: rest => match h_sh h a with
    | some (1, n) => if x < 0 ∨ n ≤ x.toNatClampNeg then none else some (pc + 1, ls, rest, w_i h a x.toNatClampNeg v)
    | _ => none
  | _ => none
def c_iastore : PChk := fun _ _ cc pc _ => match decode cc pc with
  | .ok (.iastore, 1) => true
  | _ => false
theorem w_i_oth (h : PH) (a k : Nat) (v : Int32) : ∀ c', c' ≠ a → h_i (w_i h a k v) c' = h_i h c' ∧ h_l (w_i h a k v) c' = h_l h c' ∧ h_r (w_i h a k v) c' = h_r h c' := fun _ hc => ⟨up2_ne _ _ _ hc, rfl, rfl⟩
theorem w_l_oth (h : PH) (a k : Nat) (v : Int64) : ∀ c', c' ≠ a → h_i (w_l h a k v) c' = h_i h c' ∧ h_l (w_l h a k v) c' = h_l h c' ∧ h_r (w_l h a k v) c' = h_r h c' := fun _ hc => ⟨rfl, up2_ne _ _ _ hc, rfl⟩
theorem w_r_oth (h : PH) (a k : Nat) (v : Option Nat) : ∀ c', c' ≠ a → h_i (w_r h a k v) c' = h_i h c' ∧ h_l (w_r h a k v) c' = h_l h c' ∧ h_r (w_r h a k v) c' = h_r h c' := fun _ hc => ⟨rfl, rfl, up2_ne _ _ _ hc⟩
theorem z_iastore : SoundP c_iastore s_iastore := by
  intro G p l e R s m args below meth c Q o ini cc nL i pc pls pst h r H locs cells slots rls F hc hs hW hS hL _ _ k
  obtain ⟨hx, hb, hml, hown, hts, hK, -⟩ := F
  unfold c_iastore at hc
  split at hc
  next hd =>
    unfold s_iastore at hs
    split at hs
    next v x a rest =>
      split at hs
      next n hsh =>
        split at hs
        · cases hs
        next hne =>
          cases hs
          simp only [show h_ct (w_i h a x.toNatClampNeg v) = h_ct h from rfl, show h_sl (w_i h a x.toNatClampNeg v) = h_sl h from rfl, Nat.sub_self, Nat.add_zero] at k
          refine W.iast hx hb (hW.at hsh) ((hK.1.2 0 _ rfl).1 n (fun j => .int (h_i h a j))) (fun q => by cases q) (by show ¬ (x < 0 ∨ (arrV _ _ _).slots.size ≤ _); rw [arrV_size]; exact hne) rfl rfl hd fun H1 e1 z oq => ?_
          refine k H1 _ rls (hW.put hsh z oq ?_ rfl rfl rfl (w_i_oth _ _ _ _)) (hS.put z oq (Ax_ad G a)) hL
          show H1[G.1 + a]? = some (vp_cell _ _)
          refine e1.trans (congrArg some ?_)
          show (vp_cell _ _).setSlot _ _ = vp_cell _ (n, .inl (up2 (h_i h) a x.toNatClampNeg v a))
          rw [vp_cell_i, vp_cell_i, arrV_store, up2_row]
          congr 1
          funext q
          by_cases hq : q = x.toNatClampNeg <;> simp [updV, hq]
      · cases hs
    · cases hs
  · cases hc
def s_lastore : PSem := fun i pc ls st h => match st with
  | .long v :: .int x :: .ref a :: rest => match h_sh h a with
    | some (4, n) => if x < 0 ∨ n ≤ x.toNatClampNeg then none else some (pc + 1, ls, rest, w_l h a x.toNatClampNeg v)
    | _ => none
  | _ => none
def c_lastore : PChk := fun _ _ cc pc _ => match decode cc pc with
  | .ok (.lastore, 1) => true
  | _ => false
theorem z_lastore : SoundP c_lastore s_lastore := by
  intro G p l e R s m args below meth c Q o ini cc nL i pc pls pst h r H locs cells slots rls F hc hs hW hS hL _ _ k
  obtain ⟨hx, hb, hml, hown, hts, hK, -⟩ := F
  unfold c_lastore at hc
  split at hc
  next hd =>
    unfold s_lastore at hs
    split at hs
    next v x a rest =>
      split at hs
      next n hsh =>
        split at hs
        · cases hs
        next hne =>
          cases hs
          simp only [show h_ct (w_l h a x.toNatClampNeg v) = h_ct h from rfl, show h_sl (w_l h a x.toNatClampNeg v) = h_sl h from rfl, Nat.sub_self, Nat.add_zero] at k
          refine W.last hx hb (hW.at hsh) ((hK.1.2 3 _ rfl).1 n (fun j => .long (h_l h a j))) (fun q => by cases q) (by show ¬ (x < 0 ∨ (arrV _ _ _).slots.size ≤ _); rw [arrV_size]; exact hne) rfl rfl hd fun H1 e1 z oq => ?_
          refine k H1 _ rls (hW.put hsh z oq ?_ rfl rfl rfl (w_l_oth _ _ _ _)) (hS.put z oq (Ax_ad G a)) hL
          show H1[G.1 + a]? = some (vp_cell _ _)
          refine e1.trans (congrArg some ?_)
          show (vp_cell _ _).setSlot _ _ = vp_cell _ (n, .inr (.inl (up2 (h_l h) a x.toNatClampNeg v a)))
          rw [vp_cell_l, vp_cell_l, arrV_store, up2_row]
          congr 1
          funext q
          by_cases hq : q = x.toNatClampNeg <;> simp [updV, hq]
      · cases hs
    · cases hs
  · cases hc
def s_bastore : PSem := fun i pc ls st h => match st with
  | .int v :: .int x :: .ref a :: rest => match h_sh h a with
    | some (2, n) => if x < 0 ∨ n ≤ x.toNatClampNeg then none else some (pc + 1, ls, rest, w_i h a x.toNatClampNeg v.toInt8.toInt32)
    | some (3, n) => if x < 0 ∨ n ≤ x.toNatClampNeg then none else some (pc + 1, ls, rest, w_i h a x.toNatClampNeg (v &&& 1))
    | _ => none
  | _ => none
def c_bastore : PChk := fun _ _ cc pc _ => match decode cc pc with
  | .ok (.bastore, 1) => true
  | _ => false
theorem z_bastore : SoundP c_bastore s_bastore := by
  intro G p l e R s m args below meth c Q o ini cc nL i pc pls pst h r H locs cells slots rls F hc hs hW hS hL _ _ k
  obtain ⟨hx, hb, hml, hown, hts, hK, -⟩ := F
  unfold c_bastore at hc
  split at hc
  next hd =>
    unfold s_bastore at hs
    split at hs
    next v x a rest =>
      split at hs
      next n hsh =>
        split at hs
        · cases hs
        next hne =>
          cases hs
          simp only [show h_ct (w_i h a x.toNatClampNeg v.toInt8.toInt32) = h_ct h from rfl, show h_sl (w_i h a x.toNatClampNeg v.toInt8.toInt32) = h_sl h from rfl, Nat.sub_self, Nat.add_zero] at k
          refine W.bast hx hb (hW.at hsh) ((hK.1.2 1 _ rfl).1 n (fun j => .int (h_i h a j))) (fun q => by cases q) (by show ¬ (x < 0 ∨ (arrV _ _ _).slots.size ≤ _); rw [arrV_size]; exact hne) rfl rfl hd fun H1 e1 z oq => ?_
          refine k H1 _ rls (hW.put hsh z oq ?_ rfl rfl rfl (w_i_oth _ _ _ _)) (hS.put z oq (Ax_ad G a)) hL
          show H1[G.1 + a]? = some (vp_cell _ _)
          refine e1.trans (congrArg some ?_)
          show (vp_cell _ _).setSlot _ (.int v.toInt8.toInt32) = vp_cell _ (n, .inl (up2 (h_i h) a x.toNatClampNeg v.toInt8.toInt32 a))
          rw [vp_cell_i, vp_cell_i, arrV_store, up2_row]
          congr 1
          funext q
          by_cases hq : q = x.toNatClampNeg <;> simp [updV, hq]
      next n hsh =>
        split at hs
        · cases hs
        next hne =>
          cases hs
          simp only [show h_ct (w_i h a x.toNatClampNeg (v &&& 1)) = h_ct h from rfl, show h_sl (w_i h a x.toNatClampNeg (v &&& 1)) = h_sl h from rfl, Nat.sub_self, Nat.add_zero] at k
          refine W.zast hx hb (hW.at hsh) ((hK.1.2 2 _ rfl).1 n (fun j => .int (h_i h a j))) (fun q => by cases q) (by show ¬ (x < 0 ∨ (arrV _ _ _).slots.size ≤ _); rw [arrV_size]; exact hne) rfl rfl hd fun H1 e1 z oq => ?_
          refine k H1 _ rls (hW.put hsh z oq ?_ rfl rfl rfl (w_i_oth _ _ _ _)) (hS.put z oq (Ax_ad G a)) hL
          show H1[G.1 + a]? = some (vp_cell _ _)
          refine e1.trans (congrArg some ?_)
          show (vp_cell _ _).setSlot _ (.int (v &&& 1)) = vp_cell _ (n, .inl (up2 (h_i h) a x.toNatClampNeg (v &&& 1) a))
          rw [vp_cell_i, vp_cell_i, arrV_store, up2_row]
          congr 1
          funext q
          by_cases hq : q = x.toNatClampNeg <;> simp [updV, hq]
      · cases hs
    · cases hs
  · cases hc
end
section
/-! fields, new objects and arrays, the script, switches, Object's constructor, arraycopy -/
section QF
variable {p : Program} {l : Launch} {e : Env} {R : Room} {s : State} {m : MethodId} {args : Array Value} {below : List Frame} {meth : Method} {c : Code} {H : Heap} {locs : List Loc} {cells slots : Nat} {Q : State → Prop}
variable {cc : ByteArray} {pc : Nat} {ls : Array Slot} {rest : List Value} {D : va_G} {a : Nat} {tys' : List (ClassId × FieldType)}
theorem q_put (hexec : p.tables.exec = Jvm.exec) (hb : c.code = cc) {own C : String} {T : u_T} {N ci index : Nat} (hts : ∀ w ∈ gt, w.before args s = true) (hok : clsOK ci C T N) (hown : s.vm.findClass own = some m.cls) (hK : va_K D cls tys' s) {fs : List Value} (hat : va_at D cls (a, .inr (ci, fs)) H) (hc : cls[ci]? = some (C, T, N)) (k : Nat) (hk : k < N) (hlink : (Cond.fieldLink own index C (T k).2.1 (T k).2.2.1).before args s = true) (hfin : (T k).2.2.2 = false) {v : Value} (hn : narrow (fty ci k) v = v) (hfit : fits (fty ci k) v = true) (hl : k < fs.length)
    (hdg : decode cc pc = .ok (.putfield index, 3)) (kk : ∀ H1 : Heap, va_at D cls (a, .inr (ci, fs.set k v)) H1 → H1.size = H.size → (∀ q : Nat, q ≠ a → H1[q]? = H[q]?) → W p l e R s m args below meth c H1 (locs ++ [⟨a, D.2 ci k⟩]) cells slots Q (F0 m (pc + 3) ls rest)) : W p l e R s m args below meth c H locs cells slots Q (F0 m pc ls (v :: .ref a :: rest)) := by
  obtain ⟨hin, hty, hnm, hC, -⟩ := hok
  have hap := va_apart (own := own) hts hin (fty ci) hty hnm hK hc
  obtain ⟨r, h1, cell, q1, q2, q3, q4⟩ := hat
  have hr : r = (C, T, N) := Option.some.inj (h1.symm.trans hc)
  subst hr
  obtain ⟨hS, hfc, kC, hkC, hkind⟩ := hK.1 ci _ hc
  obtain ⟨cf, kf, fi, f, hi, hsl⟩ := hS k hk
  have hlay := hts _ (hin _ (u_in_lay hk))
  unfold u_lay at hlay
  rw [if_neg (by rw [hfin]; decide)] at hlay
  have hst := (u_facts hfc hkC (u_lays hts hin hk) hi).1
  have h6 := u_store hfc hkC hkind hlay hi (hty k hk) hn hfit
  refine W.putK hexec hb (f := f) ⟨hown, hlink, ⟨_, _, _, by rw [← hC k hk]; exact hi⟩, hst⟩ (by rw [q2]; exact h6) q1 q3 (by rw [hsl]; exact k2_hasslot (q4 k hk)) rfl rfl hdg fun H' e1 e2 e3 => ?_
  rw [hsl] at e1 ⊢
  exact kk H' ⟨_, hc, t_OB.to (V := updV (vp_V fs) k v) ⟨_, e1, q2, q3, t_set q4 hap hk v⟩ (fun j _ => vp_updV_set hl v j)⟩ e2 e3
theorem q_putN (hexec : p.tables.exec = Jvm.exec) (hb : c.code = cc) {own C host : String} {T : u_T} {N ci index : Nat} (hts : ∀ w ∈ gt, w.before args s = true) (hok : clsOK ci C T N) (hown : s.vm.findClass own = some m.cls) (hK : va_K D cls tys' s) {fs : List Value} (hat : va_at D cls (a, .inr (ci, fs)) H) (hc : cls[ci]? = some (C, T, N)) (k : Nat) (hk : k < N) (hlink : (Cond.fieldLinkNest own index C (T k).2.1 (T k).2.2.1 host).before args s = true) (hfin : (T k).2.2.2 = false) {v : Value} (hn : narrow (fty ci k) v = v) (hfit : fits (fty ci k) v = true) (hl : k < fs.length)
    (hdg : decode cc pc = .ok (.putfield index, 3)) (kk : ∀ H1 : Heap, va_at D cls (a, .inr (ci, fs.set k v)) H1 → H1.size = H.size → (∀ q : Nat, q ≠ a → H1[q]? = H[q]?) → W p l e R s m args below meth c H1 (locs ++ [⟨a, D.2 ci k⟩]) cells slots Q (F0 m (pc + 3) ls rest)) : W p l e R s m args below meth c H locs cells slots Q (F0 m pc ls (v :: .ref a :: rest)) := by
  obtain ⟨hin, hty, hnm, hC, -⟩ := hok
  have hap := va_apart (own := own) hts hin (fty ci) hty hnm hK hc
  obtain ⟨r, h1, cell, q1, q2, q3, q4⟩ := hat
  have hr : r = (C, T, N) := Option.some.inj (h1.symm.trans hc)
  subst hr
  obtain ⟨hS, hfc, kC, hkC, hkind⟩ := hK.1 ci _ hc
  obtain ⟨cf, kf, fi, f, hi, hsl⟩ := hS k hk
  have hlay := hts _ (hin _ (u_in_lay hk))
  unfold u_lay at hlay
  rw [if_neg (by rw [hfin]; decide)] at hlay
  have hst := (u_facts hfc hkC (u_lays hts hin hk) hi).1
  have h6 := u_store hfc hkC hkind hlay hi (hty k hk) hn hfit
  refine va_WputK hexec hb (f := f) hown hlink (by rw [← hC k hk]; exact hi) hst (by rw [q2]; exact h6) q1 q3 (by rw [hsl]; exact k2_hasslot (q4 k hk)) rfl rfl hdg fun H' e1 e2 e3 => ?_
  rw [hsl] at e1 ⊢
  exact kk H' ⟨_, hc, t_OB.to (V := updV (vp_V fs) k v) ⟨_, e1, q2, q3, t_set q4 hap hk v⟩ (fun j _ => vp_updV_set hl v j)⟩ e2 e3
theorem q_putF (hexec : p.tables.exec = Jvm.exec) (hb : c.code = cc) {C : String} {T : u_T} {N ci index : Nat} (hts : ∀ w ∈ gt, w.before args s = true) (hok : clsOK ci C T N) (hown : s.vm.findClass C = some m.cls) (hK : va_K D cls tys' s) {fs : List Value} (hat : va_at D cls (a, .inr (ci, fs)) H) (hc : cls[ci]? = some (C, T, N)) (k : Nat) (hk : k < N) (hlink : (Cond.fieldLink C index C (T k).2.1 (T k).2.2.1).before args s = true) (hfin : (T k).2.2.2 = true) (hin2 : meth.name = "<init>") {v : Value} (hn : narrow (fty ci k) v = v) (hfit : fits (fty ci k) v = true) (hl : k < fs.length)
    (hdg : decode cc pc = .ok (.putfield index, 3)) (kk : ∀ H1 : Heap, va_at D cls (a, .inr (ci, fs.set k v)) H1 → H1.size = H.size → (∀ q : Nat, q ≠ a → H1[q]? = H[q]?) → W p l e R s m args below meth c H1 (locs ++ [⟨a, D.2 ci k⟩]) cells slots Q (F0 m (pc + 3) ls rest)) : W p l e R s m args below meth c H locs cells slots Q (F0 m pc ls (v :: .ref a :: rest)) := by
  obtain ⟨hin, hty, hnm, hC, -⟩ := hok
  have hap := va_apart (own := C) hts hin (fty ci) hty hnm hK hc
  obtain ⟨r, h1, cell, q1, q2, q3, q4⟩ := hat
  have hr : r = (C, T, N) := Option.some.inj (h1.symm.trans hc)
  subst hr
  obtain ⟨hS, hfc, kC, hkC, hkind⟩ := hK.1 ci _ hc
  obtain ⟨cf, kf, fi, f, hi, hsl⟩ := hS k hk
  have hlay := hts _ (hin _ (u_in_lay hk))
  unfold u_lay at hlay
  rw [if_pos hfin] at hlay
  have hst := (u_facts hfc hkC (u_lays hts hin hk) hi).1
  have hcf : m.cls = cf := by
    obtain ⟨_, _, c', _, _, _, -, -, hf', -, -, -, hown2, -⟩ := Cond.laysFinal_spec hlay
    have e1 : c' = cf := by have := hi.symm.trans hf'; simp at this; exact this.1.symm
    rw [hC k hk] at hown2
    rw [← e1]; exact Option.some.inj (hown.symm.trans hown2)
  have h6 := u_fits hfc hkC hkind (Or.inr hlay) hi (hty k hk) hn hfit
  refine W.putFinK hexec hb hown hlink (by rw [← hC k hk]; exact hi) hst hcf hin2 (by rw [q2]; exact h6) q1 q3 (by rw [hsl]; exact k2_hasslot (q4 k hk)) rfl rfl hdg fun H' e1 e2 e3 => ?_
  rw [hsl] at e1 ⊢
  exact kk H' ⟨_, hc, t_OB.to (V := updV (vp_V fs) k v) ⟨_, e1, q2, q3, t_set q4 hap hk v⟩ (fun j _ => vp_updV_set hl v j)⟩ e2 e3
end QF
/-- a field's value in the pure machine -/
def pval (h : PH) (ci c k : Nat) : Value := match fkd (fty ci k) with
  | 0 => .int (h_i h c k)
  | 1 => .long (h_l h c k)
  | _ => va_rf (h_r h c k)
theorem tr_pval (G : Gx) (h : PH) (ci c k : Nat) : tr G (pval h ci c k) = fval G h ci c k := by
  unfold pval fval
  generalize fkd (fty ci k) = n
  match n with
  | 0 => rfl
  | 1 => rfl
  | n + 2 => cases h_r h c k <;> rfl
theorem fs_get (G : Gx) (h : PH) (ci c : Nat) {k N : Nat} (hk : k < N) : ((List.range N).map (fval G h ci c))[k]? = some (fval G h ci c k) := by
  simp [hk]
theorem fs_set {G : Gx} {h h' : PH} {ci c k N : Nat} {v : Value} (hv : fval G h' ci c k = v) (ho : ∀ j, j ≠ k → fval G h' ci c j = fval G h ci c j) : ((List.range N).map (fval G h ci c)).set k v = (List.range N).map (fval G h' ci c) := by
  apply List.ext_getElem?
  intro j
  by_cases hj : j = k
  · subst hj
    by_cases hl : j < N
    · rw [List.getElem?_set_self (by simpa using hl)]
      simp [hl, hv]
    · rw [List.getElem?_eq_none (by simp; omega), List.getElem?_eq_none (by simp; omega)]
  · rw [List.getElem?_set_ne (Ne.symm hj)]
    by_cases hl : j < N
    · simp [hl, ho j hj]
    · rw [List.getElem?_eq_none (by simp; omega), List.getElem?_eq_none (by simp; omega)]
def s_getf : PSem := fun i pc ls st h => match st with
  | .ref o :: rest => if h_sh h o = some (0, p_c i) then some (pc + 3, ls, pval h (p_c i) o (p_e i) :: rest, h) else none
  | _ => none
def c_getf : PChk := fun o _ cc pc i => match decode cc pc with
  | .ok (.getfield n, 3) => flT[p_b i]? == some (o, n, p_c i, p_e i)
  | _ => false
theorem z_getf : SoundP c_getf s_getf := by
  intro G p l e R s m args below meth c Q o ini cc nL i pc pls pst h r H locs cells slots rls F hc hs hW hS hL _ _ k
  obtain ⟨hx, hb, hml, hown, hts, hK, -⟩ := F
  unfold c_getf at hc
  split at hc
  next n hd =>
    have hq := flT_ok _ (List.mem_of_getElem? (beq_iff_eq.mp hc))
    obtain ⟨C, T, N, hcl, hk, hlink⟩ := hq
    dsimp only at hcl hk hlink
    have hok := cls_ok _ _ _ _ hcl
    unfold s_getf at hs
    split at hs
    next a rest =>
      split at hs
      next hsh =>
        cases hs
        simp only [Nat.sub_self, Nat.add_zero] at k
        have hN : fN (p_c i) = N := hok.2.2.2.2.2.2
        refine va_get hx hb hts hok.1 hown hK.1 (va_P1 (hW.at hsh)) 0 (fs := (List.range (fN (p_c i))).map (fval G h (p_c i) a)) rfl hcl (p_e i) hk (hts _ hlink) (fun x hx => by rw [hok.2.2.2.1 _ hk] at hx; exact hx) (v := tr G (pval h (p_c i) a (p_e i))) ?_ hd (k H locs rls hW hS hL)
        rw [tr_pval]
        exact fs_get G h _ _ (by rw [hN]; exact hk)
      · cases hs
    · cases hs
  · cases hc
def c_getfN : PChk := fun o _ cc pc i => match decode cc pc with
  | .ok (.getfield n, 3) => flN[p_b i]? == some (o, n, p_c i, p_e i)
  | _ => false
theorem z_getfN : SoundP c_getfN s_getf := by
  intro G p l e R s m args below meth c Q o ini cc nL i pc pls pst h r H locs cells slots rls F hc hs hW hS hL _ _ k
  obtain ⟨hx, hb, hml, hown, hts, hK, -⟩ := F
  unfold c_getfN at hc
  split at hc
  next n hd =>
    have hq := flN_ok _ (List.mem_of_getElem? (beq_iff_eq.mp hc))
    obtain ⟨C, T, N, hcl, hk, hlink⟩ := hq
    dsimp only at hcl hk hlink
    have hok := cls_ok _ _ _ _ hcl
    unfold s_getf at hs
    split at hs
    next a rest =>
      split at hs
      next hsh =>
        cases hs
        simp only [Nat.sub_self, Nat.add_zero] at k
        have hN : fN (p_c i) = N := hok.2.2.2.2.2.2
        refine va_getN hx hb hts hok.1 hown hK.1 (va_P1 (hW.at hsh)) 0 (fs := (List.range (fN (p_c i))).map (fval G h (p_c i) a)) rfl hcl (p_e i) hk (va_Nw.use rfl (hK.2 _ hlink)) (fun x hx => by rw [hok.2.2.2.1 _ hk] at hx; exact hx) (v := tr G (pval h (p_c i) a (p_e i))) ?_ hd (k H locs rls hW hS hL)
        rw [tr_pval]
        exact fs_get G h _ _ (by rw [hN]; exact hk)
      · cases hs
    · cases hs
  · cases hc
theorem fits_ref {ty : FieldType} {a : Nat} (h : fits ty (.ref a) = true) (b : Nat) : narrow ty (.ref b) = .ref b ∧ fits ty (.ref b) = true := by
  cases ty <;> first | (exact ⟨rfl, rfl⟩) | (cases h)
def putv (h : PH) (ci o k : Nat) (v : Value) : Option PH := match fkd (fty ci k), v with
  | 0, .int x => some (w_i h o k x)
  | 1, .long x => some (w_l h o k x)
  | 2, .ref a => some (w_r h o k (some a))
  | 2, .null => some (w_r h o k none)
  | _, _ => none
def s_putf : PSem := fun i pc ls st h => match st with
  | v :: .ref o :: rest => if h_sh h o = some (0, p_c i) ∧ narrow (fty (p_c i) (p_e i)) v = v ∧ fits (fty (p_c i) (p_e i)) v = true then (putv h (p_c i) o (p_e i) v).map (fun h' => (pc + 3, ls, rest, h')) else none
  | _ => none
theorem putv_spec (G : Gx) {h h' : PH} {ci o k : Nat} {v : Value} (he : putv h ci o k v = some h') (hn : narrow (fty ci k) v = v) (hf : fits (fty ci k) v = true) :
    narrow (fty ci k) (tr G v) = tr G v ∧ fits (fty ci k) (tr G v) = true ∧ h_sh h' = h_sh h ∧ h_ct h' = h_ct h ∧ h_sl h' = h_sl h ∧ h_sc h' = h_sc h ∧ (∀ c', c' ≠ o → h_i h' c' = h_i h c' ∧ h_l h' c' = h_l h c' ∧ h_r h' c' = h_r h c') ∧ fval G h' ci o k = tr G v ∧ ∀ j, j ≠ k → fval G h' ci o j = fval G h ci o j := by
  unfold putv at he
  split at he
  next x hk =>
    cases he
    exact ⟨hn, hf, rfl, rfl, rfl, rfl, w_i_oth _ _ _ _, by simp [fval, hk, w_i, h_i, up2, tr], fun j hj => by simp [fval, w_i, h_i, h_l, h_r, up2, hj]⟩
  next x hk =>
    cases he
    exact ⟨hn, hf, rfl, rfl, rfl, rfl, w_l_oth _ _ _ _, by simp [fval, hk, w_l, h_l, up2, tr], fun j hj => by simp [fval, w_l, h_i, h_l, h_r, up2, hj]⟩
  next a hk =>
    cases he
    exact ⟨(fits_ref hf _).1, (fits_ref hf _).2, rfl, rfl, rfl, rfl, w_r_oth _ _ _ _, by simp [fval, hk, w_r, h_r, up2, tr, va_rf], fun j hj => by simp [fval, w_r, h_i, h_l, h_r, up2, hj]⟩
  next hk =>
    cases he
    exact ⟨hn, hf, rfl, rfl, rfl, rfl, w_r_oth _ _ _ _, by simp [fval, hk, w_r, h_r, up2, tr, va_rf], fun j hj => by simp [fval, w_r, h_i, h_l, h_r, up2, hj]⟩
  · cases he
def c_putf : PChk := fun o ini cc pc i => match decode cc pc with
  | .ok (.putfield n, 3) => flT[p_b i]? == some (o, n, p_c i, p_e i) && (match cls[p_c i]? with
    | some (_, T, _) => (T (p_e i)).2.2.2 == false
    | none => false)
  | _ => false
theorem z_putf : SoundP c_putf s_putf := by
  intro G p l e R s m args below meth c Q o ini cc nL i pc pls pst h r H locs cells slots rls F hc hs hW hS hL _ _ k
  obtain ⟨hx, hb, hml, hown, hts, hK, hmn, -⟩ := F
  unfold c_putf at hc
  split at hc
  next n hd =>
    simp only [Bool.and_eq_true] at hc
    have hq := flT_ok _ (List.mem_of_getElem? (beq_iff_eq.mp hc.1))
    obtain ⟨C, T, N, hcl, hk, hlink⟩ := hq
    dsimp only at hcl hk hlink
    have hfin := hc.2
    rw [hcl] at hfin
    have hfin := beq_iff_eq.mp hfin
    try dsimp only at hfin
    have hok := cls_ok _ _ _ _ hcl
    unfold s_putf at hs
    split at hs
    next v a rest =>
      split at hs
      next hcond =>
        obtain ⟨hsh, hn, hf⟩ := hcond
        obtain ⟨h', hp, e0⟩ := Option.map_eq_some_iff.mp hs
        subst e0
        obtain ⟨p1, p2, p3, p4, p5, p6, p7, p8, p9⟩ := putv_spec G hp hn hf
        dsimp only at k
        simp only [p4, p5, Nat.sub_self, Nat.add_zero] at k
        have hN : fN (p_c i) = N := hok.2.2.2.2.2.2
        refine q_put hx hb hts hok hown hK.1 (fs := (List.range (fN (p_c i))).map (fval G h (p_c i) a)) (hW.at hsh) hcl (p_e i) hk (hts _ hlink) hfin p1 p2 (by simp; rw [hN]; exact hk) hd fun H1 hat z oq => ?_
        rw [fs_set p8 p9] at hat
        exact k H1 _ rls (hW.put hsh z oq hat p3 p4 p6 p7) (hS.put z oq (Ax_ad G a)) hL
      · cases hs
    · cases hs
  · cases hc
def c_putfN : PChk := fun o ini cc pc i => match decode cc pc with
  | .ok (.putfield n, 3) => flN[p_b i]? == some (o, n, p_c i, p_e i) && (match cls[p_c i]? with
    | some (_, T, _) => (T (p_e i)).2.2.2 == false
    | none => false)
  | _ => false
theorem z_putfN : SoundP c_putfN s_putf := by
  intro G p l e R s m args below meth c Q o ini cc nL i pc pls pst h r H locs cells slots rls F hc hs hW hS hL _ _ k
  obtain ⟨hx, hb, hml, hown, hts, hK, hmn, -⟩ := F
  unfold c_putfN at hc
  split at hc
  next n hd =>
    simp only [Bool.and_eq_true] at hc
    have hq := flN_ok _ (List.mem_of_getElem? (beq_iff_eq.mp hc.1))
    obtain ⟨C, T, N, hcl, hk, hlink⟩ := hq
    dsimp only at hcl hk hlink
    have hfin := hc.2
    rw [hcl] at hfin
    have hfin := beq_iff_eq.mp hfin
    try dsimp only at hfin
    have hok := cls_ok _ _ _ _ hcl
    unfold s_putf at hs
    split at hs
    next v a rest =>
      split at hs
      next hcond =>
        obtain ⟨hsh, hn, hf⟩ := hcond
        obtain ⟨h', hp, e0⟩ := Option.map_eq_some_iff.mp hs
        subst e0
        obtain ⟨p1, p2, p3, p4, p5, p6, p7, p8, p9⟩ := putv_spec G hp hn hf
        dsimp only at k
        simp only [p4, p5, Nat.sub_self, Nat.add_zero] at k
        have hN : fN (p_c i) = N := hok.2.2.2.2.2.2
        refine q_putN hx hb hts hok hown hK.1 (fs := (List.range (fN (p_c i))).map (fval G h (p_c i) a)) (hW.at hsh) hcl (p_e i) hk (va_Nw.use rfl (hK.2 _ hlink)) hfin p1 p2 (by simp; rw [hN]; exact hk) hd fun H1 hat z oq => ?_
        rw [fs_set p8 p9] at hat
        exact k H1 _ rls (hW.put hsh z oq hat p3 p4 p6 p7) (hS.put z oq (Ax_ad G a)) hL
      · cases hs
    · cases hs
  · cases hc
def c_putfF : PChk := fun o ini cc pc i => match decode cc pc with
  | .ok (.putfield n, 3) => flT[p_b i]? == some (o, n, p_c i, p_e i) && (match cls[p_c i]? with
    | some (_, T, _) => (T (p_e i)).2.2.2 == true
    | none => false) && (ini && (match cls[p_c i]? with
    | some (C, _, _) => cN o == C
    | none => false))
  | _ => false
theorem z_putfF : SoundP c_putfF s_putf := by
  intro G p l e R s m args below meth c Q o ini cc nL i pc pls pst h r H locs cells slots rls F hc hs hW hS hL _ _ k
  obtain ⟨hx, hb, hml, hown, hts, hK, hmn, -⟩ := F
  unfold c_putfF at hc
  split at hc
  next n hd =>
    simp only [Bool.and_eq_true] at hc
    have hq := flT_ok _ (List.mem_of_getElem? (beq_iff_eq.mp hc.1.1))
    obtain ⟨C, T, N, hcl, hk, hlink⟩ := hq
    dsimp only at hcl hk hlink
    have hfin := hc.1.2
    rw [hcl] at hfin
    have hfin := beq_iff_eq.mp hfin
    try dsimp only at hfin
    have hok := cls_ok _ _ _ _ hcl
    have hC := hc.2.2
    rw [hcl] at hC
    have hC := beq_iff_eq.mp hC
    try dsimp only at hC
    unfold s_putf at hs
    split at hs
    next v a rest =>
      split at hs
      next hcond =>
        obtain ⟨hsh, hn, hf⟩ := hcond
        obtain ⟨h', hp, e0⟩ := Option.map_eq_some_iff.mp hs
        subst e0
        obtain ⟨p1, p2, p3, p4, p5, p6, p7, p8, p9⟩ := putv_spec G hp hn hf
        dsimp only at k
        simp only [p4, p5, Nat.sub_self, Nat.add_zero] at k
        have hN : fN (p_c i) = N := hok.2.2.2.2.2.2
        refine q_putF hx hb hts hok (hC ▸ hown) hK.1 (fs := (List.range (fN (p_c i))).map (fval G h (p_c i) a)) (hW.at hsh) hcl (p_e i) hk (by rw [hC] at hlink; exact hts _ hlink) hfin (hmn hc.2.1) p1 p2 (by simp; rw [hN]; exact hk) hd fun H1 hat z oq => ?_
        rw [fs_set p8 p9] at hat
        exact k H1 _ rls (hW.put hsh z oq hat p3 p4 p6 p7) (hS.put z oq (Ax_ad G a)) hL
      · cases hs
    · cases hs
  · cases hc
end
section
/-! new cells, the script, switches, Object's constructor, arraycopy -/
theorem Wh.new {G : Gx} {h : PH} {H H1 : Heap} {q : Nat × Nat} {n : Nat} (hW : Wh G h H) (z : H1.size = H.size + 1) (oq : ∀ x : Nat, x < H.size → H1[x]? = H[x]?) (hat : va_at G.2.2.2.2.1 cls (G.1 + h_ct h, cel G (h_new h q n) (h_ct h) q) H1) : Wh G (h_new h q n) H1 := by
  refine ⟨by rw [z, hW.1]; rfl, hW.2.1, fun c' q' hs' => ?_⟩
  by_cases hc : c' = h_ct h
  · subst hc
    simp only [h_sh, h_new, if_true] at hs'
    cases hs'
    exact ⟨Nat.lt_succ_self _, hat⟩
  · have hs2 : h_sh h c' = some q' := by simpa [h_sh, h_new, hc] using hs'
    obtain ⟨h1, h2⟩ := hW.2.2 c' q' hs2
    refine ⟨Nat.lt_succ_of_lt h1, ?_⟩
    rw [cel_congr (h := h) (h' := h_new h q n) (upr_ne _ _ hc) (upr_ne _ _ hc) (upr_ne _ _ hc)]
    exact h2.kept (oq _ (by show G.1 + c' < _; rw [hW.1]; omega))
theorem va_S.born {A : Nat → Prop} {H0 H H1 : Heap} {locs : List Loc} (hS : va_S A H0 H locs) (z : H1.size = H.size + 1) (oq : ∀ x : Nat, x < H.size → H1[x]? = H[x]?) : va_S A H0 H1 locs :=
  ⟨Nat.le_trans hS.1 (by omega), fun x h1 h2 => (oq x (Nat.lt_of_lt_of_le h1 hS.1)).trans (hS.2.1 x h1 h2), hS.2.2⟩
theorem fval_new (G : Gx) (h : PH) (q : Nat × Nat) (n ci k : Nat) : fval G (h_new h q n) ci (h_ct h) k = defaultValue (fty ci k) := by
  have e1 : h_i (h_new h q n) (h_ct h) = fun _ => 0 := upr_row _ _ _
  have e2 : h_l (h_new h q n) (h_ct h) = fun _ => 0 := upr_row _ _ _
  have e3 : h_r (h_new h q n) (h_ct h) = fun _ => none := upr_row _ _ _
  have hty : fty ci k = .int ∨ fty ci k = .long ∨ fty ci k = .boolean ∨ fty ci k = .byte ∨ (∃ x, fty ci k = .object x) ∨ (∃ x, fty ci k = .array x) := by
    unfold fty
    match ci with
    | 0 => (show ft0 k = _ ∨ ft0 k = _ ∨ ft0 k = _ ∨ ft0 k = _ ∨ (∃ x, ft0 k = _) ∨ (∃ x, ft0 k = _)); unfold ft0; split <;> simp
    | 1 => (show ft1 k = _ ∨ ft1 k = _ ∨ ft1 k = _ ∨ ft1 k = _ ∨ (∃ x, ft1 k = _) ∨ (∃ x, ft1 k = _)); unfold ft1; split <;> simp
    | 2 => (show ft2 k = _ ∨ ft2 k = _ ∨ ft2 k = _ ∨ ft2 k = _ ∨ (∃ x, ft2 k = _) ∨ (∃ x, ft2 k = _)); unfold ft2; split <;> simp
    | 3 => (show ft3 k = _ ∨ ft3 k = _ ∨ ft3 k = _ ∨ ft3 k = _ ∨ (∃ x, ft3 k = _) ∨ (∃ x, ft3 k = _)); unfold ft3; split <;> simp
    | 4 => (show ft4 k = _ ∨ ft4 k = _ ∨ ft4 k = _ ∨ ft4 k = _ ∨ (∃ x, ft4 k = _) ∨ (∃ x, ft4 k = _)); unfold ft4; split <;> simp
    | 5 => (show ft5 k = _ ∨ ft5 k = _ ∨ ft5 k = _ ∨ ft5 k = _ ∨ (∃ x, ft5 k = _) ∨ (∃ x, ft5 k = _)); unfold ft5; split <;> simp
    | 6 => (show ft6 k = _ ∨ ft6 k = _ ∨ ft6 k = _ ∨ ft6 k = _ ∨ (∃ x, ft6 k = _) ∨ (∃ x, ft6 k = _)); unfold ft6; split <;> simp
    | 7 => (show ft7 k = _ ∨ ft7 k = _ ∨ ft7 k = _ ∨ ft7 k = _ ∨ (∃ x, ft7 k = _) ∨ (∃ x, ft7 k = _)); unfold ft7; split <;> simp
    | 8 => (show ft8 k = _ ∨ ft8 k = _ ∨ ft8 k = _ ∨ ft8 k = _ ∨ (∃ x, ft8 k = _) ∨ (∃ x, ft8 k = _)); unfold ft8; split <;> simp
    | 9 => (show ft9 k = _ ∨ ft9 k = _ ∨ ft9 k = _ ∨ ft9 k = _ ∨ (∃ x, ft9 k = _) ∨ (∃ x, ft9 k = _)); unfold ft9; split <;> simp
    | 10 => (show ft10 k = _ ∨ ft10 k = _ ∨ ft10 k = _ ∨ ft10 k = _ ∨ (∃ x, ft10 k = _) ∨ (∃ x, ft10 k = _)); unfold ft10; split <;> simp
    | 11 => (show ft11 k = _ ∨ ft11 k = _ ∨ ft11 k = _ ∨ ft11 k = _ ∨ (∃ x, ft11 k = _) ∨ (∃ x, ft11 k = _)); unfold ft11; split <;> simp
    | 12 => (show ft12 k = _ ∨ ft12 k = _ ∨ ft12 k = _ ∨ ft12 k = _ ∨ (∃ x, ft12 k = _) ∨ (∃ x, ft12 k = _)); unfold ft12; split <;> simp
    | ci + 13 => left; simp [ftL]
  simp only [fval, e1, e2, e3]
  rcases hty with h | h | h | h | ⟨x, h⟩ | ⟨x, h⟩ <;> rw [h] <;> rfl
def s_new : PSem := fun i pc ls st h => some (pc + 3, ls, .ref (h_ct h) :: st, h_new h (0, p_c i) (fN (p_c i)))
def c_new : PChk := fun o _ cc pc i => match decode cc pc with
  | .ok (.new n, 3) => (match cls[p_c i]? with
    | some (C, _, _) => decide (lw_tbl[p_b i]? = some (.classLink (cN o) n C)) && goodWord (.classLink (cN o) n C)
    | none => false)
  | _ => false
theorem z_new : SoundP c_new s_new := by
  intro G p l e R s m args below meth c Q o ini cc nL i pc pls pst h r H locs cells slots rls F hc hs hW hS hL hcl hsl k
  obtain ⟨hx, hb, hml, hown, hts, hK, -⟩ := F
  unfold c_new at hc
  split at hc
  next n hd =>
    split at hc
    next C T N hcls =>
      simp only [Bool.and_eq_true, decide_eq_true_eq] at hc
      have hok := cls_ok _ _ _ _ hcls
      obtain ⟨o1, o2, o3, o4, o5, o6, hN⟩ := hok
      cases hs
      dsimp only at k hcl hsl
      have ec : h_ct (h_new h (0, p_c i) (fN (p_c i))) - h_ct h = 1 := by show h_ct h + 1 - h_ct h = 1; omega
      have el : h_sl (h_new h (0, p_c i) (fN (p_c i))) - h_sl h = N := by show h_sl h + fN (p_c i) - h_sl h = N; omega
      rw [ec] at k hcl
      rw [el] at k hsl
      have hKn := hK.1.1 _ _ hcls
      refine W.newcK hx hb hown (hts _ (gt_in _ hc.1 hc.2)) (hts _ o5) (hts _ o6) rfl hd hcl hsl hKn.2.1 rfl fun H1 kC hkC e1 z oq => ?_
      have hz : H.size = G.1 + h_ct h := hW.1
      have k1 := k H1 locs rls (hW.new z oq ?_) (hS.born z oq) hL
      · show W p l e R s m args below meth c H1 locs (cells + 1) (slots + N) Q (F0 m (pc + 3) rls (.ref H.size :: _))
        rw [hz]
        exact k1
      · show ∃ r : vw_C, cls[p_c i]? = some r ∧ t_OB _ _ _ _ _ _
        rw [hz] at e1
        refine ⟨_, hcls, (u_born (fty (p_c i)) hts o1 hKn hkC e1 o2).to fun j hj => ?_⟩
        show _ = vp_V ((List.range (fN (p_c i))).map (fval G _ (p_c i) (h_ct h))) j
        have h2 : ((List.range (fN (p_c i))).map (fval G (h_new h (0, p_c i) (fN (p_c i))) (p_c i) (h_ct h)))[j]? = some _ := fs_get G _ _ _ (by rw [hN]; exact hj)
        rw [fval_new] at h2
        simp only [vp_V, List.getD_eq_getElem?_getD, h2]
        rfl
    · cases hc
  · cases hc
def s_newI : PSem := fun i pc ls st h => match st with
  | .int x :: rest => if x < 0 ∨ 60000000 < x.toNatClampNeg then none else some (pc + 2, ls, .ref (h_ct h) :: rest, h_new h (1, x.toNatClampNeg) x.toNatClampNeg)
  | _ => none
def c_newI : PChk := fun _ _ cc pc _ => match decode cc pc with
  | .ok (.newarray .int, 2) => true
  | _ => false
theorem z_newI : SoundP c_newI s_newI := by
  intro G p l e R s m args below meth c Q o ini cc nL i pc pls pst h r H locs cells slots rls F hc hs hW hS hL hcl hsl k
  obtain ⟨hx, hb, hml, hown, hts, hK, -⟩ := F
  unfold c_newI at hc
  split at hc
  next hd =>
    unfold s_newI at hs
    split at hs
    next x rest =>
      split at hs
      · cases hs
      next hne =>
        cases hs
        dsimp only at k hcl hsl
        have ec : h_ct (h_new h (1, x.toNatClampNeg) x.toNatClampNeg) - h_ct h = 1 := by show h_ct h + 1 - h_ct h = 1; omega
        have el : h_sl (h_new h (1, x.toNatClampNeg) x.toNatClampNeg) - h_sl h = x.toNatClampNeg := by show h_sl h + x.toNatClampNeg - h_sl h = _; omega
        rw [ec] at k hcl
        rw [el] at k hsl
        have hz : H.size = G.1 + h_ct h := hW.1
        have hcb : x.toNatClampNeg * componentBytes .int ≤ 536870912 := by
          have : componentBytes .int ≤ 8 := by decide
          have h3 : x.toNatClampNeg ≤ 60000000 := Nat.not_lt.mp fun q => hne (Or.inr q)
          exact Nat.le_trans (Nat.mul_le_mul h3 this) (by decide)
        refine va_newaK (atype := .int) (g := F0 m pc rls _) hx hb (hts _ (gt_in 269 (by decide +kernel) rfl)) rfl hd rfl (fun q => hne (Or.inl q)) rfl hcb hcl hsl hz fun H1 cA e1 z oq hAr hNm => ?_
        have hcA : G.2.2.2.2.2 .int = cA := by
          have h1 := (hK.1.2 0 _ rfl).2
          exact Option.some.inj (h1.symm.trans hNm)
        refine k H1 locs rls (hW.new (by rw [z, hz]) (by rw [hz]; exact oq) ?_) (hS.born (by rw [z, hz]) (by rw [hz]; exact oq)) hL
        show H1[G.1 + h_ct h]? = some (vp_cell (G.2.2.2.2.2 .int) (x.toNatClampNeg, .inl (h_i (h_new h (1, x.toNatClampNeg) x.toNatClampNeg) (h_ct h))))
        rw [show h_i (h_new h (1, x.toNatClampNeg) x.toNatClampNeg) (h_ct h) = fun _ => 0 from upr_row _ _ _, hcA, e1]
        rfl
    · cases hs
  · cases hc
def s_newB : PSem := fun i pc ls st h => match st with
  | .int x :: rest => if x < 0 ∨ 60000000 < x.toNatClampNeg then none else some (pc + 2, ls, .ref (h_ct h) :: rest, h_new h (2, x.toNatClampNeg) x.toNatClampNeg)
  | _ => none
def c_newB : PChk := fun _ _ cc pc _ => match decode cc pc with
  | .ok (.newarray .byte, 2) => true
  | _ => false
theorem z_newB : SoundP c_newB s_newB := by
  intro G p l e R s m args below meth c Q o ini cc nL i pc pls pst h r H locs cells slots rls F hc hs hW hS hL hcl hsl k
  obtain ⟨hx, hb, hml, hown, hts, hK, -⟩ := F
  unfold c_newB at hc
  split at hc
  next hd =>
    unfold s_newB at hs
    split at hs
    next x rest =>
      split at hs
      · cases hs
      next hne =>
        cases hs
        dsimp only at k hcl hsl
        have ec : h_ct (h_new h (2, x.toNatClampNeg) x.toNatClampNeg) - h_ct h = 1 := by show h_ct h + 1 - h_ct h = 1; omega
        have el : h_sl (h_new h (2, x.toNatClampNeg) x.toNatClampNeg) - h_sl h = x.toNatClampNeg := by show h_sl h + x.toNatClampNeg - h_sl h = _; omega
        rw [ec] at k hcl
        rw [el] at k hsl
        have hz : H.size = G.1 + h_ct h := hW.1
        have hcb : x.toNatClampNeg * componentBytes .byte ≤ 536870912 := by
          have : componentBytes .byte ≤ 8 := by decide
          have h3 : x.toNatClampNeg ≤ 60000000 := Nat.not_lt.mp fun q => hne (Or.inr q)
          exact Nat.le_trans (Nat.mul_le_mul h3 this) (by decide)
        refine va_newaK (atype := .byte) (g := F0 m pc rls _) hx hb (hts _ (gt_in 267 (by decide +kernel) rfl)) rfl hd rfl (fun q => hne (Or.inl q)) rfl hcb hcl hsl hz fun H1 cA e1 z oq hAr hNm => ?_
        have hcA : G.2.2.2.2.2 .byte = cA := by
          have h1 := (hK.1.2 1 _ rfl).2
          exact Option.some.inj (h1.symm.trans hNm)
        refine k H1 locs rls (hW.new (by rw [z, hz]) (by rw [hz]; exact oq) ?_) (hS.born (by rw [z, hz]) (by rw [hz]; exact oq)) hL
        show H1[G.1 + h_ct h]? = some (vp_cell (G.2.2.2.2.2 .byte) (x.toNatClampNeg, .inl (h_i (h_new h (2, x.toNatClampNeg) x.toNatClampNeg) (h_ct h))))
        rw [show h_i (h_new h (2, x.toNatClampNeg) x.toNatClampNeg) (h_ct h) = fun _ => 0 from upr_row _ _ _, hcA, e1]
        rfl
    · cases hs
  · cases hc
def s_newZ : PSem := fun i pc ls st h => match st with
  | .int x :: rest => if x < 0 ∨ 60000000 < x.toNatClampNeg then none else some (pc + 2, ls, .ref (h_ct h) :: rest, h_new h (3, x.toNatClampNeg) x.toNatClampNeg)
  | _ => none
def c_newZ : PChk := fun _ _ cc pc _ => match decode cc pc with
  | .ok (.newarray .boolean, 2) => true
  | _ => false
theorem z_newZ : SoundP c_newZ s_newZ := by
  intro G p l e R s m args below meth c Q o ini cc nL i pc pls pst h r H locs cells slots rls F hc hs hW hS hL hcl hsl k
  obtain ⟨hx, hb, hml, hown, hts, hK, -⟩ := F
  unfold c_newZ at hc
  split at hc
  next hd =>
    unfold s_newZ at hs
    split at hs
    next x rest =>
      split at hs
      · cases hs
      next hne =>
        cases hs
        dsimp only at k hcl hsl
        have ec : h_ct (h_new h (3, x.toNatClampNeg) x.toNatClampNeg) - h_ct h = 1 := by show h_ct h + 1 - h_ct h = 1; omega
        have el : h_sl (h_new h (3, x.toNatClampNeg) x.toNatClampNeg) - h_sl h = x.toNatClampNeg := by show h_sl h + x.toNatClampNeg - h_sl h = _; omega
        rw [ec] at k hcl
        rw [el] at k hsl
        have hz : H.size = G.1 + h_ct h := hW.1
        have hcb : x.toNatClampNeg * componentBytes .boolean ≤ 536870912 := by
          have : componentBytes .boolean ≤ 8 := by decide
          have h3 : x.toNatClampNeg ≤ 60000000 := Nat.not_lt.mp fun q => hne (Or.inr q)
          exact Nat.le_trans (Nat.mul_le_mul h3 this) (by decide)
        refine va_newaK (atype := .boolean) (g := F0 m pc rls _) hx hb (hts _ (gt_in 339 (by decide +kernel) rfl)) rfl hd rfl (fun q => hne (Or.inl q)) rfl hcb hcl hsl hz fun H1 cA e1 z oq hAr hNm => ?_
        have hcA : G.2.2.2.2.2 .boolean = cA := by
          have h1 := (hK.1.2 2 _ rfl).2
          exact Option.some.inj (h1.symm.trans hNm)
        refine k H1 locs rls (hW.new (by rw [z, hz]) (by rw [hz]; exact oq) ?_) (hS.born (by rw [z, hz]) (by rw [hz]; exact oq)) hL
        show H1[G.1 + h_ct h]? = some (vp_cell (G.2.2.2.2.2 .boolean) (x.toNatClampNeg, .inl (h_i (h_new h (3, x.toNatClampNeg) x.toNatClampNeg) (h_ct h))))
        rw [show h_i (h_new h (3, x.toNatClampNeg) x.toNatClampNeg) (h_ct h) = fun _ => 0 from upr_row _ _ _, hcA, e1]
        rfl
    · cases hs
  · cases hc
def s_newL : PSem := fun i pc ls st h => match st with
  | .int x :: rest => if x < 0 ∨ 60000000 < x.toNatClampNeg then none else some (pc + 2, ls, .ref (h_ct h) :: rest, h_new h (4, x.toNatClampNeg) x.toNatClampNeg)
  | _ => none
def c_newL : PChk := fun _ _ cc pc _ => match decode cc pc with
  | .ok (.newarray .long, 2) => true
  | _ => false
theorem z_newL : SoundP c_newL s_newL := by
  intro G p l e R s m args below meth c Q o ini cc nL i pc pls pst h r H locs cells slots rls F hc hs hW hS hL hcl hsl k
  obtain ⟨hx, hb, hml, hown, hts, hK, -⟩ := F
  unfold c_newL at hc
  split at hc
  next hd =>
    unfold s_newL at hs
    split at hs
    next x rest =>
      split at hs
      · cases hs
      next hne =>
        cases hs
        dsimp only at k hcl hsl
        have ec : h_ct (h_new h (4, x.toNatClampNeg) x.toNatClampNeg) - h_ct h = 1 := by show h_ct h + 1 - h_ct h = 1; omega
        have el : h_sl (h_new h (4, x.toNatClampNeg) x.toNatClampNeg) - h_sl h = x.toNatClampNeg := by show h_sl h + x.toNatClampNeg - h_sl h = _; omega
        rw [ec] at k hcl
        rw [el] at k hsl
        have hz : H.size = G.1 + h_ct h := hW.1
        have hcb : x.toNatClampNeg * componentBytes .long ≤ 536870912 := by
          have : componentBytes .long ≤ 8 := by decide
          have h3 : x.toNatClampNeg ≤ 60000000 := Nat.not_lt.mp fun q => hne (Or.inr q)
          exact Nat.le_trans (Nat.mul_le_mul h3 this) (by decide)
        refine va_newaK (atype := .long) (g := F0 m pc rls _) hx hb (hts _ (gt_in 268 (by decide +kernel) rfl)) rfl hd rfl (fun q => hne (Or.inl q)) rfl hcb hcl hsl hz fun H1 cA e1 z oq hAr hNm => ?_
        have hcA : G.2.2.2.2.2 .long = cA := by
          have h1 := (hK.1.2 3 _ rfl).2
          exact Option.some.inj (h1.symm.trans hNm)
        refine k H1 locs rls (hW.new (by rw [z, hz]) (by rw [hz]; exact oq) ?_) (hS.born (by rw [z, hz]) (by rw [hz]; exact oq)) hL
        show H1[G.1 + h_ct h]? = some (vp_cell (G.2.2.2.2.2 .long) (x.toNatClampNeg, .inr (.inl (h_l (h_new h (4, x.toNatClampNeg) x.toNatClampNeg) (h_ct h)))))
        rw [show h_l (h_new h (4, x.toNatClampNeg) x.toNatClampNeg) (h_ct h) = fun _ => 0 from upr_row _ _ _, hcA, e1]
        rfl
    · cases hs
  · cases hc
def s_sload : PSem := fun i pc ls st h => match st with
  | .int x :: .retAddr _ :: rest => if x < 0 ∨ (h_sc h).1 ≤ x.toNatClampNeg then none else some (pc + 1, ls, .int ((h_sc h).2 x.toNatClampNeg) :: rest, h)
  | _ => none
def c_sload : PChk := fun o _ cc pc _ => match decode cc pc with
  | .ok (.iaload, 1) => o == 13
  | _ => false
theorem z_sload : SoundP c_sload s_sload := by
  intro G p l e R s m args below meth c Q o ini cc nL i pc pls pst h r H locs cells slots rls F hc hs hW hS hL _ _ k
  obtain ⟨hx, hb, hml, hown, hts, hK, -, -, -, -, hsc⟩ := F
  unfold c_sload at hc
  split at hc
  next hd =>
    obtain ⟨hX, hbl, hbA⟩ := hsc (beq_iff_eq.mp hc)
    unfold s_sload at hs
    split at hs
    next x a rest =>
      split at hs
      · cases hs
      next hne =>
        cases hs
        simp only [Nat.sub_self, Nat.add_zero] at k
        rw [hW.2.1] at hne k
        exact va_sld hx hb hX hbl hbA hS hne hd (k H locs rls hW hS hL)
    · cases hs
  · cases hc
def s_slen : PSem := fun i pc ls st h => match st with
  | .retAddr _ :: rest => some (pc + 1, ls, .int (Int32.ofNat (h_sc h).1) :: rest, h)
  | _ => none
def c_slen : PChk := fun o _ cc pc _ => match decode cc pc with
  | .ok (.arraylength, 1) => o == 13
  | _ => false
theorem z_slen : SoundP c_slen s_slen := by
  intro G p l e R s m args below meth c Q o ini cc nL i pc pls pst h r H locs cells slots rls F hc hs hW hS hL _ _ k
  obtain ⟨hx, hb, hml, hown, hts, hK, -, -, -, -, hsc⟩ := F
  unfold c_slen at hc
  split at hc
  next hd =>
    obtain ⟨hX, hbl, hbA⟩ := hsc (beq_iff_eq.mp hc)
    unfold s_slen at hs
    split at hs
    next a rest =>
      cases hs
      simp only [Nat.sub_self, Nat.add_zero] at k
      rw [hW.2.1] at k
      exact va_slen hx hb hX hbl hbA hS hd (k H locs rls hW hS hL)
    · cases hs
  · cases hc
def swT : List (Int × List Nat × Nat) := [(0, [40, 50, 60], 77), (0, [52, 60, 68, 76, 84, 92, 100, 105, 121], 137), (0, [56, 61, 66, 71, 76, 81, 86, 91, 105], 119), (0, [184, 247, 270, 283, 306, 339, 362, 395, 408, 431, 474, 487, 500, 513, 537, 550, 573, 587, 620, 633, 656, 689, 712, 725, 778, 811, 845, 908, 922, 945, 988, 1011, 1034, 1083], 1096)]
def s_switch : PSem := fun i pc ls st h => match st with
  | .int x :: rest => (match swT[p_b i]? with
    | some (lo, tg, df) => if x.toInt < lo ∨ lo + (tg.length : Int) ≤ x.toInt then some (df, ls, rest, h) else (tg[(x.toInt - lo).toNat]?).map (fun t => (t, ls, rest, h))
    | none => none)
  | _ => none
def c_switch : PChk := fun _ _ cc pc i => match decode cc pc with
  | .ok (.tableswitch d lo hi offs, _) => (match swT[p_b i]? with
    | some (lo', tg, df) => lo == lo' && hi + 1 == lo + (tg.length : Int) && (pc : Int) + d == (df : Int) && (offs.toList.map (fun x => (pc : Int) + x) == tg.map (fun t : Nat => (t : Int)))
    | none => false)
  | _ => false
theorem z_switch : SoundP c_switch s_switch := by
  intro G p l e R s m args below meth c Q o ini cc nL i pc pls pst h r H locs cells slots rls F hc hs hW hS hL _ _ k
  obtain ⟨hx, hb, -⟩ := F
  unfold c_switch at hc
  split at hc
  next d lo hi offs n hd =>
    unfold s_switch at hs
    split at hs
    next x rest =>
      split at hs
      next lo' tg df hsw =>
        rw [hsw] at hc
        simp only [Bool.and_eq_true, beq_iff_eq] at hc
        obtain ⟨⟨⟨h1, h2⟩, h3⟩, h4⟩ := hc
        subst h1
        split at hs
        next hout =>
          cases hs
          simp only [Nat.sub_self, Nat.add_zero] at k
          exact lv_tableOut hx hb hd (by omega) h3 (k H locs rls hW hS hL)
        next hin =>
          obtain ⟨t, ht, e0⟩ := Option.map_eq_some_iff.mp hs
          subst e0
          simp only [Nat.sub_self, Nat.add_zero] at k
          have h5 : (offs.toList.map (fun x => (pc : Int) + x))[(x.toInt - lo).toNat]? = some (t : Int) := by
            rw [h4, List.getElem?_map, ht]; rfl
          rw [List.getElem?_map] at h5
          obtain ⟨off, ho, e5⟩ := Option.map_eq_some_iff.mp h5
          exact lv_tableIn hx hb hd (by omega) (by omega) (by rw [← Array.getElem?_toList]; exact ho) e5 (k H locs rls hW hS hL)
      · cases hs
    · cases hs
  · cases hc
theorem cat_sum (G : Gx) : ∀ (st : List Value), ((st.map (tr G)).map fun v => v.category).sum ≤ 2 * st.length
  | [] => by simp
  | v :: r => by
    have := cat_sum G r
    have h2 : (tr G v).category ≤ 2 := by rcases lv_cat (tr G v) with h | h <;> omega
    simp only [List.map_cons, List.sum_cons, List.length_cons]
    omega
def s_oinit : PSem := fun i pc ls st h => match st with
  | .ref _ :: rest => if rest.length ≤ 4 then some (pc + 3, ls, rest, h) else none
  | _ => none
def c_oinit : PChk := fun o _ cc pc i => match decode cc pc with
  | .ok (.invokespecial n, 3) => decide (lw_tbl[p_b i]? = some (.methodLink (cN o) n Lib.objectInit)) && goodWord (.methodLink (cN o) n Lib.objectInit)
  | _ => false
theorem z_oinit : SoundP c_oinit s_oinit := by
  intro G p l e R s m args below meth c Q o ini cc nL i pc pls pst h r H locs cells slots rls F hc hs hW hS hL _ _ k
  obtain ⟨hx, hb, hml, hown, hts, hK, -, hfr, hlo, -⟩ := F
  unfold c_oinit at hc
  split at hc
  next n hd =>
    simp only [Bool.and_eq_true, decide_eq_true_eq] at hc
    unfold s_oinit at hs
    split at hs
    next a rest =>
      split at hs
      next hr =>
        cases hs
        simp only [Nat.sub_self, Nat.add_zero] at k
        have h8 : ((rest.map (tr G)).map fun v => v.category).sum ≤ 8 := Nat.le_trans (cat_sum G rest) (by omega)
        exact W.objInit hx hb hown (hts _ (gt_in _ hc.1 hc.2)) (hts _ (gt_in 197 (by decide +kernel) rfl)) (hts _ (gt_in 198 (by decide +kernel) rfl)) rfl (hL.1.1.trans hml.symm) rfl hd hfr (Nat.le_trans (Nat.add_le_add_right (lv_room (m := m) (pc := pc) (ls := rls) (rest := []) h8) 12) (by omega)) (k H locs rls hW hS hL)
      · cases hs
    · cases hs
  · cases hc
end
section
/-! arraycopy -/
section QCi
variable {p : Program} {l : Launch} {e : Env} {R : Room} {s : State} {m : MethodId} {args : Array Value} {below : List Frame} {meth : Method} {c : Code} {H : Heap} {locs : List Loc} {cells slots : Nat} {Q : State → Prop}
variable {cc : ByteArray} {pc : Nat} {ls : Array Slot} {rest : List Value} {A : Nat → Prop} {H0 : Heap}
theorem q_copyi (hexec : p.tables.exec = Jvm.exec) (hb : c.code = cc) (hml : c.maxLocals = ls.size) {own : String} {index : Nat} (hown : s.vm.findClass own = some m.cls) (hlink : (Cond.methodLink own index arraycopyName).before args s = true) (hnat : (Cond.native arraycopyName).before args s = true) (hstat : (Cond.static arraycopyName).before args s = true) (hini : (Cond.initialized "java/lang/System").before args s = true)
    (hS : va_S A H0 H locs) {a a0 : Nat} {c0 c1 : ClassId} {n0 n1 : Nat} {f g : Nat → Int32} {ty : FieldType} (hc0 : H[a0]? = some (vp_cell c0 (n0, .inl f))) (hc1 : H[a]? = some (vp_cell c1 (n1, .inl g))) (ht0 : ArrOfT s c0 ty) (ht1 : ArrOfT s c1 ty) (hprim : refKind ty = false) (hAa : A a)
    {sp dp n : Int32} (h1 : ¬ sp < 0) (h2 : ¬ dp < 0) (h3 : ¬ n < 0) (h4 : sp.toNatClampNeg + n.toNatClampNeg ≤ n0) (h5 : dp.toNatClampNeg + n.toNatClampNeg ≤ n1) (hfit : ∀ i, i < n.toNatClampNeg → fits ty (.int (f (sp.toNatClampNeg + i))) = true)
    (hframes : 1 ≤ R.frames) (hlocals : (rest.map fun v => v.category).sum + (nativeFrameWords "java/lang/System" "arraycopy" 5 + 11) ≤ R.locals) (hdg : decode cc pc = .ok (.invokestatic index, 3))
    (kk : ∀ (H1 : Heap) (locs1 : List Loc), H1[a]? = some (vp_cell c1 (n1, .inl (va_cpy f g sp.toNatClampNeg dp.toNatClampNeg n.toNatClampNeg))) → H1.size = H.size → (∀ q : Nat, q ≠ a → H1[q]? = H[q]?) → va_S A H0 H1 locs1 → W p l e R s m args below meth c H1 locs1 cells slots Q (F0 m (pc + 3) ls rest)) : W p l e R s m args below meth c H locs cells slots Q (F0 m pc ls (.int n :: .int dp :: .ref a :: .int sp :: .ref a0 :: rest)) := by
  have nn : ∀ z : Int32, ¬ z < 0 → z.toInt = (z.toNatClampNeg : Int) := by
    intro z hz
    have hz0 : (0 : Int) ≤ z.toInt := by
      have := Int32.not_lt.mp hz
      simpa using Int32.le_iff_toInt_le.mp this
    show z.toInt = ((z.toInt.toNat : Nat) : Int)
    omega
  intro T hT X
  obtain ⟨-, k0, hk0, cm0, hkk0⟩ := ht0 n0 (fun j => .int (f j))
  obtain ⟨-, k1, hk1, cm1, hkk1⟩ := ht1 n1 (fun j => .int (g j))
  obtain ⟨vm', X', step⟩ := X.arraycopy hexec hown hlink hnat hstat hini (src := a0) (dst := a) (cs := vp_cell c0 (n0, .inl f)) (cd := vp_cell c1 (n1, .inl g)) (srcPos := sp) (destPos := dp) (n := n) (by rw [hT]; exact hc0) (by rw [hT]; exact hc1)
    (fun _ h => by cases h) (fun _ h => by cases h) (fun h => by cases h) (fun h => by cases h) hk0 hk1 hkk0 hkk1 (by simp [hprim]) h1 h2 h3
    (by rw [nn sp h1, nn n h3]; show ¬ _ > ((arrV c0 n0 (fun j => .int (f j))).slots.size : Int); rw [arrV_size]; omega)
    (by rw [nn dp h2, nn n h3]; show ¬ _ > ((arrV c1 n1 (fun j => .int (g j))).slots.size : Int); rw [arrV_size]; omega)
    (fun vm₁ _ i hi => by
      have e : (vp_cell c0 (n0, .inl f)).slots.getD (sp.toNatClampNeg + i) .null = .int (f (sp.toNatClampNeg + i)) := by
        show (arrV c0 n0 (fun j => .int (f j))).slots.getD _ _ = _
        rw [Array.getD_eq_getD_getElem?, arrV_read _ _ (by omega)]
        rfl
      refine ⟨?_, ?_⟩
      · rw [e]
        exact hfit i hi
      · rw [e]
        exact trivial)
    (g := F0 m pc ls (.int n :: .int dp :: .ref a :: .int sp :: .ref a0 :: rest)) rfl (by rw [hml]) (rest := rest) rfl (by rw [hb]; exact hdg) hframes (by show 2 * 0 + _ + _ ≤ _; omega)
  have e1 : copied (vp_cell c0 (n0, .inl f)) (vp_cell c1 (n1, .inl g)) sp dp n = vp_cell c1 (n1, .inl (va_cpy f g sp.toNatClampNeg dp.toNatClampNeg n.toNatClampNeg)) := va_copied (fun z => .int z) c0 c1 f g h4
  rw [e1] at X' step
  have hl : a < H.size := (Array.getElem?_eq_some_iff.mp hc1).1
  have hheap : ((T.setVm vm').setCell a (vp_cell c1 (n1, .inl (va_cpy f g sp.toNatClampNeg dp.toNatClampNeg n.toNatClampNeg)))).heap = H.setIfInBounds a (vp_cell c1 (n1, .inl (va_cpy f g sp.toNatClampNeg dp.toNatClampNeg n.toNatClampNeg))) := by rw [← hT]; rfl
  have oq : ∀ q : Nat, q ≠ a → (H.setIfInBounds a (vp_cell c1 (n1, .inl (va_cpy f g sp.toNatClampNeg dp.toNatClampNeg n.toNatClampNeg))))[q]? = H[q]? := fun q hq => by simp [Array.getElem?_setIfInBounds, Ne.symm hq]
  obtain ⟨t, a1, b1⟩ := kk _ _ (show (H.setIfInBounds a _)[a]? = some _ by simp [Array.getElem?_setIfInBounds, hl]) (by simp) oq ⟨by simp; exact hS.1, fun q g1 g2 => by
      rw [oq q (fun e => g2 (by rw [e]; exact hAa))]
      exact hS.2.1 q g1 g2, fun q hq => by
      rcases List.mem_append.mp hq with h | h
      · exact hS.2.2 q h
      · obtain ⟨z, -, hz⟩ := List.mem_map.mp h
        rw [← hz]
        exact hAa⟩ _ hheap X'
  exact ⟨t, step t a1, b1⟩
end QCi
section QCl
variable {p : Program} {l : Launch} {e : Env} {R : Room} {s : State} {m : MethodId} {args : Array Value} {below : List Frame} {meth : Method} {c : Code} {H : Heap} {locs : List Loc} {cells slots : Nat} {Q : State → Prop}
variable {cc : ByteArray} {pc : Nat} {ls : Array Slot} {rest : List Value} {A : Nat → Prop} {H0 : Heap}
theorem q_copyl (hexec : p.tables.exec = Jvm.exec) (hb : c.code = cc) (hml : c.maxLocals = ls.size) {own : String} {index : Nat} (hown : s.vm.findClass own = some m.cls) (hlink : (Cond.methodLink own index arraycopyName).before args s = true) (hnat : (Cond.native arraycopyName).before args s = true) (hstat : (Cond.static arraycopyName).before args s = true) (hini : (Cond.initialized "java/lang/System").before args s = true)
    (hS : va_S A H0 H locs) {a a0 : Nat} {c0 c1 : ClassId} {n0 n1 : Nat} {f g : Nat → Int64} {ty : FieldType} (hc0 : H[a0]? = some (vp_cell c0 (n0, .inr (.inl f)))) (hc1 : H[a]? = some (vp_cell c1 (n1, .inr (.inl g)))) (ht0 : ArrOfT s c0 ty) (ht1 : ArrOfT s c1 ty) (hprim : refKind ty = false) (hAa : A a)
    {sp dp n : Int32} (h1 : ¬ sp < 0) (h2 : ¬ dp < 0) (h3 : ¬ n < 0) (h4 : sp.toNatClampNeg + n.toNatClampNeg ≤ n0) (h5 : dp.toNatClampNeg + n.toNatClampNeg ≤ n1) (hfit : ∀ i, i < n.toNatClampNeg → fits ty (.long (f (sp.toNatClampNeg + i))) = true)
    (hframes : 1 ≤ R.frames) (hlocals : (rest.map fun v => v.category).sum + (nativeFrameWords "java/lang/System" "arraycopy" 5 + 11) ≤ R.locals) (hdg : decode cc pc = .ok (.invokestatic index, 3))
    (kk : ∀ (H1 : Heap) (locs1 : List Loc), H1[a]? = some (vp_cell c1 (n1, .inr (.inl (va_cpy f g sp.toNatClampNeg dp.toNatClampNeg n.toNatClampNeg)))) → H1.size = H.size → (∀ q : Nat, q ≠ a → H1[q]? = H[q]?) → va_S A H0 H1 locs1 → W p l e R s m args below meth c H1 locs1 cells slots Q (F0 m (pc + 3) ls rest)) : W p l e R s m args below meth c H locs cells slots Q (F0 m pc ls (.int n :: .int dp :: .ref a :: .int sp :: .ref a0 :: rest)) := by
  have nn : ∀ z : Int32, ¬ z < 0 → z.toInt = (z.toNatClampNeg : Int) := by
    intro z hz
    have hz0 : (0 : Int) ≤ z.toInt := by
      have := Int32.not_lt.mp hz
      simpa using Int32.le_iff_toInt_le.mp this
    show z.toInt = ((z.toInt.toNat : Nat) : Int)
    omega
  intro T hT X
  obtain ⟨-, k0, hk0, cm0, hkk0⟩ := ht0 n0 (fun j => .long (f j))
  obtain ⟨-, k1, hk1, cm1, hkk1⟩ := ht1 n1 (fun j => .long (g j))
  obtain ⟨vm', X', step⟩ := X.arraycopy hexec hown hlink hnat hstat hini (src := a0) (dst := a) (cs := vp_cell c0 (n0, .inr (.inl f))) (cd := vp_cell c1 (n1, .inr (.inl g))) (srcPos := sp) (destPos := dp) (n := n) (by rw [hT]; exact hc0) (by rw [hT]; exact hc1)
    (fun _ h => by cases h) (fun _ h => by cases h) (fun h => by cases h) (fun h => by cases h) hk0 hk1 hkk0 hkk1 (by simp [hprim]) h1 h2 h3
    (by rw [nn sp h1, nn n h3]; show ¬ _ > ((arrV c0 n0 (fun j => .long (f j))).slots.size : Int); rw [arrV_size]; omega)
    (by rw [nn dp h2, nn n h3]; show ¬ _ > ((arrV c1 n1 (fun j => .long (g j))).slots.size : Int); rw [arrV_size]; omega)
    (fun vm₁ _ i hi => by
      have e : (vp_cell c0 (n0, .inr (.inl f))).slots.getD (sp.toNatClampNeg + i) .null = .long (f (sp.toNatClampNeg + i)) := by
        show (arrV c0 n0 (fun j => .long (f j))).slots.getD _ _ = _
        rw [Array.getD_eq_getD_getElem?, arrV_read _ _ (by omega)]
        rfl
      refine ⟨?_, ?_⟩
      · rw [e]
        exact hfit i hi
      · rw [e]
        exact trivial)
    (g := F0 m pc ls (.int n :: .int dp :: .ref a :: .int sp :: .ref a0 :: rest)) rfl (by rw [hml]) (rest := rest) rfl (by rw [hb]; exact hdg) hframes (by show 2 * 0 + _ + _ ≤ _; omega)
  have e1 : copied (vp_cell c0 (n0, .inr (.inl f))) (vp_cell c1 (n1, .inr (.inl g))) sp dp n = vp_cell c1 (n1, .inr (.inl (va_cpy f g sp.toNatClampNeg dp.toNatClampNeg n.toNatClampNeg))) := va_copied (fun z => .long z) c0 c1 f g h4
  rw [e1] at X' step
  have hl : a < H.size := (Array.getElem?_eq_some_iff.mp hc1).1
  have hheap : ((T.setVm vm').setCell a (vp_cell c1 (n1, .inr (.inl (va_cpy f g sp.toNatClampNeg dp.toNatClampNeg n.toNatClampNeg))))).heap = H.setIfInBounds a (vp_cell c1 (n1, .inr (.inl (va_cpy f g sp.toNatClampNeg dp.toNatClampNeg n.toNatClampNeg)))) := by rw [← hT]; rfl
  have oq : ∀ q : Nat, q ≠ a → (H.setIfInBounds a (vp_cell c1 (n1, .inr (.inl (va_cpy f g sp.toNatClampNeg dp.toNatClampNeg n.toNatClampNeg)))))[q]? = H[q]? := fun q hq => by simp [Array.getElem?_setIfInBounds, Ne.symm hq]
  obtain ⟨t, a1, b1⟩ := kk _ _ (show (H.setIfInBounds a _)[a]? = some _ by simp [Array.getElem?_setIfInBounds, hl]) (by simp) oq ⟨by simp; exact hS.1, fun q g1 g2 => by
      rw [oq q (fun e => g2 (by rw [e]; exact hAa))]
      exact hS.2.1 q g1 g2, fun q hq => by
      rcases List.mem_append.mp hq with h | h
      · exact hS.2.2 q h
      · obtain ⟨z, -, hz⟩ := List.mem_map.mp h
        rw [← hz]
        exact hAa⟩ _ hheap X'
  exact ⟨t, step t a1, b1⟩
end QCl
def s_copyI : PSem := fun i pc ls st h => match st with
  | .int n :: .int dp :: .ref a :: .int sp :: .ref a0 :: rest => (match h_sh h a0, h_sh h a with
    | some (1, n0), some (1, n1) => if rest.length ≤ 4 ∧ (¬ sp < 0) ∧ (¬ dp < 0) ∧ (¬ n < 0) ∧ sp.toNatClampNeg + n.toNatClampNeg ≤ n0 ∧ dp.toNatClampNeg + n.toNatClampNeg ≤ n1  then some (pc + 3, ls, rest, w_ri h a (va_cpy (h_i h a0) (h_i h a) sp.toNatClampNeg dp.toNatClampNeg n.toNatClampNeg)) else none
    | _, _ => none)
  | _ => none
def c_copyI : PChk := fun o _ cc pc i => match decode cc pc with
  | .ok (.invokestatic n, 3) => decide (lw_tbl[p_b i]? = some (.methodLink (cN o) n arraycopyName)) && goodWord (.methodLink (cN o) n arraycopyName)
  | _ => false
theorem z_copyI : SoundP c_copyI s_copyI := by
  intro G p l e R s m args below meth c Q o ini cc nL i pc pls pst h r H locs cells slots rls F hc hs hW hS hL _ _ k
  obtain ⟨hx, hb, hml, hown, hts, hK, -, hfr, hlo, -⟩ := F
  unfold c_copyI at hc
  split at hc
  next ix hd =>
    simp only [Bool.and_eq_true, decide_eq_true_eq] at hc
    unfold s_copyI at hs
    split at hs
    next n dp a sp a0 rest =>
      split at hs
      next n0 n1 hs0 hs1 =>
        split at hs
        next hcond =>
          cases hs
          dsimp only at k
          simp only [show ∀ g, h_ct (w_ri h a g) = h_ct h from fun _ => rfl, show ∀ g, h_sl (w_ri h a g) = h_sl h from fun _ => rfl, Nat.sub_self, Nat.add_zero] at k
          have h8 : ((rest.map (tr G)).map fun v => v.category).sum ≤ 8 := Nat.le_trans (cat_sum G rest) (by have := hcond.1; omega)
          have hnf : nativeFrameWords "java/lang/System" "arraycopy" 5 ≤ 7 := by decide +kernel
          refine q_copyi (f := h_i h a0) (g := h_i h a) (ty := .int) (n0 := n0) (n1 := n1) hx hb (hml.trans hL.1.1.symm) hown (hts _ (gt_in _ hc.1 hc.2)) (hts _ (gt_in 436 (by decide +kernel) rfl)) (hts _ (gt_in 435 (by decide +kernel) rfl)) (hts _ (gt_in 180 (by decide +kernel) rfl)) hS (hW.at hs0) (hW.at hs1) (hK.1.2 0 _ rfl).1 (hK.1.2 0 _ rfl).1 rfl (Ax_ad G a) hcond.2.1 hcond.2.2.1 hcond.2.2.2.1 hcond.2.2.2.2.1 hcond.2.2.2.2.2 (fun j hj => rfl) hfr (by omega) hd fun H1 locs1 e1 z oq hS1 => ?_
          refine k H1 locs1 rls (hW.put hs1 z oq ?_ rfl rfl rfl (fun c' hc => ⟨upr_ne _ _ hc, rfl, rfl⟩)) hS1 hL
          show H1[G.1 + a]? = some (vp_cell (G.2.2.2.2.2 .int) (n1, .inl (h_i (w_ri h a _) a)))
          rw [show ∀ g, h_i (w_ri h a g) a = g from fun g => upr_row _ _ _]
          exact e1
        · cases hs
      · cases hs
    · cases hs
  · cases hc
def s_copyB : PSem := fun i pc ls st h => match st with
  | .int n :: .int dp :: .ref a :: .int sp :: .ref a0 :: rest => (match h_sh h a0, h_sh h a with
    | some (2, n0), some (2, n1) => if rest.length ≤ 4 ∧ (¬ sp < 0) ∧ (¬ dp < 0) ∧ (¬ n < 0) ∧ sp.toNatClampNeg + n.toNatClampNeg ≤ n0 ∧ dp.toNatClampNeg + n.toNatClampNeg ≤ n1 ∧ (List.range n.toNatClampNeg).all (fun j => fits .byte (.int (h_i h a0 (sp.toNatClampNeg + j)))) = true then some (pc + 3, ls, rest, w_ri h a (va_cpy (h_i h a0) (h_i h a) sp.toNatClampNeg dp.toNatClampNeg n.toNatClampNeg)) else none
    | _, _ => none)
  | _ => none
def c_copyB : PChk := fun o _ cc pc i => match decode cc pc with
  | .ok (.invokestatic n, 3) => decide (lw_tbl[p_b i]? = some (.methodLink (cN o) n arraycopyName)) && goodWord (.methodLink (cN o) n arraycopyName)
  | _ => false
theorem z_copyB : SoundP c_copyB s_copyB := by
  intro G p l e R s m args below meth c Q o ini cc nL i pc pls pst h r H locs cells slots rls F hc hs hW hS hL _ _ k
  obtain ⟨hx, hb, hml, hown, hts, hK, -, hfr, hlo, -⟩ := F
  unfold c_copyB at hc
  split at hc
  next ix hd =>
    simp only [Bool.and_eq_true, decide_eq_true_eq] at hc
    unfold s_copyB at hs
    split at hs
    next n dp a sp a0 rest =>
      split at hs
      next n0 n1 hs0 hs1 =>
        split at hs
        next hcond =>
          cases hs
          dsimp only at k
          simp only [show ∀ g, h_ct (w_ri h a g) = h_ct h from fun _ => rfl, show ∀ g, h_sl (w_ri h a g) = h_sl h from fun _ => rfl, Nat.sub_self, Nat.add_zero] at k
          have h8 : ((rest.map (tr G)).map fun v => v.category).sum ≤ 8 := Nat.le_trans (cat_sum G rest) (by have := hcond.1; omega)
          have hnf : nativeFrameWords "java/lang/System" "arraycopy" 5 ≤ 7 := by decide +kernel
          refine q_copyi (f := h_i h a0) (g := h_i h a) (ty := .byte) (n0 := n0) (n1 := n1) hx hb (hml.trans hL.1.1.symm) hown (hts _ (gt_in _ hc.1 hc.2)) (hts _ (gt_in 436 (by decide +kernel) rfl)) (hts _ (gt_in 435 (by decide +kernel) rfl)) (hts _ (gt_in 180 (by decide +kernel) rfl)) hS (hW.at hs0) (hW.at hs1) (hK.1.2 1 _ rfl).1 (hK.1.2 1 _ rfl).1 rfl (Ax_ad G a) hcond.2.1 hcond.2.2.1 hcond.2.2.2.1 hcond.2.2.2.2.1 hcond.2.2.2.2.2.1 (fun j hj => List.all_eq_true.mp hcond.2.2.2.2.2.2 j (List.mem_range.mpr hj)) hfr (by omega) hd fun H1 locs1 e1 z oq hS1 => ?_
          refine k H1 locs1 rls (hW.put hs1 z oq ?_ rfl rfl rfl (fun c' hc => ⟨upr_ne _ _ hc, rfl, rfl⟩)) hS1 hL
          show H1[G.1 + a]? = some (vp_cell (G.2.2.2.2.2 .byte) (n1, .inl (h_i (w_ri h a _) a)))
          rw [show ∀ g, h_i (w_ri h a g) a = g from fun g => upr_row _ _ _]
          exact e1
        · cases hs
      · cases hs
    · cases hs
  · cases hc
def s_copyL : PSem := fun i pc ls st h => match st with
  | .int n :: .int dp :: .ref a :: .int sp :: .ref a0 :: rest => (match h_sh h a0, h_sh h a with
    | some (4, n0), some (4, n1) => if rest.length ≤ 4 ∧ (¬ sp < 0) ∧ (¬ dp < 0) ∧ (¬ n < 0) ∧ sp.toNatClampNeg + n.toNatClampNeg ≤ n0 ∧ dp.toNatClampNeg + n.toNatClampNeg ≤ n1  then some (pc + 3, ls, rest, w_rl h a (va_cpy (h_l h a0) (h_l h a) sp.toNatClampNeg dp.toNatClampNeg n.toNatClampNeg)) else none
    | _, _ => none)
  | _ => none
def c_copyL : PChk := fun o _ cc pc i => match decode cc pc with
  | .ok (.invokestatic n, 3) => decide (lw_tbl[p_b i]? = some (.methodLink (cN o) n arraycopyName)) && goodWord (.methodLink (cN o) n arraycopyName)
  | _ => false
theorem z_copyL : SoundP c_copyL s_copyL := by
  intro G p l e R s m args below meth c Q o ini cc nL i pc pls pst h r H locs cells slots rls F hc hs hW hS hL _ _ k
  obtain ⟨hx, hb, hml, hown, hts, hK, -, hfr, hlo, -⟩ := F
  unfold c_copyL at hc
  split at hc
  next ix hd =>
    simp only [Bool.and_eq_true, decide_eq_true_eq] at hc
    unfold s_copyL at hs
    split at hs
    next n dp a sp a0 rest =>
      split at hs
      next n0 n1 hs0 hs1 =>
        split at hs
        next hcond =>
          cases hs
          dsimp only at k
          simp only [show ∀ g, h_ct (w_rl h a g) = h_ct h from fun _ => rfl, show ∀ g, h_sl (w_rl h a g) = h_sl h from fun _ => rfl, Nat.sub_self, Nat.add_zero] at k
          have h8 : ((rest.map (tr G)).map fun v => v.category).sum ≤ 8 := Nat.le_trans (cat_sum G rest) (by have := hcond.1; omega)
          have hnf : nativeFrameWords "java/lang/System" "arraycopy" 5 ≤ 7 := by decide +kernel
          refine q_copyl (f := h_l h a0) (g := h_l h a) (ty := .long) (n0 := n0) (n1 := n1) hx hb (hml.trans hL.1.1.symm) hown (hts _ (gt_in _ hc.1 hc.2)) (hts _ (gt_in 436 (by decide +kernel) rfl)) (hts _ (gt_in 435 (by decide +kernel) rfl)) (hts _ (gt_in 180 (by decide +kernel) rfl)) hS (hW.at hs0) (hW.at hs1) (hK.1.2 3 _ rfl).1 (hK.1.2 3 _ rfl).1 rfl (Ax_ad G a) hcond.2.1 hcond.2.2.1 hcond.2.2.2.1 hcond.2.2.2.2.1 hcond.2.2.2.2.2 (fun j hj => rfl) hfr (by omega) hd fun H1 locs1 e1 z oq hS1 => ?_
          refine k H1 locs1 rls (hW.put hs1 z oq ?_ rfl rfl rfl (fun c' hc => ⟨rfl, upr_ne _ _ hc, rfl⟩)) hS1 hL
          show H1[G.1 + a]? = some (vp_cell (G.2.2.2.2.2 .long) (n1, .inr (.inl (h_l (w_rl h a _) a))))
          rw [show ∀ g, h_l (w_rl h a g) a = g from fun g => upr_row _ _ _]
          exact e1
        · cases hs
      · cases hs
    · cases hs
  · cases hc
def s_mmax : PSem := fun i pc ls st h => match st with
  | .int y :: .int x :: rest => if rest.length ≤ 4 then some (pc + 3, ls, .int (if x < y then y else x) :: rest, h) else none
  | _ => none
def c_mmax : PChk := fun o _ cc pc i => match decode cc pc with
  | .ok (.invokestatic n, 3) => decide (lw_tbl[p_b i]? = some (.methodLink (cN o) n Lib.Math.max.name)) && goodWord (.methodLink (cN o) n Lib.Math.max.name)
  | _ => false
theorem z_mmax : SoundP c_mmax s_mmax := by
  intro G p l e R s m args below meth c Q o ini cc nL i pc pls pst h r H locs cells slots rls F hc hs hW hS hL hcl hsl k
  obtain ⟨hx, hb, hml, hown, hts, hK, -, hfr, hlo, -⟩ := F
  unfold c_mmax at hc
  split at hc
  next n hd =>
    simp only [Bool.and_eq_true, decide_eq_true_eq] at hc
    unfold s_mmax at hs
    split at hs
    next y x rest =>
      split at hs
      next hr =>
        cases hs
        simp only [Nat.sub_self, Nat.add_zero] at k hcl hsl
        have h8 : ((rest.map (tr G)).map fun v => v.category).sum ≤ 8 := Nat.le_trans (cat_sum G rest) (by omega)
        exact va_mmax hx hb (hml.trans hL.1.1.symm) hown (hts _ (gt_in _ hc.1 hc.2)) (hts _ (gt_in 428 (by decide +kernel) rfl)) (hts _ (gt_in 179 (by decide +kernel) rfl)) (hts _ (gt_in 429 (by decide +kernel) rfl)) hfr (by omega) hcl hsl hd (k H locs rls hW hS hL)
      · cases hs
    · cases hs
  · cases hc
def s_mmin : PSem := fun i pc ls st h => match st with
  | .int y :: .int x :: rest => if rest.length ≤ 4 then some (pc + 3, ls, .int (if y < x then y else x) :: rest, h) else none
  | _ => none
def c_mmin : PChk := fun o _ cc pc i => match decode cc pc with
  | .ok (.invokestatic n, 3) => decide (lw_tbl[p_b i]? = some (.methodLink (cN o) n Lib.Math.min.name)) && goodWord (.methodLink (cN o) n Lib.Math.min.name)
  | _ => false
theorem z_mmin : SoundP c_mmin s_mmin := by
  intro G p l e R s m args below meth c Q o ini cc nL i pc pls pst h r H locs cells slots rls F hc hs hW hS hL hcl hsl k
  obtain ⟨hx, hb, hml, hown, hts, hK, -, hfr, hlo, -⟩ := F
  unfold c_mmin at hc
  split at hc
  next n hd =>
    simp only [Bool.and_eq_true, decide_eq_true_eq] at hc
    unfold s_mmin at hs
    split at hs
    next y x rest =>
      split at hs
      next hr =>
        cases hs
        simp only [Nat.sub_self, Nat.add_zero] at k hcl hsl
        have h8 : ((rest.map (tr G)).map fun v => v.category).sum ≤ 8 := Nat.le_trans (cat_sum G rest) (by omega)
        exact va_mmin hx hb (hml.trans hL.1.1.symm) hown (hts _ (gt_in _ hc.1 hc.2)) (hts _ (gt_in 511 (by decide +kernel) rfl)) (hts _ (gt_in 179 (by decide +kernel) rfl)) (hts _ (gt_in 512 (by decide +kernel) rfl)) hfr (by omega) hcl hsl hd (k H locs rls hW hS hL)
      · cases hs
    · cases hs
  · cases hc
end
section
/-! THE PURE MACHINE: its runs -/
def s_nop : PSem := fun _ _ _ _ _ => none
def c_nop : PChk := fun _ _ _ _ _ => true
theorem z_nop : SoundP c_nop s_nop := by
  intro G p l e R s m args below meth c Q o ini cc nL i pc pls pst h r H locs cells slots rls F hc hs
  cases hs
def HS1 : List (PChk × PSem) := [(c_nop, s_nop), (c_iadd, s_iadd), (c_isub, s_isub), (c_imul, s_imul), (c_iand, s_iand), (c_ior, s_ior), (c_ixor, s_ixor), (c_ishl, s_ishl), (c_ishr, s_ishr), (c_iushr, s_iushr), (c_idiv, s_idiv), (c_irem, s_irem), (c_ladd, s_ladd), (c_lsub, s_lsub), (c_lmul, s_lmul), (c_land, s_land), (c_lor, s_lor), (c_lxor, s_lxor), (c_ldiv, s_ldiv), (c_lrem, s_lrem), (c_lshl, s_lshl), (c_lushr, s_lushr), (c_lcmp, s_lcmp), (c_ineg, s_ineg), (c_i2l, s_i2l), (c_l2i, s_l2i), (c_i2b, s_i2b), (c_dup, s_dup), (c_pop, s_pop), (c_pop2, s_pop2), (c_dup22, s_dup22), (c_dup211, s_dup211), (c_ipush, s_ipush), (c_lpush, s_lpush), (c_ldc, s_ldc), (c_ldc2, s_ldc2), (c_iload, s_iload), (c_aload, s_aload), (c_lload, s_lload), (c_aloadS, s_aloadS), (c_istore, s_istore), (c_astore, s_astore), (c_lstore, s_lstore), (c_iinc, s_iinc), (c_if_eq, s_if_eq), (c_icmp_eq, s_icmp_eq), (c_if_ne, s_if_ne), (c_icmp_ne, s_icmp_ne), (c_if_lt, s_if_lt), (c_icmp_lt, s_icmp_lt), (c_if_ge, s_if_ge), (c_icmp_ge, s_icmp_ge), (c_if_gt, s_if_gt), (c_icmp_gt, s_icmp_gt), (c_if_le, s_if_le), (c_icmp_le, s_icmp_le), (c_goto, s_goto), (c_nonnull, s_nonnull), (c_iaload, s_iaload), (c_laload, s_laload), (c_baload, s_baload), (c_alen, s_alen), (c_iastore, s_iastore), (c_lastore, s_lastore), (c_bastore, s_bastore), (c_getf, s_getf), (c_getfN, s_getf), (c_putf, s_putf), (c_putfN, s_putf), (c_putfF, s_putf), (c_new, s_new), (c_newI, s_newI), (c_newB, s_newB), (c_newZ, s_newZ), (c_newL, s_newL), (c_sload, s_sload), (c_slen, s_slen), (c_switch, s_switch), (c_oinit, s_oinit), (c_copyI, s_copyI), (c_copyB, s_copyB), (c_copyL, s_copyL), (c_mmax, s_mmax), (c_mmin, s_mmin)]
abbrev HS : List (PChk × PSem) := HS1
theorem fmc {α : Type} {P : α → Prop} {a : α} {l : List α} (h : P a) (t : ∀ x ∈ l, P x) : ∀ x ∈ a :: l, P x := List.forall_mem_cons.mpr ⟨h, t⟩
theorem fmn {α : Type} {P : α → Prop} : ∀ x ∈ ([] : List α), P x := fun _ h => absurd h List.not_mem_nil
theorem HS_ok : ∀ q ∈ HS, SoundP q.1 q.2 := fmc z_nop <| fmc z_iadd <| fmc z_isub <| fmc z_imul <| fmc z_iand <| fmc z_ior <| fmc z_ixor <| fmc z_ishl <| fmc z_ishr <| fmc z_iushr <| fmc z_idiv <| fmc z_irem <| fmc z_ladd <| fmc z_lsub <| fmc z_lmul <| fmc z_land <| fmc z_lor <| fmc z_lxor <| fmc z_ldiv <| fmc z_lrem <| fmc z_lshl <| fmc z_lushr <| fmc z_lcmp <| fmc z_ineg <| fmc z_i2l <| fmc z_l2i <| fmc z_i2b <| fmc z_dup <| fmc z_pop <| fmc z_pop2 <| fmc z_dup22 <| fmc z_dup211 <| fmc z_ipush <| fmc z_lpush <| fmc z_ldc <| fmc z_ldc2 <| fmc z_iload <| fmc z_aload <| fmc z_lload <| fmc z_aloadS <| fmc z_istore <| fmc z_astore <| fmc z_lstore <| fmc z_iinc <| fmc z_if_eq <| fmc z_icmp_eq <| fmc z_if_ne <| fmc z_icmp_ne <| fmc z_if_lt <| fmc z_icmp_lt <| fmc z_if_ge <| fmc z_icmp_ge <| fmc z_if_gt <| fmc z_icmp_gt <| fmc z_if_le <| fmc z_icmp_le <| fmc z_goto <| fmc z_nonnull <| fmc z_iaload <| fmc z_laload <| fmc z_baload <| fmc z_alen <| fmc z_iastore <| fmc z_lastore <| fmc z_bastore <| fmc z_getf <| fmc z_getfN <| fmc z_putf <| fmc z_putfN <| fmc z_putfF <| fmc z_new <| fmc z_newI <| fmc z_newB <| fmc z_newZ <| fmc z_newL <| fmc z_sload <| fmc z_slen <| fmc z_switch <| fmc z_oinit <| fmc z_copyI <| fmc z_copyB <| fmc z_copyL <| fmc z_mmax <| fmc z_mmin fmn
/-- a method: its class, name, bytes, locals, what it answers, kind (0 static, 1 of an object, 2 constructor), how many parameters, places of its words, its rows by pc -/
abbrev PM : Type := Nat × MethodName × ByteArray × Nat × Option FieldType × Nat × Nat × (Nat × Nat × Nat × Nat) × List PI
abbrev m_o (M : PM) : Nat := M.1
abbrev m_y (M : PM) : MethodName := M.2.1
abbrev m_b (M : PM) : ByteArray := M.2.2.1
abbrev m_L (M : PM) : Nat := M.2.2.2.1
abbrev m_ret (M : PM) : Option FieldType := M.2.2.2.2.1
abbrev m_kd (M : PM) : Nat := M.2.2.2.2.2.1
abbrev m_np (M : PM) : Nat := M.2.2.2.2.2.2.1
abbrev m_pl (M : PM) : Nat × Nat × Nat × Nat := M.2.2.2.2.2.2.2.1
abbrev m_code (M : PM) : List PI := M.2.2.2.2.2.2.2.2
def m_ini (M : PM) : Bool := (m_y M).name == "<init>"
abbrev PCall : Type := Nat → List Value → PH → Option (Option Value × PH)
abbrev PRes : Type := Option (Option Value × PH)
def px_ret (M : PM) (i : PI) (st : List Value) (h : PH) : PRes := match i.1, st with
  | 100, [.int v] => (match m_ret M with
    | some ty => if narrow ty (.int v) = .int v then some (some (.int v), h) else none
    | none => none)
  | 101, [.long v] => some (some (.long v), h)
  | 102, [.ref a] => some (some (.ref a), h)
  | 103, [] => some (none, h)
  | _, _ => none
def recvOK (kd o : Nat) (h : PH) (args : List Value) : Bool := match kd, args with
  | 0, _ => true
  | 1, .ref b :: _ => h_sh h b == some (0, o)
  | 2, .ref _ :: _ => true
  | _, _ => false
def h_le (h h' : PH) : Prop := h_ct h ≤ h_ct h' ∧ h_sl h ≤ h_sl h'
def h_leB (h h' : PH) : Bool := decide (h_ct h ≤ h_ct h' ∧ h_sl h ≤ h_sl h')
/-- a run within one method, of n steps at most -/
def px_exec (mOf : Nat → PM) (call : PCall) (M : PM) : Nat → Nat → List Value → List Value → PH → PRes
  | 0, _, _, _, _ => none
  | n + 1, pc, ls, st, h =>
    match (m_code M)[pc]? with
    | none => none
    | some i =>
      if i.1 < 100 then
        match HS[i.1]? with
        | none => none
        | some q => match q.2 i pc ls st h with
          | none => none
          | some r => if h_leB h r.2.2.2 = true then px_exec mOf call M n r.1 r.2.1 r.2.2.1 r.2.2.2 else none
      else if i.1 = 110 then
        if p_c i ≤ st.length ∧ (st.drop (p_c i)).length ≤ 4 ∧ recvOK (m_kd (mOf (p_b i))) (m_o (mOf (p_b i))) h (st.take (p_c i)).reverse = true then
          match call (p_b i) (st.take (p_c i)).reverse h with
          | none => none
          | some r => if h_leB h r.2 = true then px_exec mOf call M n (pc + 3) ls (r.1.toList ++ st.drop (p_c i)) r.2 else none
        else none
      else px_ret M i st h
def ent1 (v : Value) : List Value := if v.category = 2 then [v, .retAddr 2] else [v]
def ents (nL : Nat) (args : List Value) : List Value := args.flatMap ent1 ++ List.replicate (nL - (args.flatMap ent1).length) (.retAddr 0)
/-- a call, at a depth of d at most -/
def px_run (mOf : Nat → PM) : Nat → Nat → PCall
  | 0, _ => fun _ _ _ => none
  | d + 1, n => fun id args h => if m_o (mOf id) = 13 ∨ m_L (mOf id) < (args.flatMap ent1).length then none else px_exec mOf (px_run mOf d n) (mOf id) n 0 (ents (m_L (mOf id)) args) [] h
theorem h_leB_le {h h' : PH} (q : h_leB h h' = true) : h_le h h' := of_decide_eq_true (p := h_ct h ≤ h_ct h' ∧ h_sl h ≤ h_sl h') q
theorem px_mono (mOf : Nat → PM) (call : PCall) (M : PM) : ∀ (n pc : Nat) (ls st : List Value) (h : PH) (r : Option Value × PH), px_exec mOf call M n pc ls st h = some r → h_le h r.2 := by
  intro n
  induction n with
  | zero => intro pc ls st h r he; cases he
  | succ n ih =>
    intro pc ls st h r he
    unfold px_exec at he
    split at he
    · cases he
    next i hi =>
      split at he
      · split at he
        · cases he
        next q hq =>
          split at he
          · cases he
          next r1 hr =>
            split at he
            next hle =>
              have h1 := h_leB_le hle
              have h2 := ih _ _ _ _ _ he
              exact ⟨Nat.le_trans h1.1 h2.1, Nat.le_trans h1.2 h2.2⟩
            · cases he
      · split at he
        · split at he
          · split at he
            · cases he
            next r1 hr =>
              split at he
              next hle =>
                have h1 := h_leB_le hle
                have h2 := ih _ _ _ _ _ he
                exact ⟨Nat.le_trans h1.1 h2.1, Nat.le_trans h1.2 h2.2⟩
              · cases he
          · cases he
        · unfold px_ret at he
          split at he
          · split at he
            · split at he
              · cases he; exact ⟨Nat.le_refl _, Nat.le_refl _⟩
              · cases he
            · cases he
          · cases he; exact ⟨Nat.le_refl _, Nat.le_refl _⟩
          · cases he; exact ⟨Nat.le_refl _, Nat.le_refl _⟩
          · cases he; exact ⟨Nat.le_refl _, Nat.le_refl _⟩
          · cases he
end
section
/-! THE PURE MACHINE: what it runs, the real one runs -/
def c_call (mOf : Nat → PM) (mlT mlN : List (Nat × Nat × Nat)) (M : PM) (pc : Nat) (i : PI) : Bool := match decode (m_b M) pc with
  | .ok (.invokestatic n, 3) => m_kd (mOf (p_b i)) == 0 && p_c i == m_np (mOf (p_b i)) && (if p_a i = 0 then mlT[p_e i]? == some (m_o M, n, p_b i) else mlN[p_e i]? == some (m_o M, n, p_b i))
  | .ok (.invokevirtual n, 3) => m_kd (mOf (p_b i)) == 1 && p_c i == m_np (mOf (p_b i)) + 1 && (if p_a i = 0 then mlT[p_e i]? == some (m_o M, n, p_b i) else mlN[p_e i]? == some (m_o M, n, p_b i))
  | .ok (.invokespecial n, 3) => m_kd (mOf (p_b i)) == 2 && p_c i == m_np (mOf (p_b i)) + 1 && (if p_a i = 0 then mlT[p_e i]? == some (m_o M, n, p_b i) else mlN[p_e i]? == some (m_o M, n, p_b i))
  | _ => false
def c_ret (M : PM) (pc : Nat) (i : PI) : Bool := match decode (m_b M) pc, i.1 with
  | .ok (.ireturn, 1), 100 => true
  | .ok (.lreturn, 1), 101 => m_ret M == some .long
  | .ok (.areturn, 1), 102 => (match m_ret M with
    | some (.object _) => true
    | some (.array _) => true
    | _ => false)
  | .ok (.return_, 1), 103 => m_ret M == none
  | _, _ => false
def chkI (mOf : Nat → PM) (mlT mlN : List (Nat × Nat × Nat)) (M : PM) (pc : Nat) (i : PI) : Bool :=
  if i.1 < 100 then (match HS[i.1]? with
    | some q => q.1 (m_o M) (m_ini M) (m_b M) pc i
    | none => false) else if i.1 = 110 then c_call mOf mlT mlN M pc i else c_ret M pc i
def codeOK (mOf : Nat → PM) (mlT mlN : List (Nat × Nat × Nat)) (M : PM) : Prop := ∀ (pc : Nat) (i : PI), (m_code M)[pc]? = some i → chkI mOf mlT mlN M pc i = true
def wordsOK (M : PM) : Prop := (m_y M).cls = cN (m_o M) ∧ plainName (m_y M).cls = true ∧ Cond.code (m_y M) (m_b M) (m_L M) (m_ret M) ∈ gt ∧ Cond.initialized (m_y M).cls ∈ gt ∧ (m_kd M = 0 → Cond.static (m_y M) ∈ gt) ∧ (m_kd M = 1 → Cond.instanceMethod (m_y M) ∈ gt ∧ Cond.selects (m_y M).cls (m_y M) (m_y M) ∈ gt ∧ ∃ (T : u_T) (N : Nat), cls[m_o M]? = some ((m_y M).cls, T, N)) ∧ (m_kd M = 2 → Cond.instanceMethod (m_y M) ∈ gt ∧ (m_y M).name = "<init>" ∧ m_ret M = none) ∧ (m_y M).cls ≠ "java/lang/invoke/MethodHandle" ∧ (m_y M).cls ≠ "java/lang/invoke/VarHandle" ∧ (parseMethodDescriptor (m_y M).desc).map (fun d => d.parameters.length) = some (m_np M) ∧ m_L M ≤ 80
def TOK (mOf : Nat → PM) (mlT mlN : List (Nat × Nat × Nat)) : Prop := (∀ id, m_code (mOf id) ≠ [] → wordsOK (mOf id) ∧ codeOK mOf mlT mlN (mOf id)) ∧ (∀ q ∈ mlT, Cond.methodLink (cN q.1) q.2.1 (m_y (mOf q.2.2)) ∈ gt) ∧ (∀ q ∈ mlN, Cond.methodLinkNest (cN q.1) q.2.1 (m_y (mOf q.2.2)) "OneWaySpell" ∈ nt)
def rmOf (d mc ms : Nat) : Room := { frames := d + 1, cells := mc, slots := ms, locals := 60 + 100 * d }
def PcP (G : Gx) (args : List Value) (h : PH) : Array Value → State → Prop := va_Pc (args.map (tr G)) (fun U => Wh G h U.heap ∧ Ks G U)
def Qr (G : Gx) (r : Option Value) (h' : PH) : Array Value → State → Outcome → State → Prop := fun _ st oc t => oc = .returned (r.map (tr G)) ∧ Wh G h' t.heap ∧ va_F (Ax G) st t
def m_ws (M : PM) : List Cond := Cond.code (m_y M) (m_b M) (m_L M) (m_ret M) :: gt
def MetP (G : Gx) (l : Launch) (M : PM) (d : Nat) (args : List Value) (h : PH) (r : Option Value × PH) : Prop := Met l (m_y M) (m_ws M) (rmOf d (h_ct r.2 - h_ct h) (h_sl r.2 - h_sl h)) (PcP G args h) (Qr G r.1 r.2) (h_ct r.2 - h_ct h) (h_sl r.2 - h_sl h) (Ax G)
theorem PcP_blind (G : Gx) (args : List Value) (h : PH) : FrameBlind (PcP G args h) := fun _ _ _ _ q => ⟨q.1, q.2.1, q.2.2.calling⟩
section QCALL
variable {p : Program} {l : Launch} {e : Env} {R : Room} {s : State} {m : MethodId} {args : Array Value} {below : List Frame} {meth : Method} {c : Code} {H : Heap} {locs : List Loc} {cells slots : Nat} {Q : State → Prop}
theorem q_call {G : Gx} {r : Option Value} {h' : PH} {a : Array Value} {mc ms pc : Nat} {ls : Array Slot} {st0 rest : List Value} (hr : va_Run p l e R s m args below meth c H locs cells slots mc ms (F0 m pc ls st0) rest (Qr G r h' a) (Ax G)) (hS : va_S (Ax G) s.heap H locs)
    (kk : ∀ (H1 : Heap) (locs1 : List Loc), Wh G h' H1 → va_S (Ax G) s.heap H1 locs1 → W p l e R s m args below meth c H1 locs1 (cells + mc) (slots + ms) Q (F0 m (pc + 3) ls ((r.map (tr G)).toList ++ rest))) : W p l e R s m args below meth c H locs cells slots Q (F0 m pc ls st0) := by
  intro T hT X
  obtain ⟨v, st₀, t, T', L, h0, X', hL, e1, e2, ⟨hv, hb, hz, hk⟩, st⟩ := hr T hT X
  have hv : v = r.map (tr G) := by injection hv
  subst hv
  rw [h0] at hz hk
  obtain ⟨t2, a1, b1⟩ := kk T'.heap (locs ++ L) (by rw [e1]; exact hb)
    ⟨Nat.le_trans hS.1 (by rw [e1]; exact hz), fun q h1 h2 => by rw [e1, hk q (Nat.lt_of_lt_of_le h1 hS.1) h2]; exact hS.2.1 q h1 h2, fun q hq => by
      rcases List.mem_append.mp hq with h | h
      · exact hS.2.2 q h
      · exact hL q h⟩ T' rfl X'
  exact ⟨t2, st t2 a1, b1⟩
/-- one call: by the contract of the method that it goes to -/
theorem call_sound {G : Gx} {mOf : Nat → PM} {mlT mlN : List (Nat × Nat × Nat)} (hT : TOK mOf mlT mlN) {M : PM} {d pc : Nat} {i : PI} {pst : List Value} {h : PH} {r : Option Value × PH} {rls : Array Slot} (F : Fx G p s m args meth c R (m_o M) (m_ini M) (m_b M) (m_L M)) (hR : d + 2 ≤ R.frames ∧ 60 + 100 * (d + 1) ≤ R.locals)
    (hc : c_call mOf mlT mlN M pc i = true) (hne : m_code (mOf (p_b i)) ≠ []) (h1 : p_c i ≤ pst.length) (h2 : (pst.drop (p_c i)).length ≤ 4) (h3 : recvOK (m_kd (mOf (p_b i))) (m_o (mOf (p_b i))) h (pst.take (p_c i)).reverse = true) (hM : MetP G l (mOf (p_b i)) d (pst.take (p_c i)).reverse h r)
    (hW : Wh G h H) (hS : va_S (Ax G) s.heap H locs) (hsz : rls.size = m_L M) (hcl : cells + (h_ct r.2 - h_ct h) ≤ R.cells) (hsl : slots + (h_sl r.2 - h_sl h) ≤ R.slots)
    (kk : ∀ (H1 : Heap) (locs1 : List Loc), Wh G r.2 H1 → va_S (Ax G) s.heap H1 locs1 → W p l e R s m args below meth c H1 locs1 (cells + (h_ct r.2 - h_ct h)) (slots + (h_sl r.2 - h_sl h)) Q (F0 m (pc + 3) rls ((r.1.toList ++ pst.drop (p_c i)).map (tr G)))) : W p l e R s m args below meth c H locs cells slots Q (F0 m pc rls (pst.map (tr G))) := by
  obtain ⟨hx, hb, hml, hown, hts, hK, -⟩ := F
  obtain ⟨w1, w2, w3, w4, w5, w6, w7, w8, w9, w10, w11⟩ := (hT.1 _ hne).1
  have hG : GoodIn gt (m_ws (mOf (p_b i))) := fun w hw => by
    rcases List.mem_cons.mp hw with rfl | hw
    · exact ⟨w3, gt_good w3⟩
    · exact ⟨hw, gt_good hw⟩
  have hst : pst.map (tr G) = ((pst.take (p_c i)).reverse.map (tr G)).reverse ++ (pst.drop (p_c i)).map (tr G) := by
    rw [← List.map_reverse, List.reverse_reverse, ← List.map_append, List.take_append_drop]
  have hlen : ((pst.take (p_c i)).reverse).length = p_c i := by simp; omega
  generalize has : (pst.take (p_c i)).reverse = as at hM h3 hst hlen
  have h8 : (((pst.drop (p_c i)).map (tr G)).map fun v => v.category).sum ≤ 8 := Nat.le_trans (cat_sum G _) (by omega)
  have hroom : (rmOf d (h_ct r.2 - h_ct h) (h_sl r.2 - h_sl h)).frames + 1 ≤ R.frames ∧ 8 + (m_L (mOf (p_b i)) + 11) + (rmOf d (h_ct r.2 - h_ct h) (h_sl r.2 - h_sl h)).locals ≤ R.locals := ⟨hR.1, by show 8 + (_ + 11) + (60 + 100 * d) ≤ _; omega⟩
  have hpre : ∀ U : State, U.heap = H → s.WarmedH U.vm → PcP G as h (as.map (tr G)).toArray U := fun U hU hw => ⟨rfl, by rw [hU]; exact hW, hK.warm hw⟩
  have kk : ∀ (H1 : Heap) (locs1 : List Loc), Wh G r.2 H1 → va_S (Ax G) s.heap H1 locs1 → W p l e R s m args below meth c H1 locs1 (cells + (h_ct r.2 - h_ct h)) (slots + (h_sl r.2 - h_sl h)) Q (F0 m (pc + 3) rls ((r.1.map (tr G)).toList ++ (pst.drop (p_c i)).map (tr G))) := fun H1 l1 a1 a2 => by
    have := kk H1 l1 a1 a2
    rw [List.map_append] at this
    cases hr1 : r.1 <;> rw [hr1] at this <;> exact this
  unfold c_call at hc
  split at hc
  next n hd =>
    simp only [Bool.and_eq_true, beq_iff_eq] at hc
    obtain ⟨⟨g1, g2⟩, g3⟩ := hc
    have hn : (as.map (tr G)).length = m_np (mOf (p_b i)) := by rw [List.length_map, hlen, g2]
    by_cases hz : p_a i = 0
    · rw [if_pos hz] at g3
      have hl := hT.2.1 _ (List.mem_of_getElem? (beq_iff_eq.mp g3))
      refine q_call (va_runS (nL := m_L M) (As := as.map (tr G)) (rest := (pst.drop (p_c i)).map (tr G)) (Ts := gt) ⟨hx, hb, hml, hown, hts⟩ hM ⟨callB_of (ws' := gt) (m_np (mOf (p_b i))) hts hG rfl rfl rfl (hts _ w4) (hts _ hl) ⟨w8, w9, w10⟩ hroom, hts _ (w5 g1)⟩ ⟨PcP_blind G _ _, hpre⟩ rfl hn hsz hst (lv_room h8) hd ⟨hcl, hsl⟩) hS kk
    · rw [if_neg hz] at g3
      have hl := hT.2.2 _ (List.mem_of_getElem? (beq_iff_eq.mp g3))
      refine q_call (va_runSN (nL := m_L M) (As := as.map (tr G)) (rest := (pst.drop (p_c i)).map (tr G)) (Ts := gt) ⟨hx, hb, hml, hown, hts⟩ hM ⟨va_cnB (ws' := gt) (m_np (mOf (p_b i))) hts hG rfl rfl rfl (hK.2 _ hl) (hts _ w4) ⟨w8, w9, w10⟩ hroom, hts _ (w5 g1), trivial⟩ ⟨PcP_blind G _ _, hpre⟩ rfl hn hsz hst (lv_room h8) hd ⟨hcl, hsl⟩) hS kk
  next n hd =>
    simp only [Bool.and_eq_true, beq_iff_eq] at hc
    obtain ⟨⟨g1, g2⟩, g3⟩ := hc
    rw [g1] at h3
    obtain ⟨w61, w62, T, N, w63⟩ := w6 g1
    match as, hM, h3, hst, hlen, hpre, has with
    | .ref b :: as, hM, h3, hst, hlen, hpre, has =>
      have hsh : h_sh h b = some (0, m_o (mOf (p_b i))) := beq_iff_eq.mp h3
      have hn : (as.map (tr G)).length = m_np (mOf (p_b i)) := by rw [List.length_map]; simp at hlen; omega
      have hst' : pst.map (tr G) = (as.map (tr G)).reverse ++ .ref (G.1 + b) :: (pst.drop (p_c i)).map (tr G) := by rw [hst]; simp [tr_ref]
      have hrecv := va_recv hK.1 (va_P1 (hW.at hsh)) w63 (ci := m_o (mOf (p_b i))) (q0 := 0) (fs := (List.range (fN (m_o (mOf (p_b i))))).map (fval G h (m_o (mOf (p_b i))) b)) rfl
      by_cases hz : p_a i = 0
      · rw [if_pos hz] at g3
        have hl := hT.2.1 _ (List.mem_of_getElem? (beq_iff_eq.mp g3))
        refine q_call (va_runV (nL := m_L M) (C := (m_y (mOf (p_b i))).cls) (b := G.1 + b) (As := as.map (tr G)) (rest := (pst.drop (p_c i)).map (tr G)) (Ts := gt) ⟨hx, hb, hml, hown, hts⟩ hM ⟨callB_of (ws' := gt) (m_np (mOf (p_b i))) hts hG rfl rfl rfl (hts _ w4) (hts _ hl) ⟨w8, w9, w10⟩ hroom, hts _ w61, hts _ w62⟩ ⟨PcP_blind G _ _, hrecv, hpre⟩ rfl hn hsz hst' (lv_room h8) hd ⟨hcl, hsl⟩) hS kk
      · rw [if_neg hz] at g3
        have hl := hT.2.2 _ (List.mem_of_getElem? (beq_iff_eq.mp g3))
        refine q_call (va_runVN (nL := m_L M) (C := (m_y (mOf (p_b i))).cls) (b := G.1 + b) (As := as.map (tr G)) (rest := (pst.drop (p_c i)).map (tr G)) (Ts := gt) ⟨hx, hb, hml, hown, hts⟩ hM ⟨va_cnB (ws' := gt) (m_np (mOf (p_b i))) hts hG rfl rfl rfl (hK.2 _ hl) (hts _ w4) ⟨w8, w9, w10⟩ hroom, hts _ w61, hts _ w62⟩ ⟨PcP_blind G _ _, hrecv, hpre⟩ rfl hn hsz hst' (lv_room h8) hd ⟨hcl, hsl⟩) hS kk
    | [], _, h3, _, _, _, _ => cases h3
    | .int _ :: _, _, h3, _, _, _, _ => cases h3
    | .long _ :: _, _, h3, _, _, _, _ => cases h3
    | .float _ :: _, _, h3, _, _, _, _ => cases h3
    | .double _ :: _, _, h3, _, _, _, _ => cases h3
    | .null :: _, _, h3, _, _, _, _ => cases h3
    | .retAddr _ :: _, _, h3, _, _, _, _ => cases h3
  next n hd =>
    simp only [Bool.and_eq_true, beq_iff_eq] at hc
    obtain ⟨⟨g1, g2⟩, g3⟩ := hc
    rw [g1] at h3
    obtain ⟨w71, w72, w73⟩ := w7 g1
    match as, hM, h3, hst, hlen, hpre, has with
    | .ref b :: as, hM, h3, hst, hlen, hpre, has =>
      have hn : (as.map (tr G)).length = m_np (mOf (p_b i)) := by rw [List.length_map]; simp at hlen; omega
      have hst' : pst.map (tr G) = (as.map (tr G)).reverse ++ .ref (G.1 + b) :: (pst.drop (p_c i)).map (tr G) := by rw [hst]; simp [tr_ref]
      have hw' : m_ws (mOf (p_b i)) = Cond.code (m_y (mOf (p_b i))) (m_b (mOf (p_b i))) (m_L (mOf (p_b i))) none :: gt := by rw [← w73]; rfl
      by_cases hz : p_a i = 0
      · rw [if_pos hz] at g3
        have hl := hT.2.1 _ (List.mem_of_getElem? (beq_iff_eq.mp g3))
        refine q_call (va_runI (nL := m_L M) (b := G.1 + b) (As := as.map (tr G)) (rest := (pst.drop (p_c i)).map (tr G)) (Ts := gt) ⟨hx, hb, hml, hown, hts⟩ hM ⟨callB_of (ws' := gt) (m_np (mOf (p_b i))) hts hG hw' rfl rfl (hts _ w4) (hts _ hl) ⟨w8, w9, w10⟩ hroom, w72, hts _ w71⟩ ⟨PcP_blind G _ _, hpre⟩ rfl hn hsz hst' (lv_room h8) hd ⟨hcl, hsl⟩) hS kk
      · rw [if_neg hz] at g3
        have hl := hT.2.2 _ (List.mem_of_getElem? (beq_iff_eq.mp g3))
        refine q_call (va_runIN (nL := m_L M) (b := G.1 + b) (As := as.map (tr G)) (rest := (pst.drop (p_c i)).map (tr G)) (Ts := gt) ⟨hx, hb, hml, hown, hts⟩ hM ⟨va_cnB (ws' := gt) (m_np (mOf (p_b i))) hts hG hw' rfl rfl (hK.2 _ hl) (hts _ w4) ⟨w8, w9, w10⟩ hroom, w72, hts _ w71⟩ ⟨PcP_blind G _ _, hpre⟩ rfl hn hsz hst' (lv_room h8) hd ⟨hcl, hsl⟩) hS kk
    | [], _, h3, _, _, _, _ => cases h3
    | .int _ :: _, _, h3, _, _, _, _ => cases h3
    | .long _ :: _, _, h3, _, _, _, _ => cases h3
    | .float _ :: _, _, h3, _, _, _, _ => cases h3
    | .double _ :: _, _, h3, _, _, _, _ => cases h3
    | .null :: _, _, h3, _, _, _, _ => cases h3
    | .retAddr _ :: _, _, h3, _, _, _, _ => cases h3
  · cases hc
end QCALL
end
section
/-! THE PURE MACHINE: whole runs -/
/-- where a method ends: the instruction, and what it answers -/
def RetAt (M : PM) (pc : Nat) (r : Option Value) : Prop := match r with
  | some (.int v) => decode (m_b M) pc = .ok (.ireturn, 1) ∧ ∃ ty, m_ret M = some ty ∧ narrow ty (.int v) = .int v
  | some (.long _) => decode (m_b M) pc = .ok (.lreturn, 1) ∧ m_ret M = some .long
  | some (.ref _) => decode (m_b M) pc = .ok (.areturn, 1) ∧ ∃ ty, m_ret M = some ty ∧ ((∃ n, ty = .object n) ∨ ∃ t, ty = .array t)
  | none => decode (m_b M) pc = .ok (.return_, 1) ∧ m_ret M = none
  | _ => False
theorem ret_at {M : PM} {pc : Nat} {i : PI} {st : List Value} {h : PH} {r : Option Value × PH} (hc : c_ret M pc i = true) (he : px_ret M i st h = some r) : RetAt M pc r.1 ∧ r.2 = h ∧ st = r.1.toList := by
  unfold px_ret at he
  split at he
  next v hi =>
    unfold c_ret at hc
    rw [hi] at hc
    split at hc
    next hd _ =>
      split at he
      next ty hty =>
        split at he
        next hn => cases he; exact ⟨⟨hd, ty, hty, hn⟩, rfl, rfl⟩
        · cases he
      · cases he
    next h1 h2 => cases h2
    next h1 h2 => cases h2
    next h1 h2 => cases h2
    · cases hc
  next v hi =>
    unfold c_ret at hc
    rw [hi] at hc
    split at hc
    next h1 h2 => cases h2
    next hd _ => cases he; exact ⟨⟨hd, beq_iff_eq.mp hc⟩, rfl, rfl⟩
    next h1 h2 => cases h2
    next h1 h2 => cases h2
    · cases hc
  next a hi =>
    unfold c_ret at hc
    rw [hi] at hc
    split at hc
    next h1 h2 => cases h2
    next h1 h2 => cases h2
    next hd _ =>
      cases he
      split at hc
      next n hn => exact ⟨⟨hd, _, hn, Or.inl ⟨_, rfl⟩⟩, rfl, rfl⟩
      next n hn => exact ⟨⟨hd, _, hn, Or.inr ⟨_, rfl⟩⟩, rfl, rfl⟩
      · cases hc
    next h1 h2 => cases h2
    · cases hc
  next hi =>
    unfold c_ret at hc
    rw [hi] at hc
    split at hc
    next h1 h2 => cases h2
    next h1 h2 => cases h2
    next h1 h2 => cases h2
    next hd _ => cases he; exact ⟨⟨hd, beq_iff_eq.mp hc⟩, rfl, rfl⟩
    · cases hc
  · cases he
theorem exec_sound {G : Gx} {p : Program} {l : Launch} {e : Env} {R : Room} {s : State} {m : MethodId} {args : Array Value} {below : List Frame} {meth : Method} {c : Code} {Q : State → Prop} {mOf : Nat → PM} {mlT mlN : List (Nat × Nat × Nat)} (hT : TOK mOf mlT mlN) {M : PM} (hMc : codeOK mOf mlT mlN M) {d : Nat} {call : PCall}
    (hcall : ∀ id as h r, call id as h = some r → m_code (mOf id) ≠ [] ∧ MetP G l (mOf id) d as h r) (F : Fx G p s m args meth c R (m_o M) (m_ini M) (m_b M) (m_L M)) (hR : d + 2 ≤ R.frames ∧ 60 + 100 * (d + 1) ≤ R.locals) {rE : Option Value × PH} {CE SE : Nat} (hCE : CE ≤ R.cells) (hSE : SE ≤ R.slots)
    (kret : ∀ (H' : Heap) (locs' : List Loc) (rls' : Array Slot) (pc' : Nat), Wh G rE.2 H' → va_S (Ax G) s.heap H' locs' → RetAt M pc' rE.1 → W p l e R s m args below meth c H' locs' CE SE Q (F0 m pc' rls' (rE.1.toList.map (tr G)))) :
    ∀ (n pc : Nat) (pls pst : List Value) (h : PH) (H : Heap) (locs : List Loc) (cells slots : Nat) (rls : Array Slot), px_exec mOf call M n pc pls pst h = some rE → Wh G h H → va_S (Ax G) s.heap H locs → LV G rls (m_L M) pls → cells + (h_ct rE.2 - h_ct h) = CE → slots + (h_sl rE.2 - h_sl h) = SE → W p l e R s m args below meth c H locs cells slots Q (F0 m pc rls (pst.map (tr G))) := by
  intro n
  induction n with
  | zero => intro pc pls pst h H locs cells slots rls he; cases he
  | succ n ih =>
    intro pc pls pst h H locs cells slots rls he hW hS hL e1 e2
    unfold px_exec at he
    split at he
    · cases he
    next i hi =>
      have hck := hMc pc i hi
      unfold chkI at hck
      split at he
      next hlt =>
        rw [if_pos hlt] at hck
        split at he
        · cases he
        next q hq =>
          rw [hq] at hck
          split at he
          · cases he
          next r1 hr =>
            split at he
            next hle =>
              have m1 := h_leB_le hle
              have m2 := px_mono _ _ _ _ _ _ _ _ _ he
              obtain ⟨m1a, m1b⟩ := m1
              obtain ⟨m2a, m2b⟩ := m2
              refine HS_ok q (List.mem_of_getElem? hq) G p l e R s m args below meth c Q (m_o M) (m_ini M) (m_b M) (m_L M) i pc pls pst h r1 H locs cells slots rls F hck hr hW hS hL (by omega) (by omega) ?_
              intro H' locs' rls' w1 w2 w3
              exact ih _ _ _ _ H' locs' _ _ rls' he w1 w2 w3 (by omega) (by omega)
            · cases he
      next hge =>
        rw [if_neg hge] at hck
        split at he
        next h110 =>
          rw [if_pos h110] at hck
          split at he
          next hcond =>
            split at he
            · cases he
            next r1 hr =>
              split at he
              next hle =>
                obtain ⟨m1a, m1b⟩ := h_leB_le hle
                obtain ⟨m2a, m2b⟩ := px_mono _ _ _ _ _ _ _ _ _ he
                obtain ⟨hne, hM⟩ := hcall _ _ _ _ hr
                refine call_sound hT F hR hck hne hcond.1 hcond.2.1 hcond.2.2 hM hW hS hL.1.1 (by omega) (by omega) ?_
                intro H' locs' w1 w2
                exact ih _ _ _ _ H' locs' _ _ rls he w1 w2 hL (by omega) (by omega)
              · cases he
          · cases he
        next hn110 =>
          rw [if_neg hn110] at hck
          obtain ⟨r1, r2, r3⟩ := ret_at hck he
          rw [← r2] at e1 e2
          simp only [Nat.sub_self, Nat.add_zero] at e1 e2
          subst e1
          subst e2
          rw [r3]
          exact kret H locs rls pc (by rw [r2]; exact hW) hS r1
theorem lvs_ents (G : Gx) (nL : Nat) (as : List Value) : ∀ q ∈ lvs G (ents nL as), q ∈ lv_args 0 (as.map (tr G)) := by
  have key : ∀ (as pre : List Value) (k : Nat) (q : Nat × Value), (∃ v, (as.flatMap ent1 ++ List.replicate k (.retAddr 0))[q.1]? = some v ∧ okv (as.flatMap ent1 ++ List.replicate k (.retAddr 0)) q.1 v = true ∧ q.2 = tr G v) → ∀ off, (q.1 + off, q.2) ∈ lv_args off (as.map (tr G)) := by
    intro as
    induction as with
    | nil =>
      intro pre k q ⟨v, h1, h2, h3⟩ off
      simp only [List.flatMap_nil, List.nil_append] at h1
      rw [List.getElem?_replicate] at h1
      split at h1
      · cases h1; cases h2
      · cases h1
    | cons a as ih =>
      intro pre k q ⟨v, h1, h2, h3⟩ off
      obtain ⟨j, w⟩ := q
      dsimp only at h1 h2 h3 ⊢
      rw [List.map_cons]
      unfold lv_args
      rw [List.flatMap_cons, List.append_assoc] at h1 h2
      by_cases hcat : a.category = 2
      · rw [if_pos (show (tr G a).category = 2 by rw [tr_cat]; exact hcat)]
        have hent : ent1 a = [a, .retAddr 2] := if_pos hcat
        rw [hent] at h1 h2
        simp only [List.cons_append, List.nil_append] at h1 h2
        match j with
        | 0 =>
          simp at h1
          subst h1
          rw [h3, Nat.zero_add]
          exact List.mem_cons_self
        | 1 =>
          simp at h1
          subst h1
          cases h2
        | j + 2 =>
          refine List.mem_cons_of_mem _ ?_
          have := ih [] k (j, w) ⟨v, by simpa using h1, ?_, h3⟩ (off + 2)
          · dsimp only at this
            rw [show j + 2 + off = j + (off + 2) by omega]
            exact this
          · cases v <;> first | rfl | exact h2 | (simp only [okv] at h2 ⊢; simpa using h2)
      · rw [if_neg (show ¬ (tr G a).category = 2 by rw [tr_cat]; exact hcat)]
        have hent : ent1 a = [a] := if_neg hcat
        rw [hent] at h1 h2
        simp only [List.cons_append, List.nil_append] at h1 h2
        match j with
        | 0 =>
          simp at h1
          subst h1
          rw [h3, Nat.zero_add]
          exact List.mem_cons_self
        | j + 1 =>
          refine List.mem_cons_of_mem _ ?_
          have := ih [] k (j, w) ⟨v, by simpa using h1, ?_, h3⟩ (off + 1)
          · dsimp only at this
            rw [show j + 1 + off = j + (off + 1) by omega]
            exact this
          · cases v <;> first | rfl | exact h2 | (simp only [okv] at h2 ⊢; simpa using h2)
  intro q hq
  have := key as [] _ q (mem_lvs.mp hq) 0
  simpa using this
theorem ents_len {nL : Nat} {as : List Value} (h : ¬ nL < (as.flatMap ent1).length) : (ents nL as).length = nL := by
  unfold ents
  rw [List.length_append, List.length_replicate]
  omega
theorem lg_len (G : Gx) : ∀ as : List Value, (lg_sl (as.map (tr G))).length = (as.flatMap ent1).length
  | [] => rfl
  | a :: as => by
    have h := lg_len G as
    unfold lg_sl at h ⊢
    rw [List.map_cons, List.flatMap_cons, List.flatMap_cons, List.length_append, List.length_append, h, tr_cat]
    by_cases hc : a.category = 2
    · rw [if_pos hc, ent1, if_pos hc]; rfl
    · rw [if_neg hc, ent1, if_neg hc]; rfl
theorem px_code {mOf : Nat → PM} {call : PCall} {M : PM} {n pc : Nat} {ls st : List Value} {h : PH} {r : Option Value × PH} (he : px_exec mOf call M n pc ls st h = some r) : m_code M ≠ [] := by
  intro h0
  cases n with
  | zero => cases he
  | succ n =>
    unfold px_exec at he
    rw [h0] at he
    cases he
/-- every call that the pure machine makes, the real one makes: the contract of each method, for each of its runs -/
theorem run_sound {mOf : Nat → PM} {mlT mlN : List (Nat × Nat × Nat)} (hT : TOK mOf mlT mlN) (G : Gx) (l : Launch) (n : Nat) : ∀ (d id : Nat) (as : List Value) (h : PH) (r : Option Value × PH), px_run mOf d n id as h = some r → m_code (mOf id) ≠ [] ∧ MetP G l (mOf id) d as h r := by
  intro d
  induction d with
  | zero => intro id as h r he; cases he
  | succ d ih =>
    intro id as h r he
    unfold px_run at he
    split at he
    · cases he
    next hcond =>
      have hne := px_code he
      refine ⟨hne, ?_⟩
      obtain ⟨⟨w1, w2, w3, w4, w5, w6, w7, w8, w9, w10, w11⟩, hMc⟩ := hT.1 _ hne
      unfold MetP
      refine Met.ofW (cc := m_b (mOf id)) (maxL := m_L (mOf id)) (ret := m_ret (mOf id)) w2 rfl ?_
      intro p e s m args below meth c s₁ B hml hv
      obtain ⟨rfl, hW, hK⟩ := hv
      have hx := B.exec
      have hb := B.bytes
      have hr := B.returns
      have hts := atoms_spec (ws := m_ws (mOf id)) B.pre
      have hown : s.vm.findClass (m_y (mOf id)).cls = some m.cls := findClass_of_methodNamed B.named
      have hlocks := B.notSynchronized
      have hnm : meth.name = (m_y (mOf id)).name := (name_of_methodNamed B.named B.method).1
      have hlen : ¬ m_L (mOf id) < (as.flatMap ent1).length := fun q => hcond (Or.inr q)
      rw [lg_entry_eq]
      have hl := lv_entry (as.map (tr G)) (n := m_L (mOf id)) (by rw [lg_len]; omega)
      generalize (lg_sl (as.map (tr G)) ++ List.replicate (m_L (mOf id) - (lg_sl (as.map (tr G))).length) Slot.unset).toArray = ls at hl ⊢
      have hL : LV G ls (m_L (mOf id)) (ents (m_L (mOf id)) as) := ⟨lv_mono hl (lvs_ents G _ as), ents_len hlen⟩
      show W p l e (rmOf (d + 1) (h_ct r.2 - h_ct h) (h_sl r.2 - h_sl h)) s m _ below meth c s.heap [] 0 0 _ _
      have F : Fx G p s m (as.map (tr G)).toArray meth c (rmOf (d + 1) (h_ct r.2 - h_ct h) (h_sl r.2 - h_sl h)) (m_o (mOf id)) (m_ini (mOf id)) (m_b (mOf id)) (m_L (mOf id)) :=
        ⟨hx, hb, hml, by rw [← w1]; exact hown, fun w hw => hts w (List.mem_cons_of_mem _ hw), hK, fun hi => by rw [hnm]; exact beq_iff_eq.mp hi, by show 1 ≤ d + 1 + 1; omega, by show 60 ≤ 60 + 100 * (d + 1); omega, by rw [hW.1]; omega, fun ho => absurd (Or.inl ho) hcond⟩
      refine exec_sound hT hMc (call := px_run mOf d n) (d := d) ih F ⟨Nat.le_refl _, Nat.le_refl _⟩ (rE := r) (CE := h_ct r.2 - h_ct h) (SE := h_sl r.2 - h_sl h) (Nat.le_refl _) (Nat.le_refl _) ?_ n 0 (ents (m_L (mOf id)) as) [] h s.heap [] 0 0 ls he hW va_S.rf hL (Nat.zero_add _) (Nat.zero_add _)
      intro H' locs' rls' pc' hW' hS' hret
      obtain ⟨r1, h'⟩ := r
      dsimp only at hW' hret ⊢
      match r1, hret with
      | some (.int v), hret =>
        obtain ⟨hd, ty, hty, hn⟩ := hret
        exact W.zret hx hb (hr.trans hty) hn (fun t ht hw => ⟨rfl, by rw [ht]; exact hW', hS'.F ht⟩) hS'.2.2 hd
      | some (.long v), hret =>
        obtain ⟨hd, hty⟩ := hret
        exact W.lret hx hb (hr.trans hty) (fun t ht hw => ⟨rfl, by rw [ht]; exact hW', hS'.F ht⟩) hS'.2.2 hd
      | some (.ref a), hret =>
        obtain ⟨hd, ty, hty, hrt⟩ := hret
        exact W.aret hx hb (hr.trans hty) hrt (Or.inr ⟨_, rfl⟩) (fun t ht hw => ⟨rfl, by rw [ht]; exact hW', hS'.F ht⟩) hS'.2.2 hd
      | none, hret =>
        obtain ⟨hd, hty⟩ := hret
        exact W.vret hx hb (hr.trans hty) (fun t ht hw => ⟨rfl, by rw [ht]; exact hW', hS'.F ht⟩) hS'.2.2 hd
end
section
/-! the program: each method as rows of the pure machine, by pc -/
def z0 : PI := (0, 0, 0, 0, 0, 0)
def C_Bo_init : List PI := [(37, 1, 0, 0, 0, 0), (78, 3, 0, 1203, 0, 0), z0, z0, (37, 1, 0, 0, 0, 0), (32, 2, 10, 0, 0, 0), z0, (74, 2, 0, 0, 0, 0), z0, (69, 3, 0, 93, 0, 0), z0, z0, (37, 1, 0, 0, 0, 0), (32, 2, 10, 0, 0, 0), z0, (74, 2, 0, 0, 0, 0), z0, (69, 3, 0, 94, 0, 1), z0, z0, (37, 1, 0, 0, 0, 0), (32, 2, 64, 0, 0, 0), z0, (71, 2, 0, 0, 0, 0), z0, (67, 3, 0, 95, 0, 2), z0, z0, (37, 1, 0, 0, 0, 0), (32, 2, 6, 0, 0, 0), z0, (71, 2, 0, 0, 0, 0), z0, (69, 3, 0, 97, 0, 4), z0, z0, (37, 1, 0, 0, 0, 0), (32, 1, -1, 0, 0, 0), (67, 3, 0, 98, 0, 5), z0, z0, (103, 1, 0, 0, 0, 0)]
def P_Bo_init : PM := (0, ⟨"OneWaySpell$Borders", "<init>", "()V"⟩, prog_2_method_1_code, 1, none, 2, 0, (1202, 189, 1201, 0), C_Bo_init)
def C_Bo_build : List PI := [(37, 1, 0, 0, 0, 0), (36, 1, 0, 2, 0, 0), (67, 3, 0, 98, 0, 5), z0, z0, (37, 1, 0, 0, 0, 0), (32, 1, 0, 0, 0, 0), (67, 3, 0, 96, 0, 3), z0, z0, (37, 1, 0, 0, 0, 0), (32, 1, 0, 0, 0, 0), (110, 3, 0, 2, 2, 102), z0, z0, (32, 1, 0, 0, 0, 0), (40, 1, 0, 3, 0, 0), (36, 1, 0, 3, 0, 0), (37, 1, 0, 1, 0, 0), (66, 3, 0, 61, 8, 9), z0, z0, (51, 3, 0, 75, 0, 0), z0, z0, (36, 1, 0, 3, 0, 0), (44, 3, 0, 38, 0, 0), z0, z0, (37, 1, 0, 1, 0, 0), (66, 3, 0, 55, 8, 4), z0, z0, (36, 1, 0, 3, 0, 0), (60, 1, 0, 0, 0, 0), (44, 3, 0, 47, 0, 0), z0, z0, (37, 1, 0, 0, 0, 0), (65, 3, 0, 93, 0, 0), z0, z0, (32, 1, 0, 0, 0, 0), (36, 1, 0, 3, 0, 0), (110, 3, 0, 3, 3, 103), z0, z0, (36, 1, 0, 3, 0, 0), (44, 3, 0, 69, 0, 0), z0, z0, (37, 1, 0, 1, 0, 0), (66, 3, 0, 55, 8, 4), z0, z0, (36, 1, 0, 3, 0, 0), (60, 1, 0, 0, 0, 0), (44, 3, 0, 69, 0, 0), z0, z0, (37, 1, 0, 0, 0, 0), (65, 3, 0, 94, 0, 1), z0, z0, (32, 1, 0, 0, 0, 0), (36, 1, 0, 3, 0, 0), (110, 3, 0, 3, 3, 103), z0, z0, (43, 3, 1, 3, 0, 0), z0, z0, (56, 3, 0, 17, 0, 0), z0, z0, (37, 1, 0, 0, 0, 0), (37, 1, 0, 1, 0, 0), (32, 1, 0, 0, 0, 0), (32, 1, 0, 0, 0, 0), (110, 3, 0, 6, 4, 104), z0, z0, (37, 1, 0, 0, 0, 0), (110, 3, 0, 9, 1, 110), z0, z0, (37, 1, 0, 0, 0, 0), (110, 3, 0, 10, 1, 111), z0, z0, (103, 1, 0, 0, 0, 0)]
def P_Bo_build : PM := (0, ⟨"OneWaySpell$Borders", "build", "(LOneWaySpell$Tree;I)V"⟩, prog_2_method_2_code, 4, none, 1, 2, (1227, 189, 1226, 79), C_Bo_build)
def C_Bo_clear : List PI := [(37, 1, 0, 0, 0, 0), (65, 3, 0, 93, 0, 0), z0, z0, (32, 1, 2, 0, 0, 0), (36, 1, 0, 1, 0, 0), (3, 1, 0, 0, 0, 0), (33, 1, 0, 0, 0, 0), (63, 1, 0, 0, 0, 0), (37, 1, 0, 0, 0, 0), (65, 3, 0, 93, 0, 0), z0, z0, (32, 1, 2, 0, 0, 0), (36, 1, 0, 1, 0, 0), (3, 1, 0, 0, 0, 0), (32, 1, 1, 0, 0, 0), (1, 1, 0, 0, 0, 0), (33, 1, 0, 0, 0, 0), (63, 1, 0, 0, 0, 0), (37, 1, 0, 0, 0, 0), (65, 3, 0, 94, 0, 1), z0, z0, (32, 1, 2, 0, 0, 0), (36, 1, 0, 1, 0, 0), (3, 1, 0, 0, 0, 0), (33, 1, 0, 0, 0, 0), (63, 1, 0, 0, 0, 0), (37, 1, 0, 0, 0, 0), (65, 3, 0, 94, 0, 1), z0, z0, (32, 1, 2, 0, 0, 0), (36, 1, 0, 1, 0, 0), (3, 1, 0, 0, 0, 0), (32, 1, 1, 0, 0, 0), (1, 1, 0, 0, 0, 0), (33, 1, 0, 0, 0, 0), (63, 1, 0, 0, 0, 0), (103, 1, 0, 0, 0, 0)]
def P_Bo_clear : PM := (0, ⟨"OneWaySpell$Borders", "clear", "(I)V"⟩, prog_2_method_3_code, 2, none, 1, 1, (1231, 189, 1230, 80), C_Bo_clear)
def C_Bo_put : List PI := [(37, 1, 0, 0, 0, 0), (32, 1, 2, 0, 0, 0), (36, 1, 0, 1, 0, 0), (3, 1, 0, 0, 0, 0), (36, 1, 0, 2, 0, 0), (32, 2, 64, 0, 0, 0), z0, (10, 1, 0, 0, 0, 0), (1, 1, 0, 0, 0, 0), (31, 1, 0, 0, 0, 0), (59, 1, 0, 0, 0, 0), (33, 1, 1, 0, 0, 0), (36, 1, 0, 2, 0, 0), (32, 2, 64, 0, 0, 0), z0, (11, 1, 0, 0, 0, 0), (20, 1, 0, 0, 0, 0), (16, 1, 0, 0, 0, 0), (63, 1, 0, 0, 0, 0), (103, 1, 0, 0, 0, 0)]
def P_Bo_put : PM := (0, ⟨"OneWaySpell$Borders", "put", "([JII)V"⟩, prog_2_method_4_code, 3, none, 0, 3, (1234, 189, 1233, 0), C_Bo_put)
def C_Bo_has : List PI := [(37, 1, 0, 0, 0, 0), (32, 1, 2, 0, 0, 0), (36, 1, 0, 1, 0, 0), (3, 1, 0, 0, 0, 0), (36, 1, 0, 2, 0, 0), (32, 2, 64, 0, 0, 0), z0, (10, 1, 0, 0, 0, 0), (1, 1, 0, 0, 0, 0), (59, 1, 0, 0, 0, 0), (36, 1, 0, 2, 0, 0), (32, 2, 64, 0, 0, 0), z0, (11, 1, 0, 0, 0, 0), (21, 1, 0, 0, 0, 0), (33, 1, 1, 0, 0, 0), (15, 1, 0, 0, 0, 0), (33, 1, 1, 0, 0, 0), (22, 1, 0, 0, 0, 0), (46, 3, 0, 26, 0, 0), z0, z0, (32, 1, 1, 0, 0, 0), (56, 3, 0, 27, 0, 0), z0, z0, (32, 1, 0, 0, 0, 0), (100, 1, 0, 0, 0, 0)]
def P_Bo_has : PM := (0, ⟨"OneWaySpell$Borders", "has", "([JII)Z"⟩, prog_2_method_5_code, 3, some .boolean, 0, 3, (1245, 189, 1244, 0), C_Bo_has)
def C_Bo_isEmpty : List PI := [(37, 1, 0, 0, 0, 0), (32, 1, 2, 0, 0, 0), (36, 1, 0, 1, 0, 0), (3, 1, 0, 0, 0, 0), (59, 1, 0, 0, 0, 0), (37, 1, 0, 0, 0, 0), (32, 1, 2, 0, 0, 0), (36, 1, 0, 1, 0, 0), (3, 1, 0, 0, 0, 0), (32, 1, 1, 0, 0, 0), (1, 1, 0, 0, 0, 0), (59, 1, 0, 0, 0, 0), (16, 1, 0, 0, 0, 0), (33, 1, 0, 0, 0, 0), (22, 1, 0, 0, 0, 0), (46, 3, 0, 22, 0, 0), z0, z0, (32, 1, 1, 0, 0, 0), (56, 3, 0, 23, 0, 0), z0, z0, (32, 1, 0, 0, 0, 0), (100, 1, 0, 0, 0, 0)]
def P_Bo_isEmpty : PM := (0, ⟨"OneWaySpell$Borders", "isEmpty", "([JI)Z"⟩, prog_2_method_6_code, 2, some .boolean, 0, 2, (1248, 189, 1247, 0), C_Bo_isEmpty)
def C_Bo_lengthen : List PI := [(36, 1, 0, 2, 0, 0), (32, 1, 4, 0, 0, 0), (49, 3, 0, 6, 0, 0), z0, z0, (103, 1, 0, 0, 0, 0), (32, 1, 1, 0, 0, 0), (40, 2, 0, 4, 0, 0), z0, (36, 2, 0, 4, 0, 0), z0, (32, 2, 27, 0, 0, 0), z0, (53, 3, 0, 92, 0, 0), z0, z0, (37, 1, 0, 0, 0, 0), (37, 1, 0, 1, 0, 0), (36, 1, 0, 2, 0, 0), (36, 2, 0, 4, 0, 0), z0, (110, 3, 0, 7, 4, 105), z0, z0, (36, 2, 0, 4, 0, 0), z0, (32, 1, 5, 0, 0, 0), (36, 1, 0, 2, 0, 0), (3, 1, 0, 0, 0, 0), (7, 1, 0, 0, 0, 0), (36, 1, 0, 3, 0, 0), (5, 1, 0, 0, 0, 0), (40, 2, 0, 5, 0, 0), z0, (37, 1, 0, 0, 0, 0), (65, 3, 0, 94, 0, 1), z0, z0, (36, 1, 0, 2, 0, 0), (32, 1, 1, 0, 0, 0), (1, 1, 0, 0, 0, 0), (110, 3, 0, 5, 2, 107), z0, z0, (46, 3, 0, 60, 0, 0), z0, z0, (37, 1, 0, 0, 0, 0), (37, 1, 0, 1, 0, 0), (36, 1, 0, 2, 0, 0), (32, 1, 1, 0, 0, 0), (1, 1, 0, 0, 0, 0), (36, 2, 0, 5, 0, 0), z0, (110, 3, 0, 6, 4, 104), z0, z0, (56, 3, 0, 86, 0, 0), z0, z0, (37, 1, 0, 0, 0, 0), (65, 3, 0, 93, 0, 0), z0, z0, (36, 1, 0, 2, 0, 0), (32, 1, 1, 0, 0, 0), (1, 1, 0, 0, 0, 0), (110, 3, 0, 5, 2, 107), z0, z0, (46, 3, 0, 86, 0, 0), z0, z0, (37, 1, 0, 0, 0, 0), (36, 1, 0, 2, 0, 0), (32, 1, 1, 0, 0, 0), (1, 1, 0, 0, 0, 0), (32, 2, 20, 0, 0, 0), z0, (7, 1, 0, 0, 0, 0), (36, 2, 0, 5, 0, 0), z0, (5, 1, 0, 0, 0, 0), (110, 3, 0, 8, 2, 108), z0, z0, (43, 3, 1, 4, 0, 0), z0, z0, (56, 3, 0, 9, 0, 0), z0, z0, (103, 1, 0, 0, 0, 0)]
def P_Bo_lengthen : PM := (0, ⟨"OneWaySpell$Borders", "lengthen", "(LOneWaySpell$Tree;II)V"⟩, prog_2_method_7_code, 6, none, 1, 3, (1238, 189, 1237, 81), C_Bo_lengthen)
def C_Bo_putAhead : List PI := [(37, 1, 0, 0, 0, 0), (36, 1, 0, 2, 0, 0), (32, 1, 1, 0, 0, 0), (1, 1, 0, 0, 0, 0), (110, 3, 0, 2, 2, 102), z0, z0, (37, 1, 0, 1, 0, 0), (66, 3, 0, 60, 8, 8), z0, z0, (36, 1, 0, 3, 0, 0), (58, 1, 0, 0, 0, 0), (40, 2, 0, 4, 0, 0), z0, (36, 2, 0, 4, 0, 0), z0, (37, 1, 0, 1, 0, 0), (66, 3, 0, 60, 8, 8), z0, z0, (36, 1, 0, 3, 0, 0), (32, 1, 1, 0, 0, 0), (1, 1, 0, 0, 0, 0), (58, 1, 0, 0, 0, 0), (51, 3, 0, 167, 0, 0), z0, z0, (37, 1, 0, 1, 0, 0), (66, 3, 0, 59, 8, 7), z0, z0, (36, 2, 0, 4, 0, 0), z0, (58, 1, 0, 0, 0, 0), (40, 2, 0, 5, 0, 0), z0, (37, 1, 0, 1, 0, 0), (66, 3, 0, 55, 8, 4), z0, z0, (36, 2, 0, 5, 0, 0), z0, (60, 1, 0, 0, 0, 0), (44, 3, 0, 60, 0, 0), z0, z0, (37, 1, 0, 0, 0, 0), (65, 3, 0, 93, 0, 0), z0, z0, (36, 1, 0, 2, 0, 0), (36, 2, 0, 5, 0, 0), z0, (110, 3, 0, 4, 3, 106), z0, z0, (46, 3, 0, 82, 0, 0), z0, z0, (37, 1, 0, 1, 0, 0), (66, 3, 0, 54, 8, 3), z0, z0, (36, 2, 0, 5, 0, 0), z0, (60, 1, 0, 0, 0, 0), (44, 3, 0, 99, 0, 0), z0, z0, (37, 1, 0, 0, 0, 0), (65, 3, 0, 93, 0, 0), z0, z0, (36, 1, 0, 2, 0, 0), (32, 1, 0, 0, 0, 0), (110, 3, 0, 4, 3, 106), z0, z0, (44, 3, 0, 99, 0, 0), z0, z0, (37, 1, 0, 0, 0, 0), (65, 3, 0, 93, 0, 0), z0, z0, (36, 1, 0, 2, 0, 0), (32, 1, 1, 0, 0, 0), (1, 1, 0, 0, 0, 0), (37, 1, 0, 1, 0, 0), (66, 3, 0, 58, 8, 5), z0, z0, (36, 2, 0, 5, 0, 0), z0, (58, 1, 0, 0, 0, 0), (110, 3, 0, 3, 3, 103), z0, z0, (37, 1, 0, 1, 0, 0), (66, 3, 0, 55, 8, 4), z0, z0, (36, 2, 0, 5, 0, 0), z0, (60, 1, 0, 0, 0, 0), (44, 3, 0, 122, 0, 0), z0, z0, (37, 1, 0, 0, 0, 0), (65, 3, 0, 94, 0, 1), z0, z0, (36, 1, 0, 2, 0, 0), (36, 2, 0, 5, 0, 0), z0, (110, 3, 0, 4, 3, 106), z0, z0, (46, 3, 0, 144, 0, 0), z0, z0, (37, 1, 0, 1, 0, 0), (66, 3, 0, 54, 8, 3), z0, z0, (36, 2, 0, 5, 0, 0), z0, (60, 1, 0, 0, 0, 0), (44, 3, 0, 161, 0, 0), z0, z0, (37, 1, 0, 0, 0, 0), (65, 3, 0, 94, 0, 1), z0, z0, (36, 1, 0, 2, 0, 0), (32, 1, 0, 0, 0, 0), (110, 3, 0, 4, 3, 106), z0, z0, (44, 3, 0, 161, 0, 0), z0, z0, (37, 1, 0, 0, 0, 0), (65, 3, 0, 94, 0, 1), z0, z0, (36, 1, 0, 2, 0, 0), (32, 1, 1, 0, 0, 0), (1, 1, 0, 0, 0, 0), (37, 1, 0, 1, 0, 0), (66, 3, 0, 58, 8, 5), z0, z0, (36, 2, 0, 5, 0, 0), z0, (58, 1, 0, 0, 0, 0), (110, 3, 0, 3, 3, 103), z0, z0, (43, 3, 1, 4, 0, 0), z0, z0, (56, 3, 0, 15, 0, 0), z0, z0, (103, 1, 0, 0, 0, 0)]
def P_Bo_putAhead : PM := (0, ⟨"OneWaySpell$Borders", "putAhead", "(LOneWaySpell$Tree;II)V"⟩, prog_2_method_8_code, 6, none, 1, 3, (1242, 189, 1241, 82), C_Bo_putAhead)
def C_Bo_keep : List PI := [(37, 1, 0, 0, 0, 0), (65, 3, 0, 96, 0, 3), z0, z0, (37, 1, 0, 0, 0, 0), (65, 3, 0, 95, 0, 2), z0, z0, (61, 1, 0, 0, 0, 0), (49, 3, 0, 30, 0, 0), z0, z0, (37, 1, 0, 0, 0, 0), (37, 1, 0, 0, 0, 0), (65, 3, 0, 95, 0, 2), z0, z0, (32, 1, 2, 0, 0, 0), (37, 1, 0, 0, 0, 0), (65, 3, 0, 95, 0, 2), z0, z0, (61, 1, 0, 0, 0, 0), (3, 1, 0, 0, 0, 0), (110, 3, 0, 287, 2, 109), z0, z0, (67, 3, 0, 95, 0, 2), z0, z0, (37, 1, 0, 0, 0, 0), (65, 3, 0, 95, 0, 2), z0, z0, (37, 1, 0, 0, 0, 0), (65, 3, 0, 96, 0, 3), z0, z0, (36, 1, 0, 1, 0, 0), (62, 1, 0, 0, 0, 0), (37, 1, 0, 0, 0, 0), (27, 1, 0, 0, 0, 0), (65, 3, 0, 96, 0, 3), z0, z0, (32, 1, 1, 0, 0, 0), (1, 1, 0, 0, 0, 0), (67, 3, 0, 96, 0, 3), z0, z0, (103, 1, 0, 0, 0, 0)]
def P_Bo_keep : PM := (0, ⟨"OneWaySpell$Borders", "keep", "(I)V"⟩, prog_2_method_9_code, 2, none, 1, 1, (1252, 189, 1251, 83), C_Bo_keep)
def C_Bo_sort : List PI := [(37, 1, 0, 0, 0, 0), (65, 3, 0, 96, 0, 3), z0, z0, (32, 1, 2, 0, 0, 0), (10, 1, 0, 0, 0, 0), (40, 1, 0, 1, 0, 0), (36, 1, 0, 1, 0, 0), (54, 3, 0, 97, 0, 0), z0, z0, (36, 1, 0, 1, 0, 0), (40, 1, 0, 2, 0, 0), (36, 1, 0, 2, 0, 0), (37, 1, 0, 0, 0, 0), (65, 3, 0, 96, 0, 3), z0, z0, (51, 3, 0, 90, 0, 0), z0, z0, (37, 1, 0, 0, 0, 0), (65, 3, 0, 95, 0, 2), z0, z0, (36, 1, 0, 2, 0, 0), (58, 1, 0, 0, 0, 0), (40, 1, 0, 3, 0, 0), (36, 1, 0, 2, 0, 0), (36, 1, 0, 1, 0, 0), (2, 1, 0, 0, 0, 0), (40, 2, 0, 4, 0, 0), z0, (36, 2, 0, 4, 0, 0), z0, (48, 3, 0, 74, 0, 0), z0, z0, (37, 1, 0, 0, 0, 0), (65, 3, 0, 95, 0, 2), z0, z0, (36, 2, 0, 4, 0, 0), z0, (58, 1, 0, 0, 0, 0), (36, 1, 0, 3, 0, 0), (55, 3, 0, 74, 0, 0), z0, z0, (37, 1, 0, 0, 0, 0), (65, 3, 0, 95, 0, 2), z0, z0, (36, 2, 0, 4, 0, 0), z0, (36, 1, 0, 1, 0, 0), (1, 1, 0, 0, 0, 0), (37, 1, 0, 0, 0, 0), (65, 3, 0, 95, 0, 2), z0, z0, (36, 2, 0, 4, 0, 0), z0, (58, 1, 0, 0, 0, 0), (62, 1, 0, 0, 0, 0), (36, 2, 0, 4, 0, 0), z0, (36, 1, 0, 1, 0, 0), (2, 1, 0, 0, 0, 0), (40, 2, 0, 4, 0, 0), z0, (56, 3, 0, 33, 0, 0), z0, z0, (37, 1, 0, 0, 0, 0), (65, 3, 0, 95, 0, 2), z0, z0, (36, 2, 0, 4, 0, 0), z0, (36, 1, 0, 1, 0, 0), (1, 1, 0, 0, 0, 0), (36, 1, 0, 3, 0, 0), (62, 1, 0, 0, 0, 0), (43, 3, 1, 2, 0, 0), z0, z0, (56, 3, 0, 13, 0, 0), z0, z0, (36, 1, 0, 1, 0, 0), (32, 1, 2, 0, 0, 0), (10, 1, 0, 0, 0, 0), (40, 1, 0, 1, 0, 0), (56, 3, 0, 7, 0, 0), z0, z0, (103, 1, 0, 0, 0, 0)]
def P_Bo_sort : PM := (0, ⟨"OneWaySpell$Borders", "sort", "()V"⟩, prog_2_method_10_code, 5, none, 1, 0, (1257, 189, 1256, 84), C_Bo_sort)
def C_Bo_findStarts : List PI := [(32, 1, 0, 0, 0, 0), (40, 1, 0, 1, 0, 0), (32, 1, 1, 0, 0, 0), (40, 1, 0, 2, 0, 0), (36, 1, 0, 2, 0, 0), (32, 1, 4, 0, 0, 0), (53, 3, 0, 49, 0, 0), z0, z0, (37, 1, 0, 0, 0, 0), (65, 3, 0, 97, 0, 4), z0, z0, (36, 1, 0, 2, 0, 0), (36, 1, 0, 1, 0, 0), (62, 1, 0, 0, 0, 0), (36, 1, 0, 1, 0, 0), (37, 1, 0, 0, 0, 0), (65, 3, 0, 96, 0, 3), z0, z0, (51, 3, 0, 43, 0, 0), z0, z0, (37, 1, 0, 0, 0, 0), (65, 3, 0, 95, 0, 2), z0, z0, (36, 1, 0, 1, 0, 0), (58, 1, 0, 0, 0, 0), (32, 2, 20, 0, 0, 0), z0, (9, 1, 0, 0, 0, 0), (36, 1, 0, 2, 0, 0), (47, 3, 0, 43, 0, 0), z0, z0, (43, 3, 1, 1, 0, 0), z0, z0, (56, 3, 0, 16, 0, 0), z0, z0, (43, 3, 1, 2, 0, 0), z0, z0, (56, 3, 0, 4, 0, 0), z0, z0, (37, 1, 0, 0, 0, 0), (65, 3, 0, 97, 0, 4), z0, z0, (32, 1, 5, 0, 0, 0), (36, 1, 0, 1, 0, 0), (62, 1, 0, 0, 0, 0), (103, 1, 0, 0, 0, 0)]
def P_Bo_findStarts : PM := (0, ⟨"OneWaySpell$Borders", "findStarts", "()V"⟩, prog_2_method_11_code, 3, none, 1, 0, (1261, 189, 1260, 85), C_Bo_findStarts)
def C_Bo_sizeOf : List PI := [(36, 1, 0, 1, 0, 0), (32, 1, 1, 0, 0, 0), (49, 3, 0, 10, 0, 0), z0, z0, (36, 1, 0, 1, 0, 0), (32, 1, 4, 0, 0, 0), (55, 3, 0, 14, 0, 0), z0, z0, (32, 1, 0, 0, 0, 0), (56, 3, 0, 29, 0, 0), z0, z0, (37, 1, 0, 0, 0, 0), (65, 3, 0, 97, 0, 4), z0, z0, (36, 1, 0, 1, 0, 0), (32, 1, 1, 0, 0, 0), (1, 1, 0, 0, 0, 0), (58, 1, 0, 0, 0, 0), (37, 1, 0, 0, 0, 0), (65, 3, 0, 97, 0, 4), z0, z0, (36, 1, 0, 1, 0, 0), (58, 1, 0, 0, 0, 0), (2, 1, 0, 0, 0, 0), (100, 1, 0, 0, 0, 0)]
def P_Bo_sizeOf : PM := (0, ⟨"OneWaySpell$Borders", "sizeOf", "(I)I"⟩, prog_2_method_12_code, 2, some .int, 1, 1, (1265, 189, 1264, 86), C_Bo_sizeOf)
def C_Bo_indexOf : List PI := [(36, 1, 0, 2, 0, 0), (48, 3, 0, 13, 0, 0), z0, z0, (36, 1, 0, 2, 0, 0), (37, 1, 0, 0, 0, 0), (36, 1, 0, 1, 0, 0), (110, 3, 0, 11, 2, 113), z0, z0, (49, 3, 0, 17, 0, 0), z0, z0, (32, 1, -1, 0, 0, 0), (56, 3, 0, 25, 0, 0), z0, z0, (37, 1, 0, 0, 0, 0), (65, 3, 0, 97, 0, 4), z0, z0, (36, 1, 0, 1, 0, 0), (58, 1, 0, 0, 0, 0), (36, 1, 0, 2, 0, 0), (1, 1, 0, 0, 0, 0), (100, 1, 0, 0, 0, 0)]
def P_Bo_indexOf : PM := (0, ⟨"OneWaySpell$Borders", "indexOf", "(II)I"⟩, prog_2_method_13_code, 3, some .int, 1, 2, (1273, 189, 1272, 87), C_Bo_indexOf)
def C_Bo_codeAt : List PI := [(36, 1, 0, 1, 0, 0), (48, 3, 0, 12, 0, 0), z0, z0, (36, 1, 0, 1, 0, 0), (37, 1, 0, 0, 0, 0), (65, 3, 0, 96, 0, 3), z0, z0, (49, 3, 0, 16, 0, 0), z0, z0, (33, 1, 0, 0, 0, 0), (56, 3, 0, 26, 0, 0), z0, z0, (37, 1, 0, 0, 0, 0), (65, 3, 0, 95, 0, 2), z0, z0, (36, 1, 0, 1, 0, 0), (58, 1, 0, 0, 0, 0), (34, 2, 1048575, 1279, 0, 0), z0, (4, 1, 0, 0, 0, 0), (24, 1, 0, 0, 0, 0), (101, 1, 0, 0, 0, 0)]
def P_Bo_codeAt : PM := (0, ⟨"OneWaySpell$Borders", "codeAt", "(I)J"⟩, prog_2_method_14_code, 2, some .long, 1, 1, (1278, 189, 1277, 88), C_Bo_codeAt)
def C_Ce_init : List PI := [(37, 1, 0, 0, 0, 0), (78, 3, 0, 1077, 0, 0), z0, z0, (37, 1, 0, 0, 0, 0), (32, 2, 64, 0, 0, 0), z0, (71, 2, 0, 0, 0, 0), z0, (67, 3, 0, 82, 1, 0), z0, z0, (37, 1, 0, 0, 0, 0), (32, 2, 64, 0, 0, 0), z0, (71, 2, 0, 0, 0, 0), z0, (67, 3, 0, 83, 1, 1), z0, z0, (37, 1, 0, 0, 0, 0), (32, 3, 704, 0, 0, 0), z0, z0, (74, 2, 0, 0, 0, 0), z0, (67, 3, 0, 84, 1, 2), z0, z0, (37, 1, 0, 0, 0, 0), (32, 3, 704, 0, 0, 0), z0, z0, (74, 2, 0, 0, 0, 0), z0, (67, 3, 0, 85, 1, 3), z0, z0, (37, 1, 0, 0, 0, 0), (32, 3, 256, 0, 0, 0), z0, z0, (71, 2, 0, 0, 0, 0), z0, (67, 3, 0, 87, 1, 5), z0, z0, (37, 1, 0, 0, 0, 0), (32, 2, 65, 0, 0, 0), z0, (71, 2, 0, 0, 0, 0), z0, (67, 3, 0, 88, 1, 6), z0, z0, (37, 1, 0, 0, 0, 0), (32, 3, 256, 0, 0, 0), z0, z0, (72, 2, 0, 0, 0, 0), z0, (67, 3, 0, 89, 1, 7), z0, z0, (37, 1, 0, 0, 0, 0), (32, 3, 256, 0, 0, 0), z0, z0, (71, 2, 0, 0, 0, 0), z0, (67, 3, 0, 90, 1, 8), z0, z0, (37, 1, 0, 0, 0, 0), (32, 1, -1, 0, 0, 0), (67, 3, 0, 92, 1, 10), z0, z0, (103, 1, 0, 0, 0, 0)]
def P_Ce_init : PM := (1, ⟨"OneWaySpell$Census", "<init>", "()V"⟩, prog_3_method_1_code, 1, none, 2, 0, (1076, 188, 1075, 0), C_Ce_init)
def C_Ce_build : List PI := [(37, 1, 0, 0, 0, 0), (36, 1, 0, 2, 0, 0), (67, 3, 0, 92, 1, 10), z0, z0, (37, 1, 0, 0, 0, 0), (32, 1, 0, 0, 0, 0), (67, 3, 0, 86, 1, 4), z0, z0, (37, 1, 0, 0, 0, 0), (32, 1, 0, 0, 0, 0), (67, 3, 0, 91, 1, 9), z0, z0, (37, 1, 0, 0, 0, 0), (65, 3, 0, 87, 1, 5), z0, z0, (32, 1, 0, 0, 0, 0), (110, 3, 0, 283, 2, 89), z0, z0, (37, 1, 0, 0, 0, 0), (32, 1, 1, 0, 0, 0), (32, 1, 0, 0, 0, 0), (110, 3, 0, 17, 3, 90), z0, z0, (28, 1, 0, 0, 0, 0), (32, 1, 0, 0, 0, 0), (40, 1, 0, 3, 0, 0), (36, 1, 0, 3, 0, 0), (37, 1, 0, 0, 0, 0), (65, 3, 0, 86, 1, 4), z0, z0, (51, 3, 0, 153, 0, 0), z0, z0, (36, 1, 0, 3, 0, 0), (34, 2, 131072, 1143, 0, 0), z0, (51, 3, 0, 153, 0, 0), z0, z0, (37, 1, 0, 0, 0, 0), (65, 3, 0, 88, 1, 6), z0, z0, (36, 1, 0, 3, 0, 0), (37, 1, 0, 0, 0, 0), (65, 3, 0, 91, 1, 9), z0, z0, (62, 1, 0, 0, 0, 0), (32, 1, 1, 0, 0, 0), (40, 2, 0, 4, 0, 0), z0, (36, 2, 0, 4, 0, 0), z0, (32, 2, 27, 0, 0, 0), z0, (53, 3, 0, 135, 0, 0), z0, z0, (37, 1, 0, 0, 0, 0), (65, 3, 0, 83, 1, 1), z0, z0, (36, 1, 0, 3, 0, 0), (58, 1, 0, 0, 0, 0), (32, 2, 10, 0, 0, 0), z0, (51, 3, 0, 135, 0, 0), z0, z0, (37, 1, 0, 1, 0, 0), (36, 2, 0, 4, 0, 0), z0, (110, 3, 1, 96, 2, 73), z0, z0, (44, 3, 0, 101, 0, 0), z0, z0, (37, 1, 0, 1, 0, 0), (37, 1, 0, 0, 0, 0), (65, 3, 0, 82, 1, 0), z0, z0, (36, 1, 0, 3, 0, 0), (58, 1, 0, 0, 0, 0), (36, 2, 0, 4, 0, 0), z0, (110, 3, 0, 16, 3, 94), z0, z0, (56, 3, 0, 102, 0, 0), z0, z0, (32, 1, 0, 0, 0, 0), (40, 2, 0, 5, 0, 0), z0, (36, 2, 0, 5, 0, 0), z0, (44, 3, 0, 129, 0, 0), z0, z0, (37, 1, 0, 0, 0, 0), (36, 2, 0, 4, 0, 0), z0, (37, 1, 0, 0, 0, 0), (36, 2, 0, 5, 0, 0), z0, (37, 1, 0, 0, 0, 0), (65, 3, 0, 83, 1, 1), z0, z0, (36, 1, 0, 3, 0, 0), (58, 1, 0, 0, 0, 0), (32, 1, 1, 0, 0, 0), (1, 1, 0, 0, 0, 0), (110, 3, 0, 17, 3, 90), z0, z0, (110, 3, 0, 20, 3, 95), z0, z0, (43, 3, 1, 4, 0, 0), z0, z0, (56, 3, 0, 59, 0, 0), z0, z0, (37, 1, 0, 0, 0, 0), (65, 3, 0, 88, 1, 6), z0, z0, (36, 1, 0, 3, 0, 0), (32, 1, 1, 0, 0, 0), (1, 1, 0, 0, 0, 0), (37, 1, 0, 0, 0, 0), (65, 3, 0, 91, 1, 9), z0, z0, (62, 1, 0, 0, 0, 0), (43, 3, 1, 3, 0, 0), z0, z0, (56, 3, 0, 32, 0, 0), z0, z0, (32, 1, 0, 0, 0, 0), (40, 1, 0, 3, 0, 0), (36, 1, 0, 3, 0, 0), (32, 2, 10, 0, 0, 0), z0, (53, 3, 0, 206, 0, 0), z0, z0, (32, 1, 0, 0, 0, 0), (40, 2, 0, 4, 0, 0), z0, (36, 2, 0, 4, 0, 0), z0, (37, 1, 0, 0, 0, 0), (65, 3, 0, 86, 1, 4), z0, z0, (51, 3, 0, 200, 0, 0), z0, z0, (37, 1, 0, 0, 0, 0), (65, 3, 0, 83, 1, 1), z0, z0, (36, 2, 0, 4, 0, 0), z0, (58, 1, 0, 0, 0, 0), (36, 1, 0, 3, 0, 0), (1, 1, 0, 0, 0, 0), (32, 2, 10, 0, 0, 0), z0, (53, 3, 0, 194, 0, 0), z0, z0, (37, 1, 0, 0, 0, 0), (36, 2, 0, 4, 0, 0), z0, (36, 1, 0, 3, 0, 0), (110, 3, 0, 21, 3, 97), z0, z0, (43, 3, 1, 4, 0, 0), z0, z0, (56, 3, 0, 164, 0, 0), z0, z0, (43, 3, 1, 3, 0, 0), z0, z0, (56, 3, 0, 155, 0, 0), z0, z0, (103, 1, 0, 0, 0, 0)]
def P_Ce_build : PM := (1, ⟨"OneWaySpell$Census", "build", "(LOneWaySpell$Tree;I)V"⟩, prog_3_method_2_code, 6, none, 1, 2, (1116, 188, 1115, 69), C_Ce_build)
def C_Ce_keyBehind : List PI := [(36, 1, 0, 1, 0, 0), (32, 2, 14, 0, 0, 0), z0, (9, 1, 0, 0, 0, 0), (40, 1, 0, 3, 0, 0), (32, 1, 0, 0, 0, 0), (40, 2, 0, 4, 0, 0), z0, (32, 1, 0, 0, 0, 0), (40, 2, 0, 5, 0, 0), z0, (32, 1, 0, 0, 0, 0), (40, 2, 0, 6, 0, 0), z0, (32, 1, 0, 0, 0, 0), (40, 2, 0, 7, 0, 0), z0, (36, 2, 0, 7, 0, 0), z0, (32, 2, 6, 0, 0, 0), z0, (53, 3, 0, 131, 0, 0), z0, z0, (36, 1, 0, 1, 0, 0), (32, 1, 2, 0, 0, 0), (36, 2, 0, 7, 0, 0), z0, (3, 1, 0, 0, 0, 0), (9, 1, 0, 0, 0, 0), (32, 1, 3, 0, 0, 0), (4, 1, 0, 0, 0, 0), (40, 2, 0, 8, 0, 0), z0, (36, 2, 0, 8, 0, 0), z0, (46, 3, 0, 43, 0, 0), z0, z0, (32, 1, -1, 0, 0, 0), (56, 3, 0, 55, 0, 0), z0, z0, (37, 1, 0, 0, 0, 0), (37, 1, 0, 0, 0, 0), (36, 1, 0, 3, 0, 0), (36, 2, 0, 7, 0, 0), z0, (110, 3, 1, 98, 3, 74), z0, z0, (36, 1, 0, 2, 0, 0), (110, 3, 1, 97, 3, 75), z0, z0, (40, 2, 0, 9, 0, 0), z0, (36, 2, 0, 9, 0, 0), z0, (32, 1, -1, 0, 0, 0), (45, 3, 0, 84, 0, 0), z0, z0, (37, 1, 0, 0, 0, 0), (66, 3, 0, 52, 8, 3), z0, z0, (36, 2, 0, 9, 0, 0), z0, (60, 1, 0, 0, 0, 0), (44, 3, 0, 84, 0, 0), z0, z0, (32, 1, 2, 0, 0, 0), (36, 2, 0, 6, 0, 0), z0, (36, 2, 0, 8, 0, 0), z0, (1, 1, 0, 0, 0, 0), (83, 3, 0, 1150, 0, 0), z0, z0, (40, 2, 0, 6, 0, 0), z0, (36, 2, 0, 9, 0, 0), z0, (32, 1, -1, 0, 0, 0), (45, 3, 0, 125, 0, 0), z0, z0, (37, 1, 0, 0, 0, 0), (66, 3, 0, 56, 8, 4), z0, z0, (36, 2, 0, 9, 0, 0), z0, (60, 1, 0, 0, 0, 0), (44, 3, 0, 125, 0, 0), z0, z0, (36, 2, 0, 7, 0, 0), z0, (32, 2, 6, 0, 0, 0), z0, (51, 3, 0, 125, 0, 0), z0, z0, (36, 2, 0, 5, 0, 0), z0, (36, 2, 0, 8, 0, 0), z0, (32, 1, 2, 0, 0, 0), (36, 2, 0, 7, 0, 0), z0, (32, 1, 1, 0, 0, 0), (1, 1, 0, 0, 0, 0), (3, 1, 0, 0, 0, 0), (7, 1, 0, 0, 0, 0), (5, 1, 0, 0, 0, 0), (40, 2, 0, 5, 0, 0), z0, (36, 2, 0, 9, 0, 0), z0, (40, 2, 0, 4, 0, 0), z0, (43, 3, 1, 7, 0, 0), z0, z0, (56, 3, 0, 17, 0, 0), z0, z0, (36, 2, 0, 4, 0, 0), z0, (32, 2, 14, 0, 0, 0), z0, (7, 1, 0, 0, 0, 0), (36, 2, 0, 5, 0, 0), z0, (5, 1, 0, 0, 0, 0), (36, 2, 0, 6, 0, 0), z0, (5, 1, 0, 0, 0, 0), (100, 1, 0, 0, 0, 0)]
def P_Ce_keyBehind : PM := (1, ⟨"OneWaySpell$Census", "keyBehind", "(LOneWaySpell$Tree;II)I"⟩, prog_3_method_3_code, 10, some .int, 0, 3, (1147, 188, 1146, 0), C_Ce_keyBehind)
def C_Ce_stateOf : List PI := [(37, 1, 0, 0, 0, 0), (65, 3, 0, 87, 1, 5), z0, z0, (61, 1, 0, 0, 0, 0), (32, 1, 1, 0, 0, 0), (2, 1, 0, 0, 0, 0), (40, 1, 0, 3, 0, 0), (36, 1, 0, 1, 0, 0), (34, 2, -1640531535, 1122, 0, 0), z0, (3, 1, 0, 0, 0, 0), (32, 2, 8, 0, 0, 0), z0, (9, 1, 0, 0, 0, 0), (36, 1, 0, 3, 0, 0), (4, 1, 0, 0, 0, 0), (40, 2, 0, 4, 0, 0), z0, (32, 1, 0, 0, 0, 0), (40, 2, 0, 5, 0, 0), z0, (36, 2, 0, 5, 0, 0), z0, (36, 1, 0, 3, 0, 0), (53, 3, 0, 80, 0, 0), z0, z0, (37, 1, 0, 0, 0, 0), (65, 3, 0, 87, 1, 5), z0, z0, (36, 2, 0, 4, 0, 0), z0, (58, 1, 0, 0, 0, 0), (44, 3, 0, 80, 0, 0), z0, z0, (37, 1, 0, 0, 0, 0), (65, 3, 0, 82, 1, 0), z0, z0, (37, 1, 0, 0, 0, 0), (65, 3, 0, 87, 1, 5), z0, z0, (36, 2, 0, 4, 0, 0), z0, (58, 1, 0, 0, 0, 0), (32, 1, 1, 0, 0, 0), (2, 1, 0, 0, 0, 0), (58, 1, 0, 0, 0, 0), (36, 1, 0, 1, 0, 0), (47, 3, 0, 66, 0, 0), z0, z0, (37, 1, 0, 0, 0, 0), (65, 3, 0, 87, 1, 5), z0, z0, (36, 2, 0, 4, 0, 0), z0, (58, 1, 0, 0, 0, 0), (32, 1, 1, 0, 0, 0), (2, 1, 0, 0, 0, 0), (100, 1, 0, 0, 0, 0), (36, 2, 0, 4, 0, 0), z0, (32, 1, 1, 0, 0, 0), (1, 1, 0, 0, 0, 0), (36, 1, 0, 3, 0, 0), (4, 1, 0, 0, 0, 0), (40, 2, 0, 4, 0, 0), z0, (43, 3, 1, 5, 0, 0), z0, z0, (56, 3, 0, 22, 0, 0), z0, z0, (37, 1, 0, 0, 0, 0), (65, 3, 0, 86, 1, 4), z0, z0, (37, 1, 0, 0, 0, 0), (65, 3, 0, 82, 1, 0), z0, z0, (61, 1, 0, 0, 0, 0), (49, 3, 0, 96, 0, 0), z0, z0, (37, 1, 0, 0, 0, 0), (110, 3, 0, 18, 1, 91), z0, z0, (37, 1, 0, 0, 0, 0), (65, 3, 0, 82, 1, 0), z0, z0, (37, 1, 0, 0, 0, 0), (65, 3, 0, 86, 1, 4), z0, z0, (36, 1, 0, 1, 0, 0), (62, 1, 0, 0, 0, 0), (37, 1, 0, 0, 0, 0), (65, 3, 0, 83, 1, 1), z0, z0, (37, 1, 0, 0, 0, 0), (65, 3, 0, 86, 1, 4), z0, z0, (36, 1, 0, 2, 0, 0), (62, 1, 0, 0, 0, 0), (37, 1, 0, 0, 0, 0), (27, 1, 0, 0, 0, 0), (65, 3, 0, 86, 1, 4), z0, z0, (32, 1, 1, 0, 0, 0), (1, 1, 0, 0, 0, 0), (67, 3, 0, 86, 1, 4), z0, z0, (37, 1, 0, 0, 0, 0), (65, 3, 0, 87, 1, 5), z0, z0, (36, 2, 0, 4, 0, 0), z0, (37, 1, 0, 0, 0, 0), (65, 3, 0, 86, 1, 4), z0, z0, (62, 1, 0, 0, 0, 0), (32, 1, 4, 0, 0, 0), (37, 1, 0, 0, 0, 0), (65, 3, 0, 86, 1, 4), z0, z0, (3, 1, 0, 0, 0, 0), (32, 1, 3, 0, 0, 0), (37, 1, 0, 0, 0, 0), (65, 3, 0, 87, 1, 5), z0, z0, (61, 1, 0, 0, 0, 0), (3, 1, 0, 0, 0, 0), (55, 3, 0, 157, 0, 0), z0, z0, (37, 1, 0, 0, 0, 0), (110, 3, 0, 19, 1, 93), z0, z0, (37, 1, 0, 0, 0, 0), (65, 3, 0, 86, 1, 4), z0, z0, (32, 1, 1, 0, 0, 0), (2, 1, 0, 0, 0, 0), (100, 1, 0, 0, 0, 0)]
def P_Ce_stateOf : PM := (1, ⟨"OneWaySpell$Census", "stateOf", "(II)I"⟩, prog_3_method_4_code, 6, some .int, 1, 2, (1121, 188, 1120, 70), C_Ce_stateOf)
def C_Ce_growStates : List PI := [(32, 1, 2, 0, 0, 0), (37, 1, 0, 0, 0, 0), (65, 3, 0, 82, 1, 0), z0, z0, (61, 1, 0, 0, 0, 0), (3, 1, 0, 0, 0, 0), (40, 1, 0, 1, 0, 0), (37, 1, 0, 0, 0, 0), (37, 1, 0, 0, 0, 0), (65, 3, 0, 82, 1, 0), z0, z0, (36, 1, 0, 1, 0, 0), (110, 3, 0, 287, 2, 92), z0, z0, (67, 3, 0, 82, 1, 0), z0, z0, (37, 1, 0, 0, 0, 0), (37, 1, 0, 0, 0, 0), (65, 3, 0, 83, 1, 1), z0, z0, (36, 1, 0, 1, 0, 0), (110, 3, 0, 287, 2, 92), z0, z0, (67, 3, 0, 83, 1, 1), z0, z0, (37, 1, 0, 0, 0, 0), (37, 1, 0, 0, 0, 0), (65, 3, 0, 88, 1, 6), z0, z0, (36, 1, 0, 1, 0, 0), (32, 1, 1, 0, 0, 0), (1, 1, 0, 0, 0, 0), (110, 3, 0, 287, 2, 92), z0, z0, (67, 3, 0, 88, 1, 6), z0, z0, (37, 1, 0, 0, 0, 0), (36, 1, 0, 1, 0, 0), (32, 2, 11, 0, 0, 0), z0, (3, 1, 0, 0, 0, 0), (74, 2, 0, 0, 0, 0), z0, (67, 3, 0, 84, 1, 2), z0, z0, (37, 1, 0, 0, 0, 0), (36, 1, 0, 1, 0, 0), (32, 2, 11, 0, 0, 0), z0, (3, 1, 0, 0, 0, 0), (74, 2, 0, 0, 0, 0), z0, (67, 3, 0, 85, 1, 3), z0, z0, (103, 1, 0, 0, 0, 0)]
def P_Ce_growStates : PM := (1, ⟨"OneWaySpell$Census", "growStates", "()V"⟩, prog_3_method_5_code, 2, none, 1, 0, (1126, 188, 1125, 71), C_Ce_growStates)
def C_Ce_growSlots : List PI := [(37, 1, 0, 0, 0, 0), (32, 1, 2, 0, 0, 0), (37, 1, 0, 0, 0, 0), (65, 3, 0, 87, 1, 5), z0, z0, (61, 1, 0, 0, 0, 0), (3, 1, 0, 0, 0, 0), (71, 2, 0, 0, 0, 0), z0, (67, 3, 0, 87, 1, 5), z0, z0, (37, 1, 0, 0, 0, 0), (65, 3, 0, 87, 1, 5), z0, z0, (61, 1, 0, 0, 0, 0), (32, 1, 1, 0, 0, 0), (2, 1, 0, 0, 0, 0), (40, 1, 0, 1, 0, 0), (32, 1, 0, 0, 0, 0), (40, 1, 0, 2, 0, 0), (36, 1, 0, 2, 0, 0), (37, 1, 0, 0, 0, 0), (65, 3, 0, 86, 1, 4), z0, z0, (51, 3, 0, 91, 0, 0), z0, z0, (37, 1, 0, 0, 0, 0), (65, 3, 0, 82, 1, 0), z0, z0, (36, 1, 0, 2, 0, 0), (58, 1, 0, 0, 0, 0), (34, 2, -1640531535, 1122, 0, 0), z0, (3, 1, 0, 0, 0, 0), (32, 2, 8, 0, 0, 0), z0, (9, 1, 0, 0, 0, 0), (36, 1, 0, 1, 0, 0), (4, 1, 0, 0, 0, 0), (40, 1, 0, 3, 0, 0), (32, 1, 0, 0, 0, 0), (40, 2, 0, 4, 0, 0), z0, (36, 2, 0, 4, 0, 0), z0, (36, 1, 0, 1, 0, 0), (53, 3, 0, 76, 0, 0), z0, z0, (37, 1, 0, 0, 0, 0), (65, 3, 0, 87, 1, 5), z0, z0, (36, 1, 0, 3, 0, 0), (58, 1, 0, 0, 0, 0), (44, 3, 0, 76, 0, 0), z0, z0, (36, 1, 0, 3, 0, 0), (32, 1, 1, 0, 0, 0), (1, 1, 0, 0, 0, 0), (36, 1, 0, 1, 0, 0), (4, 1, 0, 0, 0, 0), (40, 1, 0, 3, 0, 0), (43, 3, 1, 4, 0, 0), z0, z0, (56, 3, 0, 49, 0, 0), z0, z0, (37, 1, 0, 0, 0, 0), (65, 3, 0, 87, 1, 5), z0, z0, (36, 1, 0, 3, 0, 0), (36, 1, 0, 2, 0, 0), (32, 1, 1, 0, 0, 0), (1, 1, 0, 0, 0, 0), (62, 1, 0, 0, 0, 0), (43, 3, 1, 2, 0, 0), z0, z0, (56, 3, 0, 23, 0, 0), z0, z0, (103, 1, 0, 0, 0, 0)]
def P_Ce_growSlots : PM := (1, ⟨"OneWaySpell$Census", "growSlots", "()V"⟩, prog_3_method_6_code, 5, none, 1, 0, (1142, 188, 1141, 72), C_Ce_growSlots)
def C_Ce_addEdge : List PI := [(37, 1, 0, 0, 0, 0), (65, 3, 0, 91, 1, 9), z0, z0, (37, 1, 0, 0, 0, 0), (65, 3, 0, 90, 1, 8), z0, z0, (61, 1, 0, 0, 0, 0), (49, 3, 0, 48, 0, 0), z0, z0, (37, 1, 0, 0, 0, 0), (37, 1, 0, 0, 0, 0), (65, 3, 0, 90, 1, 8), z0, z0, (32, 1, 2, 0, 0, 0), (37, 1, 0, 0, 0, 0), (65, 3, 0, 90, 1, 8), z0, z0, (61, 1, 0, 0, 0, 0), (3, 1, 0, 0, 0, 0), (110, 3, 0, 287, 2, 92), z0, z0, (67, 3, 0, 90, 1, 8), z0, z0, (37, 1, 0, 0, 0, 0), (37, 1, 0, 0, 0, 0), (65, 3, 0, 89, 1, 7), z0, z0, (32, 1, 2, 0, 0, 0), (37, 1, 0, 0, 0, 0), (65, 3, 0, 89, 1, 7), z0, z0, (61, 1, 0, 0, 0, 0), (3, 1, 0, 0, 0, 0), (110, 3, 0, 286, 2, 96), z0, z0, (67, 3, 0, 89, 1, 7), z0, z0, (37, 1, 0, 0, 0, 0), (65, 3, 0, 89, 1, 7), z0, z0, (37, 1, 0, 0, 0, 0), (65, 3, 0, 91, 1, 9), z0, z0, (36, 1, 0, 1, 0, 0), (26, 1, 0, 0, 0, 0), (64, 1, 0, 0, 0, 0), (37, 1, 0, 0, 0, 0), (65, 3, 0, 90, 1, 8), z0, z0, (37, 1, 0, 0, 0, 0), (65, 3, 0, 91, 1, 9), z0, z0, (36, 1, 0, 2, 0, 0), (62, 1, 0, 0, 0, 0), (37, 1, 0, 0, 0, 0), (27, 1, 0, 0, 0, 0), (65, 3, 0, 91, 1, 9), z0, z0, (32, 1, 1, 0, 0, 0), (1, 1, 0, 0, 0, 0), (67, 3, 0, 91, 1, 9), z0, z0, (103, 1, 0, 0, 0, 0)]
def P_Ce_addEdge : PM := (1, ⟨"OneWaySpell$Census", "addEdge", "(II)V"⟩, prog_3_method_7_code, 3, none, 1, 2, (1154, 188, 1153, 73), C_Ce_addEdge)
def C_Ce_countFrom : List PI := [(36, 1, 0, 1, 0, 0), (32, 2, 11, 0, 0, 0), z0, (3, 1, 0, 0, 0, 0), (36, 1, 0, 2, 0, 0), (1, 1, 0, 0, 0, 0), (40, 1, 0, 3, 0, 0), (36, 1, 0, 2, 0, 0), (46, 3, 0, 55, 0, 0), z0, z0, (37, 1, 0, 0, 0, 0), (65, 3, 0, 82, 1, 0), z0, z0, (36, 1, 0, 1, 0, 0), (58, 1, 0, 0, 0, 0), (32, 1, 3, 0, 0, 0), (4, 1, 0, 0, 0, 0), (40, 2, 0, 4, 0, 0), z0, (37, 1, 0, 0, 0, 0), (65, 3, 0, 84, 1, 2), z0, z0, (36, 1, 0, 3, 0, 0), (36, 2, 0, 4, 0, 0), z0, (54, 3, 0, 35, 0, 0), z0, z0, (33, 1, 1, 0, 0, 0), (56, 3, 0, 36, 0, 0), z0, z0, (33, 1, 0, 0, 0, 0), (63, 1, 0, 0, 0, 0), (37, 1, 0, 0, 0, 0), (65, 3, 0, 85, 1, 3), z0, z0, (36, 1, 0, 3, 0, 0), (36, 2, 0, 4, 0, 0), z0, (32, 1, 1, 0, 0, 0), (47, 3, 0, 52, 0, 0), z0, z0, (33, 1, 1, 0, 0, 0), (56, 3, 0, 53, 0, 0), z0, z0, (33, 1, 0, 0, 0, 0), (63, 1, 0, 0, 0, 0), (103, 1, 0, 0, 0, 0), (37, 1, 0, 0, 0, 0), (65, 3, 0, 84, 1, 2), z0, z0, (36, 1, 0, 3, 0, 0), (33, 1, 0, 0, 0, 0), (63, 1, 0, 0, 0, 0), (37, 1, 0, 0, 0, 0), (65, 3, 0, 85, 1, 3), z0, z0, (36, 1, 0, 3, 0, 0), (33, 1, 0, 0, 0, 0), (63, 1, 0, 0, 0, 0), (37, 1, 0, 0, 0, 0), (65, 3, 0, 88, 1, 6), z0, z0, (36, 1, 0, 1, 0, 0), (58, 1, 0, 0, 0, 0), (40, 2, 0, 4, 0, 0), z0, (36, 2, 0, 4, 0, 0), z0, (37, 1, 0, 0, 0, 0), (65, 3, 0, 88, 1, 6), z0, z0, (36, 1, 0, 1, 0, 0), (32, 1, 1, 0, 0, 0), (1, 1, 0, 0, 0, 0), (58, 1, 0, 0, 0, 0), (51, 3, 0, 152, 0, 0), z0, z0, (37, 1, 0, 0, 0, 0), (65, 3, 0, 84, 1, 2), z0, z0, (36, 1, 0, 3, 0, 0), (31, 1, 0, 0, 0, 0), (59, 1, 0, 0, 0, 0), (37, 1, 0, 0, 0, 0), (65, 3, 0, 84, 1, 2), z0, z0, (37, 1, 0, 0, 0, 0), (65, 3, 0, 90, 1, 8), z0, z0, (36, 2, 0, 4, 0, 0), z0, (58, 1, 0, 0, 0, 0), (32, 2, 11, 0, 0, 0), z0, (3, 1, 0, 0, 0, 0), (36, 1, 0, 2, 0, 0), (1, 1, 0, 0, 0, 0), (32, 1, 1, 0, 0, 0), (2, 1, 0, 0, 0, 0), (59, 1, 0, 0, 0, 0), (12, 1, 0, 0, 0, 0), (63, 1, 0, 0, 0, 0), (37, 1, 0, 0, 0, 0), (65, 3, 0, 85, 1, 3), z0, z0, (36, 1, 0, 3, 0, 0), (31, 1, 0, 0, 0, 0), (59, 1, 0, 0, 0, 0), (37, 1, 0, 0, 0, 0), (65, 3, 0, 85, 1, 3), z0, z0, (37, 1, 0, 0, 0, 0), (65, 3, 0, 90, 1, 8), z0, z0, (36, 2, 0, 4, 0, 0), z0, (58, 1, 0, 0, 0, 0), (32, 2, 11, 0, 0, 0), z0, (3, 1, 0, 0, 0, 0), (36, 1, 0, 2, 0, 0), (1, 1, 0, 0, 0, 0), (32, 1, 1, 0, 0, 0), (2, 1, 0, 0, 0, 0), (59, 1, 0, 0, 0, 0), (12, 1, 0, 0, 0, 0), (63, 1, 0, 0, 0, 0), (43, 3, 1, 4, 0, 0), z0, z0, (56, 3, 0, 77, 0, 0), z0, z0, (103, 1, 0, 0, 0, 0)]
def P_Ce_countFrom : PM := (1, ⟨"OneWaySpell$Census", "countFrom", "(II)V"⟩, prog_3_method_8_code, 5, none, 1, 2, (1166, 188, 1165, 74), C_Ce_countFrom)
def C_Ce_amount : List PI := [(36, 1, 0, 1, 0, 0), (48, 3, 0, 10, 0, 0), z0, z0, (36, 1, 0, 1, 0, 0), (32, 2, 10, 0, 0, 0), z0, (55, 3, 0, 14, 0, 0), z0, z0, (35, 3, -1, 1171, 0, 0), z0, z0, (101, 1, 0, 0, 0, 0), (36, 1, 0, 2, 0, 0), (46, 3, 0, 25, 0, 0), z0, z0, (37, 1, 0, 0, 0, 0), (65, 3, 0, 84, 1, 2), z0, z0, (36, 1, 0, 1, 0, 0), (59, 1, 0, 0, 0, 0), (101, 1, 0, 0, 0, 0), (36, 1, 0, 2, 0, 0), (32, 1, 1, 0, 0, 0), (47, 3, 0, 39, 0, 0), z0, z0, (37, 1, 0, 0, 0, 0), (65, 3, 0, 85, 1, 3), z0, z0, (36, 1, 0, 1, 0, 0), (59, 1, 0, 0, 0, 0), (56, 3, 0, 52, 0, 0), z0, z0, (37, 1, 0, 0, 0, 0), (65, 3, 0, 84, 1, 2), z0, z0, (36, 1, 0, 1, 0, 0), (59, 1, 0, 0, 0, 0), (37, 1, 0, 0, 0, 0), (65, 3, 0, 85, 1, 3), z0, z0, (36, 1, 0, 1, 0, 0), (59, 1, 0, 0, 0, 0), (13, 1, 0, 0, 0, 0), (101, 1, 0, 0, 0, 0)]
def P_Ce_amount : PM := (1, ⟨"OneWaySpell$Census", "amount", "(II)J"⟩, prog_3_method_9_code, 3, some .long, 1, 2, (1170, 188, 1169, 75), C_Ce_amount)
def C_Ce_bringTo : List PI := [(36, 1, 0, 2, 0, 0), (48, 3, 0, 27, 0, 0), z0, z0, (36, 1, 0, 2, 0, 0), (32, 2, 10, 0, 0, 0), z0, (53, 3, 0, 27, 0, 0), z0, z0, (38, 1, 0, 3, 0, 0), (33, 1, 0, 0, 0, 0), (22, 1, 0, 0, 0, 0), (48, 3, 0, 27, 0, 0), z0, z0, (38, 1, 0, 3, 0, 0), (37, 1, 0, 0, 0, 0), (65, 3, 0, 84, 1, 2), z0, z0, (36, 1, 0, 2, 0, 0), (59, 1, 0, 0, 0, 0), (22, 1, 0, 0, 0, 0), (48, 3, 0, 29, 0, 0), z0, z0, (32, 1, 0, 0, 0, 0), (100, 1, 0, 0, 0, 0), (37, 1, 0, 1, 0, 0), (110, 3, 1, 106, 1, 78), z0, z0, (32, 1, 0, 0, 0, 0), (40, 2, 0, 5, 0, 0), z0, (38, 1, 0, 3, 0, 0), (42, 2, 0, 6, 0, 0), z0, (36, 1, 0, 2, 0, 0), (32, 1, 1, 0, 0, 0), (2, 1, 0, 0, 0, 0), (40, 2, 0, 8, 0, 0), z0, (36, 2, 0, 8, 0, 0), z0, (48, 3, 0, 167, 0, 0), z0, z0, (37, 1, 0, 0, 0, 0), (65, 3, 0, 88, 1, 6), z0, z0, (36, 2, 0, 5, 0, 0), z0, (58, 1, 0, 0, 0, 0), (40, 2, 0, 9, 0, 0), z0, (36, 2, 0, 9, 0, 0), z0, (37, 1, 0, 0, 0, 0), (65, 3, 0, 88, 1, 6), z0, z0, (36, 2, 0, 5, 0, 0), z0, (32, 1, 1, 0, 0, 0), (1, 1, 0, 0, 0, 0), (58, 1, 0, 0, 0, 0), (51, 3, 0, 125, 0, 0), z0, z0, (38, 2, 0, 6, 0, 0), z0, (37, 1, 0, 0, 0, 0), (65, 3, 0, 84, 1, 2), z0, z0, (37, 1, 0, 0, 0, 0), (65, 3, 0, 90, 1, 8), z0, z0, (36, 2, 0, 9, 0, 0), z0, (58, 1, 0, 0, 0, 0), (32, 2, 11, 0, 0, 0), z0, (3, 1, 0, 0, 0, 0), (36, 2, 0, 8, 0, 0), z0, (1, 1, 0, 0, 0, 0), (59, 1, 0, 0, 0, 0), (22, 1, 0, 0, 0, 0), (48, 3, 0, 125, 0, 0), z0, z0, (38, 2, 0, 6, 0, 0), z0, (37, 1, 0, 0, 0, 0), (65, 3, 0, 84, 1, 2), z0, z0, (37, 1, 0, 0, 0, 0), (65, 3, 0, 90, 1, 8), z0, z0, (36, 2, 0, 9, 0, 0), z0, (58, 1, 0, 0, 0, 0), (32, 2, 11, 0, 0, 0), z0, (3, 1, 0, 0, 0, 0), (36, 2, 0, 8, 0, 0), z0, (1, 1, 0, 0, 0, 0), (59, 1, 0, 0, 0, 0), (13, 1, 0, 0, 0, 0), (42, 2, 0, 6, 0, 0), z0, (43, 3, 1, 9, 0, 0), z0, z0, (56, 3, 0, 58, 0, 0), z0, z0, (36, 2, 0, 9, 0, 0), z0, (37, 1, 0, 0, 0, 0), (65, 3, 0, 88, 1, 6), z0, z0, (36, 2, 0, 5, 0, 0), z0, (32, 1, 1, 0, 0, 0), (1, 1, 0, 0, 0, 0), (58, 1, 0, 0, 0, 0), (49, 3, 0, 141, 0, 0), z0, z0, (32, 1, 0, 0, 0, 0), (100, 1, 0, 0, 0, 0), (37, 1, 0, 1, 0, 0), (37, 1, 0, 0, 0, 0), (65, 3, 0, 89, 1, 7), z0, z0, (36, 2, 0, 9, 0, 0), z0, (60, 1, 0, 0, 0, 0), (110, 3, 1, 107, 2, 79), z0, z0, (37, 1, 0, 0, 0, 0), (65, 3, 0, 90, 1, 8), z0, z0, (36, 2, 0, 9, 0, 0), z0, (58, 1, 0, 0, 0, 0), (40, 2, 0, 5, 0, 0), z0, (43, 3, -1, 8, 0, 0), z0, z0, (56, 3, 0, 44, 0, 0), z0, z0, (32, 1, 1, 0, 0, 0), (100, 1, 0, 0, 0, 0)]
def P_Ce_bringTo : PM := (1, ⟨"OneWaySpell$Census", "bringTo", "(LOneWaySpell$Word;IJ)Z"⟩, prog_3_method_10_code, 10, some .boolean, 1, 3, (1179, 188, 1178, 76), C_Ce_bringTo)
def C_Ce_rankOf : List PI := [(32, 1, 0, 0, 0, 0), (40, 1, 0, 2, 0, 0), (33, 1, 0, 0, 0, 0), (42, 1, 0, 3, 0, 0), (32, 1, 0, 0, 0, 0), (40, 2, 0, 5, 0, 0), z0, (36, 2, 0, 5, 0, 0), z0, (37, 1, 0, 1, 0, 0), (66, 3, 0, 42, 10, 1), z0, z0, (51, 3, 0, 147, 0, 0), z0, z0, (36, 2, 0, 5, 0, 0), z0, (32, 2, 10, 0, 0, 0), z0, (51, 3, 0, 147, 0, 0), z0, z0, (37, 1, 0, 1, 0, 0), (66, 3, 0, 42, 10, 1), z0, z0, (32, 1, 1, 0, 0, 0), (2, 1, 0, 0, 0, 0), (36, 2, 0, 5, 0, 0), z0, (2, 1, 0, 0, 0, 0), (40, 2, 0, 6, 0, 0), z0, (37, 1, 0, 0, 0, 0), (65, 3, 0, 88, 1, 6), z0, z0, (36, 1, 0, 2, 0, 0), (58, 1, 0, 0, 0, 0), (40, 2, 0, 7, 0, 0), z0, (36, 2, 0, 7, 0, 0), z0, (37, 1, 0, 0, 0, 0), (65, 3, 0, 88, 1, 6), z0, z0, (36, 1, 0, 2, 0, 0), (32, 1, 1, 0, 0, 0), (1, 1, 0, 0, 0, 0), (58, 1, 0, 0, 0, 0), (51, 3, 0, 99, 0, 0), z0, z0, (37, 1, 0, 0, 0, 0), (65, 3, 0, 89, 1, 7), z0, z0, (36, 2, 0, 7, 0, 0), z0, (60, 1, 0, 0, 0, 0), (37, 1, 0, 1, 0, 0), (66, 3, 0, 38, 10, 0), z0, z0, (36, 2, 0, 5, 0, 0), z0, (60, 1, 0, 0, 0, 0), (51, 3, 0, 99, 0, 0), z0, z0, (38, 1, 0, 3, 0, 0), (37, 1, 0, 0, 0, 0), (65, 3, 0, 84, 1, 2), z0, z0, (37, 1, 0, 0, 0, 0), (65, 3, 0, 90, 1, 8), z0, z0, (36, 2, 0, 7, 0, 0), z0, (58, 1, 0, 0, 0, 0), (32, 2, 11, 0, 0, 0), z0, (3, 1, 0, 0, 0, 0), (36, 2, 0, 6, 0, 0), z0, (1, 1, 0, 0, 0, 0), (59, 1, 0, 0, 0, 0), (12, 1, 0, 0, 0, 0), (42, 1, 0, 3, 0, 0), (43, 3, 1, 7, 0, 0), z0, z0, (56, 3, 0, 42, 0, 0), z0, z0, (36, 2, 0, 7, 0, 0), z0, (37, 1, 0, 0, 0, 0), (65, 3, 0, 88, 1, 6), z0, z0, (36, 1, 0, 2, 0, 0), (32, 1, 1, 0, 0, 0), (1, 1, 0, 0, 0, 0), (58, 1, 0, 0, 0, 0), (51, 3, 0, 129, 0, 0), z0, z0, (37, 1, 0, 0, 0, 0), (65, 3, 0, 89, 1, 7), z0, z0, (36, 2, 0, 7, 0, 0), z0, (60, 1, 0, 0, 0, 0), (37, 1, 0, 1, 0, 0), (66, 3, 0, 38, 10, 0), z0, z0, (36, 2, 0, 5, 0, 0), z0, (60, 1, 0, 0, 0, 0), (45, 3, 0, 133, 0, 0), z0, z0, (35, 3, -1, 1171, 0, 0), z0, z0, (101, 1, 0, 0, 0, 0), (37, 1, 0, 0, 0, 0), (65, 3, 0, 90, 1, 8), z0, z0, (36, 2, 0, 7, 0, 0), z0, (58, 1, 0, 0, 0, 0), (40, 1, 0, 2, 0, 0), (43, 3, 1, 5, 0, 0), z0, z0, (56, 3, 0, 7, 0, 0), z0, z0, (37, 1, 0, 0, 0, 0), (65, 3, 0, 84, 1, 2), z0, z0, (36, 1, 0, 2, 0, 0), (32, 2, 11, 0, 0, 0), z0, (3, 1, 0, 0, 0, 0), (59, 1, 0, 0, 0, 0), (33, 1, 0, 0, 0, 0), (22, 1, 0, 0, 0, 0), (54, 3, 0, 165, 0, 0), z0, z0, (38, 1, 0, 3, 0, 0), (56, 3, 0, 168, 0, 0), z0, z0, (35, 3, -1, 1171, 0, 0), z0, z0, (101, 1, 0, 0, 0, 0)]
def P_Ce_rankOf : PM := (1, ⟨"OneWaySpell$Census", "rankOf", "(LOneWaySpell$Word;)J"⟩, prog_3_method_11_code, 8, some .long, 1, 1, (1189, 188, 1188, 77), C_Ce_rankOf)
def C_Cu_init : List PI := [(37, 1, 0, 0, 0, 0), (78, 3, 0, 1293, 0, 0), z0, z0, (37, 1, 0, 0, 0, 0), (70, 3, 0, 1294, 3, 0), z0, z0, (27, 1, 0, 0, 0, 0), (110, 3, 1, 33, 1, 87), z0, z0, (69, 3, 0, 99, 2, 0), z0, z0, (37, 1, 0, 0, 0, 0), (70, 3, 0, 1296, 6, 0), z0, z0, (27, 1, 0, 0, 0, 0), (110, 3, 1, 68, 1, 88), z0, z0, (69, 3, 0, 100, 2, 1), z0, z0, (37, 1, 0, 0, 0, 0), (32, 1, 3, 0, 0, 0), (71, 2, 0, 0, 0, 0), z0, (69, 3, 0, 101, 2, 2), z0, z0, (37, 1, 0, 0, 0, 0), (32, 1, 3, 0, 0, 0), (71, 2, 0, 0, 0, 0), z0, (27, 1, 0, 0, 0, 0), (32, 1, 0, 0, 0, 0), (32, 1, -1, 0, 0, 0), (62, 1, 0, 0, 0, 0), (27, 1, 0, 0, 0, 0), (32, 1, 1, 0, 0, 0), (32, 1, -1, 0, 0, 0), (62, 1, 0, 0, 0, 0), (27, 1, 0, 0, 0, 0), (32, 1, 2, 0, 0, 0), (32, 1, -1, 0, 0, 0), (62, 1, 0, 0, 0, 0), (69, 3, 0, 102, 2, 3), z0, z0, (37, 1, 0, 0, 0, 0), (32, 2, 14, 0, 0, 0), z0, (71, 2, 0, 0, 0, 0), z0, (69, 3, 0, 103, 2, 4), z0, z0, (37, 1, 0, 0, 0, 0), (32, 2, 14, 0, 0, 0), z0, (71, 2, 0, 0, 0, 0), z0, (69, 3, 0, 106, 2, 7), z0, z0, (37, 1, 0, 0, 0, 0), (32, 3, 1024, 0, 0, 0), z0, z0, (71, 2, 0, 0, 0, 0), z0, (69, 3, 0, 107, 2, 8), z0, z0, (37, 1, 0, 0, 0, 0), (32, 3, 1024, 0, 0, 0), z0, z0, (71, 2, 0, 0, 0, 0), z0, (69, 3, 0, 108, 2, 9), z0, z0, (103, 1, 0, 0, 0, 0)]
def P_Cu_init : PM := (2, ⟨"OneWaySpell$Cures", "<init>", "()V"⟩, prog_4_method_1_code, 1, none, 2, 0, (1292, 190, 1291, 0), C_Cu_init)
def C_Cu_fewest : List PI := [(36, 1, 0, 2, 0, 0), (48, 3, 0, 9, 0, 0), z0, z0, (36, 1, 0, 2, 0, 0), (32, 1, 3, 0, 0, 0), (49, 3, 0, 11, 0, 0), z0, z0, (32, 1, -1, 0, 0, 0), (100, 1, 0, 0, 0, 0), (37, 1, 0, 0, 0, 0), (65, 3, 0, 102, 2, 3), z0, z0, (36, 1, 0, 2, 0, 0), (58, 1, 0, 0, 0, 0), (37, 1, 0, 1, 0, 0), (66, 3, 0, 28, 3, 6), z0, z0, (47, 3, 0, 31, 0, 0), z0, z0, (37, 1, 0, 0, 0, 0), (65, 3, 0, 101, 2, 2), z0, z0, (36, 1, 0, 2, 0, 0), (58, 1, 0, 0, 0, 0), (100, 1, 0, 0, 0, 0), (37, 1, 0, 0, 0, 0), (32, 1, 0, 0, 0, 0), (67, 3, 0, 109, 2, 10), z0, z0, (37, 1, 0, 0, 0, 0), (32, 1, 0, 0, 0, 0), (67, 3, 0, 110, 2, 11), z0, z0, (37, 1, 0, 0, 0, 0), (37, 1, 0, 1, 0, 0), (110, 3, 0, 27, 2, 116), z0, z0, (32, 1, -1, 0, 0, 0), (40, 1, 0, 3, 0, 0), (32, 1, 0, 0, 0, 0), (40, 2, 0, 4, 0, 0), z0, (36, 2, 0, 4, 0, 0), z0, (37, 1, 0, 0, 0, 0), (65, 3, 0, 104, 2, 5), z0, z0, (53, 3, 0, 87, 0, 0), z0, z0, (36, 1, 0, 3, 0, 0), (32, 1, -1, 0, 0, 0), (47, 3, 0, 87, 0, 0), z0, z0, (37, 1, 0, 0, 0, 0), (65, 3, 0, 110, 2, 11), z0, z0, (46, 3, 0, 87, 0, 0), z0, z0, (37, 1, 0, 0, 0, 0), (37, 1, 0, 1, 0, 0), (36, 1, 0, 2, 0, 0), (36, 2, 0, 4, 0, 0), z0, (110, 3, 0, 28, 4, 117), z0, z0, (40, 1, 0, 3, 0, 0), (43, 3, 1, 4, 0, 0), z0, z0, (56, 3, 0, 51, 0, 0), z0, z0, (37, 1, 0, 0, 0, 0), (65, 3, 0, 101, 2, 2), z0, z0, (36, 1, 0, 2, 0, 0), (36, 1, 0, 3, 0, 0), (62, 1, 0, 0, 0, 0), (37, 1, 0, 0, 0, 0), (65, 3, 0, 102, 2, 3), z0, z0, (36, 1, 0, 2, 0, 0), (37, 1, 0, 1, 0, 0), (66, 3, 0, 28, 3, 6), z0, z0, (62, 1, 0, 0, 0, 0), (36, 1, 0, 3, 0, 0), (100, 1, 0, 0, 0, 0)]
def P_Cu_fewest : PM := (2, ⟨"OneWaySpell$Cures", "fewest", "(LOneWaySpell$Groups;I)I"⟩, prog_4_method_2_code, 5, some .int, 1, 2, (1338, 190, 1337, 90), C_Cu_fewest)
def C_Cu_findChoosable : List PI := [(37, 1, 0, 0, 0, 0), (32, 1, 0, 0, 0, 0), (67, 3, 0, 104, 2, 5), z0, z0, (37, 1, 0, 0, 0, 0), (32, 1, 0, 0, 0, 0), (67, 3, 0, 105, 2, 6), z0, z0, (32, 1, 0, 0, 0, 0), (40, 1, 0, 2, 0, 0), (36, 1, 0, 2, 0, 0), (37, 1, 0, 1, 0, 0), (66, 3, 0, 18, 3, 3), z0, z0, (51, 3, 0, 77, 0, 0), z0, z0, (37, 1, 0, 1, 0, 0), (36, 1, 0, 2, 0, 0), (110, 3, 1, 35, 2, 90), z0, z0, (44, 3, 0, 71, 0, 0), z0, z0, (37, 1, 0, 1, 0, 0), (66, 3, 0, 8, 3, 1), z0, z0, (36, 1, 0, 2, 0, 0), (58, 1, 0, 0, 0, 0), (32, 2, 6, 0, 0, 0), z0, (53, 3, 0, 71, 0, 0), z0, z0, (37, 1, 0, 0, 0, 0), (65, 3, 0, 103, 2, 4), z0, z0, (37, 1, 0, 0, 0, 0), (65, 3, 0, 104, 2, 5), z0, z0, (36, 1, 0, 2, 0, 0), (62, 1, 0, 0, 0, 0), (37, 1, 0, 0, 0, 0), (27, 1, 0, 0, 0, 0), (65, 3, 0, 104, 2, 5), z0, z0, (32, 1, 1, 0, 0, 0), (1, 1, 0, 0, 0, 0), (67, 3, 0, 104, 2, 5), z0, z0, (37, 1, 0, 0, 0, 0), (27, 1, 0, 0, 0, 0), (65, 3, 0, 105, 2, 6), z0, z0, (32, 1, 1, 0, 0, 0), (36, 1, 0, 2, 0, 0), (7, 1, 0, 0, 0, 0), (5, 1, 0, 0, 0, 0), (67, 3, 0, 105, 2, 6), z0, z0, (43, 3, 1, 2, 0, 0), z0, z0, (56, 3, 0, 12, 0, 0), z0, z0, (103, 1, 0, 0, 0, 0)]
def P_Cu_findChoosable : PM := (2, ⟨"OneWaySpell$Cures", "findChoosable", "(LOneWaySpell$Groups;)V"⟩, prog_4_method_3_code, 3, none, 1, 1, (1342, 190, 1341, 91), C_Cu_findChoosable)
def C_Cu_searchOfSize : List PI := [(32, 1, 0, 0, 0, 0), (40, 2, 0, 4, 0, 0), z0, (36, 2, 0, 4, 0, 0), z0, (36, 1, 0, 3, 0, 0), (51, 3, 0, 24, 0, 0), z0, z0, (37, 1, 0, 0, 0, 0), (65, 3, 0, 106, 2, 7), z0, z0, (36, 2, 0, 4, 0, 0), z0, (36, 2, 0, 4, 0, 0), z0, (62, 1, 0, 0, 0, 0), (43, 3, 1, 4, 0, 0), z0, z0, (56, 3, 0, 3, 0, 0), z0, z0, (32, 1, 1, 0, 0, 0), (40, 2, 0, 4, 0, 0), z0, (32, 1, 0, 0, 0, 0), (40, 2, 0, 5, 0, 0), z0, (36, 2, 0, 5, 0, 0), z0, (32, 3, 16384, 0, 0, 0), z0, z0, (51, 3, 0, 93, 0, 0), z0, z0, (36, 2, 0, 4, 0, 0), z0, (44, 3, 0, 93, 0, 0), z0, z0, (37, 1, 0, 0, 0, 0), (65, 3, 0, 110, 2, 11), z0, z0, (46, 3, 0, 93, 0, 0), z0, z0, (37, 1, 0, 0, 0, 0), (36, 1, 0, 3, 0, 0), (110, 3, 0, 29, 2, 118), z0, z0, (40, 2, 0, 6, 0, 0), z0, (37, 1, 0, 0, 0, 0), (36, 2, 0, 6, 0, 0), z0, (110, 3, 0, 31, 2, 119), z0, z0, (46, 3, 0, 80, 0, 0), z0, z0, (37, 1, 0, 0, 0, 0), (37, 1, 0, 1, 0, 0), (36, 1, 0, 2, 0, 0), (36, 2, 0, 6, 0, 0), z0, (110, 3, 0, 32, 4, 120), z0, z0, (44, 3, 0, 80, 0, 0), z0, z0, (36, 2, 0, 6, 0, 0), z0, (100, 1, 0, 0, 0, 0), (37, 1, 0, 0, 0, 0), (36, 1, 0, 3, 0, 0), (110, 3, 0, 30, 2, 121), z0, z0, (40, 2, 0, 4, 0, 0), z0, (43, 3, 1, 5, 0, 0), z0, z0, (56, 3, 0, 30, 0, 0), z0, z0, (32, 1, -1, 0, 0, 0), (100, 1, 0, 0, 0, 0)]
def P_Cu_searchOfSize : PM := (2, ⟨"OneWaySpell$Cures", "searchOfSize", "(LOneWaySpell$Groups;II)I"⟩, prog_4_method_4_code, 7, some .int, 1, 3, (1347, 190, 1346, 92), C_Cu_searchOfSize)
def C_Cu_chosenMask : List PI := [(32, 1, 0, 0, 0, 0), (40, 1, 0, 2, 0, 0), (32, 1, 0, 0, 0, 0), (40, 1, 0, 3, 0, 0), (36, 1, 0, 3, 0, 0), (36, 1, 0, 1, 0, 0), (51, 3, 0, 31, 0, 0), z0, z0, (36, 1, 0, 2, 0, 0), (32, 1, 1, 0, 0, 0), (37, 1, 0, 0, 0, 0), (65, 3, 0, 103, 2, 4), z0, z0, (37, 1, 0, 0, 0, 0), (65, 3, 0, 106, 2, 7), z0, z0, (36, 1, 0, 3, 0, 0), (58, 1, 0, 0, 0, 0), (58, 1, 0, 0, 0, 0), (7, 1, 0, 0, 0, 0), (5, 1, 0, 0, 0, 0), (40, 1, 0, 2, 0, 0), (43, 3, 1, 3, 0, 0), z0, z0, (56, 3, 0, 4, 0, 0), z0, z0, (36, 1, 0, 2, 0, 0), (100, 1, 0, 0, 0, 0)]
def P_Cu_chosenMask : PM := (2, ⟨"OneWaySpell$Cures", "chosenMask", "(I)I"⟩, prog_4_method_5_code, 4, some .int, 1, 1, (1351, 190, 1350, 93), C_Cu_chosenMask)
def C_Cu_chooseNext : List PI := [(36, 1, 0, 1, 0, 0), (32, 1, 1, 0, 0, 0), (2, 1, 0, 0, 0, 0), (40, 1, 0, 2, 0, 0), (36, 1, 0, 2, 0, 0), (48, 3, 0, 31, 0, 0), z0, z0, (37, 1, 0, 0, 0, 0), (65, 3, 0, 106, 2, 7), z0, z0, (36, 1, 0, 2, 0, 0), (58, 1, 0, 0, 0, 0), (37, 1, 0, 0, 0, 0), (65, 3, 0, 104, 2, 5), z0, z0, (36, 1, 0, 1, 0, 0), (2, 1, 0, 0, 0, 0), (36, 1, 0, 2, 0, 0), (1, 1, 0, 0, 0, 0), (49, 3, 0, 31, 0, 0), z0, z0, (43, 3, -1, 2, 0, 0), z0, z0, (56, 3, 0, 4, 0, 0), z0, z0, (36, 1, 0, 2, 0, 0), (50, 3, 0, 37, 0, 0), z0, z0, (32, 1, 0, 0, 0, 0), (100, 1, 0, 0, 0, 0), (37, 1, 0, 0, 0, 0), (65, 3, 0, 106, 2, 7), z0, z0, (36, 1, 0, 2, 0, 0), (31, 1, 0, 0, 0, 0), (58, 1, 0, 0, 0, 0), (32, 1, 1, 0, 0, 0), (1, 1, 0, 0, 0, 0), (62, 1, 0, 0, 0, 0), (36, 1, 0, 2, 0, 0), (32, 1, 1, 0, 0, 0), (1, 1, 0, 0, 0, 0), (40, 1, 0, 3, 0, 0), (36, 1, 0, 3, 0, 0), (36, 1, 0, 1, 0, 0), (51, 3, 0, 78, 0, 0), z0, z0, (37, 1, 0, 0, 0, 0), (65, 3, 0, 106, 2, 7), z0, z0, (36, 1, 0, 3, 0, 0), (37, 1, 0, 0, 0, 0), (65, 3, 0, 106, 2, 7), z0, z0, (36, 1, 0, 3, 0, 0), (32, 1, 1, 0, 0, 0), (2, 1, 0, 0, 0, 0), (58, 1, 0, 0, 0, 0), (32, 1, 1, 0, 0, 0), (1, 1, 0, 0, 0, 0), (62, 1, 0, 0, 0, 0), (43, 3, 1, 3, 0, 0), z0, z0, (56, 3, 0, 51, 0, 0), z0, z0, (32, 1, 1, 0, 0, 0), (100, 1, 0, 0, 0, 0)]
def P_Cu_chooseNext : PM := (2, ⟨"OneWaySpell$Cures", "chooseNext", "(I)Z"⟩, prog_4_method_6_code, 4, some .boolean, 1, 1, (1373, 190, 1372, 98), C_Cu_chooseNext)
def C_Cu_isRefuted : List PI := [(32, 1, 0, 0, 0, 0), (40, 1, 0, 2, 0, 0), (36, 1, 0, 2, 0, 0), (37, 1, 0, 0, 0, 0), (65, 3, 0, 109, 2, 10), z0, z0, (51, 3, 0, 35, 0, 0), z0, z0, (36, 1, 0, 1, 0, 0), (37, 1, 0, 0, 0, 0), (65, 3, 0, 107, 2, 8), z0, z0, (36, 1, 0, 2, 0, 0), (58, 1, 0, 0, 0, 0), (4, 1, 0, 0, 0, 0), (37, 1, 0, 0, 0, 0), (65, 3, 0, 108, 2, 9), z0, z0, (36, 1, 0, 2, 0, 0), (58, 1, 0, 0, 0, 0), (47, 3, 0, 29, 0, 0), z0, z0, (32, 1, 1, 0, 0, 0), (100, 1, 0, 0, 0, 0), (43, 3, 1, 2, 0, 0), z0, z0, (56, 3, 0, 2, 0, 0), z0, z0, (32, 1, 0, 0, 0, 0), (100, 1, 0, 0, 0, 0)]
def P_Cu_isRefuted : PM := (2, ⟨"OneWaySpell$Cures", "isRefuted", "(I)Z"⟩, prog_4_method_7_code, 3, some .boolean, 1, 1, (1355, 190, 1354, 94), C_Cu_isRefuted)
def C_Cu_heals : List PI := [(37, 1, 0, 0, 0, 0), (65, 3, 0, 99, 2, 0), z0, z0, (37, 1, 0, 1, 0, 0), (110, 3, 1, 37, 2, 91), z0, z0, (37, 1, 0, 0, 0, 0), (65, 3, 0, 99, 2, 0), z0, z0, (36, 1, 0, 2, 0, 0), (36, 1, 0, 3, 0, 0), (110, 3, 1, 40, 3, 92), z0, z0, (37, 1, 0, 0, 0, 0), (65, 3, 0, 100, 2, 1), z0, z0, (37, 1, 0, 0, 0, 0), (65, 3, 0, 99, 2, 0), z0, z0, (32, 1, 1, 0, 0, 0), (110, 3, 1, 69, 3, 93), z0, z0, (37, 1, 0, 0, 0, 0), (65, 3, 0, 100, 2, 1), z0, z0, (66, 3, 0, 47, 6, 6), z0, z0, (32, 1, -1, 0, 0, 0), (47, 3, 0, 42, 0, 0), z0, z0, (32, 1, 1, 0, 0, 0), (100, 1, 0, 0, 0, 0), (37, 1, 0, 0, 0, 0), (65, 3, 0, 100, 2, 1), z0, z0, (66, 3, 0, 49, 6, 7), z0, z0, (37, 1, 0, 0, 0, 0), (65, 3, 0, 105, 2, 6), z0, z0, (4, 1, 0, 0, 0, 0), (40, 2, 0, 4, 0, 0), z0, (37, 1, 0, 0, 0, 0), (36, 2, 0, 4, 0, 0), z0, (46, 3, 0, 66, 0, 0), z0, z0, (32, 1, 1, 0, 0, 0), (56, 3, 0, 67, 0, 0), z0, z0, (32, 1, 0, 0, 0, 0), (67, 3, 0, 110, 2, 11), z0, z0, (37, 1, 0, 0, 0, 0), (65, 3, 0, 109, 2, 10), z0, z0, (32, 3, 1024, 0, 0, 0), z0, z0, (51, 3, 0, 114, 0, 0), z0, z0, (37, 1, 0, 0, 0, 0), (65, 3, 0, 107, 2, 8), z0, z0, (37, 1, 0, 0, 0, 0), (65, 3, 0, 109, 2, 10), z0, z0, (36, 2, 0, 4, 0, 0), z0, (62, 1, 0, 0, 0, 0), (37, 1, 0, 0, 0, 0), (65, 3, 0, 108, 2, 9), z0, z0, (37, 1, 0, 0, 0, 0), (65, 3, 0, 109, 2, 10), z0, z0, (36, 1, 0, 3, 0, 0), (36, 2, 0, 4, 0, 0), z0, (4, 1, 0, 0, 0, 0), (62, 1, 0, 0, 0, 0), (37, 1, 0, 0, 0, 0), (27, 1, 0, 0, 0, 0), (65, 3, 0, 109, 2, 10), z0, z0, (32, 1, 1, 0, 0, 0), (1, 1, 0, 0, 0, 0), (67, 3, 0, 109, 2, 10), z0, z0, (32, 1, 0, 0, 0, 0), (100, 1, 0, 0, 0, 0)]
def P_Cu_heals : PM := (2, ⟨"OneWaySpell$Cures", "heals", "(LOneWaySpell$Groups;II)Z"⟩, prog_4_method_8_code, 5, some .boolean, 1, 3, (1359, 190, 1358, 95), C_Cu_heals)
def C_Gr_init : List PI := [(37, 1, 0, 0, 0, 0), (78, 3, 0, 204, 0, 0), z0, z0, (37, 1, 0, 0, 0, 0), (32, 2, 14, 0, 0, 0), z0, (74, 2, 0, 0, 0, 0), z0, (69, 3, 0, 0, 3, 0), z0, z0, (37, 1, 0, 0, 0, 0), (32, 2, 14, 0, 0, 0), z0, (71, 2, 0, 0, 0, 0), z0, (69, 3, 0, 1, 3, 1), z0, z0, (37, 1, 0, 0, 0, 0), (32, 2, 14, 0, 0, 0), z0, (71, 2, 0, 0, 0, 0), z0, (69, 3, 0, 2, 3, 2), z0, z0, (37, 1, 0, 0, 0, 0), (32, 2, 12, 0, 0, 0), z0, (71, 2, 0, 0, 0, 0), z0, (69, 3, 0, 7, 3, 7), z0, z0, (37, 1, 0, 0, 0, 0), (32, 2, 12, 0, 0, 0), z0, (71, 2, 0, 0, 0, 0), z0, (69, 3, 0, 8, 3, 8), z0, z0, (103, 1, 0, 0, 0, 0)]
def P_Gr_init : PM := (3, ⟨"OneWaySpell$Groups", "<init>", "()V"⟩, prog_5_method_1_code, 1, none, 2, 0, (203, 175, 202, 0), C_Gr_init)
def C_Gr_has : List PI := [(36, 1, 0, 1, 0, 0), (48, 3, 0, 16, 0, 0), z0, z0, (36, 1, 0, 1, 0, 0), (37, 1, 0, 0, 0, 0), (65, 3, 0, 3, 3, 3), z0, z0, (51, 3, 0, 16, 0, 0), z0, z0, (32, 1, 1, 0, 0, 0), (56, 3, 0, 17, 0, 0), z0, z0, (32, 1, 0, 0, 0, 0), (100, 1, 0, 0, 0, 0)]
def P_Gr_has : PM := (3, ⟨"OneWaySpell$Groups", "has", "(I)Z"⟩, prog_5_method_2_code, 2, some .boolean, 1, 1, (452, 175, 451, 9), C_Gr_has)
def C_Gr_isIn : List PI := [(37, 1, 0, 0, 0, 0), (36, 1, 0, 1, 0, 0), (110, 3, 0, 34, 2, 14), z0, z0, (44, 3, 0, 24, 0, 0), z0, z0, (37, 1, 0, 0, 0, 0), (65, 3, 0, 5, 3, 5), z0, z0, (36, 1, 0, 1, 0, 0), (9, 1, 0, 0, 0, 0), (32, 1, 1, 0, 0, 0), (4, 1, 0, 0, 0, 0), (32, 1, 1, 0, 0, 0), (47, 3, 0, 24, 0, 0), z0, z0, (32, 1, 1, 0, 0, 0), (56, 3, 0, 25, 0, 0), z0, z0, (32, 1, 0, 0, 0, 0), (100, 1, 0, 0, 0, 0)]
def P_Gr_isIn : PM := (3, ⟨"OneWaySpell$Groups", "isIn", "(I)Z"⟩, prog_5_method_3_code, 2, some .boolean, 1, 1, (456, 175, 455, 10), C_Gr_isIn)
def C_Gr_takeTold : List PI := [(37, 1, 0, 0, 0, 0), (37, 1, 0, 1, 0, 0), (66, 3, 0, 35, 7, 5), z0, z0, (67, 3, 0, 3, 3, 3), z0, z0, (37, 1, 0, 0, 0, 0), (37, 1, 0, 1, 0, 0), (66, 3, 0, 31, 7, 1), z0, z0, (67, 3, 0, 4, 3, 4), z0, z0, (37, 1, 0, 1, 0, 0), (66, 3, 0, 32, 7, 2), z0, z0, (32, 1, 0, 0, 0, 0), (37, 1, 0, 0, 0, 0), (65, 3, 0, 0, 3, 0), z0, z0, (32, 1, 0, 0, 0, 0), (37, 1, 0, 0, 0, 0), (65, 3, 0, 3, 3, 3), z0, z0, (81, 3, 0, 434, 0, 0), z0, z0, (37, 1, 0, 1, 0, 0), (66, 3, 0, 33, 7, 3), z0, z0, (32, 1, 0, 0, 0, 0), (37, 1, 0, 0, 0, 0), (65, 3, 0, 1, 3, 1), z0, z0, (32, 1, 0, 0, 0, 0), (37, 1, 0, 0, 0, 0), (65, 3, 0, 3, 3, 3), z0, z0, (79, 3, 0, 434, 0, 0), z0, z0, (37, 1, 0, 1, 0, 0), (66, 3, 0, 34, 7, 4), z0, z0, (32, 1, 0, 0, 0, 0), (37, 1, 0, 0, 0, 0), (65, 3, 0, 2, 3, 2), z0, z0, (32, 1, 0, 0, 0, 0), (37, 1, 0, 0, 0, 0), (65, 3, 0, 3, 3, 3), z0, z0, (79, 3, 0, 434, 0, 0), z0, z0, (37, 1, 0, 0, 0, 0), (32, 1, 1, 0, 0, 0), (37, 1, 0, 0, 0, 0), (65, 3, 0, 3, 3, 3), z0, z0, (7, 1, 0, 0, 0, 0), (32, 1, 1, 0, 0, 0), (2, 1, 0, 0, 0, 0), (67, 3, 0, 5, 3, 5), z0, z0, (37, 1, 0, 0, 0, 0), (32, 1, 0, 0, 0, 0), (67, 3, 0, 9, 3, 9), z0, z0, (37, 1, 0, 0, 0, 0), (27, 1, 0, 0, 0, 0), (65, 3, 0, 6, 3, 6), z0, z0, (32, 1, 1, 0, 0, 0), (1, 1, 0, 0, 0, 0), (67, 3, 0, 6, 3, 6), z0, z0, (103, 1, 0, 0, 0, 0)]
def P_Gr_takeTold : PM := (3, ⟨"OneWaySpell$Groups", "takeTold", "(LOneWaySpell$Teller;)V"⟩, prog_5_method_4_code, 2, none, 1, 1, (433, 175, 432, 7), C_Gr_takeTold)
def C_Gr_copyFrom : List PI := [(37, 1, 0, 0, 0, 0), (37, 1, 0, 1, 0, 0), (65, 3, 0, 3, 3, 3), z0, z0, (67, 3, 0, 3, 3, 3), z0, z0, (37, 1, 0, 1, 0, 0), (65, 3, 0, 0, 3, 0), z0, z0, (32, 1, 0, 0, 0, 0), (37, 1, 0, 0, 0, 0), (65, 3, 0, 0, 3, 0), z0, z0, (32, 1, 0, 0, 0, 0), (37, 1, 0, 0, 0, 0), (65, 3, 0, 3, 3, 3), z0, z0, (81, 3, 0, 434, 0, 0), z0, z0, (37, 1, 0, 1, 0, 0), (65, 3, 0, 1, 3, 1), z0, z0, (32, 1, 0, 0, 0, 0), (37, 1, 0, 0, 0, 0), (65, 3, 0, 1, 3, 1), z0, z0, (32, 1, 0, 0, 0, 0), (37, 1, 0, 0, 0, 0), (65, 3, 0, 3, 3, 3), z0, z0, (79, 3, 0, 434, 0, 0), z0, z0, (37, 1, 0, 0, 0, 0), (37, 1, 0, 1, 0, 0), (65, 3, 0, 5, 3, 5), z0, z0, (67, 3, 0, 5, 3, 5), z0, z0, (37, 1, 0, 0, 0, 0), (27, 1, 0, 0, 0, 0), (65, 3, 0, 6, 3, 6), z0, z0, (32, 1, 1, 0, 0, 0), (1, 1, 0, 0, 0, 0), (67, 3, 0, 6, 3, 6), z0, z0, (103, 1, 0, 0, 0, 0)]
def P_Gr_copyFrom : PM := (3, ⟨"OneWaySpell$Groups", "copyFrom", "(LOneWaySpell$Groups;)V"⟩, prog_5_method_5_code, 2, none, 1, 1, (1363, 175, 1362, 96), C_Gr_copyFrom)
def C_Gr_act : List PI := [(37, 1, 0, 0, 0, 0), (65, 3, 0, 9, 3, 9), z0, z0, (32, 2, 12, 0, 0, 0), z0, (49, 3, 0, 45, 0, 0), z0, z0, (37, 1, 0, 0, 0, 0), (65, 3, 0, 7, 3, 7), z0, z0, (32, 1, 1, 0, 0, 0), (37, 1, 0, 0, 0, 0), (65, 3, 0, 7, 3, 7), z0, z0, (32, 1, 0, 0, 0, 0), (32, 2, 11, 0, 0, 0), z0, (79, 3, 0, 434, 0, 0), z0, z0, (37, 1, 0, 0, 0, 0), (65, 3, 0, 8, 3, 8), z0, z0, (32, 1, 1, 0, 0, 0), (37, 1, 0, 0, 0, 0), (65, 3, 0, 8, 3, 8), z0, z0, (32, 1, 0, 0, 0, 0), (32, 2, 11, 0, 0, 0), z0, (79, 3, 0, 434, 0, 0), z0, z0, (37, 1, 0, 0, 0, 0), (32, 2, 11, 0, 0, 0), z0, (67, 3, 0, 9, 3, 9), z0, z0, (37, 1, 0, 0, 0, 0), (65, 3, 0, 7, 3, 7), z0, z0, (37, 1, 0, 0, 0, 0), (65, 3, 0, 9, 3, 9), z0, z0, (36, 1, 0, 1, 0, 0), (62, 1, 0, 0, 0, 0), (37, 1, 0, 0, 0, 0), (65, 3, 0, 8, 3, 8), z0, z0, (37, 1, 0, 0, 0, 0), (65, 3, 0, 9, 3, 9), z0, z0, (36, 1, 0, 2, 0, 0), (62, 1, 0, 0, 0, 0), (37, 1, 0, 0, 0, 0), (27, 1, 0, 0, 0, 0), (65, 3, 0, 9, 3, 9), z0, z0, (32, 1, 1, 0, 0, 0), (1, 1, 0, 0, 0, 0), (67, 3, 0, 9, 3, 9), z0, z0, (37, 1, 0, 0, 0, 0), (36, 1, 0, 1, 0, 0), (36, 1, 0, 2, 0, 0), (110, 3, 0, 40, 3, 123), z0, z0, (103, 1, 0, 0, 0, 0)]
def P_Gr_act : PM := (3, ⟨"OneWaySpell$Groups", "act", "(II)V"⟩, prog_5_method_6_code, 3, none, 1, 2, (1381, 175, 1380, 99), C_Gr_act)
def C_Gr_takeBackAct : List PI := [(37, 1, 0, 0, 0, 0), (65, 3, 0, 9, 3, 9), z0, z0, (32, 1, 1, 0, 0, 0), (51, 3, 0, 10, 0, 0), z0, z0, (32, 1, 0, 0, 0, 0), (100, 1, 0, 0, 0, 0), (37, 1, 0, 0, 0, 0), (27, 1, 0, 0, 0, 0), (65, 3, 0, 9, 3, 9), z0, z0, (32, 1, 1, 0, 0, 0), (2, 1, 0, 0, 0, 0), (67, 3, 0, 9, 3, 9), z0, z0, (37, 1, 0, 0, 0, 0), (65, 3, 0, 7, 3, 7), z0, z0, (37, 1, 0, 0, 0, 0), (65, 3, 0, 9, 3, 9), z0, z0, (58, 1, 0, 0, 0, 0), (40, 1, 0, 1, 0, 0), (37, 1, 0, 0, 0, 0), (65, 3, 0, 8, 3, 8), z0, z0, (37, 1, 0, 0, 0, 0), (65, 3, 0, 9, 3, 9), z0, z0, (58, 1, 0, 0, 0, 0), (40, 1, 0, 2, 0, 0), (36, 1, 0, 1, 0, 0), (32, 1, 2, 0, 0, 0), (47, 3, 0, 54, 0, 0), z0, z0, (37, 1, 0, 0, 0, 0), (36, 1, 0, 1, 0, 0), (36, 1, 0, 2, 0, 0), (110, 3, 0, 40, 3, 123), z0, z0, (56, 3, 0, 60, 0, 0), z0, z0, (37, 1, 0, 0, 0, 0), (36, 1, 0, 1, 0, 0), (36, 1, 0, 2, 0, 0), (110, 3, 0, 41, 3, 126), z0, z0, (32, 1, 1, 0, 0, 0), (100, 1, 0, 0, 0, 0)]
def P_Gr_takeBackAct : PM := (3, ⟨"OneWaySpell$Groups", "takeBackAct", "()Z"⟩, prog_5_method_7_code, 3, some .boolean, 1, 0, (1394, 175, 1393, 100), C_Gr_takeBackAct)
def C_Gr_change : List PI := [(37, 1, 0, 0, 0, 0), (27, 1, 0, 0, 0, 0), (65, 3, 0, 6, 3, 6), z0, z0, (32, 1, 1, 0, 0, 0), (1, 1, 0, 0, 0, 0), (67, 3, 0, 6, 3, 6), z0, z0, (36, 1, 0, 1, 0, 0), (32, 1, 2, 0, 0, 0), (47, 3, 0, 26, 0, 0), z0, z0, (37, 1, 0, 0, 0, 0), (27, 1, 0, 0, 0, 0), (65, 3, 0, 5, 3, 5), z0, z0, (36, 1, 0, 2, 0, 0), (6, 1, 0, 0, 0, 0), (67, 3, 0, 5, 3, 5), z0, z0, (103, 1, 0, 0, 0, 0), (32, 1, 0, 0, 0, 0), (40, 1, 0, 3, 0, 0), (36, 1, 0, 3, 0, 0), (37, 1, 0, 0, 0, 0), (65, 3, 0, 3, 3, 3), z0, z0, (51, 3, 0, 117, 0, 0), z0, z0, (36, 1, 0, 2, 0, 0), (36, 1, 0, 3, 0, 0), (9, 1, 0, 0, 0, 0), (32, 1, 1, 0, 0, 0), (4, 1, 0, 0, 0, 0), (32, 1, 1, 0, 0, 0), (47, 3, 0, 111, 0, 0), z0, z0, (37, 1, 0, 0, 0, 0), (65, 3, 0, 1, 3, 1), z0, z0, (36, 1, 0, 3, 0, 0), (58, 1, 0, 0, 0, 0), (32, 2, 7, 0, 0, 0), z0, (51, 3, 0, 111, 0, 0), z0, z0, (37, 1, 0, 0, 0, 0), (65, 3, 0, 0, 3, 0), z0, z0, (36, 1, 0, 3, 0, 0), (36, 1, 0, 1, 0, 0), (32, 1, 1, 0, 0, 0), (47, 3, 0, 88, 0, 0), z0, z0, (35, 3, 27, 1368, 0, 0), z0, z0, (32, 1, 5, 0, 0, 0), (37, 1, 0, 0, 0, 0), (65, 3, 0, 1, 3, 1), z0, z0, (36, 1, 0, 3, 0, 0), (58, 1, 0, 0, 0, 0), (3, 1, 0, 0, 0, 0), (20, 1, 0, 0, 0, 0), (37, 1, 0, 0, 0, 0), (65, 3, 0, 0, 3, 0), z0, z0, (36, 1, 0, 3, 0, 0), (59, 1, 0, 0, 0, 0), (16, 1, 0, 0, 0, 0), (56, 3, 0, 100, 0, 0), z0, z0, (37, 1, 0, 0, 0, 0), (65, 3, 0, 0, 3, 0), z0, z0, (36, 1, 0, 3, 0, 0), (59, 1, 0, 0, 0, 0), (32, 1, 5, 0, 0, 0), (20, 1, 0, 0, 0, 0), (35, 3, 27, 1368, 0, 0), z0, z0, (16, 1, 0, 0, 0, 0), (63, 1, 0, 0, 0, 0), (37, 1, 0, 0, 0, 0), (65, 3, 0, 1, 3, 1), z0, z0, (36, 1, 0, 3, 0, 0), (31, 1, 0, 0, 0, 0), (58, 1, 0, 0, 0, 0), (32, 1, 1, 0, 0, 0), (1, 1, 0, 0, 0, 0), (62, 1, 0, 0, 0, 0), (43, 3, 1, 3, 0, 0), z0, z0, (56, 3, 0, 28, 0, 0), z0, z0, (103, 1, 0, 0, 0, 0)]
def P_Gr_change : PM := (3, ⟨"OneWaySpell$Groups", "change", "(II)V"⟩, prog_5_method_8_code, 4, none, 1, 2, (1367, 175, 1366, 97), C_Gr_change)
def C_Gr_unmark : List PI := [(37, 1, 0, 0, 0, 0), (27, 1, 0, 0, 0, 0), (65, 3, 0, 6, 3, 6), z0, z0, (32, 1, 1, 0, 0, 0), (1, 1, 0, 0, 0, 0), (67, 3, 0, 6, 3, 6), z0, z0, (32, 1, 0, 0, 0, 0), (40, 1, 0, 3, 0, 0), (36, 1, 0, 3, 0, 0), (37, 1, 0, 0, 0, 0), (65, 3, 0, 3, 3, 3), z0, z0, (51, 3, 0, 92, 0, 0), z0, z0, (36, 1, 0, 2, 0, 0), (36, 1, 0, 3, 0, 0), (9, 1, 0, 0, 0, 0), (32, 1, 1, 0, 0, 0), (4, 1, 0, 0, 0, 0), (32, 1, 1, 0, 0, 0), (47, 3, 0, 86, 0, 0), z0, z0, (37, 1, 0, 0, 0, 0), (65, 3, 0, 1, 3, 1), z0, z0, (36, 1, 0, 3, 0, 0), (58, 1, 0, 0, 0, 0), (32, 1, 1, 0, 0, 0), (55, 3, 0, 86, 0, 0), z0, z0, (37, 1, 0, 0, 0, 0), (65, 3, 0, 1, 3, 1), z0, z0, (36, 1, 0, 3, 0, 0), (31, 1, 0, 0, 0, 0), (58, 1, 0, 0, 0, 0), (32, 1, 1, 0, 0, 0), (2, 1, 0, 0, 0, 0), (62, 1, 0, 0, 0, 0), (37, 1, 0, 0, 0, 0), (65, 3, 0, 0, 3, 0), z0, z0, (36, 1, 0, 3, 0, 0), (36, 1, 0, 1, 0, 0), (32, 1, 1, 0, 0, 0), (47, 3, 0, 77, 0, 0), z0, z0, (37, 1, 0, 0, 0, 0), (65, 3, 0, 0, 3, 0), z0, z0, (36, 1, 0, 3, 0, 0), (59, 1, 0, 0, 0, 0), (37, 1, 0, 0, 0, 0), (65, 3, 0, 1, 3, 1), z0, z0, (36, 1, 0, 3, 0, 0), (58, 1, 0, 0, 0, 0), (110, 3, 1, 163, 2, 15), z0, z0, (56, 3, 0, 85, 0, 0), z0, z0, (37, 1, 0, 0, 0, 0), (65, 3, 0, 0, 3, 0), z0, z0, (36, 1, 0, 3, 0, 0), (59, 1, 0, 0, 0, 0), (32, 1, 5, 0, 0, 0), (21, 1, 0, 0, 0, 0), (63, 1, 0, 0, 0, 0), (43, 3, 1, 3, 0, 0), z0, z0, (56, 3, 0, 12, 0, 0), z0, z0, (103, 1, 0, 0, 0, 0)]
def P_Gr_unmark : PM := (3, ⟨"OneWaySpell$Groups", "unmark", "(II)V"⟩, prog_5_method_9_code, 4, none, 1, 2, (1398, 175, 1397, 101), C_Gr_unmark)
def C_Gr_unlikeLetters : List PI := [(32, 1, 0, 0, 0, 0), (40, 1, 0, 1, 0, 0), (32, 1, 0, 0, 0, 0), (40, 1, 0, 2, 0, 0), (36, 1, 0, 2, 0, 0), (37, 1, 0, 0, 0, 0), (65, 3, 0, 3, 3, 3), z0, z0, (51, 3, 0, 65, 0, 0), z0, z0, (32, 1, 0, 0, 0, 0), (40, 1, 0, 3, 0, 0), (36, 1, 0, 3, 0, 0), (37, 1, 0, 0, 0, 0), (65, 3, 0, 1, 3, 1), z0, z0, (36, 1, 0, 2, 0, 0), (58, 1, 0, 0, 0, 0), (51, 3, 0, 59, 0, 0), z0, z0, (37, 1, 0, 0, 0, 0), (36, 1, 0, 2, 0, 0), (110, 3, 0, 35, 2, 18), z0, z0, (44, 3, 0, 59, 0, 0), z0, z0, (36, 1, 0, 1, 0, 0), (32, 1, 1, 0, 0, 0), (37, 1, 0, 0, 0, 0), (65, 3, 0, 0, 3, 0), z0, z0, (36, 1, 0, 2, 0, 0), (59, 1, 0, 0, 0, 0), (37, 1, 0, 0, 0, 0), (65, 3, 0, 1, 3, 1), z0, z0, (36, 1, 0, 2, 0, 0), (58, 1, 0, 0, 0, 0), (36, 1, 0, 3, 0, 0), (110, 3, 1, 164, 3, 9), z0, z0, (7, 1, 0, 0, 0, 0), (5, 1, 0, 0, 0, 0), (40, 1, 0, 1, 0, 0), (43, 3, 1, 3, 0, 0), z0, z0, (56, 3, 0, 14, 0, 0), z0, z0, (43, 3, 1, 2, 0, 0), z0, z0, (56, 3, 0, 4, 0, 0), z0, z0, (32, 1, 2, 0, 0, 0), (36, 1, 0, 1, 0, 0), (110, 3, 0, 281, 1, 19), z0, z0, (82, 3, 0, 480, 0, 0), z0, z0, (100, 1, 0, 0, 0, 0)]
def P_Gr_unlikeLetters : PM := (3, ⟨"OneWaySpell$Groups", "unlikeLetters", "()I"⟩, prog_5_method_10_code, 4, some .int, 1, 0, (471, 175, 470, 11), C_Gr_unlikeLetters)
def C_Gr_groupBegins : List PI := [(37, 1, 0, 0, 0, 0), (65, 3, 0, 0, 3, 0), z0, z0, (36, 1, 0, 1, 0, 0), (59, 1, 0, 0, 0, 0), (37, 1, 0, 0, 0, 0), (65, 3, 0, 1, 3, 1), z0, z0, (36, 1, 0, 1, 0, 0), (58, 1, 0, 0, 0, 0), (37, 1, 0, 0, 0, 0), (65, 3, 0, 0, 3, 0), z0, z0, (36, 1, 0, 2, 0, 0), (59, 1, 0, 0, 0, 0), (37, 1, 0, 0, 0, 0), (65, 3, 0, 1, 3, 1), z0, z0, (36, 1, 0, 2, 0, 0), (58, 1, 0, 0, 0, 0), (110, 3, 1, 161, 4, 11), z0, z0, (100, 1, 0, 0, 0, 0)]
def P_Gr_groupBegins : PM := (3, ⟨"OneWaySpell$Groups", "groupBegins", "(II)Z"⟩, prog_5_method_11_code, 3, some .boolean, 1, 2, (488, 175, 487, 13), C_Gr_groupBegins)
def C_Gr_noneBeginsAnother : List PI := [(32, 1, 0, 0, 0, 0), (40, 1, 0, 1, 0, 0), (36, 1, 0, 1, 0, 0), (37, 1, 0, 0, 0, 0), (65, 3, 0, 3, 3, 3), z0, z0, (51, 3, 0, 64, 0, 0), z0, z0, (32, 1, 0, 0, 0, 0), (40, 1, 0, 2, 0, 0), (36, 1, 0, 2, 0, 0), (37, 1, 0, 0, 0, 0), (65, 3, 0, 3, 3, 3), z0, z0, (51, 3, 0, 58, 0, 0), z0, z0, (36, 1, 0, 1, 0, 0), (36, 1, 0, 2, 0, 0), (45, 3, 0, 52, 0, 0), z0, z0, (37, 1, 0, 0, 0, 0), (36, 1, 0, 1, 0, 0), (110, 3, 0, 35, 2, 18), z0, z0, (44, 3, 0, 52, 0, 0), z0, z0, (37, 1, 0, 0, 0, 0), (36, 1, 0, 2, 0, 0), (110, 3, 0, 35, 2, 18), z0, z0, (44, 3, 0, 52, 0, 0), z0, z0, (37, 1, 0, 0, 0, 0), (36, 1, 0, 1, 0, 0), (36, 1, 0, 2, 0, 0), (110, 3, 0, 43, 3, 20), z0, z0, (44, 3, 0, 52, 0, 0), z0, z0, (32, 1, 0, 0, 0, 0), (100, 1, 0, 0, 0, 0), (43, 3, 1, 2, 0, 0), z0, z0, (56, 3, 0, 12, 0, 0), z0, z0, (43, 3, 1, 1, 0, 0), z0, z0, (56, 3, 0, 2, 0, 0), z0, z0, (32, 1, 1, 0, 0, 0), (100, 1, 0, 0, 0, 0)]
def P_Gr_noneBeginsAnother : PM := (3, ⟨"OneWaySpell$Groups", "noneBeginsAnother", "()Z"⟩, prog_5_method_12_code, 3, some .boolean, 1, 0, (484, 175, 483, 12), C_Gr_noneBeginsAnother)
def C_Gr_noneEndsAnother : List PI := [(32, 1, 0, 0, 0, 0), (40, 1, 0, 1, 0, 0), (36, 1, 0, 1, 0, 0), (37, 1, 0, 0, 0, 0), (65, 3, 0, 3, 3, 3), z0, z0, (51, 3, 0, 85, 0, 0), z0, z0, (32, 1, 0, 0, 0, 0), (40, 1, 0, 2, 0, 0), (36, 1, 0, 2, 0, 0), (37, 1, 0, 0, 0, 0), (65, 3, 0, 3, 3, 3), z0, z0, (51, 3, 0, 79, 0, 0), z0, z0, (36, 1, 0, 1, 0, 0), (36, 1, 0, 2, 0, 0), (45, 3, 0, 73, 0, 0), z0, z0, (37, 1, 0, 0, 0, 0), (36, 1, 0, 1, 0, 0), (110, 3, 0, 35, 2, 18), z0, z0, (44, 3, 0, 73, 0, 0), z0, z0, (37, 1, 0, 0, 0, 0), (36, 1, 0, 2, 0, 0), (110, 3, 0, 35, 2, 18), z0, z0, (44, 3, 0, 73, 0, 0), z0, z0, (37, 1, 0, 0, 0, 0), (65, 3, 0, 0, 3, 0), z0, z0, (36, 1, 0, 1, 0, 0), (59, 1, 0, 0, 0, 0), (37, 1, 0, 0, 0, 0), (65, 3, 0, 1, 3, 1), z0, z0, (36, 1, 0, 1, 0, 0), (58, 1, 0, 0, 0, 0), (37, 1, 0, 0, 0, 0), (65, 3, 0, 0, 3, 0), z0, z0, (36, 1, 0, 2, 0, 0), (59, 1, 0, 0, 0, 0), (37, 1, 0, 0, 0, 0), (65, 3, 0, 1, 3, 1), z0, z0, (36, 1, 0, 2, 0, 0), (58, 1, 0, 0, 0, 0), (110, 3, 1, 162, 4, 13), z0, z0, (44, 3, 0, 73, 0, 0), z0, z0, (32, 1, 0, 0, 0, 0), (100, 1, 0, 0, 0, 0), (43, 3, 1, 2, 0, 0), z0, z0, (56, 3, 0, 12, 0, 0), z0, z0, (43, 3, 1, 1, 0, 0), z0, z0, (56, 3, 0, 2, 0, 0), z0, z0, (32, 1, 1, 0, 0, 0), (100, 1, 0, 0, 0, 0)]
def P_Gr_noneEndsAnother : PM := (3, ⟨"OneWaySpell$Groups", "noneEndsAnother", "()Z"⟩, prog_5_method_13_code, 3, some .boolean, 1, 0, (495, 175, 494, 14), C_Gr_noneEndsAnother)
def C_Gr_overlap : List PI := [(37, 1, 0, 0, 0, 0), (65, 3, 0, 1, 3, 1), z0, z0, (36, 1, 0, 1, 0, 0), (58, 1, 0, 0, 0, 0), (37, 1, 0, 0, 0, 0), (65, 3, 0, 1, 3, 1), z0, z0, (36, 1, 0, 2, 0, 0), (58, 1, 0, 0, 0, 0), (83, 3, 0, 510, 0, 0), z0, z0, (32, 1, 1, 0, 0, 0), (2, 1, 0, 0, 0, 0), (40, 1, 0, 3, 0, 0), (36, 1, 0, 3, 0, 0), (54, 3, 0, 59, 0, 0), z0, z0, (37, 1, 0, 0, 0, 0), (65, 3, 0, 0, 3, 0), z0, z0, (36, 1, 0, 1, 0, 0), (59, 1, 0, 0, 0, 0), (36, 1, 0, 3, 0, 0), (110, 3, 1, 163, 2, 15), z0, z0, (36, 1, 0, 3, 0, 0), (37, 1, 0, 0, 0, 0), (65, 3, 0, 0, 3, 0), z0, z0, (36, 1, 0, 2, 0, 0), (59, 1, 0, 0, 0, 0), (37, 1, 0, 0, 0, 0), (65, 3, 0, 1, 3, 1), z0, z0, (36, 1, 0, 2, 0, 0), (58, 1, 0, 0, 0, 0), (110, 3, 1, 161, 4, 11), z0, z0, (44, 3, 0, 53, 0, 0), z0, z0, (36, 1, 0, 3, 0, 0), (100, 1, 0, 0, 0, 0), (43, 3, -1, 3, 0, 0), z0, z0, (56, 3, 0, 18, 0, 0), z0, z0, (32, 1, 0, 0, 0, 0), (100, 1, 0, 0, 0, 0)]
def P_Gr_overlap : PM := (3, ⟨"OneWaySpell$Groups", "overlap", "(II)I"⟩, prog_5_method_14_code, 4, some .int, 1, 2, (509, 175, 508, 15), C_Gr_overlap)
def C_Gr_inByNumber : List PI := [(36, 1, 0, 1, 0, 0), (40, 1, 0, 2, 0, 0), (32, 1, 0, 0, 0, 0), (40, 1, 0, 3, 0, 0), (36, 1, 0, 3, 0, 0), (37, 1, 0, 0, 0, 0), (65, 3, 0, 3, 3, 3), z0, z0, (51, 3, 0, 35, 0, 0), z0, z0, (37, 1, 0, 0, 0, 0), (36, 1, 0, 3, 0, 0), (110, 3, 0, 35, 2, 18), z0, z0, (44, 3, 0, 29, 0, 0), z0, z0, (36, 1, 0, 2, 0, 0), (46, 3, 0, 26, 0, 0), z0, z0, (36, 1, 0, 3, 0, 0), (100, 1, 0, 0, 0, 0), (43, 3, -1, 2, 0, 0), z0, z0, (43, 3, 1, 3, 0, 0), z0, z0, (56, 3, 0, 4, 0, 0), z0, z0, (32, 1, -1, 0, 0, 0), (100, 1, 0, 0, 0, 0)]
def P_Gr_inByNumber : PM := (3, ⟨"OneWaySpell$Groups", "inByNumber", "(I)I"⟩, prog_5_method_15_code, 4, some .int, 1, 1, (1062, 175, 1061, 67), C_Gr_inByNumber)
def C_Re_init : List PI := [(37, 1, 0, 0, 0, 0), (78, 3, 0, 894, 0, 0), z0, z0, (37, 1, 0, 0, 0, 0), (32, 2, 14, 0, 0, 0), z0, (72, 2, 0, 0, 0, 0), z0, (69, 3, 0, 70, 4, 0), z0, z0, (37, 1, 0, 0, 0, 0), (32, 2, 14, 0, 0, 0), z0, (72, 2, 0, 0, 0, 0), z0, (69, 3, 0, 72, 4, 2), z0, z0, (37, 1, 0, 0, 0, 0), (32, 2, 8, 0, 0, 0), z0, (73, 2, 0, 0, 0, 0), z0, (69, 3, 0, 74, 4, 4), z0, z0, (103, 1, 0, 0, 0, 0)]
def P_Re_init : PM := (4, ⟨"OneWaySpell$Reader", "<init>", "()V"⟩, prog_6_method_1_code, 1, none, 2, 0, (893, 186, 892, 0), C_Re_init)
def C_Re_isKind : List PI := [(36, 1, 0, 0, 0, 0), (48, 3, 0, 13, 0, 0), z0, z0, (36, 1, 0, 0, 0, 0), (32, 1, 2, 0, 0, 0), (53, 3, 0, 13, 0, 0), z0, z0, (32, 1, 1, 0, 0, 0), (56, 3, 0, 14, 0, 0), z0, z0, (32, 1, 0, 0, 0, 0), (100, 1, 0, 0, 0, 0)]
def P_Re_isKind : PM := (4, ⟨"OneWaySpell$Reader", "isKind", "(I)Z"⟩, prog_6_method_2_code, 1, some .boolean, 0, 1, (884, 186, 883, 0), C_Re_isKind)
def C_Re_prefers : List PI := [(36, 1, 0, 1, 0, 0), (46, 3, 0, 25, 0, 0), z0, z0, (37, 1, 0, 0, 0, 0), (66, 3, 0, 7, 3, 1), z0, z0, (36, 1, 0, 2, 0, 0), (58, 1, 0, 0, 0, 0), (37, 1, 0, 0, 0, 0), (66, 3, 0, 7, 3, 1), z0, z0, (36, 1, 0, 3, 0, 0), (58, 1, 0, 0, 0, 0), (55, 3, 0, 23, 0, 0), z0, z0, (32, 1, 1, 0, 0, 0), (56, 3, 0, 24, 0, 0), z0, z0, (32, 1, 0, 0, 0, 0), (100, 1, 0, 0, 0, 0), (36, 1, 0, 1, 0, 0), (32, 1, 1, 0, 0, 0), (47, 3, 0, 53, 0, 0), z0, z0, (37, 1, 0, 0, 0, 0), (66, 3, 0, 7, 3, 1), z0, z0, (36, 1, 0, 2, 0, 0), (58, 1, 0, 0, 0, 0), (37, 1, 0, 0, 0, 0), (66, 3, 0, 7, 3, 1), z0, z0, (36, 1, 0, 3, 0, 0), (58, 1, 0, 0, 0, 0), (51, 3, 0, 49, 0, 0), z0, z0, (32, 1, 1, 0, 0, 0), (56, 3, 0, 63, 0, 0), z0, z0, (32, 1, 0, 0, 0, 0), (56, 3, 0, 63, 0, 0), z0, z0, (36, 1, 0, 2, 0, 0), (36, 1, 0, 3, 0, 0), (51, 3, 0, 62, 0, 0), z0, z0, (32, 1, 1, 0, 0, 0), (56, 3, 0, 63, 0, 0), z0, z0, (32, 1, 0, 0, 0, 0), (100, 1, 0, 0, 0, 0)]
def P_Re_prefers : PM := (4, ⟨"OneWaySpell$Reader", "prefers", "(LOneWaySpell$Groups;III)Z"⟩, prog_6_method_3_code, 4, some .boolean, 0, 4, (921, 186, 920, 0), C_Re_prefers)
def C_Re_choose : List PI := [(32, 1, -1, 0, 0, 0), (40, 2, 0, 4, 0, 0), z0, (32, 1, 0, 0, 0, 0), (40, 2, 0, 5, 0, 0), z0, (36, 2, 0, 5, 0, 0), z0, (37, 1, 0, 1, 0, 0), (66, 3, 0, 20, 3, 3), z0, z0, (51, 3, 0, 54, 0, 0), z0, z0, (37, 1, 0, 0, 0, 0), (37, 1, 0, 1, 0, 0), (36, 2, 0, 5, 0, 0), z0, (36, 1, 0, 3, 0, 0), (110, 3, 1, 110, 4, 48), z0, z0, (44, 3, 0, 48, 0, 0), z0, z0, (36, 2, 0, 4, 0, 0), z0, (32, 1, -1, 0, 0, 0), (45, 3, 0, 44, 0, 0), z0, z0, (37, 1, 0, 1, 0, 0), (36, 1, 0, 2, 0, 0), (36, 2, 0, 5, 0, 0), z0, (36, 2, 0, 4, 0, 0), z0, (110, 3, 0, 50, 4, 68), z0, z0, (44, 3, 0, 48, 0, 0), z0, z0, (36, 2, 0, 5, 0, 0), z0, (40, 2, 0, 4, 0, 0), z0, (43, 3, 1, 5, 0, 0), z0, z0, (56, 3, 0, 6, 0, 0), z0, z0, (36, 2, 0, 4, 0, 0), z0, (100, 1, 0, 0, 0, 0)]
def P_Re_choose : PM := (4, ⟨"OneWaySpell$Reader", "choose", "(LOneWaySpell$Word;LOneWaySpell$Groups;II)I"⟩, prog_6_method_4_code, 6, some .int, 0, 4, (917, 186, 916, 0), C_Re_choose)
def C_Re_countTaken : List PI := [(32, 1, 0, 0, 0, 0), (40, 2, 0, 4, 0, 0), z0, (32, 1, 0, 0, 0, 0), (40, 2, 0, 5, 0, 0), z0, (36, 2, 0, 5, 0, 0), z0, (37, 1, 0, 1, 0, 0), (66, 3, 0, 40, 10, 1), z0, z0, (51, 3, 0, 60, 0, 0), z0, z0, (36, 2, 0, 4, 0, 0), z0, (37, 1, 0, 1, 0, 0), (66, 3, 0, 40, 10, 1), z0, z0, (51, 3, 0, 60, 0, 0), z0, z0, (37, 1, 0, 1, 0, 0), (37, 1, 0, 2, 0, 0), (36, 1, 0, 3, 0, 0), (36, 2, 0, 4, 0, 0), z0, (110, 3, 0, 51, 4, 67), z0, z0, (40, 2, 0, 6, 0, 0), z0, (36, 2, 0, 6, 0, 0), z0, (32, 1, -1, 0, 0, 0), (47, 3, 0, 42, 0, 0), z0, z0, (32, 1, -1, 0, 0, 0), (100, 1, 0, 0, 0, 0), (36, 2, 0, 4, 0, 0), z0, (37, 1, 0, 2, 0, 0), (66, 3, 0, 7, 3, 1), z0, z0, (36, 2, 0, 6, 0, 0), z0, (58, 1, 0, 0, 0, 0), (1, 1, 0, 0, 0, 0), (40, 2, 0, 4, 0, 0), z0, (43, 3, 1, 5, 0, 0), z0, z0, (56, 3, 0, 6, 0, 0), z0, z0, (36, 2, 0, 5, 0, 0), z0, (100, 1, 0, 0, 0, 0)]
def P_Re_countTaken : PM := (4, ⟨"OneWaySpell$Reader", "countTaken", "(LOneWaySpell$Word;LOneWaySpell$Groups;I)I"⟩, prog_6_method_5_code, 7, some .int, 1, 3, (914, 186, 913, 51), C_Re_countTaken)
def C_Re_takenAt : List PI := [(32, 1, 0, 0, 0, 0), (40, 2, 0, 5, 0, 0), z0, (32, 1, 0, 0, 0, 0), (40, 2, 0, 6, 0, 0), z0, (36, 2, 0, 6, 0, 0), z0, (36, 2, 0, 4, 0, 0), z0, (53, 3, 0, 66, 0, 0), z0, z0, (36, 2, 0, 5, 0, 0), z0, (37, 1, 0, 1, 0, 0), (66, 3, 0, 40, 10, 1), z0, z0, (51, 3, 0, 66, 0, 0), z0, z0, (37, 1, 0, 1, 0, 0), (37, 1, 0, 2, 0, 0), (36, 1, 0, 3, 0, 0), (36, 2, 0, 5, 0, 0), z0, (110, 3, 0, 51, 4, 67), z0, z0, (40, 2, 0, 7, 0, 0), z0, (36, 2, 0, 7, 0, 0), z0, (32, 1, -1, 0, 0, 0), (45, 3, 0, 45, 0, 0), z0, z0, (36, 2, 0, 6, 0, 0), z0, (36, 2, 0, 4, 0, 0), z0, (47, 3, 0, 48, 0, 0), z0, z0, (36, 2, 0, 7, 0, 0), z0, (100, 1, 0, 0, 0, 0), (36, 2, 0, 5, 0, 0), z0, (37, 1, 0, 2, 0, 0), (66, 3, 0, 7, 3, 1), z0, z0, (36, 2, 0, 7, 0, 0), z0, (58, 1, 0, 0, 0, 0), (1, 1, 0, 0, 0, 0), (40, 2, 0, 5, 0, 0), z0, (43, 3, 1, 6, 0, 0), z0, z0, (56, 3, 0, 6, 0, 0), z0, z0, (32, 1, -1, 0, 0, 0), (100, 1, 0, 0, 0, 0)]
def P_Re_takenAt : PM := (4, ⟨"OneWaySpell$Reader", "takenAt", "(LOneWaySpell$Word;LOneWaySpell$Groups;II)I"⟩, prog_6_method_6_code, 8, some .int, 1, 4, (929, 186, 928, 52), C_Re_takenAt)
def C_Re_findFool : List PI := [(37, 1, 0, 0, 0, 0), (32, 1, 0, 0, 0, 0), (67, 3, 0, 71, 4, 1), z0, z0, (32, 1, 0, 0, 0, 0), (40, 1, 0, 3, 0, 0), (36, 1, 0, 3, 0, 0), (37, 1, 0, 1, 0, 0), (66, 3, 0, 20, 3, 3), z0, z0, (51, 3, 0, 114, 0, 0), z0, z0, (32, 1, 0, 0, 0, 0), (40, 2, 0, 4, 0, 0), z0, (36, 2, 0, 4, 0, 0), z0, (37, 1, 0, 1, 0, 0), (66, 3, 0, 20, 3, 3), z0, z0, (51, 3, 0, 108, 0, 0), z0, z0, (36, 1, 0, 3, 0, 0), (36, 2, 0, 4, 0, 0), z0, (45, 3, 0, 102, 0, 0), z0, z0, (37, 1, 0, 1, 0, 0), (36, 1, 0, 3, 0, 0), (110, 3, 1, 35, 2, 51), z0, z0, (44, 3, 0, 102, 0, 0), z0, z0, (37, 1, 0, 1, 0, 0), (36, 2, 0, 4, 0, 0), z0, (110, 3, 1, 35, 2, 51), z0, z0, (44, 3, 0, 102, 0, 0), z0, z0, (37, 1, 0, 1, 0, 0), (36, 1, 0, 2, 0, 0), (36, 2, 0, 4, 0, 0), z0, (36, 1, 0, 3, 0, 0), (110, 3, 0, 50, 4, 68), z0, z0, (44, 3, 0, 102, 0, 0), z0, z0, (37, 1, 0, 1, 0, 0), (36, 2, 0, 4, 0, 0), z0, (36, 1, 0, 3, 0, 0), (110, 3, 1, 43, 3, 52), z0, z0, (44, 3, 0, 84, 0, 0), z0, z0, (37, 1, 0, 0, 0, 0), (37, 1, 0, 1, 0, 0), (36, 1, 0, 3, 0, 0), (110, 3, 0, 55, 3, 71), z0, z0, (37, 1, 0, 0, 0, 0), (110, 3, 0, 58, 1, 72), z0, z0, (56, 3, 0, 102, 0, 0), z0, z0, (37, 1, 0, 1, 0, 0), (36, 1, 0, 3, 0, 0), (36, 2, 0, 4, 0, 0), z0, (110, 3, 1, 43, 3, 52), z0, z0, (44, 3, 0, 102, 0, 0), z0, z0, (37, 1, 0, 0, 0, 0), (37, 1, 0, 1, 0, 0), (36, 1, 0, 3, 0, 0), (36, 2, 0, 4, 0, 0), z0, (110, 3, 0, 56, 4, 74), z0, z0, (43, 3, 1, 4, 0, 0), z0, z0, (56, 3, 0, 18, 0, 0), z0, z0, (43, 3, 1, 3, 0, 0), z0, z0, (56, 3, 0, 7, 0, 0), z0, z0, (37, 1, 0, 0, 0, 0), (65, 3, 0, 71, 4, 1), z0, z0, (54, 3, 0, 125, 0, 0), z0, z0, (32, 1, 1, 0, 0, 0), (56, 3, 0, 126, 0, 0), z0, z0, (32, 1, 0, 0, 0, 0), (100, 1, 0, 0, 0, 0)]
def P_Re_findFool : PM := (4, ⟨"OneWaySpell$Reader", "findFool", "(LOneWaySpell$Groups;I)Z"⟩, prog_6_method_7_code, 5, some .boolean, 1, 2, (937, 186, 936, 53), C_Re_findFool)
def C_Re_startTrial : List PI := [(37, 1, 0, 0, 0, 0), (37, 1, 0, 1, 0, 0), (66, 3, 0, 7, 3, 1), z0, z0, (36, 1, 0, 2, 0, 0), (58, 1, 0, 0, 0, 0), (67, 3, 0, 73, 4, 3), z0, z0, (32, 1, 0, 0, 0, 0), (40, 1, 0, 3, 0, 0), (36, 1, 0, 3, 0, 0), (37, 1, 0, 0, 0, 0), (65, 3, 0, 73, 4, 3), z0, z0, (51, 3, 0, 49, 0, 0), z0, z0, (37, 1, 0, 0, 0, 0), (65, 3, 0, 72, 4, 2), z0, z0, (36, 1, 0, 3, 0, 0), (37, 1, 0, 1, 0, 0), (66, 3, 0, 5, 3, 0), z0, z0, (36, 1, 0, 2, 0, 0), (59, 1, 0, 0, 0, 0), (37, 1, 0, 1, 0, 0), (66, 3, 0, 7, 3, 1), z0, z0, (36, 1, 0, 2, 0, 0), (58, 1, 0, 0, 0, 0), (36, 1, 0, 3, 0, 0), (110, 3, 1, 164, 3, 53), z0, z0, (26, 1, 0, 0, 0, 0), (64, 1, 0, 0, 0, 0), (43, 3, 1, 3, 0, 0), z0, z0, (56, 3, 0, 12, 0, 0), z0, z0, (103, 1, 0, 0, 0, 0)]
def P_Re_startTrial : PM := (4, ⟨"OneWaySpell$Reader", "startTrial", "(LOneWaySpell$Groups;I)V"⟩, prog_6_method_8_code, 4, none, 1, 2, (943, 186, 942, 54), C_Re_startTrial)
def C_Re_coverRest : List PI := [(37, 1, 0, 1, 0, 0), (66, 3, 0, 7, 3, 1), z0, z0, (36, 1, 0, 3, 0, 0), (58, 1, 0, 0, 0, 0), (40, 2, 0, 4, 0, 0), z0, (37, 1, 0, 0, 0, 0), (65, 3, 0, 74, 4, 4), z0, z0, (32, 1, 0, 0, 0, 0), (110, 3, 0, 284, 2, 75), z0, z0, (37, 1, 0, 0, 0, 0), (65, 3, 0, 74, 4, 4), z0, z0, (37, 1, 0, 1, 0, 0), (66, 3, 0, 7, 3, 1), z0, z0, (36, 1, 0, 2, 0, 0), (58, 1, 0, 0, 0, 0), (32, 1, 1, 0, 0, 0), (64, 1, 0, 0, 0, 0), (37, 1, 0, 1, 0, 0), (66, 3, 0, 7, 3, 1), z0, z0, (36, 1, 0, 2, 0, 0), (58, 1, 0, 0, 0, 0), (40, 2, 0, 5, 0, 0), z0, (36, 2, 0, 5, 0, 0), z0, (36, 2, 0, 4, 0, 0), z0, (51, 3, 0, 96, 0, 0), z0, z0, (32, 1, 0, 0, 0, 0), (40, 2, 0, 6, 0, 0), z0, (36, 2, 0, 6, 0, 0), z0, (37, 1, 0, 1, 0, 0), (66, 3, 0, 20, 3, 3), z0, z0, (51, 3, 0, 90, 0, 0), z0, z0, (37, 1, 0, 0, 0, 0), (65, 3, 0, 74, 4, 4), z0, z0, (36, 2, 0, 5, 0, 0), z0, (60, 1, 0, 0, 0, 0), (44, 3, 0, 90, 0, 0), z0, z0, (37, 1, 0, 1, 0, 0), (36, 2, 0, 6, 0, 0), z0, (110, 3, 1, 35, 2, 51), z0, z0, (44, 3, 0, 84, 0, 0), z0, z0, (37, 1, 0, 0, 0, 0), (37, 1, 0, 1, 0, 0), (36, 1, 0, 3, 0, 0), (36, 2, 0, 6, 0, 0), z0, (36, 2, 0, 5, 0, 0), z0, (110, 3, 0, 57, 5, 76), z0, z0, (43, 3, 1, 6, 0, 0), z0, z0, (56, 3, 0, 46, 0, 0), z0, z0, (43, 3, 1, 5, 0, 0), z0, z0, (56, 3, 0, 36, 0, 0), z0, z0, (103, 1, 0, 0, 0, 0)]
def P_Re_coverRest : PM := (4, ⟨"OneWaySpell$Reader", "coverRest", "(LOneWaySpell$Groups;II)V"⟩, prog_6_method_9_code, 7, none, 1, 3, (957, 186, 956, 57), C_Re_coverRest)
def C_Re_coverWith : List PI := [(37, 1, 0, 1, 0, 0), (66, 3, 0, 7, 3, 1), z0, z0, (36, 1, 0, 2, 0, 0), (58, 1, 0, 0, 0, 0), (40, 2, 0, 5, 0, 0), z0, (37, 1, 0, 1, 0, 0), (66, 3, 0, 7, 3, 1), z0, z0, (36, 1, 0, 3, 0, 0), (58, 1, 0, 0, 0, 0), (40, 2, 0, 6, 0, 0), z0, (36, 2, 0, 6, 0, 0), z0, (36, 2, 0, 5, 0, 0), z0, (36, 2, 0, 4, 0, 0), z0, (2, 1, 0, 0, 0, 0), (83, 3, 0, 963, 0, 0), z0, z0, (40, 2, 0, 7, 0, 0), z0, (37, 1, 0, 1, 0, 0), (66, 3, 0, 5, 3, 0), z0, z0, (36, 1, 0, 2, 0, 0), (59, 1, 0, 0, 0, 0), (36, 2, 0, 5, 0, 0), z0, (36, 2, 0, 4, 0, 0), z0, (2, 1, 0, 0, 0, 0), (110, 3, 1, 163, 2, 54), z0, z0, (42, 2, 0, 8, 0, 0), z0, (38, 2, 0, 8, 0, 0), z0, (36, 2, 0, 5, 0, 0), z0, (36, 2, 0, 4, 0, 0), z0, (2, 1, 0, 0, 0, 0), (37, 1, 0, 1, 0, 0), (66, 3, 0, 5, 3, 0), z0, z0, (36, 1, 0, 3, 0, 0), (59, 1, 0, 0, 0, 0), (36, 2, 0, 6, 0, 0), z0, (110, 3, 1, 167, 4, 55), z0, z0, (36, 2, 0, 7, 0, 0), z0, (51, 3, 0, 68, 0, 0), z0, z0, (103, 1, 0, 0, 0, 0), (36, 2, 0, 4, 0, 0), z0, (36, 2, 0, 6, 0, 0), z0, (1, 1, 0, 0, 0, 0), (36, 2, 0, 5, 0, 0), z0, (51, 3, 0, 90, 0, 0), z0, z0, (37, 1, 0, 0, 0, 0), (65, 3, 0, 74, 4, 4), z0, z0, (36, 2, 0, 4, 0, 0), z0, (36, 2, 0, 6, 0, 0), z0, (1, 1, 0, 0, 0, 0), (32, 1, 1, 0, 0, 0), (64, 1, 0, 0, 0, 0), (103, 1, 0, 0, 0, 0), (37, 1, 0, 0, 0, 0), (37, 1, 0, 1, 0, 0), (36, 1, 0, 2, 0, 0), (110, 3, 0, 55, 3, 71), z0, z0, (36, 2, 0, 7, 0, 0), z0, (40, 2, 0, 10, 0, 0), z0, (36, 2, 0, 10, 0, 0), z0, (36, 2, 0, 6, 0, 0), z0, (51, 3, 0, 155, 0, 0), z0, z0, (37, 1, 0, 0, 0, 0), (65, 3, 0, 73, 4, 3), z0, z0, (32, 2, 14, 0, 0, 0), z0, (51, 3, 0, 155, 0, 0), z0, z0, (37, 1, 0, 0, 0, 0), (65, 3, 0, 72, 4, 2), z0, z0, (37, 1, 0, 0, 0, 0), (65, 3, 0, 73, 4, 3), z0, z0, (37, 1, 0, 1, 0, 0), (66, 3, 0, 5, 3, 0), z0, z0, (36, 1, 0, 3, 0, 0), (59, 1, 0, 0, 0, 0), (36, 2, 0, 6, 0, 0), z0, (36, 2, 0, 10, 0, 0), z0, (110, 3, 1, 164, 3, 53), z0, z0, (26, 1, 0, 0, 0, 0), (64, 1, 0, 0, 0, 0), (37, 1, 0, 0, 0, 0), (27, 1, 0, 0, 0, 0), (65, 3, 0, 73, 4, 3), z0, z0, (32, 1, 1, 0, 0, 0), (1, 1, 0, 0, 0, 0), (67, 3, 0, 73, 4, 3), z0, z0, (43, 3, 1, 10, 0, 0), z0, z0, (56, 3, 0, 100, 0, 0), z0, z0, (37, 1, 0, 0, 0, 0), (110, 3, 0, 58, 1, 72), z0, z0, (103, 1, 0, 0, 0, 0)]
def P_Re_coverWith : PM := (4, ⟨"OneWaySpell$Reader", "coverWith", "(LOneWaySpell$Groups;III)V"⟩, prog_6_method_10_code, 11, none, 1, 4, (962, 186, 961, 58), C_Re_coverWith)
def C_Re_keepBetter : List PI := [(37, 1, 0, 0, 0, 0), (65, 3, 0, 71, 4, 1), z0, z0, (44, 3, 0, 36, 0, 0), z0, z0, (37, 1, 0, 0, 0, 0), (65, 3, 0, 73, 4, 3), z0, z0, (37, 1, 0, 0, 0, 0), (65, 3, 0, 71, 4, 1), z0, z0, (49, 3, 0, 36, 0, 0), z0, z0, (37, 1, 0, 0, 0, 0), (65, 3, 0, 73, 4, 3), z0, z0, (37, 1, 0, 0, 0, 0), (65, 3, 0, 71, 4, 1), z0, z0, (47, 3, 0, 61, 0, 0), z0, z0, (37, 1, 0, 0, 0, 0), (110, 3, 0, 59, 1, 73), z0, z0, (44, 3, 0, 61, 0, 0), z0, z0, (37, 1, 0, 0, 0, 0), (65, 3, 0, 72, 4, 2), z0, z0, (32, 1, 0, 0, 0, 0), (37, 1, 0, 0, 0, 0), (65, 3, 0, 70, 4, 0), z0, z0, (32, 1, 0, 0, 0, 0), (37, 1, 0, 0, 0, 0), (65, 3, 0, 73, 4, 3), z0, z0, (80, 3, 0, 953, 0, 0), z0, z0, (37, 1, 0, 0, 0, 0), (37, 1, 0, 0, 0, 0), (65, 3, 0, 73, 4, 3), z0, z0, (67, 3, 0, 71, 4, 1), z0, z0, (103, 1, 0, 0, 0, 0)]
def P_Re_keepBetter : PM := (4, ⟨"OneWaySpell$Reader", "keepBetter", "()V"⟩, prog_6_method_11_code, 1, none, 1, 0, (948, 186, 947, 55), C_Re_keepBetter)
def C_Re_trialIsEarlier : List PI := [(32, 1, 0, 0, 0, 0), (40, 1, 0, 1, 0, 0), (36, 1, 0, 1, 0, 0), (37, 1, 0, 0, 0, 0), (65, 3, 0, 73, 4, 3), z0, z0, (51, 3, 0, 52, 0, 0), z0, z0, (37, 1, 0, 0, 0, 0), (65, 3, 0, 72, 4, 2), z0, z0, (36, 1, 0, 1, 0, 0), (60, 1, 0, 0, 0, 0), (37, 1, 0, 0, 0, 0), (65, 3, 0, 70, 4, 0), z0, z0, (36, 1, 0, 1, 0, 0), (60, 1, 0, 0, 0, 0), (45, 3, 0, 46, 0, 0), z0, z0, (37, 1, 0, 0, 0, 0), (65, 3, 0, 72, 4, 2), z0, z0, (36, 1, 0, 1, 0, 0), (60, 1, 0, 0, 0, 0), (37, 1, 0, 0, 0, 0), (65, 3, 0, 70, 4, 0), z0, z0, (36, 1, 0, 1, 0, 0), (60, 1, 0, 0, 0, 0), (51, 3, 0, 44, 0, 0), z0, z0, (32, 1, 1, 0, 0, 0), (56, 3, 0, 45, 0, 0), z0, z0, (32, 1, 0, 0, 0, 0), (100, 1, 0, 0, 0, 0), (43, 3, 1, 1, 0, 0), z0, z0, (56, 3, 0, 2, 0, 0), z0, z0, (32, 1, 0, 0, 0, 0), (100, 1, 0, 0, 0, 0)]
def P_Re_trialIsEarlier : PM := (4, ⟨"OneWaySpell$Reader", "trialIsEarlier", "()Z"⟩, prog_6_method_12_code, 2, some .boolean, 1, 0, (952, 186, 951, 56), C_Re_trialIsEarlier)
def C_Re_copyTo : List PI := [(37, 1, 0, 1, 0, 0), (110, 3, 1, 106, 1, 57), z0, z0, (32, 1, 0, 0, 0, 0), (40, 1, 0, 2, 0, 0), (36, 1, 0, 2, 0, 0), (37, 1, 0, 0, 0, 0), (65, 3, 0, 71, 4, 1), z0, z0, (51, 3, 0, 30, 0, 0), z0, z0, (37, 1, 0, 1, 0, 0), (37, 1, 0, 0, 0, 0), (65, 3, 0, 70, 4, 0), z0, z0, (36, 1, 0, 2, 0, 0), (60, 1, 0, 0, 0, 0), (110, 3, 1, 107, 2, 58), z0, z0, (43, 3, 1, 2, 0, 0), z0, z0, (56, 3, 0, 6, 0, 0), z0, z0, (103, 1, 0, 0, 0, 0)]
def P_Re_copyTo : PM := (4, ⟨"OneWaySpell$Reader", "copyTo", "(LOneWaySpell$Word;)V"⟩, prog_6_method_13_code, 3, none, 1, 1, (969, 186, 968, 59), C_Re_copyTo)
def C_Sp_init : List PI := [(37, 1, 0, 0, 0, 0), (78, 3, 0, 996, 0, 0), z0, z0, (37, 1, 0, 0, 0, 0), (32, 1, 4, 0, 0, 0), (71, 2, 0, 0, 0, 0), z0, (69, 3, 0, 75, 5, 0), z0, z0, (37, 1, 0, 0, 0, 0), (32, 1, 5, 0, 0, 0), (71, 2, 0, 0, 0, 0), z0, (69, 3, 0, 77, 5, 2), z0, z0, (37, 1, 0, 0, 0, 0), (32, 1, 4, 0, 0, 0), (71, 2, 0, 0, 0, 0), z0, (69, 3, 0, 78, 5, 3), z0, z0, (37, 1, 0, 0, 0, 0), (32, 1, 4, 0, 0, 0), (71, 2, 0, 0, 0, 0), z0, (69, 3, 0, 79, 5, 4), z0, z0, (37, 1, 0, 0, 0, 0), (32, 2, 29, 0, 0, 0), z0, (71, 2, 0, 0, 0, 0), z0, (69, 3, 0, 81, 5, 6), z0, z0, (103, 1, 0, 0, 0, 0)]
def P_Sp_init : PM := (5, ⟨"OneWaySpell$Speller", "<init>", "()V"⟩, prog_7_method_1_code, 1, none, 2, 0, (995, 187, 994, 0), C_Sp_init)
def C_Sp_ask : List PI := [(37, 1, 0, 0, 0, 0), (65, 3, 0, 75, 5, 0), z0, z0, (32, 1, 0, 0, 0, 0), (36, 1, 0, 2, 0, 0), (62, 1, 0, 0, 0, 0), (37, 1, 0, 0, 0, 0), (65, 3, 0, 75, 5, 0), z0, z0, (32, 1, 1, 0, 0, 0), (36, 1, 0, 3, 0, 0), (62, 1, 0, 0, 0, 0), (37, 1, 0, 0, 0, 0), (65, 3, 0, 75, 5, 0), z0, z0, (32, 1, 2, 0, 0, 0), (36, 2, 0, 4, 0, 0), z0, (62, 1, 0, 0, 0, 0), (37, 1, 0, 0, 0, 0), (65, 3, 0, 75, 5, 0), z0, z0, (32, 1, 3, 0, 0, 0), (36, 2, 0, 5, 0, 0), z0, (62, 1, 0, 0, 0, 0), (37, 1, 0, 0, 0, 0), (32, 1, 0, 0, 0, 0), (67, 3, 0, 76, 5, 1), z0, z0, (32, 1, 0, 0, 0, 0), (40, 2, 0, 6, 0, 0), z0, (36, 2, 0, 6, 0, 0), z0, (32, 1, 4, 0, 0, 0), (51, 3, 0, 106, 0, 0), z0, z0, (37, 1, 0, 0, 0, 0), (65, 3, 0, 75, 5, 0), z0, z0, (36, 2, 0, 6, 0, 0), z0, (58, 1, 0, 0, 0, 0), (32, 1, -1, 0, 0, 0), (45, 3, 0, 100, 0, 0), z0, z0, (36, 2, 0, 6, 0, 0), z0, (37, 1, 0, 0, 0, 0), (65, 3, 0, 76, 5, 1), z0, z0, (53, 3, 0, 88, 0, 0), z0, z0, (37, 1, 0, 0, 0, 0), (65, 3, 0, 75, 5, 0), z0, z0, (36, 2, 0, 6, 0, 0), z0, (58, 1, 0, 0, 0, 0), (48, 3, 0, 88, 0, 0), z0, z0, (37, 1, 0, 0, 0, 0), (65, 3, 0, 75, 5, 0), z0, z0, (36, 2, 0, 6, 0, 0), z0, (58, 1, 0, 0, 0, 0), (37, 1, 0, 1, 0, 0), (66, 3, 0, 23, 3, 4), z0, z0, (49, 3, 0, 90, 0, 0), z0, z0, (32, 1, 0, 0, 0, 0), (100, 1, 0, 0, 0, 0), (37, 1, 0, 0, 0, 0), (27, 1, 0, 0, 0, 0), (65, 3, 0, 76, 5, 1), z0, z0, (32, 1, 1, 0, 0, 0), (1, 1, 0, 0, 0, 0), (67, 3, 0, 76, 5, 1), z0, z0, (43, 3, 1, 6, 0, 0), z0, z0, (56, 3, 0, 38, 0, 0), z0, z0, (37, 1, 0, 0, 0, 0), (65, 3, 0, 76, 5, 1), z0, z0, (54, 3, 0, 117, 0, 0), z0, z0, (32, 1, 1, 0, 0, 0), (56, 3, 0, 118, 0, 0), z0, z0, (32, 1, 0, 0, 0, 0), (100, 1, 0, 0, 0, 0)]
def P_Sp_ask : PM := (5, ⟨"OneWaySpell$Speller", "ask", "(LOneWaySpell$Groups;IIII)Z"⟩, prog_7_method_2_code, 7, some .boolean, 1, 5, (1022, 187, 1021, 61), C_Sp_ask)
def C_Sp_search : List PI := [(37, 1, 0, 0, 0, 0), (65, 3, 0, 77, 5, 2), z0, z0, (37, 1, 0, 0, 0, 0), (65, 3, 0, 76, 5, 1), z0, z0, (32, 1, 0, 0, 0, 0), (62, 1, 0, 0, 0, 0), (37, 1, 0, 0, 0, 0), (65, 3, 0, 76, 5, 1), z0, z0, (32, 1, 1, 0, 0, 0), (2, 1, 0, 0, 0, 0), (40, 1, 0, 2, 0, 0), (36, 1, 0, 2, 0, 0), (48, 3, 0, 61, 0, 0), z0, z0, (37, 1, 0, 1, 0, 0), (37, 1, 0, 0, 0, 0), (65, 3, 0, 75, 5, 0), z0, z0, (36, 1, 0, 2, 0, 0), (58, 1, 0, 0, 0, 0), (110, 3, 0, 64, 2, 81), z0, z0, (40, 1, 0, 3, 0, 0), (36, 1, 0, 3, 0, 0), (32, 1, -1, 0, 0, 0), (47, 3, 0, 39, 0, 0), z0, z0, (32, 1, 0, 0, 0, 0), (100, 1, 0, 0, 0, 0), (37, 1, 0, 0, 0, 0), (65, 3, 0, 77, 5, 2), z0, z0, (36, 1, 0, 2, 0, 0), (37, 1, 0, 0, 0, 0), (65, 3, 0, 77, 5, 2), z0, z0, (36, 1, 0, 2, 0, 0), (32, 1, 1, 0, 0, 0), (1, 1, 0, 0, 0, 0), (58, 1, 0, 0, 0, 0), (36, 1, 0, 3, 0, 0), (1, 1, 0, 0, 0, 0), (62, 1, 0, 0, 0, 0), (43, 3, -1, 2, 0, 0), z0, z0, (56, 3, 0, 17, 0, 0), z0, z0, (37, 1, 0, 0, 0, 0), (32, 2, 29, 0, 0, 0), z0, (67, 3, 0, 80, 5, 5), z0, z0, (37, 1, 0, 0, 0, 0), (65, 3, 0, 81, 5, 6), z0, z0, (32, 1, 0, 0, 0, 0), (32, 1, 1, 0, 0, 0), (62, 1, 0, 0, 0, 0), (37, 1, 0, 0, 0, 0), (37, 1, 0, 1, 0, 0), (32, 1, 0, 0, 0, 0), (32, 1, 0, 0, 0, 0), (33, 1, 0, 0, 0, 0), (110, 3, 0, 65, 5, 82), z0, z0, (37, 1, 0, 0, 0, 0), (65, 3, 0, 80, 5, 5), z0, z0, (32, 2, 28, 0, 0, 0), z0, (53, 3, 0, 95, 0, 0), z0, z0, (32, 1, 1, 0, 0, 0), (56, 3, 0, 96, 0, 0), z0, z0, (32, 1, 0, 0, 0, 0), (100, 1, 0, 0, 0, 0)]
def P_Sp_search : PM := (5, ⟨"OneWaySpell$Speller", "search", "(LOneWaySpell$Groups;)Z"⟩, prog_7_method_3_code, 4, some .boolean, 1, 1, (1026, 187, 1025, 62), C_Sp_search)
def C_Sp_shortestOf : List PI := [(32, 1, -1, 0, 0, 0), (40, 1, 0, 2, 0, 0), (32, 1, 0, 0, 0, 0), (40, 1, 0, 3, 0, 0), (36, 1, 0, 3, 0, 0), (37, 1, 0, 0, 0, 0), (66, 3, 0, 19, 3, 3), z0, z0, (51, 3, 0, 58, 0, 0), z0, z0, (37, 1, 0, 0, 0, 0), (36, 1, 0, 3, 0, 0), (110, 3, 1, 35, 2, 63), z0, z0, (44, 3, 0, 52, 0, 0), z0, z0, (37, 1, 0, 0, 0, 0), (66, 3, 0, 13, 3, 2), z0, z0, (36, 1, 0, 3, 0, 0), (58, 1, 0, 0, 0, 0), (36, 1, 0, 1, 0, 0), (47, 3, 0, 52, 0, 0), z0, z0, (36, 1, 0, 2, 0, 0), (32, 1, -1, 0, 0, 0), (45, 3, 0, 45, 0, 0), z0, z0, (37, 1, 0, 0, 0, 0), (66, 3, 0, 10, 3, 1), z0, z0, (36, 1, 0, 3, 0, 0), (58, 1, 0, 0, 0, 0), (36, 1, 0, 2, 0, 0), (51, 3, 0, 52, 0, 0), z0, z0, (37, 1, 0, 0, 0, 0), (66, 3, 0, 10, 3, 1), z0, z0, (36, 1, 0, 3, 0, 0), (58, 1, 0, 0, 0, 0), (40, 1, 0, 2, 0, 0), (43, 3, 1, 3, 0, 0), z0, z0, (56, 3, 0, 4, 0, 0), z0, z0, (36, 1, 0, 2, 0, 0), (100, 1, 0, 0, 0, 0)]
def P_Sp_shortestOf : PM := (5, ⟨"OneWaySpell$Speller", "shortestOf", "(LOneWaySpell$Groups;I)I"⟩, prog_7_method_4_code, 4, some .int, 0, 2, (1029, 187, 1028, 0), C_Sp_shortestOf)
def C_Sp_goOn : List PI := [(36, 1, 0, 2, 0, 0), (37, 1, 0, 0, 0, 0), (65, 3, 0, 76, 5, 1), z0, z0, (51, 3, 0, 13, 0, 0), z0, z0, (36, 1, 0, 2, 0, 0), (32, 1, 4, 0, 0, 0), (49, 3, 0, 36, 0, 0), z0, z0, (37, 1, 0, 0, 0, 0), (36, 1, 0, 3, 0, 0), (67, 3, 0, 80, 5, 5), z0, z0, (37, 1, 0, 0, 0, 0), (65, 3, 0, 78, 5, 3), z0, z0, (32, 1, 0, 0, 0, 0), (37, 1, 0, 0, 0, 0), (65, 3, 0, 79, 5, 4), z0, z0, (32, 1, 0, 0, 0, 0), (37, 1, 0, 0, 0, 0), (65, 3, 0, 76, 5, 1), z0, z0, (79, 3, 0, 1035, 0, 0), z0, z0, (103, 1, 0, 0, 0, 0), (32, 1, 0, 0, 0, 0), (40, 2, 0, 6, 0, 0), z0, (36, 2, 0, 6, 0, 0), z0, (37, 1, 0, 1, 0, 0), (66, 3, 0, 19, 3, 3), z0, z0, (51, 3, 0, 151, 0, 0), z0, z0, (36, 1, 0, 3, 0, 0), (37, 1, 0, 1, 0, 0), (66, 3, 0, 10, 3, 1), z0, z0, (36, 2, 0, 6, 0, 0), z0, (58, 1, 0, 0, 0, 0), (1, 1, 0, 0, 0, 0), (40, 2, 0, 7, 0, 0), z0, (37, 1, 0, 1, 0, 0), (36, 2, 0, 6, 0, 0), z0, (110, 3, 1, 35, 2, 63), z0, z0, (44, 3, 0, 145, 0, 0), z0, z0, (37, 1, 0, 1, 0, 0), (66, 3, 0, 13, 3, 2), z0, z0, (36, 2, 0, 6, 0, 0), z0, (58, 1, 0, 0, 0, 0), (37, 1, 0, 0, 0, 0), (65, 3, 0, 75, 5, 0), z0, z0, (36, 1, 0, 2, 0, 0), (58, 1, 0, 0, 0, 0), (47, 3, 0, 145, 0, 0), z0, z0, (36, 2, 0, 7, 0, 0), z0, (37, 1, 0, 0, 0, 0), (65, 3, 0, 77, 5, 2), z0, z0, (36, 1, 0, 2, 0, 0), (32, 1, 1, 0, 0, 0), (1, 1, 0, 0, 0, 0), (58, 1, 0, 0, 0, 0), (1, 1, 0, 0, 0, 0), (37, 1, 0, 0, 0, 0), (65, 3, 0, 80, 5, 5), z0, z0, (51, 3, 0, 145, 0, 0), z0, z0, (37, 1, 0, 0, 0, 0), (37, 1, 0, 1, 0, 0), (36, 2, 0, 6, 0, 0), z0, (36, 1, 0, 3, 0, 0), (38, 2, 0, 4, 0, 0), z0, (110, 3, 0, 66, 5, 83), z0, z0, (42, 2, 0, 8, 0, 0), z0, (37, 1, 0, 0, 0, 0), (65, 3, 0, 81, 5, 6), z0, z0, (36, 2, 0, 7, 0, 0), z0, (58, 1, 0, 0, 0, 0), (32, 1, 1, 0, 0, 0), (47, 3, 0, 145, 0, 0), z0, z0, (37, 1, 0, 0, 0, 0), (65, 3, 0, 78, 5, 3), z0, z0, (36, 1, 0, 2, 0, 0), (36, 2, 0, 6, 0, 0), z0, (62, 1, 0, 0, 0, 0), (37, 1, 0, 0, 0, 0), (37, 1, 0, 1, 0, 0), (36, 1, 0, 2, 0, 0), (32, 1, 1, 0, 0, 0), (1, 1, 0, 0, 0, 0), (36, 2, 0, 7, 0, 0), z0, (38, 2, 0, 8, 0, 0), z0, (110, 3, 0, 65, 5, 82), z0, z0, (43, 3, 1, 6, 0, 0), z0, z0, (56, 3, 0, 39, 0, 0), z0, z0, (103, 1, 0, 0, 0, 0)]
def P_Sp_goOn : PM := (5, ⟨"OneWaySpell$Speller", "goOn", "(LOneWaySpell$Groups;IIJ)V"⟩, prog_7_method_5_code, 10, none, 1, 4, (1034, 187, 1033, 63), C_Sp_goOn)
def C_Sp_countNew : List PI := [(37, 1, 0, 1, 0, 0), (66, 3, 0, 10, 3, 1), z0, z0, (36, 1, 0, 2, 0, 0), (58, 1, 0, 0, 0, 0), (40, 2, 0, 6, 0, 0), z0, (38, 2, 0, 4, 0, 0), z0, (42, 2, 0, 7, 0, 0), z0, (32, 1, 0, 0, 0, 0), (40, 2, 0, 9, 0, 0), z0, (36, 2, 0, 9, 0, 0), z0, (36, 2, 0, 6, 0, 0), z0, (51, 3, 0, 169, 0, 0), z0, z0, (36, 1, 0, 3, 0, 0), (36, 2, 0, 9, 0, 0), z0, (1, 1, 0, 0, 0, 0), (32, 2, 28, 0, 0, 0), z0, (51, 3, 0, 169, 0, 0), z0, z0, (36, 1, 0, 3, 0, 0), (36, 2, 0, 9, 0, 0), z0, (1, 1, 0, 0, 0, 0), (32, 1, 1, 0, 0, 0), (1, 1, 0, 0, 0, 0), (40, 2, 0, 10, 0, 0), z0, (38, 2, 0, 7, 0, 0), z0, (32, 1, 5, 0, 0, 0), (20, 1, 0, 0, 0, 0), (37, 1, 0, 1, 0, 0), (66, 3, 0, 3, 3, 0), z0, z0, (36, 1, 0, 2, 0, 0), (59, 1, 0, 0, 0, 0), (36, 2, 0, 6, 0, 0), z0, (36, 2, 0, 9, 0, 0), z0, (110, 3, 1, 164, 3, 64), z0, z0, (24, 1, 0, 0, 0, 0), (16, 1, 0, 0, 0, 0), (32, 2, 7, 0, 0, 0), z0, (110, 3, 1, 163, 2, 65), z0, z0, (42, 2, 0, 7, 0, 0), z0, (32, 1, 0, 0, 0, 0), (40, 2, 0, 11, 0, 0), z0, (32, 1, 0, 0, 0, 0), (40, 2, 0, 12, 0, 0), z0, (36, 2, 0, 12, 0, 0), z0, (37, 1, 0, 1, 0, 0), (66, 3, 0, 19, 3, 3), z0, z0, (51, 3, 0, 150, 0, 0), z0, z0, (37, 1, 0, 1, 0, 0), (36, 2, 0, 12, 0, 0), z0, (110, 3, 1, 35, 2, 63), z0, z0, (44, 3, 0, 144, 0, 0), z0, z0, (37, 1, 0, 1, 0, 0), (66, 3, 0, 10, 3, 1), z0, z0, (36, 2, 0, 12, 0, 0), z0, (58, 1, 0, 0, 0, 0), (36, 2, 0, 10, 0, 0), z0, (53, 3, 0, 144, 0, 0), z0, z0, (38, 2, 0, 7, 0, 0), z0, (37, 1, 0, 1, 0, 0), (66, 3, 0, 10, 3, 1), z0, z0, (36, 2, 0, 12, 0, 0), z0, (58, 1, 0, 0, 0, 0), (110, 3, 1, 163, 2, 65), z0, z0, (37, 1, 0, 1, 0, 0), (66, 3, 0, 3, 3, 0), z0, z0, (36, 2, 0, 12, 0, 0), z0, (59, 1, 0, 0, 0, 0), (22, 1, 0, 0, 0, 0), (46, 3, 0, 144, 0, 0), z0, z0, (36, 2, 0, 11, 0, 0), z0, (37, 1, 0, 0, 0, 0), (65, 3, 0, 81, 5, 6), z0, z0, (36, 2, 0, 10, 0, 0), z0, (37, 1, 0, 1, 0, 0), (66, 3, 0, 10, 3, 1), z0, z0, (36, 2, 0, 12, 0, 0), z0, (58, 1, 0, 0, 0, 0), (2, 1, 0, 0, 0, 0), (58, 1, 0, 0, 0, 0), (1, 1, 0, 0, 0, 0), (40, 2, 0, 11, 0, 0), z0, (43, 3, 1, 12, 0, 0), z0, z0, (56, 3, 0, 71, 0, 0), z0, z0, (37, 1, 0, 0, 0, 0), (65, 3, 0, 81, 5, 6), z0, z0, (36, 2, 0, 10, 0, 0), z0, (32, 1, 2, 0, 0, 0), (36, 2, 0, 11, 0, 0), z0, (83, 3, 0, 1042, 0, 0), z0, z0, (62, 1, 0, 0, 0, 0), (43, 3, 1, 9, 0, 0), z0, z0, (56, 3, 0, 15, 0, 0), z0, z0, (38, 2, 0, 7, 0, 0), z0, (101, 1, 0, 0, 0, 0)]
def P_Sp_countNew : PM := (5, ⟨"OneWaySpell$Speller", "countNew", "(LOneWaySpell$Groups;IIJ)J"⟩, prog_7_method_6_code, 13, some .long, 1, 4, (1039, 187, 1038, 64), C_Sp_countNew)
def C_Sp_copyTo : List PI := [(37, 1, 0, 2, 0, 0), (110, 3, 1, 106, 1, 67), z0, z0, (32, 1, 0, 0, 0, 0), (40, 1, 0, 3, 0, 0), (36, 1, 0, 3, 0, 0), (37, 1, 0, 0, 0, 0), (65, 3, 0, 76, 5, 1), z0, z0, (51, 3, 0, 46, 0, 0), z0, z0, (37, 1, 0, 2, 0, 0), (37, 1, 0, 1, 0, 0), (66, 3, 0, 3, 3, 0), z0, z0, (37, 1, 0, 0, 0, 0), (65, 3, 0, 79, 5, 4), z0, z0, (36, 1, 0, 3, 0, 0), (58, 1, 0, 0, 0, 0), (59, 1, 0, 0, 0, 0), (37, 1, 0, 1, 0, 0), (66, 3, 0, 10, 3, 1), z0, z0, (37, 1, 0, 0, 0, 0), (65, 3, 0, 79, 5, 4), z0, z0, (36, 1, 0, 3, 0, 0), (58, 1, 0, 0, 0, 0), (58, 1, 0, 0, 0, 0), (110, 3, 1, 108, 3, 68), z0, z0, (43, 3, 1, 3, 0, 0), z0, z0, (56, 3, 0, 6, 0, 0), z0, z0, (103, 1, 0, 0, 0, 0)]
def P_Sp_copyTo : PM := (5, ⟨"OneWaySpell$Speller", "copyTo", "(LOneWaySpell$Groups;LOneWaySpell$Word;)V"⟩, prog_7_method_7_code, 4, none, 1, 2, (1046, 187, 1045, 65), C_Sp_copyTo)
def C_Ta_init : List PI := [(37, 1, 0, 0, 0, 0), (78, 3, 0, 527, 0, 0), z0, z0, (37, 1, 0, 0, 0, 0), (32, 2, 98, 0, 0, 0), z0, (74, 2, 0, 0, 0, 0), z0, (69, 3, 0, 37, 6, 0), z0, z0, (37, 1, 0, 0, 0, 0), (32, 2, 98, 0, 0, 0), z0, (71, 2, 0, 0, 0, 0), z0, (69, 3, 0, 38, 6, 1), z0, z0, (37, 1, 0, 0, 0, 0), (32, 2, 98, 0, 0, 0), z0, (71, 2, 0, 0, 0, 0), z0, (69, 3, 0, 39, 6, 2), z0, z0, (37, 1, 0, 0, 0, 0), (32, 2, 100, 0, 0, 0), z0, (71, 2, 0, 0, 0, 0), z0, (69, 3, 0, 41, 6, 4), z0, z0, (37, 1, 0, 0, 0, 0), (32, 1, -1, 0, 0, 0), (67, 3, 0, 43, 6, 6), z0, z0, (37, 1, 0, 0, 0, 0), (32, 1, -1, 0, 0, 0), (67, 3, 0, 45, 6, 8), z0, z0, (37, 1, 0, 0, 0, 0), (32, 2, 98, 0, 0, 0), z0, (71, 2, 0, 0, 0, 0), z0, (69, 3, 0, 46, 6, 9), z0, z0, (37, 1, 0, 0, 0, 0), (32, 3, 1372, 0, 0, 0), z0, z0, (71, 2, 0, 0, 0, 0), z0, (69, 3, 0, 47, 6, 10), z0, z0, (37, 1, 0, 0, 0, 0), (32, 3, 1372, 0, 0, 0), z0, z0, (71, 2, 0, 0, 0, 0), z0, (69, 3, 0, 48, 6, 11), z0, z0, (103, 1, 0, 0, 0, 0)]
def P_Ta_init : PM := (6, ⟨"OneWaySpell$Tails", "<init>", "()V"⟩, prog_8_method_1_code, 1, none, 2, 0, (526, 182, 525, 0), C_Ta_init)
def C_Ta_build : List PI := [(37, 1, 0, 0, 0, 0), (37, 1, 0, 1, 0, 0), (66, 3, 0, 26, 3, 6), z0, z0, (67, 3, 0, 45, 6, 8), z0, z0, (37, 1, 0, 0, 0, 0), (32, 1, 0, 0, 0, 0), (67, 3, 0, 40, 6, 3), z0, z0, (37, 1, 0, 0, 0, 0), (32, 1, 0, 0, 0, 0), (67, 3, 0, 42, 6, 5), z0, z0, (37, 1, 0, 0, 0, 0), (32, 1, -1, 0, 0, 0), (67, 3, 0, 43, 6, 6), z0, z0, (37, 1, 0, 0, 0, 0), (32, 1, 0, 0, 0, 0), (67, 3, 0, 44, 6, 7), z0, z0, (37, 1, 0, 0, 0, 0), (65, 3, 0, 41, 6, 4), z0, z0, (32, 1, 1, 0, 0, 0), (32, 1, 0, 0, 0, 0), (62, 1, 0, 0, 0, 0), (37, 1, 0, 0, 0, 0), (37, 1, 0, 1, 0, 0), (110, 3, 0, 70, 2, 25), z0, z0, (32, 1, 1, 0, 0, 0), (40, 1, 0, 3, 0, 0), (36, 1, 0, 3, 0, 0), (32, 2, 98, 0, 0, 0), z0, (53, 3, 0, 144, 0, 0), z0, z0, (37, 1, 0, 0, 0, 0), (65, 3, 0, 40, 6, 3), z0, z0, (37, 1, 0, 0, 0, 0), (65, 3, 0, 41, 6, 4), z0, z0, (36, 1, 0, 3, 0, 0), (58, 1, 0, 0, 0, 0), (55, 3, 0, 144, 0, 0), z0, z0, (37, 1, 0, 0, 0, 0), (36, 1, 0, 3, 0, 0), (67, 3, 0, 42, 6, 5), z0, z0, (37, 1, 0, 0, 0, 0), (65, 3, 0, 41, 6, 4), z0, z0, (36, 1, 0, 3, 0, 0), (32, 1, 1, 0, 0, 0), (1, 1, 0, 0, 0, 0), (37, 1, 0, 0, 0, 0), (65, 3, 0, 40, 6, 3), z0, z0, (62, 1, 0, 0, 0, 0), (37, 1, 0, 0, 0, 0), (37, 1, 0, 0, 0, 0), (65, 3, 0, 41, 6, 4), z0, z0, (36, 1, 0, 3, 0, 0), (58, 1, 0, 0, 0, 0), (37, 1, 0, 0, 0, 0), (65, 3, 0, 40, 6, 3), z0, z0, (110, 3, 0, 74, 3, 28), z0, z0, (37, 1, 0, 0, 0, 0), (65, 3, 0, 43, 6, 6), z0, z0, (32, 1, -1, 0, 0, 0), (47, 3, 0, 106, 0, 0), z0, z0, (37, 1, 0, 0, 0, 0), (37, 1, 0, 1, 0, 0), (36, 1, 0, 3, 0, 0), (110, 3, 0, 75, 3, 29), z0, z0, (36, 1, 0, 2, 0, 0), (44, 3, 0, 119, 0, 0), z0, z0, (37, 1, 0, 0, 0, 0), (65, 3, 0, 43, 6, 6), z0, z0, (32, 1, -1, 0, 0, 0), (45, 3, 0, 119, 0, 0), z0, z0, (103, 1, 0, 0, 0, 0), (37, 1, 0, 0, 0, 0), (37, 1, 0, 1, 0, 0), (37, 1, 0, 0, 0, 0), (65, 3, 0, 41, 6, 4), z0, z0, (36, 1, 0, 3, 0, 0), (58, 1, 0, 0, 0, 0), (37, 1, 0, 0, 0, 0), (65, 3, 0, 41, 6, 4), z0, z0, (36, 1, 0, 3, 0, 0), (32, 1, 1, 0, 0, 0), (1, 1, 0, 0, 0, 0), (58, 1, 0, 0, 0, 0), (110, 3, 0, 71, 4, 30), z0, z0, (43, 3, 1, 3, 0, 0), z0, z0, (56, 3, 0, 42, 0, 0), z0, z0, (103, 1, 0, 0, 0, 0)]
def P_Ta_build : PM := (6, ⟨"OneWaySpell$Tails", "build", "(LOneWaySpell$Groups;Z)V"⟩, prog_8_method_2_code, 4, none, 1, 2, (575, 182, 574, 17), C_Ta_build)
def C_Ta_addFirstRound : List PI := [(32, 1, 0, 0, 0, 0), (40, 1, 0, 2, 0, 0), (36, 1, 0, 2, 0, 0), (37, 1, 0, 1, 0, 0), (66, 3, 0, 17, 3, 3), z0, z0, (51, 3, 0, 92, 0, 0), z0, z0, (32, 1, 0, 0, 0, 0), (40, 1, 0, 3, 0, 0), (36, 1, 0, 3, 0, 0), (37, 1, 0, 1, 0, 0), (66, 3, 0, 17, 3, 3), z0, z0, (51, 3, 0, 86, 0, 0), z0, z0, (36, 1, 0, 2, 0, 0), (36, 1, 0, 3, 0, 0), (45, 3, 0, 80, 0, 0), z0, z0, (37, 1, 0, 1, 0, 0), (36, 1, 0, 2, 0, 0), (110, 3, 1, 35, 2, 18), z0, z0, (44, 3, 0, 80, 0, 0), z0, z0, (37, 1, 0, 1, 0, 0), (36, 1, 0, 3, 0, 0), (110, 3, 1, 35, 2, 18), z0, z0, (44, 3, 0, 80, 0, 0), z0, z0, (37, 1, 0, 1, 0, 0), (36, 1, 0, 2, 0, 0), (36, 1, 0, 3, 0, 0), (110, 3, 1, 43, 3, 19), z0, z0, (44, 3, 0, 80, 0, 0), z0, z0, (37, 1, 0, 0, 0, 0), (37, 1, 0, 1, 0, 0), (66, 3, 0, 1, 3, 0), z0, z0, (36, 1, 0, 3, 0, 0), (59, 1, 0, 0, 0, 0), (37, 1, 0, 1, 0, 0), (66, 3, 0, 9, 3, 1), z0, z0, (36, 1, 0, 3, 0, 0), (58, 1, 0, 0, 0, 0), (37, 1, 0, 1, 0, 0), (66, 3, 0, 9, 3, 1), z0, z0, (36, 1, 0, 2, 0, 0), (58, 1, 0, 0, 0, 0), (2, 1, 0, 0, 0, 0), (32, 1, 1, 0, 0, 0), (36, 1, 0, 2, 0, 0), (7, 1, 0, 0, 0, 0), (32, 1, 1, 0, 0, 0), (36, 1, 0, 3, 0, 0), (7, 1, 0, 0, 0, 0), (5, 1, 0, 0, 0, 0), (110, 3, 0, 72, 4, 26), z0, z0, (43, 3, 1, 3, 0, 0), z0, z0, (56, 3, 0, 12, 0, 0), z0, z0, (43, 3, 1, 2, 0, 0), z0, z0, (56, 3, 0, 2, 0, 0), z0, z0, (103, 1, 0, 0, 0, 0)]
def P_Ta_addFirstRound : PM := (6, ⟨"OneWaySpell$Tails", "addFirstRound", "(LOneWaySpell$Groups;)V"⟩, prog_8_method_3_code, 4, none, 1, 1, (579, 182, 578, 18), C_Ta_addFirstRound)
def C_Ta_addNextRound : List PI := [(36, 1, 0, 2, 0, 0), (40, 2, 0, 4, 0, 0), z0, (36, 2, 0, 4, 0, 0), z0, (36, 1, 0, 3, 0, 0), (51, 3, 0, 183, 0, 0), z0, z0, (32, 1, 0, 0, 0, 0), (40, 2, 0, 5, 0, 0), z0, (36, 2, 0, 5, 0, 0), z0, (37, 1, 0, 1, 0, 0), (66, 3, 0, 17, 3, 3), z0, z0, (51, 3, 0, 177, 0, 0), z0, z0, (37, 1, 0, 1, 0, 0), (36, 2, 0, 5, 0, 0), z0, (110, 3, 1, 35, 2, 18), z0, z0, (44, 3, 0, 171, 0, 0), z0, z0, (37, 1, 0, 0, 0, 0), (65, 3, 0, 39, 6, 2), z0, z0, (36, 2, 0, 4, 0, 0), z0, (58, 1, 0, 0, 0, 0), (32, 1, 1, 0, 0, 0), (36, 2, 0, 5, 0, 0), z0, (7, 1, 0, 0, 0, 0), (5, 1, 0, 0, 0, 0), (40, 2, 0, 6, 0, 0), z0, (37, 1, 0, 0, 0, 0), (65, 3, 0, 37, 6, 0), z0, z0, (36, 2, 0, 4, 0, 0), z0, (59, 1, 0, 0, 0, 0), (37, 1, 0, 0, 0, 0), (65, 3, 0, 38, 6, 1), z0, z0, (36, 2, 0, 4, 0, 0), z0, (58, 1, 0, 0, 0, 0), (37, 1, 0, 1, 0, 0), (66, 3, 0, 1, 3, 0), z0, z0, (36, 2, 0, 5, 0, 0), z0, (59, 1, 0, 0, 0, 0), (37, 1, 0, 1, 0, 0), (66, 3, 0, 9, 3, 1), z0, z0, (36, 2, 0, 5, 0, 0), z0, (58, 1, 0, 0, 0, 0), (110, 3, 1, 161, 4, 22), z0, z0, (44, 3, 0, 109, 0, 0), z0, z0, (37, 1, 0, 0, 0, 0), (37, 1, 0, 1, 0, 0), (66, 3, 0, 1, 3, 0), z0, z0, (36, 2, 0, 5, 0, 0), z0, (59, 1, 0, 0, 0, 0), (37, 1, 0, 1, 0, 0), (66, 3, 0, 9, 3, 1), z0, z0, (36, 2, 0, 5, 0, 0), z0, (58, 1, 0, 0, 0, 0), (37, 1, 0, 0, 0, 0), (65, 3, 0, 38, 6, 1), z0, z0, (36, 2, 0, 4, 0, 0), z0, (58, 1, 0, 0, 0, 0), (2, 1, 0, 0, 0, 0), (36, 2, 0, 6, 0, 0), z0, (110, 3, 0, 72, 4, 26), z0, z0, (56, 3, 0, 171, 0, 0), z0, z0, (37, 1, 0, 1, 0, 0), (66, 3, 0, 1, 3, 0), z0, z0, (36, 2, 0, 5, 0, 0), z0, (59, 1, 0, 0, 0, 0), (37, 1, 0, 1, 0, 0), (66, 3, 0, 9, 3, 1), z0, z0, (36, 2, 0, 5, 0, 0), z0, (58, 1, 0, 0, 0, 0), (37, 1, 0, 0, 0, 0), (65, 3, 0, 37, 6, 0), z0, z0, (36, 2, 0, 4, 0, 0), z0, (59, 1, 0, 0, 0, 0), (37, 1, 0, 0, 0, 0), (65, 3, 0, 38, 6, 1), z0, z0, (36, 2, 0, 4, 0, 0), z0, (58, 1, 0, 0, 0, 0), (110, 3, 1, 161, 4, 22), z0, z0, (44, 3, 0, 171, 0, 0), z0, z0, (37, 1, 0, 0, 0, 0), (37, 1, 0, 0, 0, 0), (65, 3, 0, 37, 6, 0), z0, z0, (36, 2, 0, 4, 0, 0), z0, (59, 1, 0, 0, 0, 0), (37, 1, 0, 0, 0, 0), (65, 3, 0, 38, 6, 1), z0, z0, (36, 2, 0, 4, 0, 0), z0, (58, 1, 0, 0, 0, 0), (37, 1, 0, 1, 0, 0), (66, 3, 0, 9, 3, 1), z0, z0, (36, 2, 0, 5, 0, 0), z0, (58, 1, 0, 0, 0, 0), (2, 1, 0, 0, 0, 0), (36, 2, 0, 6, 0, 0), z0, (110, 3, 0, 72, 4, 26), z0, z0, (43, 3, 1, 5, 0, 0), z0, z0, (56, 3, 0, 12, 0, 0), z0, z0, (43, 3, 1, 4, 0, 0), z0, z0, (56, 3, 0, 3, 0, 0), z0, z0, (103, 1, 0, 0, 0, 0)]
def P_Ta_addNextRound : PM := (6, ⟨"OneWaySpell$Tails", "addNextRound", "(LOneWaySpell$Groups;II)V"⟩, prog_8_method_4_code, 7, none, 1, 3, (605, 182, 604, 23), C_Ta_addNextRound)
def C_Ta_add : List PI := [(36, 1, 0, 3, 0, 0), (32, 1, 1, 0, 0, 0), (49, 3, 0, 14, 0, 0), z0, z0, (37, 1, 0, 0, 0, 0), (65, 3, 0, 40, 6, 3), z0, z0, (32, 2, 98, 0, 0, 0), z0, (49, 3, 0, 15, 0, 0), z0, z0, (103, 1, 0, 0, 0, 0), (38, 1, 0, 1, 0, 0), (36, 1, 0, 3, 0, 0), (110, 3, 1, 163, 2, 20), z0, z0, (42, 2, 0, 5, 0, 0), z0, (37, 1, 0, 0, 0, 0), (38, 2, 0, 5, 0, 0), z0, (110, 3, 0, 73, 2, 27), z0, z0, (32, 1, -1, 0, 0, 0), (45, 3, 0, 33, 0, 0), z0, z0, (103, 1, 0, 0, 0, 0), (37, 1, 0, 0, 0, 0), (65, 3, 0, 37, 6, 0), z0, z0, (37, 1, 0, 0, 0, 0), (65, 3, 0, 40, 6, 3), z0, z0, (38, 2, 0, 5, 0, 0), z0, (63, 1, 0, 0, 0, 0), (37, 1, 0, 0, 0, 0), (65, 3, 0, 38, 6, 1), z0, z0, (37, 1, 0, 0, 0, 0), (65, 3, 0, 40, 6, 3), z0, z0, (36, 1, 0, 3, 0, 0), (62, 1, 0, 0, 0, 0), (37, 1, 0, 0, 0, 0), (65, 3, 0, 39, 6, 2), z0, z0, (37, 1, 0, 0, 0, 0), (65, 3, 0, 40, 6, 3), z0, z0, (36, 2, 0, 4, 0, 0), z0, (62, 1, 0, 0, 0, 0), (37, 1, 0, 0, 0, 0), (27, 1, 0, 0, 0, 0), (65, 3, 0, 40, 6, 3), z0, z0, (32, 1, 1, 0, 0, 0), (1, 1, 0, 0, 0, 0), (67, 3, 0, 40, 6, 3), z0, z0, (103, 1, 0, 0, 0, 0)]
def P_Ta_add : PM := (6, ⟨"OneWaySpell$Tails", "add", "(JII)V"⟩, prog_8_method_5_code, 7, none, 1, 3, (585, 182, 584, 19), C_Ta_add)
def C_Ta_find : List PI := [(32, 1, 0, 0, 0, 0), (40, 1, 0, 3, 0, 0), (36, 1, 0, 3, 0, 0), (37, 1, 0, 0, 0, 0), (65, 3, 0, 40, 6, 3), z0, z0, (51, 3, 0, 29, 0, 0), z0, z0, (37, 1, 0, 0, 0, 0), (65, 3, 0, 37, 6, 0), z0, z0, (36, 1, 0, 3, 0, 0), (59, 1, 0, 0, 0, 0), (38, 1, 0, 1, 0, 0), (22, 1, 0, 0, 0, 0), (46, 3, 0, 23, 0, 0), z0, z0, (36, 1, 0, 3, 0, 0), (100, 1, 0, 0, 0, 0), (43, 3, 1, 3, 0, 0), z0, z0, (56, 3, 0, 2, 0, 0), z0, z0, (32, 1, -1, 0, 0, 0), (100, 1, 0, 0, 0, 0)]
def P_Ta_find : PM := (6, ⟨"OneWaySpell$Tails", "find", "(J)I"⟩, prog_8_method_6_code, 4, some .int, 1, 1, (590, 182, 589, 20), C_Ta_find)
def C_Ta_sortAsInDictionary : List PI := [(36, 1, 0, 1, 0, 0), (32, 1, 1, 0, 0, 0), (1, 1, 0, 0, 0, 0), (40, 1, 0, 3, 0, 0), (36, 1, 0, 3, 0, 0), (36, 1, 0, 2, 0, 0), (51, 3, 0, 165, 0, 0), z0, z0, (37, 1, 0, 0, 0, 0), (65, 3, 0, 37, 6, 0), z0, z0, (36, 1, 0, 3, 0, 0), (59, 1, 0, 0, 0, 0), (42, 2, 0, 4, 0, 0), z0, (37, 1, 0, 0, 0, 0), (65, 3, 0, 38, 6, 1), z0, z0, (36, 1, 0, 3, 0, 0), (58, 1, 0, 0, 0, 0), (40, 2, 0, 6, 0, 0), z0, (37, 1, 0, 0, 0, 0), (65, 3, 0, 39, 6, 2), z0, z0, (36, 1, 0, 3, 0, 0), (58, 1, 0, 0, 0, 0), (40, 2, 0, 7, 0, 0), z0, (36, 1, 0, 3, 0, 0), (32, 1, 1, 0, 0, 0), (2, 1, 0, 0, 0, 0), (40, 2, 0, 8, 0, 0), z0, (36, 2, 0, 8, 0, 0), z0, (36, 1, 0, 1, 0, 0), (49, 3, 0, 126, 0, 0), z0, z0, (37, 1, 0, 0, 0, 0), (65, 3, 0, 37, 6, 0), z0, z0, (36, 2, 0, 8, 0, 0), z0, (59, 1, 0, 0, 0, 0), (37, 1, 0, 0, 0, 0), (65, 3, 0, 38, 6, 1), z0, z0, (36, 2, 0, 8, 0, 0), z0, (58, 1, 0, 0, 0, 0), (110, 3, 1, 166, 2, 21), z0, z0, (38, 2, 0, 4, 0, 0), z0, (36, 2, 0, 6, 0, 0), z0, (110, 3, 1, 166, 2, 21), z0, z0, (22, 1, 0, 0, 0, 0), (54, 3, 0, 126, 0, 0), z0, z0, (37, 1, 0, 0, 0, 0), (65, 3, 0, 37, 6, 0), z0, z0, (36, 2, 0, 8, 0, 0), z0, (32, 1, 1, 0, 0, 0), (1, 1, 0, 0, 0, 0), (37, 1, 0, 0, 0, 0), (65, 3, 0, 37, 6, 0), z0, z0, (36, 2, 0, 8, 0, 0), z0, (59, 1, 0, 0, 0, 0), (63, 1, 0, 0, 0, 0), (37, 1, 0, 0, 0, 0), (65, 3, 0, 38, 6, 1), z0, z0, (36, 2, 0, 8, 0, 0), z0, (32, 1, 1, 0, 0, 0), (1, 1, 0, 0, 0, 0), (37, 1, 0, 0, 0, 0), (65, 3, 0, 38, 6, 1), z0, z0, (36, 2, 0, 8, 0, 0), z0, (58, 1, 0, 0, 0, 0), (62, 1, 0, 0, 0, 0), (37, 1, 0, 0, 0, 0), (65, 3, 0, 39, 6, 2), z0, z0, (36, 2, 0, 8, 0, 0), z0, (32, 1, 1, 0, 0, 0), (1, 1, 0, 0, 0, 0), (37, 1, 0, 0, 0, 0), (65, 3, 0, 39, 6, 2), z0, z0, (36, 2, 0, 8, 0, 0), z0, (58, 1, 0, 0, 0, 0), (62, 1, 0, 0, 0, 0), (43, 3, -1, 8, 0, 0), z0, z0, (56, 3, 0, 38, 0, 0), z0, z0, (37, 1, 0, 0, 0, 0), (65, 3, 0, 37, 6, 0), z0, z0, (36, 2, 0, 8, 0, 0), z0, (32, 1, 1, 0, 0, 0), (1, 1, 0, 0, 0, 0), (38, 2, 0, 4, 0, 0), z0, (63, 1, 0, 0, 0, 0), (37, 1, 0, 0, 0, 0), (65, 3, 0, 38, 6, 1), z0, z0, (36, 2, 0, 8, 0, 0), z0, (32, 1, 1, 0, 0, 0), (1, 1, 0, 0, 0, 0), (36, 2, 0, 6, 0, 0), z0, (62, 1, 0, 0, 0, 0), (37, 1, 0, 0, 0, 0), (65, 3, 0, 39, 6, 2), z0, z0, (36, 2, 0, 8, 0, 0), z0, (32, 1, 1, 0, 0, 0), (1, 1, 0, 0, 0, 0), (36, 2, 0, 7, 0, 0), z0, (62, 1, 0, 0, 0, 0), (43, 3, 1, 3, 0, 0), z0, z0, (56, 3, 0, 4, 0, 0), z0, z0, (103, 1, 0, 0, 0, 0)]
def P_Ta_sortAsInDictionary : PM := (6, ⟨"OneWaySpell$Tails", "sortAsInDictionary", "(II)V"⟩, prog_8_method_7_code, 9, none, 1, 2, (594, 182, 593, 21), C_Ta_sortAsInDictionary)
def C_Ta_seekDoubt : List PI := [(37, 1, 0, 0, 0, 0), (65, 3, 0, 41, 6, 4), z0, z0, (36, 1, 0, 2, 0, 0), (58, 1, 0, 0, 0, 0), (40, 1, 0, 3, 0, 0), (36, 1, 0, 3, 0, 0), (37, 1, 0, 0, 0, 0), (65, 3, 0, 40, 6, 3), z0, z0, (51, 3, 0, 86, 0, 0), z0, z0, (32, 1, 0, 0, 0, 0), (40, 2, 0, 4, 0, 0), z0, (36, 2, 0, 4, 0, 0), z0, (37, 1, 0, 1, 0, 0), (66, 3, 0, 17, 3, 3), z0, z0, (51, 3, 0, 80, 0, 0), z0, z0, (37, 1, 0, 1, 0, 0), (36, 2, 0, 4, 0, 0), z0, (110, 3, 1, 35, 2, 18), z0, z0, (44, 3, 0, 74, 0, 0), z0, z0, (37, 1, 0, 1, 0, 0), (66, 3, 0, 1, 3, 0), z0, z0, (36, 2, 0, 4, 0, 0), z0, (59, 1, 0, 0, 0, 0), (37, 1, 0, 0, 0, 0), (65, 3, 0, 37, 6, 0), z0, z0, (36, 1, 0, 3, 0, 0), (59, 1, 0, 0, 0, 0), (22, 1, 0, 0, 0, 0), (46, 3, 0, 74, 0, 0), z0, z0, (37, 1, 0, 0, 0, 0), (36, 1, 0, 2, 0, 0), (67, 3, 0, 43, 6, 6), z0, z0, (37, 1, 0, 0, 0, 0), (37, 1, 0, 0, 0, 0), (65, 3, 0, 39, 6, 2), z0, z0, (36, 1, 0, 3, 0, 0), (58, 1, 0, 0, 0, 0), (32, 1, 1, 0, 0, 0), (36, 2, 0, 4, 0, 0), z0, (7, 1, 0, 0, 0, 0), (5, 1, 0, 0, 0, 0), (67, 3, 0, 44, 6, 7), z0, z0, (103, 1, 0, 0, 0, 0), (43, 3, 1, 4, 0, 0), z0, z0, (56, 3, 0, 18, 0, 0), z0, z0, (43, 3, 1, 3, 0, 0), z0, z0, (56, 3, 0, 7, 0, 0), z0, z0, (103, 1, 0, 0, 0, 0)]
def P_Ta_seekDoubt : PM := (6, ⟨"OneWaySpell$Tails", "seekDoubt", "(LOneWaySpell$Groups;I)V"⟩, prog_8_method_8_code, 5, none, 1, 2, (601, 182, 600, 22), C_Ta_seekDoubt)
def C_Ta_sizeOf : List PI := [(36, 1, 0, 1, 0, 0), (32, 1, 1, 0, 0, 0), (49, 3, 0, 13, 0, 0), z0, z0, (36, 1, 0, 1, 0, 0), (37, 1, 0, 0, 0, 0), (65, 3, 0, 42, 6, 5), z0, z0, (55, 3, 0, 17, 0, 0), z0, z0, (32, 1, 0, 0, 0, 0), (56, 3, 0, 32, 0, 0), z0, z0, (37, 1, 0, 0, 0, 0), (65, 3, 0, 41, 6, 4), z0, z0, (36, 1, 0, 1, 0, 0), (32, 1, 1, 0, 0, 0), (1, 1, 0, 0, 0, 0), (58, 1, 0, 0, 0, 0), (37, 1, 0, 0, 0, 0), (65, 3, 0, 41, 6, 4), z0, z0, (36, 1, 0, 1, 0, 0), (58, 1, 0, 0, 0, 0), (2, 1, 0, 0, 0, 0), (100, 1, 0, 0, 0, 0)]
def P_Ta_sizeOf : PM := (6, ⟨"OneWaySpell$Tails", "sizeOf", "(I)I"⟩, prog_8_method_9_code, 2, some .int, 1, 1, (614, 182, 613, 24), C_Ta_sizeOf)
def C_Ta_indexOf : List PI := [(36, 1, 0, 2, 0, 0), (48, 3, 0, 13, 0, 0), z0, z0, (36, 1, 0, 2, 0, 0), (37, 1, 0, 0, 0, 0), (36, 1, 0, 1, 0, 0), (110, 3, 0, 76, 2, 33), z0, z0, (49, 3, 0, 17, 0, 0), z0, z0, (32, 1, -1, 0, 0, 0), (56, 3, 0, 25, 0, 0), z0, z0, (37, 1, 0, 0, 0, 0), (65, 3, 0, 41, 6, 4), z0, z0, (36, 1, 0, 1, 0, 0), (58, 1, 0, 0, 0, 0), (36, 1, 0, 2, 0, 0), (1, 1, 0, 0, 0, 0), (100, 1, 0, 0, 0, 0)]
def P_Ta_indexOf : PM := (6, ⟨"OneWaySpell$Tails", "indexOf", "(II)I"⟩, prog_8_method_10_code, 3, some .int, 1, 2, (622, 182, 621, 25), C_Ta_indexOf)
def C_Ta_lookAhead : List PI := [(37, 1, 0, 0, 0, 0), (65, 3, 0, 43, 6, 6), z0, z0, (32, 1, -1, 0, 0, 0), (45, 3, 0, 10, 0, 0), z0, z0, (32, 1, -1, 0, 0, 0), (100, 1, 0, 0, 0, 0), (37, 1, 0, 0, 0, 0), (37, 1, 0, 1, 0, 0), (110, 3, 0, 80, 2, 49), z0, z0, (32, 1, 1, 0, 0, 0), (40, 1, 0, 2, 0, 0), (32, 1, 0, 0, 0, 0), (40, 1, 0, 3, 0, 0), (36, 1, 0, 3, 0, 0), (37, 1, 0, 0, 0, 0), (65, 3, 0, 40, 6, 3), z0, z0, (32, 1, 2, 0, 0, 0), (1, 1, 0, 0, 0, 0), (51, 3, 0, 48, 0, 0), z0, z0, (36, 1, 0, 2, 0, 0), (44, 3, 0, 48, 0, 0), z0, z0, (37, 1, 0, 0, 0, 0), (37, 1, 0, 1, 0, 0), (66, 3, 0, 17, 3, 3), z0, z0, (110, 3, 0, 81, 2, 50), z0, z0, (40, 1, 0, 2, 0, 0), (43, 3, 1, 3, 0, 0), z0, z0, (56, 3, 0, 19, 0, 0), z0, z0, (36, 1, 0, 2, 0, 0), (44, 3, 0, 54, 0, 0), z0, z0, (32, 1, -1, 0, 0, 0), (100, 1, 0, 0, 0, 0), (32, 1, 0, 0, 0, 0), (40, 1, 0, 3, 0, 0), (32, 1, 0, 0, 0, 0), (40, 2, 0, 4, 0, 0), z0, (36, 2, 0, 4, 0, 0), z0, (37, 1, 0, 1, 0, 0), (66, 3, 0, 17, 3, 3), z0, z0, (51, 3, 0, 131, 0, 0), z0, z0, (32, 1, 0, 0, 0, 0), (40, 2, 0, 5, 0, 0), z0, (36, 2, 0, 5, 0, 0), z0, (37, 1, 0, 1, 0, 0), (66, 3, 0, 17, 3, 3), z0, z0, (51, 3, 0, 125, 0, 0), z0, z0, (36, 2, 0, 4, 0, 0), z0, (36, 2, 0, 5, 0, 0), z0, (45, 3, 0, 119, 0, 0), z0, z0, (37, 1, 0, 1, 0, 0), (36, 2, 0, 4, 0, 0), z0, (110, 3, 1, 35, 2, 18), z0, z0, (44, 3, 0, 119, 0, 0), z0, z0, (37, 1, 0, 1, 0, 0), (36, 2, 0, 5, 0, 0), z0, (110, 3, 1, 35, 2, 18), z0, z0, (44, 3, 0, 119, 0, 0), z0, z0, (36, 1, 0, 3, 0, 0), (37, 1, 0, 0, 0, 0), (37, 1, 0, 1, 0, 0), (36, 2, 0, 4, 0, 0), z0, (36, 2, 0, 5, 0, 0), z0, (110, 3, 0, 79, 4, 51), z0, z0, (82, 3, 0, 813, 0, 0), z0, z0, (40, 1, 0, 3, 0, 0), (43, 3, 1, 5, 0, 0), z0, z0, (56, 3, 0, 71, 0, 0), z0, z0, (43, 3, 1, 4, 0, 0), z0, z0, (56, 3, 0, 59, 0, 0), z0, z0, (36, 1, 0, 3, 0, 0), (100, 1, 0, 0, 0, 0)]
def P_Ta_lookAhead : PM := (6, ⟨"OneWaySpell$Tails", "lookAhead", "(LOneWaySpell$Groups;)I"⟩, prog_8_method_11_code, 6, some .int, 1, 1, (796, 182, 795, 40), C_Ta_lookAhead)
def C_Ta_inCommon : List PI := [(37, 1, 0, 1, 0, 0), (66, 3, 0, 1, 3, 0), z0, z0, (36, 1, 0, 2, 0, 0), (59, 1, 0, 0, 0, 0), (37, 1, 0, 1, 0, 0), (66, 3, 0, 9, 3, 1), z0, z0, (36, 1, 0, 2, 0, 0), (58, 1, 0, 0, 0, 0), (37, 1, 0, 1, 0, 0), (66, 3, 0, 1, 3, 0), z0, z0, (36, 1, 0, 3, 0, 0), (59, 1, 0, 0, 0, 0), (37, 1, 0, 1, 0, 0), (66, 3, 0, 9, 3, 1), z0, z0, (36, 1, 0, 3, 0, 0), (58, 1, 0, 0, 0, 0), (110, 3, 1, 167, 4, 38), z0, z0, (40, 2, 0, 4, 0, 0), z0, (36, 2, 0, 4, 0, 0), z0, (37, 1, 0, 1, 0, 0), (66, 3, 0, 9, 3, 1), z0, z0, (36, 1, 0, 2, 0, 0), (58, 1, 0, 0, 0, 0), (51, 3, 0, 43, 0, 0), z0, z0, (36, 2, 0, 4, 0, 0), z0, (100, 1, 0, 0, 0, 0), (37, 1, 0, 0, 0, 0), (37, 1, 0, 1, 0, 0), (66, 3, 0, 1, 3, 0), z0, z0, (36, 1, 0, 3, 0, 0), (59, 1, 0, 0, 0, 0), (37, 1, 0, 1, 0, 0), (66, 3, 0, 9, 3, 1), z0, z0, (36, 1, 0, 3, 0, 0), (58, 1, 0, 0, 0, 0), (36, 2, 0, 4, 0, 0), z0, (2, 1, 0, 0, 0, 0), (110, 3, 1, 163, 2, 20), z0, z0, (110, 3, 0, 73, 2, 27), z0, z0, (40, 2, 0, 5, 0, 0), z0, (36, 2, 0, 5, 0, 0), z0, (32, 1, -1, 0, 0, 0), (47, 3, 0, 78, 0, 0), z0, z0, (36, 2, 0, 4, 0, 0), z0, (56, 3, 0, 88, 0, 0), z0, z0, (36, 2, 0, 4, 0, 0), z0, (37, 1, 0, 0, 0, 0), (65, 3, 0, 46, 6, 9), z0, z0, (36, 2, 0, 5, 0, 0), z0, (58, 1, 0, 0, 0, 0), (1, 1, 0, 0, 0, 0), (100, 1, 0, 0, 0, 0)]
def P_Ta_inCommon : PM := (6, ⟨"OneWaySpell$Tails", "inCommon", "(LOneWaySpell$Groups;II)I"⟩, prog_8_method_12_code, 6, some .int, 1, 3, (812, 182, 811, 43), C_Ta_inCommon)
def C_Ta_prepareSteps : List PI := [(32, 1, 0, 0, 0, 0), (40, 1, 0, 2, 0, 0), (36, 1, 0, 2, 0, 0), (37, 1, 0, 0, 0, 0), (65, 3, 0, 40, 6, 3), z0, z0, (51, 3, 0, 192, 0, 0), z0, z0, (37, 1, 0, 0, 0, 0), (65, 3, 0, 46, 6, 9), z0, z0, (36, 1, 0, 2, 0, 0), (32, 1, 0, 0, 0, 0), (62, 1, 0, 0, 0, 0), (32, 1, 0, 0, 0, 0), (40, 1, 0, 3, 0, 0), (36, 1, 0, 3, 0, 0), (37, 1, 0, 1, 0, 0), (66, 3, 0, 17, 3, 3), z0, z0, (51, 3, 0, 186, 0, 0), z0, z0, (36, 1, 0, 2, 0, 0), (32, 2, 14, 0, 0, 0), z0, (3, 1, 0, 0, 0, 0), (36, 1, 0, 3, 0, 0), (1, 1, 0, 0, 0, 0), (40, 2, 0, 4, 0, 0), z0, (37, 1, 0, 0, 0, 0), (65, 3, 0, 47, 6, 10), z0, z0, (36, 2, 0, 4, 0, 0), z0, (32, 1, 0, 0, 0, 0), (62, 1, 0, 0, 0, 0), (37, 1, 0, 0, 0, 0), (65, 3, 0, 48, 6, 11), z0, z0, (36, 2, 0, 4, 0, 0), z0, (32, 1, -1, 0, 0, 0), (62, 1, 0, 0, 0, 0), (37, 1, 0, 1, 0, 0), (36, 1, 0, 3, 0, 0), (110, 3, 1, 35, 2, 18), z0, z0, (44, 3, 0, 180, 0, 0), z0, z0, (37, 1, 0, 0, 0, 0), (65, 3, 0, 37, 6, 0), z0, z0, (36, 1, 0, 2, 0, 0), (59, 1, 0, 0, 0, 0), (37, 1, 0, 0, 0, 0), (65, 3, 0, 38, 6, 1), z0, z0, (36, 1, 0, 2, 0, 0), (58, 1, 0, 0, 0, 0), (37, 1, 0, 1, 0, 0), (66, 3, 0, 1, 3, 0), z0, z0, (36, 1, 0, 3, 0, 0), (59, 1, 0, 0, 0, 0), (37, 1, 0, 1, 0, 0), (66, 3, 0, 9, 3, 1), z0, z0, (36, 1, 0, 3, 0, 0), (58, 1, 0, 0, 0, 0), (110, 3, 1, 167, 4, 38), z0, z0, (40, 2, 0, 5, 0, 0), z0, (37, 1, 0, 0, 0, 0), (65, 3, 0, 47, 6, 10), z0, z0, (36, 2, 0, 4, 0, 0), z0, (36, 2, 0, 5, 0, 0), z0, (62, 1, 0, 0, 0, 0), (36, 2, 0, 5, 0, 0), z0, (37, 1, 0, 0, 0, 0), (65, 3, 0, 38, 6, 1), z0, z0, (36, 1, 0, 2, 0, 0), (58, 1, 0, 0, 0, 0), (47, 3, 0, 140, 0, 0), z0, z0, (37, 1, 0, 0, 0, 0), (65, 3, 0, 48, 6, 11), z0, z0, (36, 2, 0, 4, 0, 0), z0, (37, 1, 0, 0, 0, 0), (37, 1, 0, 1, 0, 0), (66, 3, 0, 1, 3, 0), z0, z0, (36, 1, 0, 3, 0, 0), (59, 1, 0, 0, 0, 0), (37, 1, 0, 1, 0, 0), (66, 3, 0, 9, 3, 1), z0, z0, (36, 1, 0, 3, 0, 0), (58, 1, 0, 0, 0, 0), (36, 2, 0, 5, 0, 0), z0, (2, 1, 0, 0, 0, 0), (110, 3, 1, 163, 2, 20), z0, z0, (110, 3, 0, 73, 2, 27), z0, z0, (62, 1, 0, 0, 0, 0), (56, 3, 0, 180, 0, 0), z0, z0, (36, 2, 0, 5, 0, 0), z0, (37, 1, 0, 1, 0, 0), (66, 3, 0, 9, 3, 1), z0, z0, (36, 1, 0, 3, 0, 0), (58, 1, 0, 0, 0, 0), (47, 3, 0, 180, 0, 0), z0, z0, (37, 1, 0, 0, 0, 0), (65, 3, 0, 48, 6, 11), z0, z0, (36, 2, 0, 4, 0, 0), z0, (37, 1, 0, 0, 0, 0), (37, 1, 0, 0, 0, 0), (65, 3, 0, 37, 6, 0), z0, z0, (36, 1, 0, 2, 0, 0), (59, 1, 0, 0, 0, 0), (37, 1, 0, 0, 0, 0), (65, 3, 0, 38, 6, 1), z0, z0, (36, 1, 0, 2, 0, 0), (58, 1, 0, 0, 0, 0), (36, 2, 0, 5, 0, 0), z0, (2, 1, 0, 0, 0, 0), (110, 3, 1, 163, 2, 20), z0, z0, (110, 3, 0, 73, 2, 27), z0, z0, (62, 1, 0, 0, 0, 0), (43, 3, 1, 3, 0, 0), z0, z0, (56, 3, 0, 19, 0, 0), z0, z0, (43, 3, 1, 2, 0, 0), z0, z0, (56, 3, 0, 2, 0, 0), z0, z0, (103, 1, 0, 0, 0, 0)]
def P_Ta_prepareSteps : PM := (6, ⟨"OneWaySpell$Tails", "prepareSteps", "(LOneWaySpell$Groups;)V"⟩, prog_8_method_13_code, 6, none, 1, 1, (800, 182, 799, 41), C_Ta_prepareSteps)
def C_Ta_deepen : List PI := [(32, 1, 0, 0, 0, 0), (40, 1, 0, 2, 0, 0), (32, 1, 0, 0, 0, 0), (40, 1, 0, 3, 0, 0), (36, 1, 0, 3, 0, 0), (37, 1, 0, 0, 0, 0), (65, 3, 0, 40, 6, 3), z0, z0, (51, 3, 0, 105, 0, 0), z0, z0, (32, 1, 0, 0, 0, 0), (40, 2, 0, 4, 0, 0), z0, (36, 2, 0, 4, 0, 0), z0, (36, 1, 0, 1, 0, 0), (51, 3, 0, 99, 0, 0), z0, z0, (36, 1, 0, 3, 0, 0), (32, 2, 14, 0, 0, 0), z0, (3, 1, 0, 0, 0, 0), (36, 2, 0, 4, 0, 0), z0, (1, 1, 0, 0, 0, 0), (40, 2, 0, 5, 0, 0), z0, (37, 1, 0, 0, 0, 0), (65, 3, 0, 48, 6, 11), z0, z0, (36, 2, 0, 5, 0, 0), z0, (58, 1, 0, 0, 0, 0), (40, 2, 0, 6, 0, 0), z0, (36, 2, 0, 6, 0, 0), z0, (32, 1, -1, 0, 0, 0), (47, 3, 0, 55, 0, 0), z0, z0, (37, 1, 0, 0, 0, 0), (65, 3, 0, 47, 6, 10), z0, z0, (36, 2, 0, 5, 0, 0), z0, (58, 1, 0, 0, 0, 0), (56, 3, 0, 70, 0, 0), z0, z0, (37, 1, 0, 0, 0, 0), (65, 3, 0, 47, 6, 10), z0, z0, (36, 2, 0, 5, 0, 0), z0, (58, 1, 0, 0, 0, 0), (37, 1, 0, 0, 0, 0), (65, 3, 0, 46, 6, 9), z0, z0, (36, 2, 0, 6, 0, 0), z0, (58, 1, 0, 0, 0, 0), (1, 1, 0, 0, 0, 0), (40, 2, 0, 7, 0, 0), z0, (36, 2, 0, 7, 0, 0), z0, (37, 1, 0, 0, 0, 0), (65, 3, 0, 46, 6, 9), z0, z0, (36, 1, 0, 3, 0, 0), (58, 1, 0, 0, 0, 0), (55, 3, 0, 93, 0, 0), z0, z0, (37, 1, 0, 0, 0, 0), (65, 3, 0, 46, 6, 9), z0, z0, (36, 1, 0, 3, 0, 0), (36, 2, 0, 7, 0, 0), z0, (62, 1, 0, 0, 0, 0), (32, 1, 1, 0, 0, 0), (40, 1, 0, 2, 0, 0), (43, 3, 1, 4, 0, 0), z0, z0, (56, 3, 0, 15, 0, 0), z0, z0, (43, 3, 1, 3, 0, 0), z0, z0, (56, 3, 0, 4, 0, 0), z0, z0, (36, 1, 0, 2, 0, 0), (100, 1, 0, 0, 0, 0)]
def P_Ta_deepen : PM := (6, ⟨"OneWaySpell$Tails", "deepen", "(I)Z"⟩, prog_8_method_14_code, 8, some .boolean, 1, 1, (808, 182, 807, 42), C_Ta_deepen)
def C_Te_init : List PI := [(37, 1, 0, 0, 0, 0), (78, 3, 0, 275, 0, 0), z0, z0, (37, 1, 0, 0, 0, 0), (32, 2, 10, 0, 0, 0), z0, (74, 2, 0, 0, 0, 0), z0, (69, 3, 0, 10, 7, 0), z0, z0, (37, 1, 0, 0, 0, 0), (32, 2, 14, 0, 0, 0), z0, (74, 2, 0, 0, 0, 0), z0, (69, 3, 0, 12, 7, 2), z0, z0, (37, 1, 0, 0, 0, 0), (32, 2, 14, 0, 0, 0), z0, (71, 2, 0, 0, 0, 0), z0, (69, 3, 0, 13, 7, 3), z0, z0, (37, 1, 0, 0, 0, 0), (32, 2, 14, 0, 0, 0), z0, (71, 2, 0, 0, 0, 0), z0, (69, 3, 0, 14, 7, 4), z0, z0, (37, 1, 0, 0, 0, 0), (32, 1, -1, 0, 0, 0), (67, 3, 0, 18, 7, 8), z0, z0, (103, 1, 0, 0, 0, 0)]
def P_Te_init : PM := (7, ⟨"OneWaySpell$Teller", "<init>", "()V"⟩, prog_9_method_1_code, 1, none, 2, 0, (274, 176, 273, 0), C_Te_init)
def C_Te_tell : List PI := [(37, 1, 0, 0, 0, 0), (32, 1, 0, 0, 0, 0), (67, 3, 0, 11, 7, 1), z0, z0, (37, 1, 0, 0, 0, 0), (32, 1, 0, 0, 0, 0), (67, 3, 0, 15, 7, 5), z0, z0, (37, 1, 0, 0, 0, 0), (32, 1, 0, 0, 0, 0), (67, 3, 0, 16, 7, 6), z0, z0, (37, 1, 0, 0, 0, 0), (32, 1, 0, 0, 0, 0), (67, 3, 0, 17, 7, 7), z0, z0, (37, 1, 0, 0, 0, 0), (32, 1, -1, 0, 0, 0), (67, 3, 0, 18, 7, 8), z0, z0, (32, 1, 0, 0, 0, 0), (40, 1, 0, 3, 0, 0), (36, 1, 0, 3, 0, 0), (36, 1, 0, 2, 0, 0), (51, 3, 0, 118, 0, 0), z0, z0, (37, 1, 0, 0, 0, 0), (65, 3, 0, 17, 7, 7), z0, z0, (46, 3, 0, 118, 0, 0), z0, z0, (37, 1, 0, 1, 0, 0), (36, 1, 0, 3, 0, 0), (36, 1, 0, 2, 0, 0), (110, 3, 0, 84, 3, 5), z0, z0, (40, 2, 0, 4, 0, 0), z0, (36, 2, 0, 4, 0, 0), z0, (36, 1, 0, 3, 0, 0), (55, 3, 0, 71, 0, 0), z0, z0, (37, 1, 0, 0, 0, 0), (37, 1, 0, 1, 0, 0), (36, 1, 0, 3, 0, 0), (36, 2, 0, 4, 0, 0), z0, (110, 3, 0, 85, 3, 6), z0, z0, (36, 2, 0, 4, 0, 0), z0, (36, 1, 0, 3, 0, 0), (2, 1, 0, 0, 0, 0), (110, 3, 0, 86, 3, 7), z0, z0, (56, 3, 0, 94, 0, 0), z0, z0, (37, 1, 0, 1, 0, 0), (36, 1, 0, 3, 0, 0), (60, 1, 0, 0, 0, 0), (32, 2, 32, 0, 0, 0), z0, (45, 3, 0, 94, 0, 0), z0, z0, (37, 1, 0, 1, 0, 0), (36, 1, 0, 3, 0, 0), (60, 1, 0, 0, 0, 0), (32, 2, 10, 0, 0, 0), z0, (45, 3, 0, 94, 0, 0), z0, z0, (37, 1, 0, 0, 0, 0), (37, 1, 0, 1, 0, 0), (36, 1, 0, 3, 0, 0), (60, 1, 0, 0, 0, 0), (110, 3, 0, 90, 2, 11), z0, z0, (37, 1, 0, 0, 0, 0), (65, 3, 0, 17, 7, 7), z0, z0, (44, 3, 0, 106, 0, 0), z0, z0, (37, 1, 0, 0, 0, 0), (36, 1, 0, 3, 0, 0), (67, 3, 0, 18, 7, 8), z0, z0, (36, 2, 0, 4, 0, 0), z0, (36, 1, 0, 3, 0, 0), (32, 1, 1, 0, 0, 0), (1, 1, 0, 0, 0, 0), (82, 3, 0, 427, 0, 0), z0, z0, (40, 1, 0, 3, 0, 0), (56, 3, 0, 27, 0, 0), z0, z0, (37, 1, 0, 0, 0, 0), (65, 3, 0, 17, 7, 7), z0, z0, (46, 3, 0, 142, 0, 0), z0, z0, (37, 1, 0, 0, 0, 0), (65, 3, 0, 16, 7, 6), z0, z0, (44, 3, 0, 142, 0, 0), z0, z0, (37, 1, 0, 0, 0, 0), (32, 1, 2, 0, 0, 0), (67, 3, 0, 17, 7, 7), z0, z0, (37, 1, 0, 0, 0, 0), (36, 1, 0, 2, 0, 0), (67, 3, 0, 18, 7, 8), z0, z0, (103, 1, 0, 0, 0, 0)]
def P_Te_tell : PM := (7, ⟨"OneWaySpell$Teller", "tell", "([BI)V"⟩, prog_9_method_2_code, 5, none, 1, 2, (399, 176, 398, 1), C_Te_tell)
def C_Te_rowStop : List PI := [(36, 1, 0, 1, 0, 0), (40, 1, 0, 3, 0, 0), (36, 1, 0, 3, 0, 0), (36, 1, 0, 2, 0, 0), (51, 3, 0, 29, 0, 0), z0, z0, (37, 1, 0, 0, 0, 0), (36, 1, 0, 3, 0, 0), (60, 1, 0, 0, 0, 0), (32, 2, 97, 0, 0, 0), z0, (49, 3, 0, 29, 0, 0), z0, z0, (37, 1, 0, 0, 0, 0), (36, 1, 0, 3, 0, 0), (60, 1, 0, 0, 0, 0), (32, 2, 122, 0, 0, 0), z0, (53, 3, 0, 29, 0, 0), z0, z0, (43, 3, 1, 3, 0, 0), z0, z0, (56, 3, 0, 2, 0, 0), z0, z0, (36, 1, 0, 3, 0, 0), (100, 1, 0, 0, 0, 0)]
def P_Te_rowStop : PM := (7, ⟨"OneWaySpell$Teller", "rowStop", "([BII)I"⟩, prog_9_method_3_code, 4, some .int, 0, 3, (402, 176, 401, 0), C_Te_rowStop)
def C_Te_rowCode : List PI := [(33, 1, 0, 0, 0, 0), (42, 1, 0, 3, 0, 0), (36, 1, 0, 1, 0, 0), (40, 2, 0, 5, 0, 0), z0, (36, 2, 0, 5, 0, 0), z0, (36, 1, 0, 2, 0, 0), (51, 3, 0, 30, 0, 0), z0, z0, (38, 1, 0, 3, 0, 0), (32, 1, 5, 0, 0, 0), (20, 1, 0, 0, 0, 0), (37, 1, 0, 0, 0, 0), (36, 2, 0, 5, 0, 0), z0, (60, 1, 0, 0, 0, 0), (32, 2, 96, 0, 0, 0), z0, (2, 1, 0, 0, 0, 0), (24, 1, 0, 0, 0, 0), (16, 1, 0, 0, 0, 0), (42, 1, 0, 3, 0, 0), (43, 3, 1, 5, 0, 0), z0, z0, (56, 3, 0, 5, 0, 0), z0, z0, (38, 1, 0, 3, 0, 0), (101, 1, 0, 0, 0, 0)]
def P_Te_rowCode : PM := (7, ⟨"OneWaySpell$Teller", "rowCode", "([BII)J"⟩, prog_9_method_4_code, 6, some .long, 0, 3, (405, 176, 404, 0), C_Te_rowCode)
def C_Te_takeRow : List PI := [(36, 1, 0, 3, 0, 0), (32, 1, 5, 0, 0, 0), (47, 3, 0, 17, 0, 0), z0, z0, (38, 1, 0, 1, 0, 0), (35, 3, 20436420, 410, 0, 0), z0, z0, (22, 1, 0, 0, 0, 0), (46, 3, 0, 17, 0, 0), z0, z0, (32, 1, 1, 0, 0, 0), (56, 3, 0, 18, 0, 0), z0, z0, (32, 1, 0, 0, 0, 0), (40, 2, 0, 4, 0, 0), z0, (37, 1, 0, 0, 0, 0), (65, 3, 0, 16, 7, 6), z0, z0, (46, 3, 0, 36, 0, 0), z0, z0, (37, 1, 0, 0, 0, 0), (36, 2, 0, 4, 0, 0), z0, (110, 3, 0, 87, 2, 8), z0, z0, (56, 3, 0, 90, 0, 0), z0, z0, (36, 1, 0, 3, 0, 0), (32, 2, 6, 0, 0, 0), z0, (55, 3, 0, 50, 0, 0), z0, z0, (37, 1, 0, 0, 0, 0), (32, 1, 2, 0, 0, 0), (67, 3, 0, 17, 7, 7), z0, z0, (56, 3, 0, 90, 0, 0), z0, z0, (37, 1, 0, 0, 0, 0), (65, 3, 0, 16, 7, 6), z0, z0, (32, 1, 1, 0, 0, 0), (47, 3, 0, 68, 0, 0), z0, z0, (37, 1, 0, 0, 0, 0), (38, 1, 0, 1, 0, 0), (36, 2, 0, 4, 0, 0), z0, (110, 3, 0, 88, 3, 9), z0, z0, (56, 3, 0, 90, 0, 0), z0, z0, (37, 1, 0, 0, 0, 0), (65, 3, 0, 16, 7, 6), z0, z0, (32, 1, 3, 0, 0, 0), (47, 3, 0, 85, 0, 0), z0, z0, (37, 1, 0, 0, 0, 0), (38, 1, 0, 1, 0, 0), (36, 1, 0, 3, 0, 0), (110, 3, 0, 89, 3, 10), z0, z0, (56, 3, 0, 90, 0, 0), z0, z0, (37, 1, 0, 0, 0, 0), (32, 1, 2, 0, 0, 0), (67, 3, 0, 17, 7, 7), z0, z0, (103, 1, 0, 0, 0, 0)]
def P_Te_takeRow : PM := (7, ⟨"OneWaySpell$Teller", "takeRow", "(JI)V"⟩, prog_9_method_5_code, 5, none, 1, 2, (409, 176, 408, 2), C_Te_takeRow)
def C_Te_takeLine : List PI := [(36, 1, 0, 1, 0, 0), (46, 3, 0, 12, 0, 0), z0, z0, (37, 1, 0, 0, 0, 0), (32, 1, 2, 0, 0, 0), (67, 3, 0, 17, 7, 7), z0, z0, (56, 3, 0, 34, 0, 0), z0, z0, (37, 1, 0, 0, 0, 0), (65, 3, 0, 11, 7, 1), z0, z0, (32, 2, 10, 0, 0, 0), z0, (49, 3, 0, 29, 0, 0), z0, z0, (37, 1, 0, 0, 0, 0), (32, 1, 4, 0, 0, 0), (67, 3, 0, 17, 7, 7), z0, z0, (56, 3, 0, 34, 0, 0), z0, z0, (37, 1, 0, 0, 0, 0), (32, 1, 1, 0, 0, 0), (67, 3, 0, 16, 7, 6), z0, z0, (103, 1, 0, 0, 0, 0)]
def P_Te_takeLine : PM := (7, ⟨"OneWaySpell$Teller", "takeLine", "(Z)V"⟩, prog_9_method_6_code, 2, none, 1, 1, (414, 176, 413, 3), C_Te_takeLine)
def C_Te_takeName : List PI := [(36, 1, 0, 3, 0, 0), (44, 3, 0, 10, 0, 0), z0, z0, (37, 1, 0, 0, 0, 0), (32, 1, 2, 0, 0, 0), (67, 3, 0, 17, 7, 7), z0, z0, (103, 1, 0, 0, 0, 0), (32, 1, 0, 0, 0, 0), (40, 2, 0, 4, 0, 0), z0, (36, 2, 0, 4, 0, 0), z0, (37, 1, 0, 0, 0, 0), (65, 3, 0, 11, 7, 1), z0, z0, (51, 3, 0, 45, 0, 0), z0, z0, (37, 1, 0, 0, 0, 0), (65, 3, 0, 10, 7, 0), z0, z0, (36, 2, 0, 4, 0, 0), z0, (59, 1, 0, 0, 0, 0), (38, 1, 0, 1, 0, 0), (22, 1, 0, 0, 0, 0), (46, 3, 0, 39, 0, 0), z0, z0, (37, 1, 0, 0, 0, 0), (32, 1, 3, 0, 0, 0), (67, 3, 0, 17, 7, 7), z0, z0, (43, 3, 1, 4, 0, 0), z0, z0, (56, 3, 0, 13, 0, 0), z0, z0, (37, 1, 0, 0, 0, 0), (65, 3, 0, 17, 7, 7), z0, z0, (46, 3, 0, 86, 0, 0), z0, z0, (37, 1, 0, 0, 0, 0), (65, 3, 0, 11, 7, 1), z0, z0, (32, 2, 10, 0, 0, 0), z0, (51, 3, 0, 86, 0, 0), z0, z0, (37, 1, 0, 0, 0, 0), (65, 3, 0, 10, 7, 0), z0, z0, (37, 1, 0, 0, 0, 0), (65, 3, 0, 11, 7, 1), z0, z0, (38, 1, 0, 1, 0, 0), (63, 1, 0, 0, 0, 0), (37, 1, 0, 0, 0, 0), (27, 1, 0, 0, 0, 0), (65, 3, 0, 11, 7, 1), z0, z0, (32, 1, 1, 0, 0, 0), (1, 1, 0, 0, 0, 0), (67, 3, 0, 11, 7, 1), z0, z0, (37, 1, 0, 0, 0, 0), (32, 1, 2, 0, 0, 0), (67, 3, 0, 16, 7, 6), z0, z0, (103, 1, 0, 0, 0, 0)]
def P_Te_takeName : PM := (7, ⟨"OneWaySpell$Teller", "takeName", "(JZ)V"⟩, prog_9_method_7_code, 5, none, 1, 2, (418, 176, 417, 4), C_Te_takeName)
def C_Te_takeGroup : List PI := [(32, 1, 0, 0, 0, 0), (40, 2, 0, 4, 0, 0), z0, (36, 2, 0, 4, 0, 0), z0, (37, 1, 0, 0, 0, 0), (65, 3, 0, 15, 7, 5), z0, z0, (51, 3, 0, 36, 0, 0), z0, z0, (37, 1, 0, 0, 0, 0), (65, 3, 0, 12, 7, 2), z0, z0, (36, 2, 0, 4, 0, 0), z0, (59, 1, 0, 0, 0, 0), (38, 1, 0, 1, 0, 0), (22, 1, 0, 0, 0, 0), (46, 3, 0, 30, 0, 0), z0, z0, (37, 1, 0, 0, 0, 0), (32, 1, 3, 0, 0, 0), (67, 3, 0, 17, 7, 7), z0, z0, (103, 1, 0, 0, 0, 0), (43, 3, 1, 4, 0, 0), z0, z0, (56, 3, 0, 3, 0, 0), z0, z0, (37, 1, 0, 0, 0, 0), (65, 3, 0, 15, 7, 5), z0, z0, (32, 2, 14, 0, 0, 0), z0, (49, 3, 0, 51, 0, 0), z0, z0, (37, 1, 0, 0, 0, 0), (32, 1, 4, 0, 0, 0), (67, 3, 0, 17, 7, 7), z0, z0, (103, 1, 0, 0, 0, 0), (37, 1, 0, 0, 0, 0), (65, 3, 0, 12, 7, 2), z0, z0, (37, 1, 0, 0, 0, 0), (65, 3, 0, 15, 7, 5), z0, z0, (38, 1, 0, 1, 0, 0), (63, 1, 0, 0, 0, 0), (37, 1, 0, 0, 0, 0), (65, 3, 0, 13, 7, 3), z0, z0, (37, 1, 0, 0, 0, 0), (65, 3, 0, 15, 7, 5), z0, z0, (36, 1, 0, 3, 0, 0), (62, 1, 0, 0, 0, 0), (37, 1, 0, 0, 0, 0), (65, 3, 0, 14, 7, 4), z0, z0, (37, 1, 0, 0, 0, 0), (65, 3, 0, 15, 7, 5), z0, z0, (37, 1, 0, 0, 0, 0), (65, 3, 0, 11, 7, 1), z0, z0, (32, 1, 1, 0, 0, 0), (2, 1, 0, 0, 0, 0), (62, 1, 0, 0, 0, 0), (37, 1, 0, 0, 0, 0), (27, 1, 0, 0, 0, 0), (65, 3, 0, 15, 7, 5), z0, z0, (32, 1, 1, 0, 0, 0), (1, 1, 0, 0, 0, 0), (67, 3, 0, 15, 7, 5), z0, z0, (37, 1, 0, 0, 0, 0), (32, 1, 4, 0, 0, 0), (67, 3, 0, 16, 7, 6), z0, z0, (103, 1, 0, 0, 0, 0)]
def P_Te_takeGroup : PM := (7, ⟨"OneWaySpell$Teller", "takeGroup", "(JI)V"⟩, prog_9_method_8_code, 5, none, 1, 2, (422, 176, 421, 5), C_Te_takeGroup)
def C_Te_takeSign : List PI := [(36, 1, 0, 1, 0, 0), (32, 2, 61, 0, 0, 0), z0, (45, 3, 0, 26, 0, 0), z0, z0, (36, 1, 0, 1, 0, 0), (32, 2, 124, 0, 0, 0), z0, (45, 3, 0, 26, 0, 0), z0, z0, (36, 1, 0, 1, 0, 0), (32, 2, 59, 0, 0, 0), z0, (45, 3, 0, 26, 0, 0), z0, z0, (37, 1, 0, 0, 0, 0), (32, 1, 1, 0, 0, 0), (67, 3, 0, 17, 7, 7), z0, z0, (56, 3, 0, 97, 0, 0), z0, z0, (36, 1, 0, 1, 0, 0), (32, 2, 61, 0, 0, 0), z0, (47, 3, 0, 48, 0, 0), z0, z0, (37, 1, 0, 0, 0, 0), (65, 3, 0, 16, 7, 6), z0, z0, (32, 1, 2, 0, 0, 0), (47, 3, 0, 48, 0, 0), z0, z0, (37, 1, 0, 0, 0, 0), (32, 1, 3, 0, 0, 0), (67, 3, 0, 16, 7, 6), z0, z0, (56, 3, 0, 97, 0, 0), z0, z0, (36, 1, 0, 1, 0, 0), (32, 2, 124, 0, 0, 0), z0, (47, 3, 0, 70, 0, 0), z0, z0, (37, 1, 0, 0, 0, 0), (65, 3, 0, 16, 7, 6), z0, z0, (32, 1, 4, 0, 0, 0), (47, 3, 0, 70, 0, 0), z0, z0, (37, 1, 0, 0, 0, 0), (32, 1, 3, 0, 0, 0), (67, 3, 0, 16, 7, 6), z0, z0, (56, 3, 0, 97, 0, 0), z0, z0, (36, 1, 0, 1, 0, 0), (32, 2, 59, 0, 0, 0), z0, (47, 3, 0, 92, 0, 0), z0, z0, (37, 1, 0, 0, 0, 0), (65, 3, 0, 16, 7, 6), z0, z0, (32, 1, 4, 0, 0, 0), (47, 3, 0, 92, 0, 0), z0, z0, (37, 1, 0, 0, 0, 0), (32, 1, 0, 0, 0, 0), (67, 3, 0, 16, 7, 6), z0, z0, (56, 3, 0, 97, 0, 0), z0, z0, (37, 1, 0, 0, 0, 0), (32, 1, 2, 0, 0, 0), (67, 3, 0, 17, 7, 7), z0, z0, (103, 1, 0, 0, 0, 0)]
def P_Te_takeSign : PM := (7, ⟨"OneWaySpell$Teller", "takeSign", "(I)V"⟩, prog_9_method_9_code, 2, none, 1, 1, (426, 176, 425, 6), C_Te_takeSign)
def C_Tr_init : List PI := [(37, 1, 0, 0, 0, 0), (78, 3, 0, 678, 0, 0), z0, z0, (37, 1, 0, 0, 0, 0), (32, 3, 2772, 0, 0, 0), z0, z0, (71, 2, 0, 0, 0, 0), z0, (69, 3, 0, 59, 8, 0), z0, z0, (37, 1, 0, 0, 0, 0), (32, 3, 792, 0, 0, 0), z0, z0, (71, 2, 0, 0, 0, 0), z0, (69, 3, 0, 60, 8, 1), z0, z0, (37, 1, 0, 0, 0, 0), (32, 2, 99, 0, 0, 0), z0, (71, 2, 0, 0, 0, 0), z0, (69, 3, 0, 61, 8, 2), z0, z0, (37, 1, 0, 0, 0, 0), (32, 2, 99, 0, 0, 0), z0, (73, 2, 0, 0, 0, 0), z0, (69, 3, 0, 62, 8, 3), z0, z0, (37, 1, 0, 0, 0, 0), (32, 2, 99, 0, 0, 0), z0, (73, 2, 0, 0, 0, 0), z0, (69, 3, 0, 63, 8, 4), z0, z0, (37, 1, 0, 0, 0, 0), (32, 2, 99, 0, 0, 0), z0, (71, 2, 0, 0, 0, 0), z0, (69, 3, 0, 64, 8, 5), z0, z0, (37, 1, 0, 0, 0, 0), (32, 2, 99, 0, 0, 0), z0, (71, 2, 0, 0, 0, 0), z0, (69, 3, 0, 65, 8, 6), z0, z0, (37, 1, 0, 0, 0, 0), (32, 2, 99, 0, 0, 0), z0, (71, 2, 0, 0, 0, 0), z0, (69, 3, 0, 66, 8, 7), z0, z0, (37, 1, 0, 0, 0, 0), (32, 2, 29, 0, 0, 0), z0, (71, 2, 0, 0, 0, 0), z0, (69, 3, 0, 67, 8, 8), z0, z0, (37, 1, 0, 0, 0, 0), (32, 1, -1, 0, 0, 0), (67, 3, 0, 69, 8, 10), z0, z0, (103, 1, 0, 0, 0, 0)]
def P_Tr_init : PM := (8, ⟨"OneWaySpell$Tree", "<init>", "()V"⟩, prog_10_method_1_code, 1, none, 2, 0, (677, 184, 676, 0), C_Tr_init)
def C_Tr_build : List PI := [(37, 1, 0, 0, 0, 0), (37, 1, 0, 1, 0, 0), (66, 3, 0, 27, 3, 6), z0, z0, (67, 3, 0, 69, 8, 10), z0, z0, (37, 1, 0, 0, 0, 0), (65, 3, 0, 59, 8, 0), z0, z0, (32, 1, -1, 0, 0, 0), (110, 3, 0, 283, 2, 37), z0, z0, (37, 1, 0, 0, 0, 0), (65, 3, 0, 60, 8, 1), z0, z0, (32, 1, -1, 0, 0, 0), (110, 3, 0, 283, 2, 37), z0, z0, (37, 1, 0, 0, 0, 0), (65, 3, 0, 62, 8, 3), z0, z0, (32, 1, 0, 0, 0, 0), (110, 3, 0, 284, 2, 38), z0, z0, (37, 1, 0, 0, 0, 0), (65, 3, 0, 63, 8, 4), z0, z0, (32, 1, 0, 0, 0, 0), (110, 3, 0, 284, 2, 38), z0, z0, (37, 1, 0, 0, 0, 0), (32, 1, 1, 0, 0, 0), (67, 3, 0, 68, 8, 9), z0, z0, (37, 1, 0, 0, 0, 0), (65, 3, 0, 60, 8, 1), z0, z0, (32, 1, 0, 0, 0, 0), (32, 1, 0, 0, 0, 0), (62, 1, 0, 0, 0, 0), (32, 1, 0, 0, 0, 0), (40, 1, 0, 2, 0, 0), (36, 1, 0, 2, 0, 0), (37, 1, 0, 1, 0, 0), (66, 3, 0, 16, 3, 3), z0, z0, (51, 3, 0, 92, 0, 0), z0, z0, (37, 1, 0, 1, 0, 0), (36, 1, 0, 2, 0, 0), (110, 3, 1, 35, 2, 28), z0, z0, (44, 3, 0, 86, 0, 0), z0, z0, (37, 1, 0, 0, 0, 0), (37, 1, 0, 1, 0, 0), (66, 3, 0, 0, 3, 0), z0, z0, (36, 1, 0, 2, 0, 0), (59, 1, 0, 0, 0, 0), (37, 1, 0, 1, 0, 0), (66, 3, 0, 6, 3, 1), z0, z0, (36, 1, 0, 2, 0, 0), (58, 1, 0, 0, 0, 0), (110, 3, 0, 93, 3, 39), z0, z0, (43, 3, 1, 2, 0, 0), z0, z0, (56, 3, 0, 54, 0, 0), z0, z0, (32, 1, 1, 0, 0, 0), (40, 1, 0, 2, 0, 0), (36, 1, 0, 2, 0, 0), (37, 1, 0, 0, 0, 0), (65, 3, 0, 68, 8, 9), z0, z0, (51, 3, 0, 113, 0, 0), z0, z0, (37, 1, 0, 0, 0, 0), (36, 1, 0, 2, 0, 0), (110, 3, 0, 94, 2, 40), z0, z0, (43, 3, 1, 2, 0, 0), z0, z0, (56, 3, 0, 94, 0, 0), z0, z0, (37, 1, 0, 0, 0, 0), (110, 3, 0, 95, 1, 43), z0, z0, (103, 1, 0, 0, 0, 0)]
def P_Tr_build : PM := (8, ⟨"OneWaySpell$Tree", "build", "(LOneWaySpell$Groups;)V"⟩, prog_10_method_2_code, 3, none, 1, 1, (728, 184, 727, 27), C_Tr_build)
def C_Tr_plant : List PI := [(32, 1, 0, 0, 0, 0), (40, 2, 0, 4, 0, 0), z0, (32, 1, 0, 0, 0, 0), (40, 2, 0, 5, 0, 0), z0, (36, 2, 0, 5, 0, 0), z0, (36, 1, 0, 3, 0, 0), (51, 3, 0, 141, 0, 0), z0, z0, (38, 1, 0, 1, 0, 0), (36, 1, 0, 3, 0, 0), (36, 2, 0, 5, 0, 0), z0, (110, 3, 1, 164, 3, 29), z0, z0, (40, 2, 0, 6, 0, 0), z0, (37, 1, 0, 0, 0, 0), (65, 3, 0, 63, 8, 4), z0, z0, (36, 2, 0, 4, 0, 0), z0, (32, 1, 1, 0, 0, 0), (64, 1, 0, 0, 0, 0), (37, 1, 0, 0, 0, 0), (65, 3, 0, 59, 8, 0), z0, z0, (36, 2, 0, 4, 0, 0), z0, (32, 2, 28, 0, 0, 0), z0, (3, 1, 0, 0, 0, 0), (36, 2, 0, 6, 0, 0), z0, (1, 1, 0, 0, 0, 0), (58, 1, 0, 0, 0, 0), (40, 2, 0, 7, 0, 0), z0, (36, 2, 0, 7, 0, 0), z0, (32, 1, -1, 0, 0, 0), (47, 3, 0, 124, 0, 0), z0, z0, (37, 1, 0, 0, 0, 0), (65, 3, 0, 68, 8, 9), z0, z0, (32, 2, 99, 0, 0, 0), z0, (51, 3, 0, 124, 0, 0), z0, z0, (37, 1, 0, 0, 0, 0), (65, 3, 0, 68, 8, 9), z0, z0, (40, 2, 0, 7, 0, 0), z0, (37, 1, 0, 0, 0, 0), (27, 1, 0, 0, 0, 0), (65, 3, 0, 68, 8, 9), z0, z0, (32, 1, 1, 0, 0, 0), (1, 1, 0, 0, 0, 0), (67, 3, 0, 68, 8, 9), z0, z0, (37, 1, 0, 0, 0, 0), (65, 3, 0, 59, 8, 0), z0, z0, (36, 2, 0, 4, 0, 0), z0, (32, 2, 28, 0, 0, 0), z0, (3, 1, 0, 0, 0, 0), (36, 2, 0, 6, 0, 0), z0, (1, 1, 0, 0, 0, 0), (36, 2, 0, 7, 0, 0), z0, (62, 1, 0, 0, 0, 0), (37, 1, 0, 0, 0, 0), (65, 3, 0, 61, 8, 2), z0, z0, (36, 2, 0, 7, 0, 0), z0, (37, 1, 0, 0, 0, 0), (65, 3, 0, 61, 8, 2), z0, z0, (36, 2, 0, 4, 0, 0), z0, (58, 1, 0, 0, 0, 0), (32, 1, 1, 0, 0, 0), (1, 1, 0, 0, 0, 0), (62, 1, 0, 0, 0, 0), (37, 1, 0, 0, 0, 0), (65, 3, 0, 64, 8, 5), z0, z0, (36, 2, 0, 7, 0, 0), z0, (36, 2, 0, 4, 0, 0), z0, (62, 1, 0, 0, 0, 0), (37, 1, 0, 0, 0, 0), (65, 3, 0, 65, 8, 6), z0, z0, (36, 2, 0, 7, 0, 0), z0, (36, 2, 0, 6, 0, 0), z0, (62, 1, 0, 0, 0, 0), (36, 2, 0, 7, 0, 0), z0, (32, 1, -1, 0, 0, 0), (47, 3, 0, 131, 0, 0), z0, z0, (103, 1, 0, 0, 0, 0), (36, 2, 0, 7, 0, 0), z0, (40, 2, 0, 4, 0, 0), z0, (43, 3, 1, 5, 0, 0), z0, z0, (56, 3, 0, 6, 0, 0), z0, z0, (37, 1, 0, 0, 0, 0), (65, 3, 0, 62, 8, 3), z0, z0, (36, 2, 0, 4, 0, 0), z0, (32, 1, 1, 0, 0, 0), (64, 1, 0, 0, 0, 0), (103, 1, 0, 0, 0, 0)]
def P_Tr_plant : PM := (8, ⟨"OneWaySpell$Tree", "plant", "(JI)V"⟩, prog_10_method_3_code, 8, none, 1, 2, (739, 184, 738, 28), C_Tr_plant)
def C_Tr_linkSuffixes : List PI := [(37, 1, 0, 0, 0, 0), (65, 3, 0, 60, 8, 1), z0, z0, (36, 1, 0, 1, 0, 0), (32, 2, 8, 0, 0, 0), z0, (3, 1, 0, 0, 0, 0), (32, 1, 0, 0, 0, 0), (62, 1, 0, 0, 0, 0), (32, 1, 1, 0, 0, 0), (40, 1, 0, 2, 0, 0), (36, 1, 0, 2, 0, 0), (37, 1, 0, 0, 0, 0), (65, 3, 0, 61, 8, 2), z0, z0, (36, 1, 0, 1, 0, 0), (58, 1, 0, 0, 0, 0), (53, 3, 0, 68, 0, 0), z0, z0, (36, 1, 0, 2, 0, 0), (32, 2, 8, 0, 0, 0), z0, (51, 3, 0, 68, 0, 0), z0, z0, (37, 1, 0, 0, 0, 0), (65, 3, 0, 60, 8, 1), z0, z0, (36, 1, 0, 1, 0, 0), (32, 2, 8, 0, 0, 0), z0, (3, 1, 0, 0, 0, 0), (36, 1, 0, 2, 0, 0), (1, 1, 0, 0, 0, 0), (37, 1, 0, 0, 0, 0), (37, 1, 0, 0, 0, 0), (37, 1, 0, 0, 0, 0), (65, 3, 0, 64, 8, 5), z0, z0, (36, 1, 0, 1, 0, 0), (58, 1, 0, 0, 0, 0), (36, 1, 0, 2, 0, 0), (32, 1, 1, 0, 0, 0), (2, 1, 0, 0, 0, 0), (110, 3, 0, 98, 3, 41), z0, z0, (37, 1, 0, 0, 0, 0), (65, 3, 0, 65, 8, 6), z0, z0, (36, 1, 0, 1, 0, 0), (58, 1, 0, 0, 0, 0), (110, 3, 0, 97, 3, 42), z0, z0, (62, 1, 0, 0, 0, 0), (43, 3, 1, 2, 0, 0), z0, z0, (56, 3, 0, 12, 0, 0), z0, z0, (103, 1, 0, 0, 0, 0)]
def P_Tr_linkSuffixes : PM := (8, ⟨"OneWaySpell$Tree", "linkSuffixes", "(I)V"⟩, prog_10_method_4_code, 3, none, 1, 1, (744, 184, 743, 29), C_Tr_linkSuffixes)
def C_Tr_listBySign : List PI := [(32, 1, 0, 0, 0, 0), (40, 1, 0, 1, 0, 0), (32, 1, 0, 0, 0, 0), (40, 1, 0, 2, 0, 0), (36, 1, 0, 2, 0, 0), (32, 2, 28, 0, 0, 0), z0, (51, 3, 0, 59, 0, 0), z0, z0, (37, 1, 0, 0, 0, 0), (65, 3, 0, 67, 8, 8), z0, z0, (36, 1, 0, 2, 0, 0), (36, 1, 0, 1, 0, 0), (62, 1, 0, 0, 0, 0), (32, 1, 1, 0, 0, 0), (40, 1, 0, 3, 0, 0), (36, 1, 0, 3, 0, 0), (37, 1, 0, 0, 0, 0), (65, 3, 0, 68, 8, 9), z0, z0, (51, 3, 0, 53, 0, 0), z0, z0, (37, 1, 0, 0, 0, 0), (65, 3, 0, 65, 8, 6), z0, z0, (36, 1, 0, 3, 0, 0), (58, 1, 0, 0, 0, 0), (36, 1, 0, 2, 0, 0), (47, 3, 0, 47, 0, 0), z0, z0, (37, 1, 0, 0, 0, 0), (65, 3, 0, 66, 8, 7), z0, z0, (36, 1, 0, 1, 0, 0), (36, 1, 0, 3, 0, 0), (62, 1, 0, 0, 0, 0), (43, 3, 1, 1, 0, 0), z0, z0, (43, 3, 1, 3, 0, 0), z0, z0, (56, 3, 0, 19, 0, 0), z0, z0, (43, 3, 1, 2, 0, 0), z0, z0, (56, 3, 0, 4, 0, 0), z0, z0, (37, 1, 0, 0, 0, 0), (65, 3, 0, 67, 8, 8), z0, z0, (32, 2, 28, 0, 0, 0), z0, (36, 1, 0, 1, 0, 0), (62, 1, 0, 0, 0, 0), (103, 1, 0, 0, 0, 0)]
def P_Tr_listBySign : PM := (8, ⟨"OneWaySpell$Tree", "listBySign", "()V"⟩, prog_10_method_5_code, 4, none, 1, 0, (756, 184, 755, 32), C_Tr_listBySign)
def C_Tr_isUsed : List PI := [(36, 1, 0, 1, 0, 0), (32, 1, 1, 0, 0, 0), (49, 3, 0, 32, 0, 0), z0, z0, (36, 1, 0, 1, 0, 0), (32, 2, 28, 0, 0, 0), z0, (51, 3, 0, 32, 0, 0), z0, z0, (37, 1, 0, 0, 0, 0), (65, 3, 0, 67, 8, 8), z0, z0, (36, 1, 0, 1, 0, 0), (58, 1, 0, 0, 0, 0), (37, 1, 0, 0, 0, 0), (65, 3, 0, 67, 8, 8), z0, z0, (36, 1, 0, 1, 0, 0), (32, 1, 1, 0, 0, 0), (1, 1, 0, 0, 0, 0), (58, 1, 0, 0, 0, 0), (51, 3, 0, 32, 0, 0), z0, z0, (32, 1, 1, 0, 0, 0), (56, 3, 0, 33, 0, 0), z0, z0, (32, 1, 0, 0, 0, 0), (100, 1, 0, 0, 0, 0)]
def P_Tr_isUsed : PM := (8, ⟨"OneWaySpell$Tree", "isUsed", "(I)Z"⟩, prog_10_method_6_code, 2, some .boolean, 1, 1, (773, 184, 772, 36), C_Tr_isUsed)
def C_Tr_next : List PI := [(36, 1, 0, 1, 0, 0), (48, 3, 0, 23, 0, 0), z0, z0, (36, 1, 0, 1, 0, 0), (37, 1, 0, 0, 0, 0), (65, 3, 0, 68, 8, 9), z0, z0, (51, 3, 0, 23, 0, 0), z0, z0, (36, 1, 0, 2, 0, 0), (32, 1, 1, 0, 0, 0), (49, 3, 0, 23, 0, 0), z0, z0, (36, 1, 0, 2, 0, 0), (32, 2, 28, 0, 0, 0), z0, (49, 3, 0, 27, 0, 0), z0, z0, (32, 1, -1, 0, 0, 0), (56, 3, 0, 38, 0, 0), z0, z0, (37, 1, 0, 0, 0, 0), (65, 3, 0, 59, 8, 0), z0, z0, (36, 1, 0, 1, 0, 0), (32, 2, 28, 0, 0, 0), z0, (3, 1, 0, 0, 0, 0), (36, 1, 0, 2, 0, 0), (1, 1, 0, 0, 0, 0), (58, 1, 0, 0, 0, 0), (100, 1, 0, 0, 0, 0)]
def P_Tr_next : PM := (8, ⟨"OneWaySpell$Tree", "next", "(II)I"⟩, prog_10_method_7_code, 3, some .int, 1, 2, (752, 184, 751, 31), C_Tr_next)
def C_Tr_back : List PI := [(36, 1, 0, 1, 0, 0), (48, 3, 0, 22, 0, 0), z0, z0, (36, 1, 0, 1, 0, 0), (37, 1, 0, 0, 0, 0), (65, 3, 0, 68, 8, 9), z0, z0, (51, 3, 0, 22, 0, 0), z0, z0, (36, 1, 0, 2, 0, 0), (48, 3, 0, 22, 0, 0), z0, z0, (36, 1, 0, 2, 0, 0), (32, 2, 8, 0, 0, 0), z0, (49, 3, 0, 26, 0, 0), z0, z0, (32, 1, -1, 0, 0, 0), (56, 3, 0, 37, 0, 0), z0, z0, (37, 1, 0, 0, 0, 0), (65, 3, 0, 60, 8, 1), z0, z0, (36, 1, 0, 1, 0, 0), (32, 2, 8, 0, 0, 0), z0, (3, 1, 0, 0, 0, 0), (36, 1, 0, 2, 0, 0), (1, 1, 0, 0, 0, 0), (58, 1, 0, 0, 0, 0), (100, 1, 0, 0, 0, 0)]
def P_Tr_back : PM := (8, ⟨"OneWaySpell$Tree", "back", "(II)I"⟩, prog_10_method_8_code, 3, some .int, 1, 2, (748, 184, 747, 30), C_Tr_back)
def C_Tw_init : List PI := [(37, 1, 0, 0, 0, 0), (78, 3, 0, 637, 0, 0), z0, z0, (37, 1, 0, 0, 0, 0), (32, 3, 792, 0, 0, 0), z0, z0, (73, 2, 0, 0, 0, 0), z0, (69, 3, 0, 49, 9, 0), z0, z0, (37, 1, 0, 0, 0, 0), (32, 3, 792, 0, 0, 0), z0, z0, (71, 2, 0, 0, 0, 0), z0, (69, 3, 0, 50, 9, 1), z0, z0, (37, 1, 0, 0, 0, 0), (32, 3, 792, 0, 0, 0), z0, z0, (71, 2, 0, 0, 0, 0), z0, (69, 3, 0, 51, 9, 2), z0, z0, (37, 1, 0, 0, 0, 0), (32, 3, 792, 0, 0, 0), z0, z0, (72, 2, 0, 0, 0, 0), z0, (69, 3, 0, 52, 9, 3), z0, z0, (37, 1, 0, 0, 0, 0), (32, 3, 792, 0, 0, 0), z0, z0, (71, 2, 0, 0, 0, 0), z0, (69, 3, 0, 53, 9, 4), z0, z0, (37, 1, 0, 0, 0, 0), (32, 3, 800, 0, 0, 0), z0, z0, (72, 2, 0, 0, 0, 0), z0, (69, 3, 0, 58, 9, 9), z0, z0, (103, 1, 0, 0, 0, 0)]
def P_Tw_init : PM := (9, ⟨"OneWaySpell$Twins", "<init>", "()V"⟩, prog_11_method_1_code, 1, none, 2, 0, (636, 183, 635, 0), C_Tw_init)
def C_Tw_find : List PI := [(37, 1, 0, 0, 0, 0), (65, 3, 0, 49, 9, 0), z0, z0, (32, 1, 0, 0, 0, 0), (110, 3, 0, 284, 2, 44), z0, z0, (37, 1, 0, 0, 0, 0), (32, 1, 0, 0, 0, 0), (67, 3, 0, 54, 9, 5), z0, z0, (37, 1, 0, 0, 0, 0), (32, 1, 0, 0, 0, 0), (67, 3, 0, 55, 9, 6), z0, z0, (37, 1, 0, 0, 0, 0), (32, 1, 0, 0, 0, 0), (32, 1, 0, 0, 0, 0), (32, 1, -1, 0, 0, 0), (32, 1, 0, 0, 0, 0), (110, 3, 0, 103, 5, 45), z0, z0, (32, 1, 0, 0, 0, 0), (40, 1, 0, 2, 0, 0), (36, 1, 0, 2, 0, 0), (37, 1, 0, 0, 0, 0), (65, 3, 0, 54, 9, 5), z0, z0, (51, 3, 0, 93, 0, 0), z0, z0, (36, 1, 0, 2, 0, 0), (32, 3, 792, 0, 0, 0), z0, z0, (51, 3, 0, 93, 0, 0), z0, z0, (36, 1, 0, 2, 0, 0), (32, 1, 1, 0, 0, 0), (1, 1, 0, 0, 0, 0), (40, 1, 0, 3, 0, 0), (36, 1, 0, 3, 0, 0), (37, 1, 0, 0, 0, 0), (65, 3, 0, 54, 9, 5), z0, z0, (51, 3, 0, 76, 0, 0), z0, z0, (37, 1, 0, 0, 0, 0), (65, 3, 0, 53, 9, 4), z0, z0, (36, 1, 0, 3, 0, 0), (58, 1, 0, 0, 0, 0), (37, 1, 0, 0, 0, 0), (65, 3, 0, 53, 9, 4), z0, z0, (36, 1, 0, 2, 0, 0), (58, 1, 0, 0, 0, 0), (47, 3, 0, 76, 0, 0), z0, z0, (43, 3, 1, 3, 0, 0), z0, z0, (56, 3, 0, 47, 0, 0), z0, z0, (37, 1, 0, 0, 0, 0), (37, 1, 0, 1, 0, 0), (36, 1, 0, 2, 0, 0), (36, 1, 0, 3, 0, 0), (110, 3, 0, 101, 4, 46), z0, z0, (44, 3, 0, 88, 0, 0), z0, z0, (32, 1, 1, 0, 0, 0), (100, 1, 0, 0, 0, 0), (36, 1, 0, 3, 0, 0), (40, 1, 0, 2, 0, 0), (56, 3, 0, 28, 0, 0), z0, z0, (32, 1, 0, 0, 0, 0), (100, 1, 0, 0, 0, 0)]
def P_Tw_find : PM := (9, ⟨"OneWaySpell$Twins", "find", "(LOneWaySpell$Tree;)Z"⟩, prog_11_method_2_code, 4, some .boolean, 1, 1, (760, 183, 759, 33), C_Tw_find)
def C_Tw_goOn : List PI := [(32, 1, 1, 0, 0, 0), (40, 2, 0, 4, 0, 0), z0, (36, 2, 0, 4, 0, 0), z0, (32, 2, 27, 0, 0, 0), z0, (53, 3, 0, 76, 0, 0), z0, z0, (37, 1, 0, 0, 0, 0), (27, 1, 0, 0, 0, 0), (65, 3, 0, 55, 9, 6), z0, z0, (32, 1, 1, 0, 0, 0), (1, 1, 0, 0, 0, 0), (67, 3, 0, 55, 9, 6), z0, z0, (36, 1, 0, 2, 0, 0), (40, 2, 0, 5, 0, 0), z0, (36, 2, 0, 5, 0, 0), z0, (36, 1, 0, 3, 0, 0), (51, 3, 0, 70, 0, 0), z0, z0, (37, 1, 0, 1, 0, 0), (36, 2, 0, 4, 0, 0), z0, (110, 3, 1, 96, 2, 31), z0, z0, (44, 3, 0, 70, 0, 0), z0, z0, (37, 1, 0, 0, 0, 0), (37, 1, 0, 1, 0, 0), (36, 2, 0, 5, 0, 0), z0, (36, 2, 0, 4, 0, 0), z0, (110, 3, 0, 102, 4, 47), z0, z0, (44, 3, 0, 64, 0, 0), z0, z0, (37, 1, 0, 0, 0, 0), (36, 2, 0, 5, 0, 0), z0, (67, 3, 0, 56, 9, 7), z0, z0, (37, 1, 0, 0, 0, 0), (36, 2, 0, 4, 0, 0), z0, (67, 3, 0, 57, 9, 8), z0, z0, (32, 1, 1, 0, 0, 0), (100, 1, 0, 0, 0, 0), (43, 3, 1, 5, 0, 0), z0, z0, (56, 3, 0, 23, 0, 0), z0, z0, (43, 3, 1, 4, 0, 0), z0, z0, (56, 3, 0, 3, 0, 0), z0, z0, (32, 1, 0, 0, 0, 0), (100, 1, 0, 0, 0, 0)]
def P_Tw_goOn : PM := (9, ⟨"OneWaySpell$Twins", "goOn", "(LOneWaySpell$Tree;II)Z"⟩, prog_11_method_3_code, 6, some .boolean, 1, 3, (769, 183, 768, 35), C_Tw_goOn)
def C_Tw_step : List PI := [(37, 1, 0, 0, 0, 0), (65, 3, 0, 50, 9, 1), z0, z0, (36, 1, 0, 2, 0, 0), (58, 1, 0, 0, 0, 0), (32, 2, 8, 0, 0, 0), z0, (10, 1, 0, 0, 0, 0), (40, 2, 0, 4, 0, 0), z0, (37, 1, 0, 0, 0, 0), (65, 3, 0, 50, 9, 1), z0, z0, (36, 1, 0, 2, 0, 0), (58, 1, 0, 0, 0, 0), (32, 2, 8, 0, 0, 0), z0, (11, 1, 0, 0, 0, 0), (40, 2, 0, 5, 0, 0), z0, (37, 1, 0, 1, 0, 0), (36, 2, 0, 4, 0, 0), z0, (36, 1, 0, 3, 0, 0), (110, 3, 1, 97, 3, 32), z0, z0, (40, 2, 0, 6, 0, 0), z0, (37, 1, 0, 1, 0, 0), (37, 1, 0, 1, 0, 0), (36, 2, 0, 4, 0, 0), z0, (36, 2, 0, 5, 0, 0), z0, (110, 3, 1, 98, 3, 33), z0, z0, (36, 1, 0, 3, 0, 0), (110, 3, 1, 97, 3, 32), z0, z0, (40, 2, 0, 7, 0, 0), z0, (36, 2, 0, 6, 0, 0), z0, (32, 1, -1, 0, 0, 0), (45, 3, 0, 58, 0, 0), z0, z0, (36, 2, 0, 7, 0, 0), z0, (32, 1, -1, 0, 0, 0), (47, 3, 0, 60, 0, 0), z0, z0, (32, 1, 0, 0, 0, 0), (100, 1, 0, 0, 0, 0), (36, 2, 0, 6, 0, 0), z0, (36, 2, 0, 7, 0, 0), z0, (47, 3, 0, 123, 0, 0), z0, z0, (37, 1, 0, 1, 0, 0), (66, 3, 0, 57, 8, 4), z0, z0, (36, 2, 0, 6, 0, 0), z0, (60, 1, 0, 0, 0, 0), (44, 3, 0, 92, 0, 0), z0, z0, (37, 1, 0, 0, 0, 0), (36, 2, 0, 6, 0, 0), z0, (37, 1, 0, 1, 0, 0), (66, 3, 0, 51, 8, 2), z0, z0, (36, 2, 0, 6, 0, 0), z0, (58, 1, 0, 0, 0, 0), (36, 1, 0, 2, 0, 0), (36, 1, 0, 3, 0, 0), (110, 3, 0, 103, 5, 45), z0, z0, (37, 1, 0, 1, 0, 0), (66, 3, 0, 57, 8, 4), z0, z0, (36, 2, 0, 6, 0, 0), z0, (60, 1, 0, 0, 0, 0), (44, 3, 0, 121, 0, 0), z0, z0, (37, 1, 0, 1, 0, 0), (66, 3, 0, 53, 8, 3), z0, z0, (36, 2, 0, 6, 0, 0), z0, (60, 1, 0, 0, 0, 0), (44, 3, 0, 121, 0, 0), z0, z0, (37, 1, 0, 0, 0, 0), (36, 2, 0, 6, 0, 0), z0, (32, 1, 0, 0, 0, 0), (36, 1, 0, 2, 0, 0), (36, 1, 0, 3, 0, 0), (110, 3, 0, 103, 5, 45), z0, z0, (32, 1, 0, 0, 0, 0), (100, 1, 0, 0, 0, 0), (37, 1, 0, 1, 0, 0), (66, 3, 0, 57, 8, 4), z0, z0, (36, 2, 0, 6, 0, 0), z0, (60, 1, 0, 0, 0, 0), (44, 3, 0, 158, 0, 0), z0, z0, (37, 1, 0, 1, 0, 0), (66, 3, 0, 57, 8, 4), z0, z0, (36, 2, 0, 7, 0, 0), z0, (60, 1, 0, 0, 0, 0), (44, 3, 0, 158, 0, 0), z0, z0, (37, 1, 0, 0, 0, 0), (36, 2, 0, 6, 0, 0), z0, (37, 1, 0, 1, 0, 0), (66, 3, 0, 51, 8, 2), z0, z0, (36, 2, 0, 7, 0, 0), z0, (58, 1, 0, 0, 0, 0), (36, 1, 0, 2, 0, 0), (36, 1, 0, 3, 0, 0), (110, 3, 0, 103, 5, 45), z0, z0, (37, 1, 0, 1, 0, 0), (66, 3, 0, 57, 8, 4), z0, z0, (36, 2, 0, 6, 0, 0), z0, (60, 1, 0, 0, 0, 0), (44, 3, 0, 187, 0, 0), z0, z0, (37, 1, 0, 1, 0, 0), (66, 3, 0, 53, 8, 3), z0, z0, (36, 2, 0, 7, 0, 0), z0, (60, 1, 0, 0, 0, 0), (44, 3, 0, 187, 0, 0), z0, z0, (37, 1, 0, 0, 0, 0), (36, 2, 0, 6, 0, 0), z0, (32, 1, 0, 0, 0, 0), (36, 1, 0, 2, 0, 0), (36, 1, 0, 3, 0, 0), (110, 3, 0, 103, 5, 45), z0, z0, (37, 1, 0, 1, 0, 0), (66, 3, 0, 53, 8, 3), z0, z0, (36, 2, 0, 6, 0, 0), z0, (60, 1, 0, 0, 0, 0), (44, 3, 0, 216, 0, 0), z0, z0, (37, 1, 0, 1, 0, 0), (66, 3, 0, 57, 8, 4), z0, z0, (36, 2, 0, 7, 0, 0), z0, (60, 1, 0, 0, 0, 0), (44, 3, 0, 216, 0, 0), z0, z0, (37, 1, 0, 0, 0, 0), (36, 2, 0, 7, 0, 0), z0, (32, 1, 0, 0, 0, 0), (36, 1, 0, 2, 0, 0), (36, 1, 0, 3, 0, 0), (110, 3, 0, 103, 5, 45), z0, z0, (37, 1, 0, 1, 0, 0), (66, 3, 0, 53, 8, 3), z0, z0, (36, 2, 0, 6, 0, 0), z0, (60, 1, 0, 0, 0, 0), (44, 3, 0, 240, 0, 0), z0, z0, (37, 1, 0, 1, 0, 0), (66, 3, 0, 53, 8, 3), z0, z0, (36, 2, 0, 7, 0, 0), z0, (60, 1, 0, 0, 0, 0), (44, 3, 0, 240, 0, 0), z0, z0, (32, 1, 1, 0, 0, 0), (56, 3, 0, 241, 0, 0), z0, z0, (32, 1, 0, 0, 0, 0), (100, 1, 0, 0, 0, 0)]
def P_Tw_step : PM := (9, ⟨"OneWaySpell$Twins", "step", "(LOneWaySpell$Tree;II)Z"⟩, prog_11_method_4_code, 8, some .boolean, 1, 3, (777, 183, 776, 37), C_Tw_step)
def C_Tw_push : List PI := [(36, 1, 0, 1, 0, 0), (32, 2, 8, 0, 0, 0), z0, (3, 1, 0, 0, 0, 0), (36, 1, 0, 2, 0, 0), (1, 1, 0, 0, 0, 0), (40, 2, 0, 5, 0, 0), z0, (36, 2, 0, 5, 0, 0), z0, (48, 3, 0, 41, 0, 0), z0, z0, (36, 2, 0, 5, 0, 0), z0, (32, 3, 792, 0, 0, 0), z0, z0, (51, 3, 0, 41, 0, 0), z0, z0, (37, 1, 0, 0, 0, 0), (65, 3, 0, 54, 9, 5), z0, z0, (32, 3, 792, 0, 0, 0), z0, z0, (51, 3, 0, 41, 0, 0), z0, z0, (37, 1, 0, 0, 0, 0), (65, 3, 0, 49, 9, 0), z0, z0, (36, 2, 0, 5, 0, 0), z0, (60, 1, 0, 0, 0, 0), (44, 3, 0, 42, 0, 0), z0, z0, (103, 1, 0, 0, 0, 0), (37, 1, 0, 0, 0, 0), (65, 3, 0, 49, 9, 0), z0, z0, (36, 2, 0, 5, 0, 0), z0, (32, 1, 1, 0, 0, 0), (64, 1, 0, 0, 0, 0), (37, 1, 0, 0, 0, 0), (65, 3, 0, 50, 9, 1), z0, z0, (37, 1, 0, 0, 0, 0), (65, 3, 0, 54, 9, 5), z0, z0, (36, 2, 0, 5, 0, 0), z0, (62, 1, 0, 0, 0, 0), (37, 1, 0, 0, 0, 0), (65, 3, 0, 51, 9, 2), z0, z0, (37, 1, 0, 0, 0, 0), (65, 3, 0, 54, 9, 5), z0, z0, (36, 1, 0, 3, 0, 0), (62, 1, 0, 0, 0, 0), (37, 1, 0, 0, 0, 0), (65, 3, 0, 52, 9, 3), z0, z0, (37, 1, 0, 0, 0, 0), (65, 3, 0, 54, 9, 5), z0, z0, (36, 2, 0, 4, 0, 0), z0, (26, 1, 0, 0, 0, 0), (64, 1, 0, 0, 0, 0), (37, 1, 0, 0, 0, 0), (65, 3, 0, 53, 9, 4), z0, z0, (37, 1, 0, 0, 0, 0), (65, 3, 0, 54, 9, 5), z0, z0, (37, 1, 0, 0, 0, 0), (65, 3, 0, 55, 9, 6), z0, z0, (62, 1, 0, 0, 0, 0), (37, 1, 0, 0, 0, 0), (27, 1, 0, 0, 0, 0), (65, 3, 0, 54, 9, 5), z0, z0, (32, 1, 1, 0, 0, 0), (1, 1, 0, 0, 0, 0), (67, 3, 0, 54, 9, 5), z0, z0, (103, 1, 0, 0, 0, 0)]
def P_Tw_push : PM := (9, ⟨"OneWaySpell$Twins", "push", "(IIII)V"⟩, prog_11_method_5_code, 6, none, 1, 4, (765, 183, 764, 34), C_Tw_push)
def C_Tw_copyTo : List PI := [(37, 1, 0, 0, 0, 0), (65, 3, 0, 58, 9, 9), z0, z0, (61, 1, 0, 0, 0, 0), (32, 1, 1, 0, 0, 0), (2, 1, 0, 0, 0, 0), (40, 1, 0, 2, 0, 0), (37, 1, 0, 0, 0, 0), (65, 3, 0, 58, 9, 9), z0, z0, (36, 1, 0, 2, 0, 0), (37, 1, 0, 0, 0, 0), (65, 3, 0, 57, 9, 8), z0, z0, (26, 1, 0, 0, 0, 0), (64, 1, 0, 0, 0, 0), (37, 1, 0, 0, 0, 0), (65, 3, 0, 56, 9, 7), z0, z0, (40, 1, 0, 3, 0, 0), (36, 1, 0, 2, 0, 0), (54, 3, 0, 57, 0, 0), z0, z0, (36, 1, 0, 3, 0, 0), (54, 3, 0, 57, 0, 0), z0, z0, (43, 3, -1, 2, 0, 0), z0, z0, (37, 1, 0, 0, 0, 0), (65, 3, 0, 58, 9, 9), z0, z0, (36, 1, 0, 2, 0, 0), (37, 1, 0, 0, 0, 0), (65, 3, 0, 52, 9, 3), z0, z0, (36, 1, 0, 3, 0, 0), (60, 1, 0, 0, 0, 0), (64, 1, 0, 0, 0, 0), (37, 1, 0, 0, 0, 0), (65, 3, 0, 51, 9, 2), z0, z0, (36, 1, 0, 3, 0, 0), (58, 1, 0, 0, 0, 0), (40, 1, 0, 3, 0, 0), (56, 3, 0, 24, 0, 0), z0, z0, (37, 1, 0, 1, 0, 0), (110, 3, 1, 106, 1, 35), z0, z0, (36, 1, 0, 2, 0, 0), (40, 2, 0, 4, 0, 0), z0, (36, 2, 0, 4, 0, 0), z0, (37, 1, 0, 0, 0, 0), (65, 3, 0, 58, 9, 9), z0, z0, (61, 1, 0, 0, 0, 0), (51, 3, 0, 91, 0, 0), z0, z0, (37, 1, 0, 1, 0, 0), (37, 1, 0, 0, 0, 0), (65, 3, 0, 58, 9, 9), z0, z0, (36, 2, 0, 4, 0, 0), z0, (60, 1, 0, 0, 0, 0), (110, 3, 1, 107, 2, 36), z0, z0, (43, 3, 1, 4, 0, 0), z0, z0, (56, 3, 0, 64, 0, 0), z0, z0, (103, 1, 0, 0, 0, 0)]
def P_Tw_copyTo : PM := (9, ⟨"OneWaySpell$Twins", "copyTo", "(LOneWaySpell$Word;)V"⟩, prog_11_method_6_code, 5, none, 1, 1, (783, 183, 782, 38), C_Tw_copyTo)
def C_Wo_init : List PI := [(37, 1, 0, 0, 0, 0), (78, 3, 0, 316, 0, 0), z0, z0, (37, 1, 0, 0, 0, 0), (32, 3, 800, 0, 0, 0), z0, z0, (72, 2, 0, 0, 0, 0), z0, (69, 3, 0, 19, 10, 0), z0, z0, (37, 1, 0, 0, 0, 0), (32, 3, 801, 0, 0, 0), z0, z0, (74, 2, 0, 0, 0, 0), z0, (69, 3, 0, 21, 10, 2), z0, z0, (37, 1, 0, 0, 0, 0), (32, 3, 801, 0, 0, 0), z0, z0, (73, 2, 0, 0, 0, 0), z0, (69, 3, 0, 22, 10, 3), z0, z0, (103, 1, 0, 0, 0, 0)]
def P_Wo_init : PM := (10, ⟨"OneWaySpell$Word", "<init>", "()V"⟩, prog_12_method_1_code, 1, none, 2, 0, (315, 177, 314, 0), C_Wo_init)
def C_Wo_clear : List PI := [(37, 1, 0, 0, 0, 0), (32, 1, 0, 0, 0, 0), (67, 3, 0, 20, 10, 1), z0, z0, (103, 1, 0, 0, 0, 0)]
def P_Wo_clear : PM := (10, ⟨"OneWaySpell$Word", "clear", "()V"⟩, prog_12_method_2_code, 1, none, 1, 0, (440, 177, 439, 8), C_Wo_clear)
def C_Wo_add : List PI := [(37, 1, 0, 0, 0, 0), (65, 3, 0, 20, 10, 1), z0, z0, (32, 3, 800, 0, 0, 0), z0, z0, (51, 3, 0, 31, 0, 0), z0, z0, (37, 1, 0, 0, 0, 0), (65, 3, 0, 19, 10, 0), z0, z0, (37, 1, 0, 0, 0, 0), (65, 3, 0, 20, 10, 1), z0, z0, (36, 1, 0, 1, 0, 0), (26, 1, 0, 0, 0, 0), (64, 1, 0, 0, 0, 0), (37, 1, 0, 0, 0, 0), (27, 1, 0, 0, 0, 0), (65, 3, 0, 20, 10, 1), z0, z0, (32, 1, 1, 0, 0, 0), (1, 1, 0, 0, 0, 0), (67, 3, 0, 20, 10, 1), z0, z0, (103, 1, 0, 0, 0, 0)]
def P_Wo_add : PM := (10, ⟨"OneWaySpell$Word", "add", "(I)V"⟩, prog_12_method_3_code, 2, none, 1, 1, (788, 177, 787, 39), C_Wo_add)
def C_Wo_addRow : List PI := [(32, 1, 0, 0, 0, 0), (40, 2, 0, 4, 0, 0), z0, (36, 2, 0, 4, 0, 0), z0, (36, 1, 0, 3, 0, 0), (51, 3, 0, 26, 0, 0), z0, z0, (37, 1, 0, 0, 0, 0), (38, 1, 0, 1, 0, 0), (36, 1, 0, 3, 0, 0), (36, 2, 0, 4, 0, 0), z0, (110, 3, 1, 164, 3, 42), z0, z0, (110, 3, 0, 107, 2, 84), z0, z0, (43, 3, 1, 4, 0, 0), z0, z0, (56, 3, 0, 3, 0, 0), z0, z0, (103, 1, 0, 0, 0, 0)]
def P_Wo_addRow : PM := (10, ⟨"OneWaySpell$Word", "addRow", "(JI)V"⟩, prog_12_method_4_code, 5, none, 1, 2, (1051, 177, 1050, 66), C_Wo_addRow)
def C_Wo_standing : List PI := [(32, 1, 0, 0, 0, 0), (40, 2, 0, 5, 0, 0), z0, (36, 2, 0, 5, 0, 0), z0, (36, 1, 0, 3, 0, 0), (51, 3, 0, 47, 0, 0), z0, z0, (36, 2, 0, 4, 0, 0), z0, (36, 2, 0, 5, 0, 0), z0, (1, 1, 0, 0, 0, 0), (37, 1, 0, 0, 0, 0), (65, 3, 0, 20, 10, 1), z0, z0, (51, 3, 0, 47, 0, 0), z0, z0, (37, 1, 0, 0, 0, 0), (65, 3, 0, 19, 10, 0), z0, z0, (36, 2, 0, 4, 0, 0), z0, (36, 2, 0, 5, 0, 0), z0, (1, 1, 0, 0, 0, 0), (60, 1, 0, 0, 0, 0), (38, 1, 0, 1, 0, 0), (36, 1, 0, 3, 0, 0), (36, 2, 0, 5, 0, 0), z0, (110, 3, 1, 164, 3, 42), z0, z0, (47, 3, 0, 47, 0, 0), z0, z0, (43, 3, 1, 5, 0, 0), z0, z0, (56, 3, 0, 3, 0, 0), z0, z0, (36, 2, 0, 5, 0, 0), z0, (100, 1, 0, 0, 0, 0)]
def P_Wo_standing : PM := (10, ⟨"OneWaySpell$Word", "standing", "(JII)I"⟩, prog_12_method_5_code, 6, some .int, 1, 3, (850, 177, 849, 46), C_Wo_standing)
def C_Wo_fits : List PI := [(37, 1, 0, 1, 0, 0), (36, 1, 0, 2, 0, 0), (110, 3, 1, 35, 2, 41), z0, z0, (44, 3, 0, 38, 0, 0), z0, z0, (37, 1, 0, 0, 0, 0), (37, 1, 0, 1, 0, 0), (66, 3, 0, 2, 3, 0), z0, z0, (36, 1, 0, 2, 0, 0), (59, 1, 0, 0, 0, 0), (37, 1, 0, 1, 0, 0), (66, 3, 0, 11, 3, 1), z0, z0, (36, 1, 0, 2, 0, 0), (58, 1, 0, 0, 0, 0), (36, 1, 0, 3, 0, 0), (110, 3, 0, 109, 4, 59), z0, z0, (37, 1, 0, 1, 0, 0), (66, 3, 0, 11, 3, 1), z0, z0, (36, 1, 0, 2, 0, 0), (58, 1, 0, 0, 0, 0), (47, 3, 0, 38, 0, 0), z0, z0, (32, 1, 1, 0, 0, 0), (56, 3, 0, 39, 0, 0), z0, z0, (32, 1, 0, 0, 0, 0), (100, 1, 0, 0, 0, 0)]
def P_Wo_fits : PM := (10, ⟨"OneWaySpell$Word", "fits", "(LOneWaySpell$Groups;II)Z"⟩, prog_12_method_6_code, 4, some .boolean, 1, 3, (845, 177, 844, 45), C_Wo_fits)
def C_Wo_countWays : List PI := [(37, 1, 0, 0, 0, 0), (65, 3, 0, 21, 10, 2), z0, z0, (37, 1, 0, 0, 0, 0), (65, 3, 0, 20, 10, 1), z0, z0, (33, 1, 1, 0, 0, 0), (63, 1, 0, 0, 0, 0), (37, 1, 0, 0, 0, 0), (65, 3, 0, 20, 10, 1), z0, z0, (32, 1, 1, 0, 0, 0), (2, 1, 0, 0, 0, 0), (40, 1, 0, 2, 0, 0), (36, 1, 0, 2, 0, 0), (48, 3, 0, 84, 0, 0), z0, z0, (33, 1, 0, 0, 0, 0), (42, 1, 0, 3, 0, 0), (32, 1, 0, 0, 0, 0), (40, 2, 0, 5, 0, 0), z0, (36, 2, 0, 5, 0, 0), z0, (37, 1, 0, 1, 0, 0), (66, 3, 0, 22, 3, 3), z0, z0, (51, 3, 0, 71, 0, 0), z0, z0, (37, 1, 0, 0, 0, 0), (37, 1, 0, 1, 0, 0), (36, 2, 0, 5, 0, 0), z0, (36, 1, 0, 2, 0, 0), (110, 3, 0, 110, 4, 58), z0, z0, (44, 3, 0, 65, 0, 0), z0, z0, (38, 1, 0, 3, 0, 0), (37, 1, 0, 0, 0, 0), (65, 3, 0, 21, 10, 2), z0, z0, (36, 1, 0, 2, 0, 0), (37, 1, 0, 1, 0, 0), (66, 3, 0, 11, 3, 1), z0, z0, (36, 2, 0, 5, 0, 0), z0, (58, 1, 0, 0, 0, 0), (1, 1, 0, 0, 0, 0), (59, 1, 0, 0, 0, 0), (110, 3, 0, 112, 2, 60), z0, z0, (42, 1, 0, 3, 0, 0), (43, 3, 1, 5, 0, 0), z0, z0, (56, 3, 0, 26, 0, 0), z0, z0, (37, 1, 0, 0, 0, 0), (65, 3, 0, 21, 10, 2), z0, z0, (36, 1, 0, 2, 0, 0), (38, 1, 0, 3, 0, 0), (63, 1, 0, 0, 0, 0), (43, 3, -1, 2, 0, 0), z0, z0, (56, 3, 0, 17, 0, 0), z0, z0, (103, 1, 0, 0, 0, 0)]
def P_Wo_countWays : PM := (10, ⟨"OneWaySpell$Word", "countWays", "(LOneWaySpell$Groups;)V"⟩, prog_12_method_7_code, 6, none, 1, 1, (841, 177, 840, 44), C_Wo_countWays)
def C_Wo_sumWithoutWrap : List PI := [(38, 1, 0, 0, 0, 0), (35, 3, 9223372036854775807, 855, 0, 0), z0, z0, (38, 1, 0, 2, 0, 0), (13, 1, 0, 0, 0, 0), (22, 1, 0, 0, 0, 0), (54, 3, 0, 16, 0, 0), z0, z0, (35, 3, 9223372036854775807, 855, 0, 0), z0, z0, (56, 3, 0, 19, 0, 0), z0, z0, (38, 1, 0, 0, 0, 0), (38, 1, 0, 2, 0, 0), (12, 1, 0, 0, 0, 0), (101, 1, 0, 0, 0, 0)]
def P_Wo_sumWithoutWrap : PM := (10, ⟨"OneWaySpell$Word", "sumWithoutWrap", "(JJ)J"⟩, prog_12_method_8_code, 4, some .long, 0, 2, (854, 177, 853, 0), C_Wo_sumWithoutWrap)
def C_Wo_groupOfReading : List PI := [(37, 1, 0, 0, 0, 0), (37, 1, 0, 1, 0, 0), (110, 3, 0, 111, 2, 62), z0, z0, (36, 1, 0, 2, 0, 0), (48, 3, 0, 25, 0, 0), z0, z0, (36, 1, 0, 3, 0, 0), (48, 3, 0, 25, 0, 0), z0, z0, (36, 1, 0, 2, 0, 0), (24, 1, 0, 0, 0, 0), (37, 1, 0, 0, 0, 0), (65, 3, 0, 21, 10, 2), z0, z0, (32, 1, 0, 0, 0, 0), (59, 1, 0, 0, 0, 0), (22, 1, 0, 0, 0, 0), (48, 3, 0, 27, 0, 0), z0, z0, (32, 1, -1, 0, 0, 0), (100, 1, 0, 0, 0, 0), (37, 1, 0, 0, 0, 0), (36, 1, 0, 2, 0, 0), (24, 1, 0, 0, 0, 0), (67, 3, 0, 23, 10, 4), z0, z0, (32, 1, 0, 0, 0, 0), (40, 2, 0, 4, 0, 0), z0, (32, 1, 0, 0, 0, 0), (40, 2, 0, 5, 0, 0), z0, (36, 2, 0, 5, 0, 0), z0, (36, 1, 0, 3, 0, 0), (53, 3, 0, 96, 0, 0), z0, z0, (36, 2, 0, 4, 0, 0), z0, (37, 1, 0, 0, 0, 0), (65, 3, 0, 20, 10, 1), z0, z0, (51, 3, 0, 96, 0, 0), z0, z0, (37, 1, 0, 0, 0, 0), (37, 1, 0, 1, 0, 0), (36, 2, 0, 4, 0, 0), z0, (110, 3, 0, 114, 3, 63), z0, z0, (40, 2, 0, 6, 0, 0), z0, (36, 2, 0, 6, 0, 0), z0, (32, 1, -1, 0, 0, 0), (45, 3, 0, 75, 0, 0), z0, z0, (36, 2, 0, 5, 0, 0), z0, (36, 1, 0, 3, 0, 0), (47, 3, 0, 78, 0, 0), z0, z0, (36, 2, 0, 6, 0, 0), z0, (100, 1, 0, 0, 0, 0), (36, 2, 0, 4, 0, 0), z0, (37, 1, 0, 1, 0, 0), (66, 3, 0, 11, 3, 1), z0, z0, (36, 2, 0, 6, 0, 0), z0, (58, 1, 0, 0, 0, 0), (1, 1, 0, 0, 0, 0), (40, 2, 0, 4, 0, 0), z0, (43, 3, 1, 5, 0, 0), z0, z0, (56, 3, 0, 39, 0, 0), z0, z0, (32, 1, -1, 0, 0, 0), (100, 1, 0, 0, 0, 0)]
def P_Wo_groupOfReading : PM := (10, ⟨"OneWaySpell$Word", "groupOfReading", "(LOneWaySpell$Groups;II)I"⟩, prog_12_method_9_code, 7, some .int, 1, 3, (863, 177, 862, 47), C_Wo_groupOfReading)
def C_Wo_groupToward : List PI := [(32, 1, 0, 0, 0, 0), (40, 1, 0, 3, 0, 0), (36, 1, 0, 3, 0, 0), (37, 1, 0, 1, 0, 0), (66, 3, 0, 22, 3, 3), z0, z0, (51, 3, 0, 64, 0, 0), z0, z0, (37, 1, 0, 0, 0, 0), (37, 1, 0, 1, 0, 0), (36, 1, 0, 3, 0, 0), (36, 1, 0, 2, 0, 0), (110, 3, 0, 110, 4, 58), z0, z0, (44, 3, 0, 58, 0, 0), z0, z0, (37, 1, 0, 0, 0, 0), (65, 3, 0, 21, 10, 2), z0, z0, (36, 1, 0, 2, 0, 0), (37, 1, 0, 1, 0, 0), (66, 3, 0, 11, 3, 1), z0, z0, (36, 1, 0, 3, 0, 0), (58, 1, 0, 0, 0, 0), (1, 1, 0, 0, 0, 0), (59, 1, 0, 0, 0, 0), (42, 2, 0, 4, 0, 0), z0, (37, 1, 0, 0, 0, 0), (65, 3, 0, 23, 10, 4), z0, z0, (38, 2, 0, 4, 0, 0), z0, (22, 1, 0, 0, 0, 0), (50, 3, 0, 47, 0, 0), z0, z0, (36, 1, 0, 3, 0, 0), (100, 1, 0, 0, 0, 0), (37, 1, 0, 0, 0, 0), (27, 1, 0, 0, 0, 0), (65, 3, 0, 23, 10, 4), z0, z0, (38, 2, 0, 4, 0, 0), z0, (13, 1, 0, 0, 0, 0), (67, 3, 0, 23, 10, 4), z0, z0, (43, 3, 1, 3, 0, 0), z0, z0, (56, 3, 0, 2, 0, 0), z0, z0, (32, 1, -1, 0, 0, 0), (100, 1, 0, 0, 0, 0)]
def P_Wo_groupToward : PM := (10, ⟨"OneWaySpell$Word", "groupToward", "(LOneWaySpell$Groups;I)I"⟩, prog_12_method_10_code, 6, some .int, 1, 2, (868, 177, 867, 48), C_Wo_groupToward)
def C_Wo_unlikeSoundRows : List PI := [(37, 1, 0, 0, 0, 0), (37, 1, 0, 1, 0, 0), (110, 3, 0, 111, 2, 62), z0, z0, (37, 1, 0, 0, 0, 0), (65, 3, 0, 21, 10, 2), z0, z0, (32, 1, 0, 0, 0, 0), (59, 1, 0, 0, 0, 0), (35, 3, 2, 877, 0, 0), z0, z0, (22, 1, 0, 0, 0, 0), (50, 3, 0, 26, 0, 0), z0, z0, (37, 1, 0, 0, 0, 0), (65, 3, 0, 21, 10, 2), z0, z0, (32, 1, 0, 0, 0, 0), (59, 1, 0, 0, 0, 0), (25, 1, 0, 0, 0, 0), (100, 1, 0, 0, 0, 0), (32, 1, 0, 0, 0, 0), (40, 1, 0, 2, 0, 0), (32, 1, 0, 0, 0, 0), (40, 1, 0, 3, 0, 0), (33, 1, 1, 0, 0, 0), (42, 2, 0, 4, 0, 0), z0, (32, 1, 0, 0, 0, 0), (40, 2, 0, 6, 0, 0), z0, (36, 2, 0, 6, 0, 0), z0, (37, 1, 0, 0, 0, 0), (65, 3, 0, 20, 10, 1), z0, z0, (51, 3, 0, 151, 0, 0), z0, z0, (36, 1, 0, 2, 0, 0), (37, 1, 0, 0, 0, 0), (65, 3, 0, 20, 10, 1), z0, z0, (51, 3, 0, 151, 0, 0), z0, z0, (36, 1, 0, 3, 0, 0), (37, 1, 0, 0, 0, 0), (65, 3, 0, 20, 10, 1), z0, z0, (51, 3, 0, 151, 0, 0), z0, z0, (37, 1, 0, 0, 0, 0), (33, 1, 0, 0, 0, 0), (67, 3, 0, 23, 10, 4), z0, z0, (37, 1, 0, 0, 0, 0), (37, 1, 0, 1, 0, 0), (36, 1, 0, 2, 0, 0), (110, 3, 0, 114, 3, 63), z0, z0, (40, 2, 0, 7, 0, 0), z0, (37, 1, 0, 0, 0, 0), (38, 2, 0, 4, 0, 0), z0, (67, 3, 0, 23, 10, 4), z0, z0, (37, 1, 0, 0, 0, 0), (37, 1, 0, 1, 0, 0), (36, 1, 0, 3, 0, 0), (110, 3, 0, 114, 3, 63), z0, z0, (40, 2, 0, 8, 0, 0), z0, (37, 1, 0, 0, 0, 0), (65, 3, 0, 23, 10, 4), z0, z0, (42, 2, 0, 4, 0, 0), z0, (36, 2, 0, 7, 0, 0), z0, (32, 1, -1, 0, 0, 0), (45, 3, 0, 123, 0, 0), z0, z0, (36, 2, 0, 8, 0, 0), z0, (32, 1, -1, 0, 0, 0), (45, 3, 0, 123, 0, 0), z0, z0, (37, 1, 0, 1, 0, 0), (66, 3, 0, 15, 3, 2), z0, z0, (36, 2, 0, 7, 0, 0), z0, (58, 1, 0, 0, 0, 0), (37, 1, 0, 1, 0, 0), (66, 3, 0, 15, 3, 2), z0, z0, (36, 2, 0, 8, 0, 0), z0, (58, 1, 0, 0, 0, 0), (45, 3, 0, 125, 0, 0), z0, z0, (32, 1, 2, 0, 0, 0), (100, 1, 0, 0, 0, 0), (36, 1, 0, 2, 0, 0), (37, 1, 0, 1, 0, 0), (66, 3, 0, 11, 3, 1), z0, z0, (36, 2, 0, 7, 0, 0), z0, (58, 1, 0, 0, 0, 0), (1, 1, 0, 0, 0, 0), (40, 1, 0, 2, 0, 0), (36, 1, 0, 3, 0, 0), (37, 1, 0, 1, 0, 0), (66, 3, 0, 11, 3, 1), z0, z0, (36, 2, 0, 8, 0, 0), z0, (58, 1, 0, 0, 0, 0), (1, 1, 0, 0, 0, 0), (40, 1, 0, 3, 0, 0), (43, 3, 1, 6, 0, 0), z0, z0, (56, 3, 0, 36, 0, 0), z0, z0, (36, 1, 0, 2, 0, 0), (36, 1, 0, 3, 0, 0), (47, 3, 0, 160, 0, 0), z0, z0, (32, 1, 1, 0, 0, 0), (56, 3, 0, 161, 0, 0), z0, z0, (32, 1, 2, 0, 0, 0), (100, 1, 0, 0, 0, 0)]
def P_Wo_unlikeSoundRows : PM := (10, ⟨"OneWaySpell$Word", "unlikeSoundRows", "(LOneWaySpell$Groups;)I"⟩, prog_12_method_11_code, 9, some .int, 1, 1, (876, 177, 875, 49), C_Wo_unlikeSoundRows)
def C_Wo_longestBeginning : List PI := [(37, 1, 0, 0, 0, 0), (65, 3, 0, 22, 10, 3), z0, z0, (32, 1, 0, 0, 0, 0), (37, 1, 0, 0, 0, 0), (65, 3, 0, 20, 10, 1), z0, z0, (32, 1, 1, 0, 0, 0), (1, 1, 0, 0, 0, 0), (32, 1, 0, 0, 0, 0), (110, 3, 0, 285, 4, 78), z0, z0, (37, 1, 0, 0, 0, 0), (65, 3, 0, 22, 10, 3), z0, z0, (32, 1, 0, 0, 0, 0), (32, 1, 1, 0, 0, 0), (64, 1, 0, 0, 0, 0), (32, 1, 0, 0, 0, 0), (40, 1, 0, 2, 0, 0), (32, 1, 0, 0, 0, 0), (40, 1, 0, 3, 0, 0), (36, 1, 0, 3, 0, 0), (37, 1, 0, 0, 0, 0), (65, 3, 0, 20, 10, 1), z0, z0, (51, 3, 0, 128, 0, 0), z0, z0, (32, 1, 0, 0, 0, 0), (40, 2, 0, 4, 0, 0), z0, (36, 2, 0, 4, 0, 0), z0, (37, 1, 0, 1, 0, 0), (66, 3, 0, 22, 3, 3), z0, z0, (51, 3, 0, 122, 0, 0), z0, z0, (37, 1, 0, 0, 0, 0), (65, 3, 0, 22, 10, 3), z0, z0, (36, 1, 0, 3, 0, 0), (60, 1, 0, 0, 0, 0), (44, 3, 0, 122, 0, 0), z0, z0, (37, 1, 0, 1, 0, 0), (36, 2, 0, 4, 0, 0), z0, (110, 3, 1, 35, 2, 41), z0, z0, (44, 3, 0, 116, 0, 0), z0, z0, (37, 1, 0, 0, 0, 0), (37, 1, 0, 1, 0, 0), (66, 3, 0, 2, 3, 0), z0, z0, (36, 2, 0, 4, 0, 0), z0, (59, 1, 0, 0, 0, 0), (37, 1, 0, 1, 0, 0), (66, 3, 0, 11, 3, 1), z0, z0, (36, 2, 0, 4, 0, 0), z0, (58, 1, 0, 0, 0, 0), (36, 1, 0, 3, 0, 0), (110, 3, 0, 109, 4, 59), z0, z0, (40, 2, 0, 5, 0, 0), z0, (36, 1, 0, 2, 0, 0), (36, 1, 0, 3, 0, 0), (36, 2, 0, 5, 0, 0), z0, (1, 1, 0, 0, 0, 0), (82, 3, 0, 986, 0, 0), z0, z0, (40, 1, 0, 2, 0, 0), (36, 2, 0, 5, 0, 0), z0, (37, 1, 0, 1, 0, 0), (66, 3, 0, 11, 3, 1), z0, z0, (36, 2, 0, 4, 0, 0), z0, (58, 1, 0, 0, 0, 0), (47, 3, 0, 116, 0, 0), z0, z0, (37, 1, 0, 0, 0, 0), (65, 3, 0, 22, 10, 3), z0, z0, (36, 1, 0, 3, 0, 0), (36, 2, 0, 5, 0, 0), z0, (1, 1, 0, 0, 0, 0), (32, 1, 1, 0, 0, 0), (64, 1, 0, 0, 0, 0), (43, 3, 1, 4, 0, 0), z0, z0, (56, 3, 0, 37, 0, 0), z0, z0, (43, 3, 1, 3, 0, 0), z0, z0, (56, 3, 0, 26, 0, 0), z0, z0, (36, 1, 0, 2, 0, 0), (100, 1, 0, 0, 0, 0)]
def P_Wo_longestBeginning : PM := (10, ⟨"OneWaySpell$Word", "longestBeginning", "(LOneWaySpell$Groups;)I"⟩, prog_12_method_12_code, 6, some .int, 1, 1, (979, 177, 978, 60), C_Wo_longestBeginning)
def C_Ow_init : List PI := [(37, 1, 0, 0, 0, 0), (78, 3, 0, 196, 0, 0), z0, z0, (37, 1, 0, 0, 0, 0), (32, 3, 600, 0, 0, 0), z0, z0, (72, 2, 0, 0, 0, 0), z0, (69, 3, 0, 24, 11, 0), z0, z0, (37, 1, 0, 0, 0, 0), (70, 3, 0, 199, 3, 0), z0, z0, (27, 1, 0, 0, 0, 0), (110, 3, 1, 33, 1, 0), z0, z0, (69, 3, 0, 26, 11, 2), z0, z0, (37, 1, 0, 0, 0, 0), (70, 3, 0, 270, 7, 0), z0, z0, (27, 1, 0, 0, 0, 0), (110, 3, 1, 82, 1, 1), z0, z0, (69, 3, 0, 27, 11, 3), z0, z0, (37, 1, 0, 0, 0, 0), (70, 3, 0, 311, 10, 0), z0, z0, (27, 1, 0, 0, 0, 0), (110, 3, 1, 105, 1, 2), z0, z0, (69, 3, 0, 28, 11, 4), z0, z0, (103, 1, 0, 0, 0, 0)]
def P_Ow_init : PM := (11, ⟨"OneWaySpell", "<init>", "()V"⟩, prog_1_method_1_code, 1, none, 2, 0, (195, 174, 194, 0), C_Ow_init)
def C_Ow_feed : List PI := [(37, 1, 0, 0, 0, 0), (65, 3, 0, 25, 11, 1), z0, z0, (32, 2, 20, 0, 0, 0), z0, (1, 1, 0, 0, 0, 0), (32, 3, 600, 0, 0, 0), z0, z0, (55, 3, 0, 15, 0, 0), z0, z0, (32, 1, -1, 0, 0, 0), (100, 1, 0, 0, 0, 0), (37, 1, 0, 0, 0, 0), (36, 1, 0, 1, 0, 0), (110, 3, 0, 158, 2, 2), z0, z0, (37, 1, 0, 0, 0, 0), (36, 1, 0, 2, 0, 0), (110, 3, 0, 158, 2, 2), z0, z0, (37, 1, 0, 0, 0, 0), (36, 1, 0, 3, 0, 0), (110, 3, 0, 158, 2, 2), z0, z0, (37, 1, 0, 0, 0, 0), (36, 2, 0, 4, 0, 0), z0, (110, 3, 0, 158, 2, 2), z0, z0, (37, 1, 0, 0, 0, 0), (36, 2, 0, 5, 0, 0), z0, (110, 3, 0, 158, 2, 2), z0, z0, (37, 1, 0, 0, 0, 0), (65, 3, 0, 25, 11, 1), z0, z0, (100, 1, 0, 0, 0, 0)]
def P_Ow_feed : PM := (11, ⟨"OneWaySpell", "feed", "(IIIII)I"⟩, prog_1_method_2_code, 6, some .int, 1, 5, (383, 174, 381, 382), C_Ow_feed)
def C_Ow_end : List PI := [(36, 1, 0, 1, 0, 0), (48, 3, 0, 12, 0, 0), z0, z0, (36, 1, 0, 1, 0, 0), (37, 1, 0, 0, 0, 0), (65, 3, 0, 25, 11, 1), z0, z0, (55, 3, 0, 14, 0, 0), z0, z0, (32, 1, -1, 0, 0, 0), (100, 1, 0, 0, 0, 0), (37, 1, 0, 0, 0, 0), (36, 1, 0, 1, 0, 0), (67, 3, 0, 25, 11, 1), z0, z0, (36, 1, 0, 1, 0, 0), (100, 1, 0, 0, 0, 0)]
def P_Ow_end : PM := (11, ⟨"OneWaySpell", "end", "(I)I"⟩, prog_1_method_3_code, 2, some .int, 1, 1, (391, 174, 389, 390), C_Ow_end)
def C_Ow_table : List PI := [(37, 1, 0, 0, 0, 0), (65, 3, 0, 27, 11, 3), z0, z0, (37, 1, 0, 0, 0, 0), (65, 3, 0, 24, 11, 0), z0, z0, (37, 1, 0, 0, 0, 0), (65, 3, 0, 25, 11, 1), z0, z0, (110, 3, 1, 83, 3, 3), z0, z0, (37, 1, 0, 0, 0, 0), (32, 1, 0, 0, 0, 0), (67, 3, 0, 25, 11, 1), z0, z0, (37, 1, 0, 0, 0, 0), (65, 3, 0, 27, 11, 3), z0, z0, (66, 3, 0, 36, 7, 7), z0, z0, (44, 3, 0, 32, 0, 0), z0, z0, (32, 1, -1, 0, 0, 0), (100, 1, 0, 0, 0, 0), (37, 1, 0, 0, 0, 0), (65, 3, 0, 26, 11, 2), z0, z0, (37, 1, 0, 0, 0, 0), (65, 3, 0, 27, 11, 3), z0, z0, (110, 3, 1, 36, 2, 4), z0, z0, (37, 1, 0, 0, 0, 0), (65, 3, 0, 28, 11, 4), z0, z0, (110, 3, 1, 106, 1, 5), z0, z0, (37, 1, 0, 0, 0, 0), (65, 3, 0, 26, 11, 2), z0, z0, (66, 3, 0, 21, 3, 3), z0, z0, (100, 1, 0, 0, 0, 0)]
def P_Ow_table : PM := (11, ⟨"OneWaySpell", "table", "()I"⟩, prog_1_method_4_code, 1, some .int, 1, 0, (395, 174, 393, 394), C_Ow_table)
def C_Ow_fault : List PI := [(36, 1, 0, 1, 0, 0), (46, 3, 0, 12, 0, 0), z0, z0, (37, 1, 0, 0, 0, 0), (65, 3, 0, 27, 11, 3), z0, z0, (66, 3, 0, 36, 7, 7), z0, z0, (100, 1, 0, 0, 0, 0), (36, 1, 0, 1, 0, 0), (32, 1, 1, 0, 0, 0), (47, 3, 0, 27, 0, 0), z0, z0, (37, 1, 0, 0, 0, 0), (65, 3, 0, 27, 11, 3), z0, z0, (66, 3, 0, 37, 7, 8), z0, z0, (56, 3, 0, 28, 0, 0), z0, z0, (32, 1, -1, 0, 0, 0), (100, 1, 0, 0, 0, 0)]
def P_Ow_fault : PM := (11, ⟨"OneWaySpell", "fault", "(I)I"⟩, prog_1_method_5_code, 2, some .int, 1, 1, (444, 174, 442, 443), C_Ow_fault)
def C_Ow_group : List PI := [(37, 1, 0, 0, 0, 0), (65, 3, 0, 26, 11, 2), z0, z0, (36, 1, 0, 1, 0, 0), (110, 3, 1, 34, 2, 6), z0, z0, (46, 3, 0, 13, 0, 0), z0, z0, (32, 1, -1, 0, 0, 0), (100, 1, 0, 0, 0, 0), (36, 1, 0, 2, 0, 0), (77, 26, 0, 0, 0, 0), z0, z0, z0, z0, z0, z0, z0, z0, z0, z0, z0, z0, z0, z0, z0, z0, z0, z0, z0, z0, z0, z0, z0, z0, z0, (37, 1, 0, 0, 0, 0), (65, 3, 0, 26, 11, 2), z0, z0, (66, 3, 0, 14, 3, 2), z0, z0, (36, 1, 0, 1, 0, 0), (58, 1, 0, 0, 0, 0), (100, 1, 0, 0, 0, 0), (37, 1, 0, 0, 0, 0), (65, 3, 0, 26, 11, 2), z0, z0, (66, 3, 0, 12, 3, 1), z0, z0, (36, 1, 0, 1, 0, 0), (58, 1, 0, 0, 0, 0), (100, 1, 0, 0, 0, 0), (37, 1, 0, 0, 0, 0), (65, 3, 0, 26, 11, 2), z0, z0, (36, 1, 0, 1, 0, 0), (110, 3, 1, 35, 2, 7), z0, z0, (44, 3, 0, 75, 0, 0), z0, z0, (32, 1, 0, 0, 0, 0), (56, 3, 0, 76, 0, 0), z0, z0, (32, 1, 1, 0, 0, 0), (100, 1, 0, 0, 0, 0), (36, 1, 0, 2, 0, 0), (32, 2, 10, 0, 0, 0), z0, (51, 3, 0, 87, 0, 0), z0, z0, (32, 1, -1, 0, 0, 0), (56, 3, 0, 112, 0, 0), z0, z0, (37, 1, 0, 0, 0, 0), (65, 3, 0, 26, 11, 2), z0, z0, (66, 3, 0, 4, 3, 0), z0, z0, (36, 1, 0, 1, 0, 0), (59, 1, 0, 0, 0, 0), (37, 1, 0, 0, 0, 0), (65, 3, 0, 26, 11, 2), z0, z0, (66, 3, 0, 12, 3, 1), z0, z0, (36, 1, 0, 1, 0, 0), (58, 1, 0, 0, 0, 0), (36, 1, 0, 2, 0, 0), (32, 2, 10, 0, 0, 0), z0, (2, 1, 0, 0, 0, 0), (110, 3, 0, 165, 3, 15), z0, z0, (100, 1, 0, 0, 0, 0)]
def P_Ow_group : PM := (11, ⟨"OneWaySpell", "group", "(II)I"⟩, prog_1_method_6_code, 3, some .int, 1, 2, (448, 174, 446, 447), C_Ow_group)
def C_Ow_about : List PI := [(36, 1, 0, 1, 0, 0), (77, 51, 0, 1, 0, 0), z0, z0, z0, z0, z0, z0, z0, z0, z0, z0, z0, z0, z0, z0, z0, z0, z0, z0, z0, z0, z0, z0, z0, z0, z0, z0, z0, z0, z0, z0, z0, z0, z0, z0, z0, z0, z0, z0, z0, z0, z0, z0, z0, z0, z0, z0, z0, z0, z0, z0, (37, 1, 0, 0, 0, 0), (65, 3, 0, 26, 11, 2), z0, z0, (66, 3, 0, 24, 3, 4), z0, z0, (100, 1, 0, 0, 0, 0), (37, 1, 0, 0, 0, 0), (65, 3, 0, 26, 11, 2), z0, z0, (66, 3, 0, 21, 3, 3), z0, z0, (100, 1, 0, 0, 0, 0), (37, 1, 0, 0, 0, 0), (65, 3, 0, 26, 11, 2), z0, z0, (66, 3, 0, 25, 3, 5), z0, z0, (100, 1, 0, 0, 0, 0), (37, 1, 0, 0, 0, 0), (65, 3, 0, 26, 11, 2), z0, z0, (110, 3, 1, 42, 1, 8), z0, z0, (100, 1, 0, 0, 0, 0), (37, 1, 0, 0, 0, 0), (65, 3, 0, 28, 11, 4), z0, z0, (66, 3, 0, 41, 10, 1), z0, z0, (100, 1, 0, 0, 0, 0), (37, 1, 0, 0, 0, 0), (65, 3, 0, 26, 11, 2), z0, z0, (66, 3, 0, 30, 3, 9), z0, z0, (100, 1, 0, 0, 0, 0), (37, 1, 0, 0, 0, 0), (65, 3, 0, 25, 11, 1), z0, z0, (100, 1, 0, 0, 0, 0), (37, 1, 0, 0, 0, 0), (65, 3, 0, 26, 11, 2), z0, z0, (110, 3, 1, 44, 1, 10), z0, z0, (44, 3, 0, 119, 0, 0), z0, z0, (32, 1, 1, 0, 0, 0), (56, 3, 0, 120, 0, 0), z0, z0, (32, 1, 0, 0, 0, 0), (100, 1, 0, 0, 0, 0), (37, 1, 0, 0, 0, 0), (65, 3, 0, 26, 11, 2), z0, z0, (110, 3, 1, 45, 1, 12), z0, z0, (44, 3, 0, 135, 0, 0), z0, z0, (32, 1, 1, 0, 0, 0), (56, 3, 0, 136, 0, 0), z0, z0, (32, 1, 0, 0, 0, 0), (100, 1, 0, 0, 0, 0), (32, 1, -1, 0, 0, 0), (100, 1, 0, 0, 0, 0)]
def P_Ow_about : PM := (11, ⟨"OneWaySpell", "about", "(I)I"⟩, prog_1_method_7_code, 2, some .int, 1, 1, (467, 174, 465, 466), C_Ow_about)
def C_Ow_meets : List PI := [(37, 1, 0, 0, 0, 0), (65, 3, 0, 26, 11, 2), z0, z0, (36, 1, 0, 1, 0, 0), (110, 3, 1, 34, 2, 6), z0, z0, (44, 3, 0, 34, 0, 0), z0, z0, (37, 1, 0, 0, 0, 0), (65, 3, 0, 26, 11, 2), z0, z0, (36, 1, 0, 2, 0, 0), (110, 3, 1, 34, 2, 6), z0, z0, (44, 3, 0, 34, 0, 0), z0, z0, (37, 1, 0, 0, 0, 0), (65, 3, 0, 26, 11, 2), z0, z0, (36, 1, 0, 1, 0, 0), (36, 1, 0, 2, 0, 0), (110, 3, 1, 46, 3, 14), z0, z0, (56, 3, 0, 35, 0, 0), z0, z0, (32, 1, -1, 0, 0, 0), (100, 1, 0, 0, 0, 0)]
def P_Ow_meets : PM := (11, ⟨"OneWaySpell", "meets", "(II)I"⟩, prog_1_method_8_code, 3, some .int, 1, 2, (505, 174, 503, 504), C_Ow_meets)
def C_Ow_parts : List PI := [(37, 1, 0, 0, 0, 0), (110, 3, 0, 153, 1, 24), z0, z0, (66, 3, 0, 48, 6, 6), z0, z0, (32, 1, -1, 0, 0, 0), (47, 3, 0, 15, 0, 0), z0, z0, (32, 1, 1, 0, 0, 0), (56, 3, 0, 16, 0, 0), z0, z0, (32, 1, 0, 0, 0, 0), (100, 1, 0, 0, 0, 0)]
def P_Ow_parts : PM := (11, ⟨"OneWaySpell", "parts", "()I"⟩, prog_1_method_9_code, 1, some .int, 1, 0, (517, 174, 515, 516), C_Ow_parts)
def C_Ow_tails : List PI := [(37, 1, 0, 0, 0, 0), (110, 3, 0, 153, 1, 24), z0, z0, (41, 1, 0, 2, 0, 0), (36, 1, 0, 1, 0, 0), (32, 1, -1, 0, 0, 0), (47, 3, 0, 17, 0, 0), z0, z0, (37, 1, 0, 2, 0, 0), (66, 3, 0, 46, 6, 5), z0, z0, (56, 3, 0, 22, 0, 0), z0, z0, (37, 1, 0, 2, 0, 0), (36, 1, 0, 1, 0, 0), (110, 3, 1, 76, 2, 23), z0, z0, (100, 1, 0, 0, 0, 0)]
def P_Ow_tails : PM := (11, ⟨"OneWaySpell", "tails", "(I)I"⟩, prog_1_method_10_code, 3, some .int, 1, 1, (610, 174, 608, 609), C_Ow_tails)
def C_Ow_tail : List PI := [(37, 1, 0, 0, 0, 0), (110, 3, 0, 153, 1, 24), z0, z0, (41, 2, 0, 4, 0, 0), z0, (37, 2, 0, 4, 0, 0), z0, (36, 1, 0, 1, 0, 0), (36, 1, 0, 2, 0, 0), (110, 3, 1, 77, 3, 24), z0, z0, (40, 2, 0, 5, 0, 0), z0, (36, 2, 0, 5, 0, 0), z0, (32, 1, -1, 0, 0, 0), (47, 3, 0, 25, 0, 0), z0, z0, (32, 1, -1, 0, 0, 0), (56, 3, 0, 45, 0, 0), z0, z0, (37, 2, 0, 4, 0, 0), z0, (66, 3, 0, 44, 6, 0), z0, z0, (36, 2, 0, 5, 0, 0), z0, (59, 1, 0, 0, 0, 0), (37, 2, 0, 4, 0, 0), z0, (66, 3, 0, 45, 6, 1), z0, z0, (36, 2, 0, 5, 0, 0), z0, (58, 1, 0, 0, 0, 0), (36, 1, 0, 3, 0, 0), (110, 3, 0, 165, 3, 15), z0, z0, (100, 1, 0, 0, 0, 0)]
def P_Ow_tail : PM := (11, ⟨"OneWaySpell", "tail", "(III)I"⟩, prog_1_method_11_code, 6, some .int, 1, 3, (618, 174, 616, 617), C_Ow_tail)
def C_Ow_doubt : List PI := [(37, 1, 0, 0, 0, 0), (110, 3, 0, 153, 1, 24), z0, z0, (66, 3, 0, 48, 6, 6), z0, z0, (100, 1, 0, 0, 0, 0)]
def P_Ow_doubt : PM := (11, ⟨"OneWaySpell", "doubt", "()I"⟩, prog_1_method_12_code, 1, some .int, 1, 0, (627, 174, 625, 626), C_Ow_doubt)
def C_Ow_witness : List PI := [(37, 1, 0, 0, 0, 0), (65, 3, 0, 31, 11, 7), z0, z0, (57, 3, 0, 18, 0, 0), z0, z0, (37, 1, 0, 0, 0, 0), (70, 3, 0, 632, 9, 0), z0, z0, (27, 1, 0, 0, 0, 0), (110, 3, 1, 99, 1, 25), z0, z0, (67, 3, 0, 31, 11, 7), z0, z0, (37, 1, 0, 0, 0, 0), (65, 3, 0, 31, 11, 7), z0, z0, (37, 1, 0, 0, 0, 0), (110, 3, 0, 152, 1, 36), z0, z0, (110, 3, 1, 100, 2, 30), z0, z0, (46, 3, 0, 34, 0, 0), z0, z0, (32, 1, -1, 0, 0, 0), (100, 1, 0, 0, 0, 0), (37, 1, 0, 0, 0, 0), (65, 3, 0, 31, 11, 7), z0, z0, (37, 1, 0, 0, 0, 0), (65, 3, 0, 28, 11, 4), z0, z0, (110, 3, 1, 104, 2, 34), z0, z0, (37, 1, 0, 0, 0, 0), (65, 3, 0, 28, 11, 4), z0, z0, (66, 3, 0, 41, 10, 1), z0, z0, (100, 1, 0, 0, 0, 0)]
def P_Ow_witness : PM := (11, ⟨"OneWaySpell", "witness", "()I"⟩, prog_1_method_13_code, 1, some .int, 1, 0, (631, 174, 629, 630), C_Ow_witness)
def C_Ow_look : List PI := [(37, 1, 0, 0, 0, 0), (110, 3, 0, 153, 1, 24), z0, z0, (37, 1, 0, 0, 0, 0), (65, 3, 0, 26, 11, 2), z0, z0, (110, 3, 1, 78, 2, 37), z0, z0, (100, 1, 0, 0, 0, 0)]
def P_Ow_look : PM := (11, ⟨"OneWaySpell", "look", "()I"⟩, prog_1_method_14_code, 1, some .int, 1, 0, (792, 174, 790, 791), C_Ow_look)
def C_Ow_share : List PI := [(36, 1, 0, 1, 0, 0), (44, 3, 0, 13, 0, 0), z0, z0, (36, 1, 0, 1, 0, 0), (32, 1, 1, 0, 0, 0), (45, 3, 0, 13, 0, 0), z0, z0, (35, 3, -1, 818, 0, 0), z0, z0, (101, 1, 0, 0, 0, 0), (37, 1, 0, 0, 0, 0), (65, 3, 0, 26, 11, 2), z0, z0, (110, 3, 1, 42, 1, 8), z0, z0, (40, 1, 0, 2, 0, 0), (33, 1, 0, 0, 0, 0), (42, 1, 0, 3, 0, 0), (32, 1, 0, 0, 0, 0), (40, 2, 0, 5, 0, 0), z0, (36, 2, 0, 5, 0, 0), z0, (37, 1, 0, 0, 0, 0), (65, 3, 0, 26, 11, 2), z0, z0, (66, 3, 0, 21, 3, 3), z0, z0, (51, 3, 0, 77, 0, 0), z0, z0, (37, 1, 0, 0, 0, 0), (65, 3, 0, 26, 11, 2), z0, z0, (36, 2, 0, 5, 0, 0), z0, (110, 3, 1, 35, 2, 7), z0, z0, (44, 3, 0, 71, 0, 0), z0, z0, (38, 1, 0, 3, 0, 0), (36, 1, 0, 2, 0, 0), (24, 1, 0, 0, 0, 0), (32, 2, 7, 0, 0, 0), z0, (37, 1, 0, 0, 0, 0), (65, 3, 0, 26, 11, 2), z0, z0, (66, 3, 0, 12, 3, 1), z0, z0, (36, 2, 0, 5, 0, 0), z0, (58, 1, 0, 0, 0, 0), (2, 1, 0, 0, 0, 0), (110, 3, 0, 159, 2, 53), z0, z0, (12, 1, 0, 0, 0, 0), (42, 1, 0, 3, 0, 0), (43, 3, 1, 5, 0, 0), z0, z0, (56, 3, 0, 26, 0, 0), z0, z0, (36, 1, 0, 2, 0, 0), (24, 1, 0, 0, 0, 0), (32, 2, 7, 0, 0, 0), z0, (110, 3, 0, 159, 2, 53), z0, z0, (42, 2, 0, 5, 0, 0), z0, (38, 2, 0, 5, 0, 0), z0, (38, 1, 0, 3, 0, 0), (110, 3, 0, 160, 2, 54), z0, z0, (42, 2, 0, 7, 0, 0), z0, (38, 2, 0, 7, 0, 0), z0, (33, 1, 1, 0, 0, 0), (22, 1, 0, 0, 0, 0), (50, 3, 0, 105, 0, 0), z0, z0, (35, 3, -1, 818, 0, 0), z0, z0, (101, 1, 0, 0, 0, 0), (36, 1, 0, 1, 0, 0), (46, 3, 0, 113, 0, 0), z0, z0, (38, 1, 0, 3, 0, 0), (56, 3, 0, 115, 0, 0), z0, z0, (38, 2, 0, 5, 0, 0), z0, (38, 2, 0, 7, 0, 0), z0, (18, 1, 0, 0, 0, 0), (101, 1, 0, 0, 0, 0)]
def P_Ow_share : PM := (11, ⟨"OneWaySpell", "share", "(I)J"⟩, prog_1_method_15_code, 9, some .long, 1, 1, (817, 174, 815, 816), C_Ow_share)
def C_Ow_word : List PI := [(37, 1, 0, 0, 0, 0), (65, 3, 0, 25, 11, 1), z0, z0, (40, 1, 0, 1, 0, 0), (37, 1, 0, 0, 0, 0), (32, 1, 0, 0, 0, 0), (67, 3, 0, 25, 11, 1), z0, z0, (36, 1, 0, 1, 0, 0), (32, 2, 40, 0, 0, 0), z0, (55, 3, 0, 18, 0, 0), z0, z0, (32, 1, -1, 0, 0, 0), (100, 1, 0, 0, 0, 0), (32, 1, 0, 0, 0, 0), (40, 1, 0, 2, 0, 0), (36, 1, 0, 2, 0, 0), (36, 1, 0, 1, 0, 0), (51, 3, 0, 55, 0, 0), z0, z0, (37, 1, 0, 0, 0, 0), (65, 3, 0, 24, 11, 0), z0, z0, (36, 1, 0, 2, 0, 0), (60, 1, 0, 0, 0, 0), (32, 2, 96, 0, 0, 0), z0, (55, 3, 0, 47, 0, 0), z0, z0, (37, 1, 0, 0, 0, 0), (65, 3, 0, 24, 11, 0), z0, z0, (36, 1, 0, 2, 0, 0), (60, 1, 0, 0, 0, 0), (32, 2, 123, 0, 0, 0), z0, (55, 3, 0, 49, 0, 0), z0, z0, (32, 1, -1, 0, 0, 0), (100, 1, 0, 0, 0, 0), (43, 3, 1, 2, 0, 0), z0, z0, (56, 3, 0, 20, 0, 0), z0, z0, (37, 1, 0, 0, 0, 0), (65, 3, 0, 28, 11, 4), z0, z0, (110, 3, 1, 106, 1, 5), z0, z0, (32, 1, 0, 0, 0, 0), (40, 1, 0, 2, 0, 0), (36, 1, 0, 2, 0, 0), (36, 1, 0, 1, 0, 0), (51, 3, 0, 91, 0, 0), z0, z0, (37, 1, 0, 0, 0, 0), (65, 3, 0, 28, 11, 4), z0, z0, (37, 1, 0, 0, 0, 0), (65, 3, 0, 24, 11, 0), z0, z0, (36, 1, 0, 2, 0, 0), (60, 1, 0, 0, 0, 0), (32, 2, 96, 0, 0, 0), z0, (2, 1, 0, 0, 0, 0), (110, 3, 1, 107, 2, 39), z0, z0, (43, 3, 1, 2, 0, 0), z0, z0, (56, 3, 0, 64, 0, 0), z0, z0, (36, 1, 0, 1, 0, 0), (100, 1, 0, 0, 0, 0)]
def P_Ow_word : PM := (11, ⟨"OneWaySpell", "word", "()I"⟩, prog_1_method_16_code, 3, some .int, 1, 0, (828, 174, 826, 827), C_Ow_word)
def C_Ow_letter : List PI := [(36, 1, 0, 1, 0, 0), (48, 3, 0, 30, 0, 0), z0, z0, (36, 1, 0, 1, 0, 0), (37, 1, 0, 0, 0, 0), (65, 3, 0, 28, 11, 4), z0, z0, (66, 3, 0, 41, 10, 1), z0, z0, (51, 3, 0, 30, 0, 0), z0, z0, (37, 1, 0, 0, 0, 0), (65, 3, 0, 28, 11, 4), z0, z0, (66, 3, 0, 39, 10, 0), z0, z0, (36, 1, 0, 1, 0, 0), (60, 1, 0, 0, 0, 0), (32, 2, 96, 0, 0, 0), z0, (1, 1, 0, 0, 0, 0), (56, 3, 0, 31, 0, 0), z0, z0, (32, 1, -1, 0, 0, 0), (100, 1, 0, 0, 0, 0)]
def P_Ow_letter : PM := (11, ⟨"OneWaySpell", "letter", "(I)I"⟩, prog_1_method_17_code, 2, some .int, 1, 1, (833, 174, 831, 832), C_Ow_letter)
def C_Ow_readings : List PI := [(37, 1, 0, 0, 0, 0), (65, 3, 0, 28, 11, 4), z0, z0, (37, 1, 0, 0, 0, 0), (65, 3, 0, 26, 11, 2), z0, z0, (110, 3, 1, 111, 2, 40), z0, z0, (37, 1, 0, 0, 0, 0), (65, 3, 0, 28, 11, 4), z0, z0, (66, 3, 0, 43, 10, 2), z0, z0, (32, 1, 0, 0, 0, 0), (59, 1, 0, 0, 0, 0), (101, 1, 0, 0, 0, 0)]
def P_Ow_readings : PM := (11, ⟨"OneWaySpell", "readings", "()J"⟩, prog_1_method_18_code, 1, some .long, 1, 0, (837, 174, 835, 836), C_Ow_readings)
def C_Ow_reading : List PI := [(37, 1, 0, 0, 0, 0), (65, 3, 0, 28, 11, 4), z0, z0, (37, 1, 0, 0, 0, 0), (65, 3, 0, 26, 11, 2), z0, z0, (36, 1, 0, 1, 0, 0), (36, 1, 0, 2, 0, 0), (110, 3, 1, 113, 4, 43), z0, z0, (100, 1, 0, 0, 0, 0)]
def P_Ow_reading : PM := (11, ⟨"OneWaySpell", "reading", "(II)I"⟩, prog_1_method_19_code, 3, some .int, 1, 2, (859, 174, 857, 858), C_Ow_reading)
def C_Ow_sounds : List PI := [(37, 1, 0, 0, 0, 0), (65, 3, 0, 28, 11, 4), z0, z0, (37, 1, 0, 0, 0, 0), (65, 3, 0, 26, 11, 2), z0, z0, (110, 3, 1, 115, 2, 44), z0, z0, (100, 1, 0, 0, 0, 0)]
def P_Ow_sounds : PM := (11, ⟨"OneWaySpell", "sounds", "()I"⟩, prog_1_method_20_code, 1, some .int, 1, 0, (872, 174, 870, 871), C_Ow_sounds)
def C_Ow_reads : List PI := [(36, 1, 0, 1, 0, 0), (110, 3, 1, 49, 1, 45), z0, z0, (44, 3, 0, 26, 0, 0), z0, z0, (37, 1, 0, 0, 0, 0), (110, 3, 0, 156, 1, 66), z0, z0, (37, 1, 0, 0, 0, 0), (65, 3, 0, 28, 11, 4), z0, z0, (37, 1, 0, 0, 0, 0), (65, 3, 0, 26, 11, 2), z0, z0, (36, 1, 0, 1, 0, 0), (110, 3, 1, 52, 4, 47), z0, z0, (56, 3, 0, 28, 0, 0), z0, z0, (32, 2, -2, 0, 0, 0), z0, (100, 1, 0, 0, 0, 0)]
def P_Ow_reads : PM := (11, ⟨"OneWaySpell", "reads", "(I)I"⟩, prog_1_method_21_code, 2, some .int, 1, 1, (881, 174, 879, 880), C_Ow_reads)
def C_Ow_took : List PI := [(36, 1, 0, 1, 0, 0), (110, 3, 1, 49, 1, 45), z0, z0, (44, 3, 0, 27, 0, 0), z0, z0, (37, 1, 0, 0, 0, 0), (110, 3, 0, 156, 1, 66), z0, z0, (37, 1, 0, 0, 0, 0), (65, 3, 0, 28, 11, 4), z0, z0, (37, 1, 0, 0, 0, 0), (65, 3, 0, 26, 11, 2), z0, z0, (36, 1, 0, 1, 0, 0), (36, 1, 0, 2, 0, 0), (110, 3, 1, 53, 5, 49), z0, z0, (56, 3, 0, 28, 0, 0), z0, z0, (32, 1, -1, 0, 0, 0), (100, 1, 0, 0, 0, 0)]
def P_Ow_took : PM := (11, ⟨"OneWaySpell", "took", "(II)I"⟩, prog_1_method_22_code, 3, some .int, 1, 2, (925, 174, 923, 924), C_Ow_took)
def C_Ow_fool : List PI := [(36, 1, 0, 1, 0, 0), (110, 3, 1, 49, 1, 45), z0, z0, (46, 3, 0, 10, 0, 0), z0, z0, (32, 2, -2, 0, 0, 0), z0, (100, 1, 0, 0, 0, 0), (37, 1, 0, 0, 0, 0), (110, 3, 0, 156, 1, 66), z0, z0, (41, 1, 0, 2, 0, 0), (37, 1, 0, 2, 0, 0), (37, 1, 0, 0, 0, 0), (65, 3, 0, 26, 11, 2), z0, z0, (36, 1, 0, 1, 0, 0), (110, 3, 1, 54, 3, 50), z0, z0, (46, 3, 0, 29, 0, 0), z0, z0, (32, 1, -1, 0, 0, 0), (100, 1, 0, 0, 0, 0), (37, 1, 0, 2, 0, 0), (37, 1, 0, 0, 0, 0), (65, 3, 0, 28, 11, 4), z0, z0, (110, 3, 1, 60, 2, 56), z0, z0, (37, 1, 0, 0, 0, 0), (65, 3, 0, 28, 11, 4), z0, z0, (66, 3, 0, 41, 10, 1), z0, z0, (100, 1, 0, 0, 0, 0)]
def P_Ow_fool : PM := (11, ⟨"OneWaySpell", "fool", "(I)I"⟩, prog_1_method_23_code, 3, some .int, 1, 1, (933, 174, 931, 932), C_Ow_fool)
def C_Ow_goes : List PI := [(37, 1, 0, 0, 0, 0), (65, 3, 0, 28, 11, 4), z0, z0, (37, 1, 0, 0, 0, 0), (65, 3, 0, 26, 11, 2), z0, z0, (110, 3, 1, 116, 2, 59), z0, z0, (100, 1, 0, 0, 0, 0)]
def P_Ow_goes : PM := (11, ⟨"OneWaySpell", "goes", "()I"⟩, prog_1_method_24_code, 1, some .int, 1, 0, (975, 174, 973, 974), C_Ow_goes)
def C_Ow_spell : List PI := [(37, 1, 0, 0, 0, 0), (65, 3, 0, 33, 11, 9), z0, z0, (57, 3, 0, 18, 0, 0), z0, z0, (37, 1, 0, 0, 0, 0), (70, 3, 0, 991, 5, 0), z0, z0, (27, 1, 0, 0, 0, 0), (110, 3, 1, 61, 1, 60), z0, z0, (67, 3, 0, 33, 11, 9), z0, z0, (37, 1, 0, 0, 0, 0), (65, 3, 0, 33, 11, 9), z0, z0, (37, 1, 0, 0, 0, 0), (65, 3, 0, 26, 11, 2), z0, z0, (36, 1, 0, 1, 0, 0), (36, 1, 0, 2, 0, 0), (36, 1, 0, 3, 0, 0), (36, 2, 0, 4, 0, 0), z0, (110, 3, 1, 62, 6, 61), z0, z0, (44, 3, 0, 51, 0, 0), z0, z0, (37, 1, 0, 0, 0, 0), (65, 3, 0, 33, 11, 9), z0, z0, (37, 1, 0, 0, 0, 0), (65, 3, 0, 26, 11, 2), z0, z0, (110, 3, 1, 63, 2, 62), z0, z0, (46, 3, 0, 53, 0, 0), z0, z0, (32, 1, -1, 0, 0, 0), (100, 1, 0, 0, 0, 0), (37, 1, 0, 0, 0, 0), (65, 3, 0, 33, 11, 9), z0, z0, (37, 1, 0, 0, 0, 0), (65, 3, 0, 26, 11, 2), z0, z0, (37, 1, 0, 0, 0, 0), (65, 3, 0, 28, 11, 4), z0, z0, (110, 3, 1, 67, 3, 66), z0, z0, (37, 1, 0, 0, 0, 0), (65, 3, 0, 28, 11, 4), z0, z0, (66, 3, 0, 41, 10, 1), z0, z0, (100, 1, 0, 0, 0, 0)]
def P_Ow_spell : PM := (11, ⟨"OneWaySpell", "spell", "(IIII)I"⟩, prog_1_method_25_code, 5, some .int, 1, 4, (990, 174, 988, 989), C_Ow_spell)
def C_Ow_drawn : List PI := [(37, 1, 0, 0, 0, 0), (65, 3, 0, 26, 11, 2), z0, z0, (66, 3, 0, 25, 3, 5), z0, z0, (110, 3, 0, 281, 1, 86), z0, z0, (40, 1, 0, 3, 0, 0), (36, 1, 0, 3, 0, 0), (32, 1, 1, 0, 0, 0), (49, 3, 0, 26, 0, 0), z0, z0, (36, 1, 0, 2, 0, 0), (32, 1, 1, 0, 0, 0), (49, 3, 0, 26, 0, 0), z0, z0, (36, 1, 0, 2, 0, 0), (32, 1, 5, 0, 0, 0), (55, 3, 0, 28, 0, 0), z0, z0, (32, 1, -1, 0, 0, 0), (100, 1, 0, 0, 0, 0), (37, 1, 0, 0, 0, 0), (65, 3, 0, 28, 11, 4), z0, z0, (110, 3, 1, 106, 1, 5), z0, z0, (36, 1, 0, 1, 0, 0), (40, 2, 0, 4, 0, 0), z0, (32, 1, 0, 0, 0, 0), (40, 2, 0, 5, 0, 0), z0, (36, 2, 0, 5, 0, 0), z0, (36, 1, 0, 2, 0, 0), (51, 3, 0, 113, 0, 0), z0, z0, (36, 2, 0, 4, 0, 0), z0, (34, 2, 1103515245, 1058, 0, 0), z0, (3, 1, 0, 0, 0, 0), (32, 3, 12345, 0, 0, 0), z0, z0, (1, 1, 0, 0, 0, 0), (40, 2, 0, 4, 0, 0), z0, (37, 1, 0, 0, 0, 0), (65, 3, 0, 26, 11, 2), z0, z0, (36, 2, 0, 4, 0, 0), z0, (32, 2, 16, 0, 0, 0), z0, (9, 1, 0, 0, 0, 0), (36, 1, 0, 3, 0, 0), (11, 1, 0, 0, 0, 0), (110, 3, 1, 47, 2, 69), z0, z0, (40, 2, 0, 6, 0, 0), z0, (36, 2, 0, 6, 0, 0), z0, (32, 1, -1, 0, 0, 0), (45, 3, 0, 107, 0, 0), z0, z0, (37, 1, 0, 0, 0, 0), (65, 3, 0, 28, 11, 4), z0, z0, (37, 1, 0, 0, 0, 0), (65, 3, 0, 26, 11, 2), z0, z0, (66, 3, 0, 4, 3, 0), z0, z0, (36, 2, 0, 6, 0, 0), z0, (59, 1, 0, 0, 0, 0), (37, 1, 0, 0, 0, 0), (65, 3, 0, 26, 11, 2), z0, z0, (66, 3, 0, 12, 3, 1), z0, z0, (36, 2, 0, 6, 0, 0), z0, (58, 1, 0, 0, 0, 0), (110, 3, 1, 108, 3, 70), z0, z0, (43, 3, 1, 5, 0, 0), z0, z0, (56, 3, 0, 41, 0, 0), z0, z0, (37, 1, 0, 0, 0, 0), (65, 3, 0, 28, 11, 4), z0, z0, (66, 3, 0, 41, 10, 1), z0, z0, (100, 1, 0, 0, 0, 0)]
def P_Ow_drawn : PM := (11, ⟨"OneWaySpell", "drawn", "(II)I"⟩, prog_1_method_26_code, 7, some .int, 1, 2, (1056, 174, 1054, 1055), C_Ow_drawn)
def C_Ow_words : List PI := [(36, 1, 0, 1, 0, 0), (48, 3, 0, 19, 0, 0), z0, z0, (36, 1, 0, 1, 0, 0), (32, 2, 10, 0, 0, 0), z0, (53, 3, 0, 19, 0, 0), z0, z0, (36, 1, 0, 2, 0, 0), (48, 3, 0, 19, 0, 0), z0, z0, (36, 1, 0, 2, 0, 0), (32, 1, 2, 0, 0, 0), (55, 3, 0, 23, 0, 0), z0, z0, (35, 3, -1, 818, 0, 0), z0, z0, (101, 1, 0, 0, 0, 0), (37, 1, 0, 0, 0, 0), (110, 3, 0, 154, 1, 88), z0, z0, (36, 1, 0, 1, 0, 0), (36, 1, 0, 2, 0, 0), (110, 3, 1, 22, 3, 76), z0, z0, (101, 1, 0, 0, 0, 0)]
def P_Ow_words : PM := (11, ⟨"OneWaySpell", "words", "(II)J"⟩, prog_1_method_27_code, 3, some .long, 1, 2, (1067, 174, 1065, 1066), C_Ow_words)
def C_Ow_nth : List PI := [(36, 1, 0, 1, 0, 0), (48, 3, 0, 16, 0, 0), z0, z0, (36, 1, 0, 1, 0, 0), (32, 2, 10, 0, 0, 0), z0, (53, 3, 0, 16, 0, 0), z0, z0, (38, 1, 0, 2, 0, 0), (33, 1, 0, 0, 0, 0), (22, 1, 0, 0, 0, 0), (50, 3, 0, 18, 0, 0), z0, z0, (32, 1, 0, 0, 0, 0), (100, 1, 0, 0, 0, 0), (37, 1, 0, 0, 0, 0), (110, 3, 0, 154, 1, 88), z0, z0, (37, 1, 0, 0, 0, 0), (65, 3, 0, 28, 11, 4), z0, z0, (36, 1, 0, 1, 0, 0), (38, 1, 0, 2, 0, 0), (110, 3, 1, 23, 4, 77), z0, z0, (100, 1, 0, 0, 0, 0)]
def P_Ow_nth : PM := (11, ⟨"OneWaySpell", "nth", "(IJ)Z"⟩, prog_1_method_28_code, 4, some .boolean, 1, 2, (1175, 174, 1173, 1174), C_Ow_nth)
def C_Ow_place : List PI := [(37, 1, 0, 0, 0, 0), (65, 3, 0, 28, 11, 4), z0, z0, (66, 3, 0, 41, 10, 1), z0, z0, (32, 2, 10, 0, 0, 0), z0, (55, 3, 0, 18, 0, 0), z0, z0, (35, 3, -1, 818, 0, 0), z0, z0, (56, 3, 0, 29, 0, 0), z0, z0, (37, 1, 0, 0, 0, 0), (110, 3, 0, 154, 1, 88), z0, z0, (37, 1, 0, 0, 0, 0), (65, 3, 0, 28, 11, 4), z0, z0, (110, 3, 1, 24, 2, 80), z0, z0, (101, 1, 0, 0, 0, 0)]
def P_Ow_place : PM := (11, ⟨"OneWaySpell", "place", "()J"⟩, prog_1_method_29_code, 1, some .long, 1, 0, (1185, 174, 1183, 1184), C_Ow_place)
def C_Ow_borders : List PI := [(36, 1, 0, 1, 0, 0), (32, 1, 1, 0, 0, 0), (49, 3, 0, 10, 0, 0), z0, z0, (36, 1, 0, 1, 0, 0), (32, 1, 4, 0, 0, 0), (55, 3, 0, 14, 0, 0), z0, z0, (32, 1, -1, 0, 0, 0), (56, 3, 0, 22, 0, 0), z0, z0, (37, 1, 0, 0, 0, 0), (110, 3, 0, 155, 1, 101), z0, z0, (36, 1, 0, 1, 0, 0), (110, 3, 1, 11, 2, 83), z0, z0, (100, 1, 0, 0, 0, 0)]
def P_Ow_borders : PM := (11, ⟨"OneWaySpell", "borders", "(I)I"⟩, prog_1_method_30_code, 2, some .int, 1, 1, (1193, 174, 1191, 1192), C_Ow_borders)
def C_Ow_border : List PI := [(37, 1, 0, 0, 0, 0), (110, 3, 0, 155, 1, 101), z0, z0, (41, 2, 0, 4, 0, 0), z0, (37, 2, 0, 4, 0, 0), z0, (36, 1, 0, 1, 0, 0), (36, 1, 0, 2, 0, 0), (110, 3, 1, 12, 3, 84), z0, z0, (40, 2, 0, 5, 0, 0), z0, (36, 2, 0, 5, 0, 0), z0, (32, 1, -1, 0, 0, 0), (47, 3, 0, 25, 0, 0), z0, z0, (32, 1, -1, 0, 0, 0), (56, 3, 0, 37, 0, 0), z0, z0, (37, 2, 0, 4, 0, 0), z0, (36, 2, 0, 5, 0, 0), z0, (110, 3, 1, 13, 2, 85), z0, z0, (36, 1, 0, 1, 0, 0), (36, 1, 0, 3, 0, 0), (110, 3, 0, 165, 3, 15), z0, z0, (100, 1, 0, 0, 0, 0)]
def P_Ow_border : PM := (11, ⟨"OneWaySpell", "border", "(III)I"⟩, prog_1_method_31_code, 6, some .int, 1, 3, (1269, 174, 1267, 1268), C_Ow_border)
def C_Ow_cure : List PI := [(37, 1, 0, 0, 0, 0), (110, 3, 0, 157, 1, 115), z0, z0, (37, 1, 0, 0, 0, 0), (65, 3, 0, 26, 11, 2), z0, z0, (36, 1, 0, 1, 0, 0), (110, 3, 1, 26, 3, 89), z0, z0, (100, 1, 0, 0, 0, 0)]
def P_Ow_cure : PM := (11, ⟨"OneWaySpell", "cure", "(I)I"⟩, prog_1_method_32_code, 2, some .int, 1, 1, (1283, 174, 1281, 1282), C_Ow_cure)
def C_Ow_mend : List PI := [(37, 1, 0, 0, 0, 0), (110, 3, 0, 157, 1, 115), z0, z0, (37, 1, 0, 0, 0, 0), (65, 3, 0, 26, 11, 2), z0, z0, (36, 1, 0, 1, 0, 0), (110, 3, 1, 26, 3, 89), z0, z0, (40, 1, 0, 2, 0, 0), (36, 1, 0, 2, 0, 0), (52, 3, 0, 19, 0, 0), z0, z0, (32, 1, -1, 0, 0, 0), (100, 1, 0, 0, 0, 0), (37, 1, 0, 0, 0, 0), (65, 3, 0, 26, 11, 2), z0, z0, (36, 1, 0, 1, 0, 0), (36, 1, 0, 2, 0, 0), (110, 3, 1, 38, 3, 94), z0, z0, (36, 1, 0, 2, 0, 0), (110, 3, 0, 281, 1, 86), z0, z0, (100, 1, 0, 0, 0, 0)]
def P_Ow_mend : PM := (11, ⟨"OneWaySpell", "mend", "(I)I"⟩, prog_1_method_33_code, 3, some .int, 1, 1, (1377, 174, 1375, 1376), C_Ow_mend)
def C_Ow_out : List PI := [(37, 1, 0, 0, 0, 0), (65, 3, 0, 26, 11, 2), z0, z0, (36, 1, 0, 1, 0, 0), (110, 3, 1, 34, 2, 6), z0, z0, (44, 3, 0, 23, 0, 0), z0, z0, (37, 1, 0, 0, 0, 0), (65, 3, 0, 26, 11, 2), z0, z0, (36, 1, 0, 1, 0, 0), (110, 3, 1, 35, 2, 7), z0, z0, (36, 1, 0, 2, 0, 0), (45, 3, 0, 25, 0, 0), z0, z0, (32, 1, 0, 0, 0, 0), (100, 1, 0, 0, 0, 0), (37, 1, 0, 0, 0, 0), (65, 3, 0, 26, 11, 2), z0, z0, (32, 1, 2, 0, 0, 0), (32, 1, 1, 0, 0, 0), (36, 1, 0, 1, 0, 0), (7, 1, 0, 0, 0, 0), (110, 3, 1, 38, 3, 94), z0, z0, (32, 1, 1, 0, 0, 0), (100, 1, 0, 0, 0, 0)]
def P_Ow_out : PM := (11, ⟨"OneWaySpell", "out", "(IZ)Z"⟩, prog_1_method_34_code, 3, some .boolean, 1, 2, (1386, 174, 1384, 1385), C_Ow_out)
def C_Ow_undo : List PI := [(37, 1, 0, 0, 0, 0), (65, 3, 0, 26, 11, 2), z0, z0, (110, 3, 1, 39, 1, 95), z0, z0, (100, 1, 0, 0, 0, 0)]
def P_Ow_undo : PM := (11, ⟨"OneWaySpell", "undo", "()Z"⟩, prog_1_method_35_code, 1, some .boolean, 1, 0, (1390, 174, 1388, 1389), C_Ow_undo)
def C_Ow_freshTree : List PI := [(37, 1, 0, 0, 0, 0), (65, 3, 0, 29, 11, 5), z0, z0, (57, 3, 0, 18, 0, 0), z0, z0, (37, 1, 0, 0, 0, 0), (70, 3, 0, 673, 8, 0), z0, z0, (27, 1, 0, 0, 0, 0), (110, 3, 1, 91, 1, 26), z0, z0, (67, 3, 0, 29, 11, 5), z0, z0, (37, 1, 0, 0, 0, 0), (65, 3, 0, 29, 11, 5), z0, z0, (66, 3, 0, 62, 8, 10), z0, z0, (37, 1, 0, 0, 0, 0), (65, 3, 0, 26, 11, 2), z0, z0, (66, 3, 0, 29, 3, 6), z0, z0, (45, 3, 0, 46, 0, 0), z0, z0, (37, 1, 0, 0, 0, 0), (65, 3, 0, 29, 11, 5), z0, z0, (37, 1, 0, 0, 0, 0), (65, 3, 0, 26, 11, 2), z0, z0, (110, 3, 1, 92, 2, 27), z0, z0, (37, 1, 0, 0, 0, 0), (65, 3, 0, 29, 11, 5), z0, z0, (102, 1, 0, 0, 0, 0)]
def P_Ow_freshTree : PM := (11, ⟨"OneWaySpell", "freshTree", "()LOneWaySpell$Tree;"⟩, prog_1_method_36_code, 1, some (.object "OneWaySpell$Tree"), 1, 0, (672, 174, 671, 26), C_Ow_freshTree)
def C_Ow_freshTails : List PI := [(37, 1, 0, 0, 0, 0), (65, 3, 0, 30, 11, 6), z0, z0, (57, 3, 0, 18, 0, 0), z0, z0, (37, 1, 0, 0, 0, 0), (70, 3, 0, 522, 6, 0), z0, z0, (27, 1, 0, 0, 0, 0), (110, 3, 1, 68, 1, 16), z0, z0, (67, 3, 0, 30, 11, 6), z0, z0, (37, 1, 0, 0, 0, 0), (65, 3, 0, 30, 11, 6), z0, z0, (66, 3, 0, 50, 6, 8), z0, z0, (37, 1, 0, 0, 0, 0), (65, 3, 0, 26, 11, 2), z0, z0, (66, 3, 0, 29, 3, 6), z0, z0, (45, 3, 0, 47, 0, 0), z0, z0, (37, 1, 0, 0, 0, 0), (65, 3, 0, 30, 11, 6), z0, z0, (37, 1, 0, 0, 0, 0), (65, 3, 0, 26, 11, 2), z0, z0, (32, 1, 0, 0, 0, 0), (110, 3, 1, 69, 3, 17), z0, z0, (37, 1, 0, 0, 0, 0), (65, 3, 0, 30, 11, 6), z0, z0, (102, 1, 0, 0, 0, 0)]
def P_Ow_freshTails : PM := (11, ⟨"OneWaySpell", "freshTails", "()LOneWaySpell$Tails;"⟩, prog_1_method_37_code, 1, some (.object "OneWaySpell$Tails"), 1, 0, (521, 174, 520, 16), C_Ow_freshTails)
def C_Ow_freshCensus : List PI := [(37, 1, 0, 0, 0, 0), (65, 3, 0, 34, 11, 10), z0, z0, (57, 3, 0, 18, 0, 0), z0, z0, (37, 1, 0, 0, 0, 0), (70, 3, 0, 1072, 1, 0), z0, z0, (27, 1, 0, 0, 0, 0), (110, 3, 1, 14, 1, 71), z0, z0, (67, 3, 0, 34, 11, 10), z0, z0, (37, 1, 0, 0, 0, 0), (65, 3, 0, 34, 11, 10), z0, z0, (66, 3, 0, 63, 1, 10), z0, z0, (37, 1, 0, 0, 0, 0), (65, 3, 0, 26, 11, 2), z0, z0, (66, 3, 0, 29, 3, 6), z0, z0, (45, 3, 0, 53, 0, 0), z0, z0, (37, 1, 0, 0, 0, 0), (65, 3, 0, 34, 11, 10), z0, z0, (37, 1, 0, 0, 0, 0), (110, 3, 0, 152, 1, 36), z0, z0, (37, 1, 0, 0, 0, 0), (65, 3, 0, 26, 11, 2), z0, z0, (66, 3, 0, 29, 3, 6), z0, z0, (110, 3, 1, 15, 3, 72), z0, z0, (37, 1, 0, 0, 0, 0), (65, 3, 0, 34, 11, 10), z0, z0, (102, 1, 0, 0, 0, 0)]
def P_Ow_freshCensus : PM := (11, ⟨"OneWaySpell", "freshCensus", "()LOneWaySpell$Census;"⟩, prog_1_method_38_code, 1, some (.object "OneWaySpell$Census"), 1, 0, (1071, 174, 1070, 68), C_Ow_freshCensus)
def C_Ow_freshBorders : List PI := [(37, 1, 0, 0, 0, 0), (65, 3, 0, 35, 11, 11), z0, z0, (57, 3, 0, 18, 0, 0), z0, z0, (37, 1, 0, 0, 0, 0), (70, 3, 0, 1198, 0, 0), z0, z0, (27, 1, 0, 0, 0, 0), (110, 3, 1, 0, 1, 81), z0, z0, (67, 3, 0, 35, 11, 11), z0, z0, (37, 1, 0, 0, 0, 0), (65, 3, 0, 35, 11, 11), z0, z0, (66, 3, 0, 64, 0, 5), z0, z0, (37, 1, 0, 0, 0, 0), (65, 3, 0, 26, 11, 2), z0, z0, (66, 3, 0, 29, 3, 6), z0, z0, (45, 3, 0, 53, 0, 0), z0, z0, (37, 1, 0, 0, 0, 0), (65, 3, 0, 35, 11, 11), z0, z0, (37, 1, 0, 0, 0, 0), (110, 3, 0, 152, 1, 36), z0, z0, (37, 1, 0, 0, 0, 0), (65, 3, 0, 26, 11, 2), z0, z0, (66, 3, 0, 29, 3, 6), z0, z0, (110, 3, 1, 1, 3, 82), z0, z0, (37, 1, 0, 0, 0, 0), (65, 3, 0, 35, 11, 11), z0, z0, (102, 1, 0, 0, 0, 0)]
def P_Ow_freshBorders : PM := (11, ⟨"OneWaySpell", "freshBorders", "()LOneWaySpell$Borders;"⟩, prog_1_method_39_code, 1, some (.object "OneWaySpell$Borders"), 1, 0, (1197, 174, 1196, 78), C_Ow_freshBorders)
def C_Ow_theReader : List PI := [(37, 1, 0, 0, 0, 0), (65, 3, 0, 32, 11, 8), z0, z0, (57, 3, 0, 18, 0, 0), z0, z0, (37, 1, 0, 0, 0, 0), (70, 3, 0, 889, 4, 0), z0, z0, (27, 1, 0, 0, 0, 0), (110, 3, 1, 48, 1, 46), z0, z0, (67, 3, 0, 32, 11, 8), z0, z0, (37, 1, 0, 0, 0, 0), (65, 3, 0, 32, 11, 8), z0, z0, (102, 1, 0, 0, 0, 0)]
def P_Ow_theReader : PM := (11, ⟨"OneWaySpell", "theReader", "()LOneWaySpell$Reader;"⟩, prog_1_method_40_code, 1, some (.object "OneWaySpell$Reader"), 1, 0, (888, 174, 887, 50), C_Ow_theReader)
def C_Ow_theCures : List PI := [(37, 1, 0, 0, 0, 0), (65, 3, 0, 36, 11, 12), z0, z0, (57, 3, 0, 18, 0, 0), z0, z0, (37, 1, 0, 0, 0, 0), (70, 3, 0, 1288, 2, 0), z0, z0, (27, 1, 0, 0, 0, 0), (110, 3, 1, 25, 1, 86), z0, z0, (67, 3, 0, 36, 11, 12), z0, z0, (37, 1, 0, 0, 0, 0), (65, 3, 0, 36, 11, 12), z0, z0, (102, 1, 0, 0, 0, 0)]
def P_Ow_theCures : PM := (11, ⟨"OneWaySpell", "theCures", "()LOneWaySpell$Cures;"⟩, prog_1_method_41_code, 1, some (.object "OneWaySpell$Cures"), 1, 0, (1287, 174, 1286, 89), C_Ow_theCures)
def C_Ow_put : List PI := [(32, 2, 24, 0, 0, 0), z0, (40, 1, 0, 2, 0, 0), (36, 1, 0, 2, 0, 0), (48, 3, 0, 46, 0, 0), z0, z0, (37, 1, 0, 0, 0, 0), (65, 3, 0, 25, 11, 1), z0, z0, (32, 3, 600, 0, 0, 0), z0, z0, (51, 3, 0, 46, 0, 0), z0, z0, (37, 1, 0, 0, 0, 0), (65, 3, 0, 24, 11, 0), z0, z0, (37, 1, 0, 0, 0, 0), (65, 3, 0, 25, 11, 1), z0, z0, (36, 1, 0, 1, 0, 0), (36, 1, 0, 2, 0, 0), (9, 1, 0, 0, 0, 0), (26, 1, 0, 0, 0, 0), (64, 1, 0, 0, 0, 0), (37, 1, 0, 0, 0, 0), (27, 1, 0, 0, 0, 0), (65, 3, 0, 25, 11, 1), z0, z0, (32, 1, 1, 0, 0, 0), (1, 1, 0, 0, 0, 0), (67, 3, 0, 25, 11, 1), z0, z0, (43, 3, -8, 2, 0, 0), z0, z0, (56, 3, 0, 3, 0, 0), z0, z0, (103, 1, 0, 0, 0, 0)]
def P_Ow_put : PM := (11, ⟨"OneWaySpell", "put", "(I)V"⟩, prog_1_method_42_code, 3, none, 1, 1, (387, 174, 386, 0), C_Ow_put)
def C_Ow_power : List PI := [(33, 1, 1, 0, 0, 0), (42, 1, 0, 3, 0, 0), (32, 1, 0, 0, 0, 0), (40, 2, 0, 5, 0, 0), z0, (36, 2, 0, 5, 0, 0), z0, (36, 1, 0, 2, 0, 0), (51, 3, 0, 21, 0, 0), z0, z0, (38, 1, 0, 3, 0, 0), (38, 1, 0, 0, 0, 0), (14, 1, 0, 0, 0, 0), (42, 1, 0, 3, 0, 0), (43, 3, 1, 5, 0, 0), z0, z0, (56, 3, 0, 5, 0, 0), z0, z0, (38, 1, 0, 3, 0, 0), (101, 1, 0, 0, 0, 0)]
def P_Ow_power : PM := (11, ⟨"OneWaySpell", "power", "(JI)J"⟩, prog_1_method_43_code, 6, some .long, 0, 2, (821, 174, 820, 0), C_Ow_power)
def C_Ow_commonDivisor : List PI := [(32, 1, 0, 0, 0, 0), (40, 2, 0, 4, 0, 0), z0, (36, 2, 0, 4, 0, 0), z0, (32, 2, 100, 0, 0, 0), z0, (51, 3, 0, 32, 0, 0), z0, z0, (38, 1, 0, 2, 0, 0), (33, 1, 0, 0, 0, 0), (22, 1, 0, 0, 0, 0), (44, 3, 0, 32, 0, 0), z0, z0, (38, 1, 0, 0, 0, 0), (38, 1, 0, 2, 0, 0), (19, 1, 0, 0, 0, 0), (42, 2, 0, 5, 0, 0), z0, (38, 1, 0, 2, 0, 0), (42, 1, 0, 0, 0, 0), (38, 2, 0, 5, 0, 0), z0, (42, 1, 0, 2, 0, 0), (43, 3, 1, 4, 0, 0), z0, z0, (56, 3, 0, 3, 0, 0), z0, z0, (38, 1, 0, 0, 0, 0), (101, 1, 0, 0, 0, 0)]
def P_Ow_commonDivisor : PM := (11, ⟨"OneWaySpell", "commonDivisor", "(JJ)J"⟩, prog_1_method_44_code, 7, some .long, 0, 2, (824, 174, 823, 0), C_Ow_commonDivisor)
def C_Ow_begins : List PI := [(36, 1, 0, 2, 0, 0), (36, 2, 0, 5, 0, 0), z0, (53, 3, 0, 23, 0, 0), z0, z0, (38, 1, 0, 3, 0, 0), (32, 1, 5, 0, 0, 0), (36, 2, 0, 5, 0, 0), z0, (36, 1, 0, 2, 0, 0), (2, 1, 0, 0, 0, 0), (3, 1, 0, 0, 0, 0), (21, 1, 0, 0, 0, 0), (38, 1, 0, 0, 0, 0), (22, 1, 0, 0, 0, 0), (46, 3, 0, 23, 0, 0), z0, z0, (32, 1, 1, 0, 0, 0), (56, 3, 0, 24, 0, 0), z0, z0, (32, 1, 0, 0, 0, 0), (100, 1, 0, 0, 0, 0)]
def P_Ow_begins : PM := (11, ⟨"OneWaySpell", "begins", "(JIJI)Z"⟩, prog_1_method_45_code, 6, some .boolean, 0, 4, (491, 174, 490, 0), C_Ow_begins)
def C_Ow_ends : List PI := [(36, 1, 0, 2, 0, 0), (36, 2, 0, 5, 0, 0), z0, (53, 3, 0, 20, 0, 0), z0, z0, (38, 1, 0, 3, 0, 0), (36, 1, 0, 2, 0, 0), (110, 3, 0, 163, 2, 21), z0, z0, (38, 1, 0, 0, 0, 0), (22, 1, 0, 0, 0, 0), (46, 3, 0, 20, 0, 0), z0, z0, (32, 1, 1, 0, 0, 0), (56, 3, 0, 21, 0, 0), z0, z0, (32, 1, 0, 0, 0, 0), (100, 1, 0, 0, 0, 0)]
def P_Ow_ends : PM := (11, ⟨"OneWaySpell", "ends", "(JIJI)Z"⟩, prog_1_method_46_code, 6, some .boolean, 0, 4, (498, 174, 497, 0), C_Ow_ends)
def C_Ow_lastOf : List PI := [(38, 1, 0, 0, 0, 0), (33, 1, 1, 0, 0, 0), (32, 1, 5, 0, 0, 0), (36, 1, 0, 2, 0, 0), (3, 1, 0, 0, 0, 0), (20, 1, 0, 0, 0, 0), (33, 1, 1, 0, 0, 0), (13, 1, 0, 0, 0, 0), (15, 1, 0, 0, 0, 0), (101, 1, 0, 0, 0, 0)]
def P_Ow_lastOf : PM := (11, ⟨"OneWaySpell", "lastOf", "(JI)J"⟩, prog_1_method_47_code, 3, some .long, 0, 2, (501, 174, 500, 0), C_Ow_lastOf)
def C_Ow_signOf : List PI := [(36, 1, 0, 3, 0, 0), (48, 3, 0, 9, 0, 0), z0, z0, (36, 1, 0, 3, 0, 0), (36, 1, 0, 2, 0, 0), (49, 3, 0, 13, 0, 0), z0, z0, (32, 1, 0, 0, 0, 0), (56, 3, 0, 26, 0, 0), z0, z0, (38, 1, 0, 0, 0, 0), (32, 1, 5, 0, 0, 0), (36, 1, 0, 2, 0, 0), (32, 1, 1, 0, 0, 0), (2, 1, 0, 0, 0, 0), (36, 1, 0, 3, 0, 0), (2, 1, 0, 0, 0, 0), (3, 1, 0, 0, 0, 0), (21, 1, 0, 0, 0, 0), (25, 1, 0, 0, 0, 0), (32, 2, 31, 0, 0, 0), z0, (4, 1, 0, 0, 0, 0), (100, 1, 0, 0, 0, 0)]
def P_Ow_signOf : PM := (11, ⟨"OneWaySpell", "signOf", "(JII)I"⟩, prog_1_method_48_code, 4, some .int, 0, 3, (463, 174, 462, 0), C_Ow_signOf)
def C_Ow_shown : List PI := [(36, 1, 0, 3, 0, 0), (48, 3, 0, 9, 0, 0), z0, z0, (36, 1, 0, 3, 0, 0), (36, 1, 0, 2, 0, 0), (49, 3, 0, 13, 0, 0), z0, z0, (32, 1, -1, 0, 0, 0), (56, 3, 0, 22, 0, 0), z0, z0, (38, 1, 0, 0, 0, 0), (36, 1, 0, 2, 0, 0), (36, 1, 0, 3, 0, 0), (110, 3, 0, 164, 3, 16), z0, z0, (32, 2, 96, 0, 0, 0), z0, (1, 1, 0, 0, 0, 0), (100, 1, 0, 0, 0, 0)]
def P_Ow_shown : PM := (11, ⟨"OneWaySpell", "shown", "(JII)I"⟩, prog_1_method_49_code, 4, some .int, 0, 3, (460, 174, 459, 0), C_Ow_shown)
def C_Ow_flushLeft : List PI := [(38, 1, 0, 0, 0, 0), (32, 1, 5, 0, 0, 0), (32, 2, 7, 0, 0, 0), z0, (36, 1, 0, 2, 0, 0), (2, 1, 0, 0, 0, 0), (3, 1, 0, 0, 0, 0), (20, 1, 0, 0, 0, 0), (101, 1, 0, 0, 0, 0)]
def P_Ow_flushLeft : PM := (11, ⟨"OneWaySpell", "flushLeft", "(JI)J"⟩, prog_1_method_50_code, 3, some .long, 0, 2, (597, 174, 596, 0), C_Ow_flushLeft)
def C_Ow_commonLetters : List PI := [(36, 1, 0, 2, 0, 0), (36, 2, 0, 5, 0, 0), z0, (83, 3, 0, 804, 0, 0), z0, z0, (40, 2, 0, 6, 0, 0), z0, (32, 1, 0, 0, 0, 0), (40, 2, 0, 7, 0, 0), z0, (36, 2, 0, 7, 0, 0), z0, (36, 2, 0, 6, 0, 0), z0, (51, 3, 0, 42, 0, 0), z0, z0, (38, 1, 0, 0, 0, 0), (36, 1, 0, 2, 0, 0), (36, 2, 0, 7, 0, 0), z0, (110, 3, 0, 164, 3, 16), z0, z0, (38, 1, 0, 3, 0, 0), (36, 2, 0, 5, 0, 0), z0, (36, 2, 0, 7, 0, 0), z0, (110, 3, 0, 164, 3, 16), z0, z0, (47, 3, 0, 42, 0, 0), z0, z0, (43, 3, 1, 7, 0, 0), z0, z0, (56, 3, 0, 11, 0, 0), z0, z0, (36, 2, 0, 7, 0, 0), z0, (100, 1, 0, 0, 0, 0)]
def P_Ow_commonLetters : PM := (11, ⟨"OneWaySpell", "commonLetters", "(JIJI)I"⟩, prog_1_method_51_code, 8, some .int, 0, 4, (803, 174, 802, 0), C_Ow_commonLetters)
def C_Md_init : List PI := [(37, 1, 0, 0, 0, 0), (78, 3, 0, 1404, 0, 0), z0, z0, (37, 1, 0, 0, 0, 0), (32, 2, 112, 0, 0, 0), z0, (71, 2, 0, 0, 0, 0), z0, (69, 3, 0, 112, 12, 1), z0, z0, (37, 1, 0, 0, 0, 0), (32, 2, 14, 0, 0, 0), z0, (71, 2, 0, 0, 0, 0), z0, (69, 3, 0, 113, 12, 2), z0, z0, (37, 1, 0, 0, 0, 0), (32, 2, 14, 0, 0, 0), z0, (71, 2, 0, 0, 0, 0), z0, (69, 3, 0, 114, 12, 3), z0, z0, (37, 1, 0, 0, 0, 0), (32, 3, 600, 0, 0, 0), z0, z0, (71, 2, 0, 0, 0, 0), z0, (69, 3, 0, 118, 12, 7), z0, z0, (37, 1, 0, 0, 0, 0), (32, 2, 10, 0, 0, 0), z0, (71, 2, 0, 0, 0, 0), z0, (69, 3, 0, 119, 12, 8), z0, z0, (37, 1, 0, 0, 0, 0), (32, 2, 112, 0, 0, 0), z0, (71, 2, 0, 0, 0, 0), z0, (69, 3, 0, 120, 12, 9), z0, z0, (37, 1, 0, 0, 0, 0), (32, 2, 14, 0, 0, 0), z0, (71, 2, 0, 0, 0, 0), z0, (69, 3, 0, 121, 12, 10), z0, z0, (37, 1, 0, 0, 0, 0), (32, 2, 14, 0, 0, 0), z0, (71, 2, 0, 0, 0, 0), z0, (69, 3, 0, 122, 12, 11), z0, z0, (37, 1, 0, 0, 0, 0), (32, 1, -1, 0, 0, 0), (67, 3, 0, 129, 12, 18), z0, z0, (37, 1, 0, 0, 0, 0), (32, 3, 800, 0, 0, 0), z0, z0, (71, 2, 0, 0, 0, 0), z0, (69, 3, 0, 134, 12, 23), z0, z0, (37, 1, 0, 0, 0, 0), (32, 2, 100, 0, 0, 0), z0, (71, 2, 0, 0, 0, 0), z0, (69, 3, 0, 138, 12, 27), z0, z0, (37, 1, 0, 0, 0, 0), (32, 2, 100, 0, 0, 0), z0, (71, 2, 0, 0, 0, 0), z0, (69, 3, 0, 139, 12, 28), z0, z0, (37, 1, 0, 0, 0, 0), (32, 2, 100, 0, 0, 0), z0, (71, 2, 0, 0, 0, 0), z0, (69, 3, 0, 140, 12, 29), z0, z0, (37, 1, 0, 0, 0, 0), (32, 2, 112, 0, 0, 0), z0, (71, 2, 0, 0, 0, 0), z0, (69, 3, 0, 141, 12, 30), z0, z0, (37, 1, 0, 0, 0, 0), (32, 3, 1400, 0, 0, 0), z0, z0, (71, 2, 0, 0, 0, 0), z0, (69, 3, 0, 142, 12, 31), z0, z0, (37, 1, 0, 0, 0, 0), (34, 2, 80000, 1405, 0, 0), z0, (71, 2, 0, 0, 0, 0), z0, (69, 3, 0, 146, 12, 35), z0, z0, (37, 1, 0, 0, 0, 0), (32, 2, 100, 0, 0, 0), z0, (71, 2, 0, 0, 0, 0), z0, (69, 3, 0, 147, 12, 36), z0, z0, (37, 1, 0, 0, 0, 0), (32, 3, 800, 0, 0, 0), z0, z0, (71, 2, 0, 0, 0, 0), z0, (69, 3, 0, 148, 12, 37), z0, z0, (37, 1, 0, 0, 0, 0), (32, 2, 100, 0, 0, 0), z0, (71, 2, 0, 0, 0, 0), z0, (69, 3, 0, 150, 12, 39), z0, z0, (37, 1, 0, 0, 0, 0), (32, 3, 801, 0, 0, 0), z0, z0, (74, 2, 0, 0, 0, 0), z0, (69, 3, 0, 151, 12, 40), z0, z0, (37, 1, 0, 0, 0, 0), (32, 3, 800, 0, 0, 0), z0, z0, (71, 2, 0, 0, 0, 0), z0, (69, 3, 0, 154, 12, 43), z0, z0, (37, 1, 0, 0, 0, 0), (32, 3, 3000, 0, 0, 0), z0, z0, (71, 2, 0, 0, 0, 0), z0, (69, 3, 0, 155, 12, 44), z0, z0, (37, 1, 0, 0, 0, 0), (32, 2, 100, 0, 0, 0), z0, (71, 2, 0, 0, 0, 0), z0, (69, 3, 0, 156, 12, 45), z0, z0, (37, 1, 0, 0, 0, 0), (32, 2, 40, 0, 0, 0), z0, (71, 2, 0, 0, 0, 0), z0, (69, 3, 0, 157, 12, 46), z0, z0, (37, 1, 0, 0, 0, 0), (32, 3, 801, 0, 0, 0), z0, z0, (73, 2, 0, 0, 0, 0), z0, (69, 3, 0, 159, 12, 48), z0, z0, (37, 1, 0, 0, 0, 0), (32, 1, 4, 0, 0, 0), (71, 2, 0, 0, 0, 0), z0, (69, 3, 0, 160, 12, 49), z0, z0, (37, 1, 0, 0, 0, 0), (32, 1, 4, 0, 0, 0), (71, 2, 0, 0, 0, 0), z0, (69, 3, 0, 161, 12, 50), z0, z0, (37, 1, 0, 0, 0, 0), (32, 3, 2700, 0, 0, 0), z0, z0, (71, 2, 0, 0, 0, 0), z0, (69, 3, 0, 162, 12, 51), z0, z0, (37, 1, 0, 0, 0, 0), (32, 2, 100, 0, 0, 0), z0, (73, 2, 0, 0, 0, 0), z0, (69, 3, 0, 163, 12, 52), z0, z0, (37, 1, 0, 0, 0, 0), (34, 2, 131072, 1406, 0, 0), z0, (74, 2, 0, 0, 0, 0), z0, (69, 3, 0, 165, 12, 54), z0, z0, (37, 1, 0, 0, 0, 0), (34, 2, 32768, 1407, 0, 0), z0, (74, 2, 0, 0, 0, 0), z0, (69, 3, 0, 166, 12, 55), z0, z0, (37, 1, 0, 0, 0, 0), (34, 2, 32768, 1407, 0, 0), z0, (73, 2, 0, 0, 0, 0), z0, (69, 3, 0, 167, 12, 56), z0, z0, (37, 1, 0, 0, 0, 0), (34, 2, 32768, 1407, 0, 0), z0, (71, 2, 0, 0, 0, 0), z0, (69, 3, 0, 168, 12, 57), z0, z0, (37, 1, 0, 0, 0, 0), (32, 1, 2, 0, 0, 0), (71, 2, 0, 0, 0, 0), z0, (69, 3, 0, 169, 12, 58), z0, z0, (37, 1, 0, 0, 0, 0), (32, 1, 4, 0, 0, 0), (74, 2, 0, 0, 0, 0), z0, (69, 3, 0, 170, 12, 59), z0, z0, (37, 1, 0, 0, 0, 0), (32, 1, 4, 0, 0, 0), (74, 2, 0, 0, 0, 0), z0, (69, 3, 0, 171, 12, 60), z0, z0, (37, 1, 0, 0, 0, 0), (32, 1, 4, 0, 0, 0), (74, 2, 0, 0, 0, 0), z0, (69, 3, 0, 174, 12, 63), z0, z0, (37, 1, 0, 0, 0, 0), (32, 1, 4, 0, 0, 0), (74, 2, 0, 0, 0, 0), z0, (69, 3, 0, 175, 12, 64), z0, z0, (37, 1, 0, 0, 0, 0), (34, 2, 40000, 1408, 0, 0), z0, (71, 2, 0, 0, 0, 0), z0, (69, 3, 0, 176, 12, 65), z0, z0, (37, 1, 0, 0, 0, 0), (32, 1, 2, 0, 0, 0), (71, 2, 0, 0, 0, 0), z0, (69, 3, 0, 177, 12, 66), z0, z0, (37, 1, 0, 0, 0, 0), (32, 3, 20000, 0, 0, 0), z0, z0, (71, 2, 0, 0, 0, 0), z0, (69, 3, 0, 178, 12, 67), z0, z0, (37, 1, 0, 0, 0, 0), (32, 1, 4, 0, 0, 0), (71, 2, 0, 0, 0, 0), z0, (69, 3, 0, 179, 12, 68), z0, z0, (37, 1, 0, 0, 0, 0), (32, 1, 5, 0, 0, 0), (73, 2, 0, 0, 0, 0), z0, (69, 3, 0, 180, 12, 69), z0, z0, (37, 1, 0, 0, 0, 0), (32, 2, 112, 0, 0, 0), z0, (71, 2, 0, 0, 0, 0), z0, (69, 3, 0, 183, 12, 72), z0, z0, (37, 1, 0, 0, 0, 0), (32, 2, 112, 0, 0, 0), z0, (73, 2, 0, 0, 0, 0), z0, (69, 3, 0, 184, 12, 73), z0, z0, (37, 1, 0, 0, 0, 0), (32, 3, 1692, 0, 0, 0), z0, z0, (71, 2, 0, 0, 0, 0), z0, (69, 3, 0, 186, 12, 75), z0, z0, (103, 1, 0, 0, 0, 0)]
def P_Md_init : PM := (12, ⟨"OneWaySpellModel", "<init>", "()V"⟩, prog_14_method_1_code, 1, none, 2, 0, (1403, 178, 1402, 0), C_Md_init)
def C_Md_in : List PI := [(36, 1, 0, 0, 0, 0), (36, 1, 0, 1, 0, 0), (49, 3, 0, 14, 0, 0), z0, z0, (36, 1, 0, 0, 0, 0), (36, 1, 0, 2, 0, 0), (53, 3, 0, 14, 0, 0), z0, z0, (32, 1, 1, 0, 0, 0), (56, 3, 0, 15, 0, 0), z0, z0, (32, 1, 0, 0, 0, 0), (100, 1, 0, 0, 0, 0)]
def P_Md_in : PM := (12, ⟨"OneWaySpellModel", "in", "(III)Z"⟩, prog_14_method_3_code, 3, some .boolean, 0, 3, (1655, 178, 1654, 0), C_Md_in)
def C_Md_isOf : List PI := [(36, 1, 0, 0, 0, 0), (36, 1, 0, 1, 0, 0), (8, 1, 0, 0, 0, 0), (32, 1, 1, 0, 0, 0), (4, 1, 0, 0, 0, 0), (32, 1, 1, 0, 0, 0), (47, 3, 0, 13, 0, 0), z0, z0, (32, 1, 1, 0, 0, 0), (56, 3, 0, 14, 0, 0), z0, z0, (32, 1, 0, 0, 0, 0), (100, 1, 0, 0, 0, 0)]
def P_Md_isOf : PM := (12, ⟨"OneWaySpellModel", "isOf", "(II)Z"⟩, prog_14_method_4_code, 2, some .boolean, 0, 2, (1742, 178, 1741, 0), C_Md_isOf)
def C_Md_lesser : List PI := [(36, 1, 0, 0, 0, 0), (36, 1, 0, 1, 0, 0), (51, 3, 0, 9, 0, 0), z0, z0, (36, 1, 0, 0, 0, 0), (56, 3, 0, 10, 0, 0), z0, z0, (36, 1, 0, 1, 0, 0), (100, 1, 0, 0, 0, 0)]
def P_Md_lesser : PM := (12, ⟨"OneWaySpellModel", "lesser", "(II)I"⟩, prog_14_method_5_code, 2, some .int, 0, 2, (1777, 178, 1776, 0), C_Md_lesser)
def C_Md_many : List PI := [(32, 1, 0, 0, 0, 0), (40, 1, 0, 1, 0, 0), (32, 1, 0, 0, 0, 0), (40, 1, 0, 2, 0, 0), (36, 1, 0, 2, 0, 0), (32, 2, 14, 0, 0, 0), z0, (51, 3, 0, 24, 0, 0), z0, z0, (36, 1, 0, 1, 0, 0), (36, 1, 0, 0, 0, 0), (36, 1, 0, 2, 0, 0), (8, 1, 0, 0, 0, 0), (32, 1, 1, 0, 0, 0), (4, 1, 0, 0, 0, 0), (1, 1, 0, 0, 0, 0), (40, 1, 0, 1, 0, 0), (43, 3, 1, 2, 0, 0), z0, z0, (56, 3, 0, 4, 0, 0), z0, z0, (36, 1, 0, 1, 0, 0), (100, 1, 0, 0, 0, 0)]
def P_Md_many : PM := (12, ⟨"OneWaySpellModel", "many", "(I)I"⟩, prog_14_method_6_code, 3, some .int, 0, 1, (1946, 178, 1945, 0), C_Md_many)
def C_Md_isGroup : List PI := [(36, 1, 0, 1, 0, 0), (32, 1, 0, 0, 0, 0), (37, 1, 0, 0, 0, 0), (65, 3, 0, 115, 12, 4), z0, z0, (32, 1, 1, 0, 0, 0), (2, 1, 0, 0, 0, 0), (110, 3, 0, 169, 3, 131), z0, z0, (100, 1, 0, 0, 0, 0)]
def P_Md_isGroup : PM := (12, ⟨"OneWaySpellModel", "isGroup", "(I)Z"⟩, prog_14_method_7_code, 2, some .boolean, 1, 1, (1735, 178, 1734, 118), C_Md_isGroup)
def C_Md_letterAt : List PI := [(37, 1, 0, 0, 0, 0), (65, 3, 0, 112, 12, 1), z0, z0, (32, 2, 8, 0, 0, 0), z0, (36, 1, 0, 1, 0, 0), (3, 1, 0, 0, 0, 0), (36, 1, 0, 2, 0, 0), (1, 1, 0, 0, 0, 0), (58, 1, 0, 0, 0, 0), (100, 1, 0, 0, 0, 0)]
def P_Md_letterAt : PM := (12, ⟨"OneWaySpellModel", "letterAt", "(II)I"⟩, prog_14_method_8_code, 3, some .int, 1, 2, (1739, 178, 1738, 119), C_Md_letterAt)
def C_Md_alike : List PI := [(32, 1, 0, 0, 0, 0), (40, 2, 0, 5, 0, 0), z0, (36, 1, 0, 2, 0, 0), (36, 2, 0, 5, 0, 0), z0, (1, 1, 0, 0, 0, 0), (37, 1, 0, 0, 0, 0), (65, 3, 0, 113, 12, 2), z0, z0, (36, 1, 0, 1, 0, 0), (58, 1, 0, 0, 0, 0), (51, 3, 0, 58, 0, 0), z0, z0, (36, 2, 0, 4, 0, 0), z0, (36, 2, 0, 5, 0, 0), z0, (1, 1, 0, 0, 0, 0), (37, 1, 0, 0, 0, 0), (65, 3, 0, 113, 12, 2), z0, z0, (36, 1, 0, 3, 0, 0), (58, 1, 0, 0, 0, 0), (51, 3, 0, 58, 0, 0), z0, z0, (37, 1, 0, 0, 0, 0), (36, 1, 0, 1, 0, 0), (36, 1, 0, 2, 0, 0), (36, 2, 0, 5, 0, 0), z0, (1, 1, 0, 0, 0, 0), (110, 3, 0, 174, 3, 152), z0, z0, (37, 1, 0, 0, 0, 0), (36, 1, 0, 3, 0, 0), (36, 2, 0, 4, 0, 0), z0, (36, 2, 0, 5, 0, 0), z0, (1, 1, 0, 0, 0, 0), (110, 3, 0, 174, 3, 152), z0, z0, (47, 3, 0, 58, 0, 0), z0, z0, (43, 3, 1, 5, 0, 0), z0, z0, (56, 3, 0, 3, 0, 0), z0, z0, (36, 2, 0, 5, 0, 0), z0, (100, 1, 0, 0, 0, 0)]
def P_Md_alike : PM := (12, ⟨"OneWaySpellModel", "alike", "(IIII)I"⟩, prog_14_method_9_code, 6, some .int, 1, 4, (1766, 178, 1765, 124), C_Md_alike)
def C_Md_four : List PI := [(32, 2, 24, 0, 0, 0), z0, (40, 1, 0, 2, 0, 0), (36, 1, 0, 2, 0, 0), (48, 3, 0, 39, 0, 0), z0, z0, (37, 1, 0, 0, 0, 0), (65, 3, 0, 118, 12, 7), z0, z0, (37, 1, 0, 0, 0, 0), (65, 3, 0, 123, 12, 12), z0, z0, (36, 1, 0, 1, 0, 0), (36, 1, 0, 2, 0, 0), (8, 1, 0, 0, 0, 0), (32, 3, 255, 0, 0, 0), z0, z0, (4, 1, 0, 0, 0, 0), (62, 1, 0, 0, 0, 0), (37, 1, 0, 0, 0, 0), (27, 1, 0, 0, 0, 0), (65, 3, 0, 123, 12, 12), z0, z0, (32, 1, 1, 0, 0, 0), (1, 1, 0, 0, 0, 0), (67, 3, 0, 123, 12, 12), z0, z0, (43, 3, -8, 2, 0, 0), z0, z0, (56, 3, 0, 3, 0, 0), z0, z0, (103, 1, 0, 0, 0, 0)]
def P_Md_four : PM := (12, ⟨"OneWaySpellModel", "four", "(I)V"⟩, prog_14_method_10_code, 3, none, 1, 1, (1648, 178, 1647, 102), C_Md_four)
def C_Md_feed : List PI := [(37, 1, 0, 0, 0, 0), (32, 1, 0, 0, 0, 0), (67, 3, 0, 111, 12, 0), z0, z0, (37, 1, 0, 0, 0, 0), (65, 3, 0, 123, 12, 12), z0, z0, (32, 2, 20, 0, 0, 0), z0, (1, 1, 0, 0, 0, 0), (32, 3, 600, 0, 0, 0), z0, z0, (55, 3, 0, 20, 0, 0), z0, z0, (32, 1, -1, 0, 0, 0), (100, 1, 0, 0, 0, 0), (37, 1, 0, 0, 0, 0), (36, 1, 0, 1, 0, 0), (110, 3, 0, 176, 2, 129), z0, z0, (37, 1, 0, 0, 0, 0), (36, 1, 0, 2, 0, 0), (110, 3, 0, 176, 2, 129), z0, z0, (37, 1, 0, 0, 0, 0), (36, 1, 0, 3, 0, 0), (110, 3, 0, 176, 2, 129), z0, z0, (37, 1, 0, 0, 0, 0), (36, 2, 0, 4, 0, 0), z0, (110, 3, 0, 176, 2, 129), z0, z0, (37, 1, 0, 0, 0, 0), (36, 2, 0, 5, 0, 0), z0, (110, 3, 0, 176, 2, 129), z0, z0, (37, 1, 0, 0, 0, 0), (65, 3, 0, 123, 12, 12), z0, z0, (100, 1, 0, 0, 0, 0)]
def P_Md_feed : PM := (12, ⟨"OneWaySpellModel", "feed", "(IIIII)I"⟩, prog_14_method_11_code, 6, some .int, 1, 5, (1644, 178, 1642, 1643), C_Md_feed)
def C_Md_end : List PI := [(37, 1, 0, 0, 0, 0), (32, 1, 0, 0, 0, 0), (67, 3, 0, 111, 12, 0), z0, z0, (36, 1, 0, 1, 0, 0), (32, 1, 0, 0, 0, 0), (37, 1, 0, 0, 0, 0), (65, 3, 0, 123, 12, 12), z0, z0, (110, 3, 0, 169, 3, 131), z0, z0, (46, 3, 0, 19, 0, 0), z0, z0, (32, 1, -1, 0, 0, 0), (100, 1, 0, 0, 0, 0), (37, 1, 0, 0, 0, 0), (36, 1, 0, 1, 0, 0), (67, 3, 0, 123, 12, 12), z0, z0, (36, 1, 0, 1, 0, 0), (100, 1, 0, 0, 0, 0)]
def P_Md_end : PM := (12, ⟨"OneWaySpellModel", "end", "(I)I"⟩, prog_14_method_12_code, 2, some .int, 1, 1, (1652, 178, 1650, 1651), C_Md_end)
def C_Md_byteAt : List PI := [(36, 1, 0, 1, 0, 0), (37, 1, 0, 0, 0, 0), (65, 3, 0, 124, 12, 13), z0, z0, (51, 3, 0, 17, 0, 0), z0, z0, (37, 1, 0, 0, 0, 0), (65, 3, 0, 118, 12, 7), z0, z0, (36, 1, 0, 1, 0, 0), (58, 1, 0, 0, 0, 0), (56, 3, 0, 18, 0, 0), z0, z0, (32, 1, -1, 0, 0, 0), (100, 1, 0, 0, 0, 0)]
def P_Md_byteAt : PM := (12, ⟨"OneWaySpellModel", "byteAt", "(I)I"⟩, prog_14_method_13_code, 2, some .int, 1, 1, (1667, 178, 1666, 104), C_Md_byteAt)
def C_Md_isSmall : List PI := [(36, 1, 0, 0, 0, 0), (32, 2, 97, 0, 0, 0), z0, (49, 3, 0, 16, 0, 0), z0, z0, (36, 1, 0, 0, 0, 0), (32, 2, 122, 0, 0, 0), z0, (53, 3, 0, 16, 0, 0), z0, z0, (32, 1, 1, 0, 0, 0), (56, 3, 0, 17, 0, 0), z0, z0, (32, 1, 0, 0, 0, 0), (100, 1, 0, 0, 0, 0)]
def P_Md_isSmall : PM := (12, ⟨"OneWaySpellModel", "isSmall", "(I)Z"⟩, prog_14_method_14_code, 1, some .boolean, 0, 1, (1670, 178, 1669, 0), C_Md_isSmall)
def C_Md_next : List PI := [(37, 1, 0, 0, 0, 0), (37, 1, 0, 0, 0, 0), (65, 3, 0, 126, 12, 15), z0, z0, (110, 3, 0, 179, 2, 134), z0, z0, (32, 2, 32, 0, 0, 0), z0, (45, 3, 0, 26, 0, 0), z0, z0, (37, 1, 0, 0, 0, 0), (37, 1, 0, 0, 0, 0), (65, 3, 0, 126, 12, 15), z0, z0, (110, 3, 0, 179, 2, 134), z0, z0, (32, 2, 10, 0, 0, 0), z0, (47, 3, 0, 39, 0, 0), z0, z0, (37, 1, 0, 0, 0, 0), (27, 1, 0, 0, 0, 0), (65, 3, 0, 126, 12, 15), z0, z0, (32, 1, 1, 0, 0, 0), (1, 1, 0, 0, 0, 0), (67, 3, 0, 126, 12, 15), z0, z0, (56, 3, 0, 0, 0, 0), z0, z0, (37, 1, 0, 0, 0, 0), (37, 1, 0, 0, 0, 0), (65, 3, 0, 126, 12, 15), z0, z0, (67, 3, 0, 125, 12, 14), z0, z0, (37, 1, 0, 0, 0, 0), (37, 1, 0, 0, 0, 0), (65, 3, 0, 125, 12, 14), z0, z0, (110, 3, 0, 179, 2, 134), z0, z0, (40, 1, 0, 1, 0, 0), (36, 1, 0, 1, 0, 0), (32, 1, -1, 0, 0, 0), (47, 3, 0, 69, 0, 0), z0, z0, (37, 1, 0, 0, 0, 0), (32, 1, 0, 0, 0, 0), (67, 3, 0, 127, 12, 16), z0, z0, (56, 3, 0, 148, 0, 0), z0, z0, (36, 1, 0, 1, 0, 0), (110, 3, 0, 180, 1, 135), z0, z0, (44, 3, 0, 111, 0, 0), z0, z0, (37, 1, 0, 0, 0, 0), (37, 1, 0, 0, 0, 0), (65, 3, 0, 126, 12, 15), z0, z0, (110, 3, 0, 179, 2, 134), z0, z0, (110, 3, 0, 180, 1, 135), z0, z0, (44, 3, 0, 103, 0, 0), z0, z0, (37, 1, 0, 0, 0, 0), (27, 1, 0, 0, 0, 0), (65, 3, 0, 126, 12, 15), z0, z0, (32, 1, 1, 0, 0, 0), (1, 1, 0, 0, 0, 0), (67, 3, 0, 126, 12, 15), z0, z0, (56, 3, 0, 76, 0, 0), z0, z0, (37, 1, 0, 0, 0, 0), (32, 1, 1, 0, 0, 0), (67, 3, 0, 127, 12, 16), z0, z0, (56, 3, 0, 148, 0, 0), z0, z0, (37, 1, 0, 0, 0, 0), (27, 1, 0, 0, 0, 0), (65, 3, 0, 126, 12, 15), z0, z0, (32, 1, 1, 0, 0, 0), (1, 1, 0, 0, 0, 0), (67, 3, 0, 126, 12, 15), z0, z0, (37, 1, 0, 0, 0, 0), (36, 1, 0, 1, 0, 0), (32, 2, 61, 0, 0, 0), z0, (45, 3, 0, 140, 0, 0), z0, z0, (36, 1, 0, 1, 0, 0), (32, 2, 124, 0, 0, 0), z0, (45, 3, 0, 140, 0, 0), z0, z0, (36, 1, 0, 1, 0, 0), (32, 2, 59, 0, 0, 0), z0, (47, 3, 0, 144, 0, 0), z0, z0, (32, 1, 2, 0, 0, 0), (56, 3, 0, 145, 0, 0), z0, z0, (32, 1, 3, 0, 0, 0), (67, 3, 0, 127, 12, 16), z0, z0, (103, 1, 0, 0, 0, 0)]
def P_Md_next : PM := (12, ⟨"OneWaySpellModel", "next", "()V"⟩, prog_14_method_15_code, 2, none, 1, 0, (1663, 178, 1662, 103), C_Md_next)
def C_Md_isGood : List PI := [(37, 1, 0, 0, 0, 0), (65, 3, 0, 130, 12, 19), z0, z0, (46, 3, 0, 11, 0, 0), z0, z0, (32, 1, 1, 0, 0, 0), (56, 3, 0, 12, 0, 0), z0, z0, (32, 1, 0, 0, 0, 0), (100, 1, 0, 0, 0, 0)]
def P_Md_isGood : PM := (12, ⟨"OneWaySpellModel", "isGood", "()Z"⟩, prog_14_method_16_code, 1, some .boolean, 1, 0, (1674, 178, 1673, 105), C_Md_isGood)
def C_Md_fails : List PI := [(37, 1, 0, 0, 0, 0), (65, 3, 0, 130, 12, 19), z0, z0, (46, 3, 0, 32, 0, 0), z0, z0, (37, 1, 0, 0, 0, 0), (37, 1, 0, 0, 0, 0), (65, 3, 0, 127, 12, 16), z0, z0, (32, 1, 3, 0, 0, 0), (47, 3, 0, 20, 0, 0), z0, z0, (32, 1, 1, 0, 0, 0), (56, 3, 0, 21, 0, 0), z0, z0, (36, 1, 0, 1, 0, 0), (67, 3, 0, 130, 12, 19), z0, z0, (37, 1, 0, 0, 0, 0), (37, 1, 0, 0, 0, 0), (65, 3, 0, 125, 12, 14), z0, z0, (67, 3, 0, 131, 12, 20), z0, z0, (103, 1, 0, 0, 0, 0)]
def P_Md_fails : PM := (12, ⟨"OneWaySpellModel", "fails", "(I)V"⟩, prog_14_method_17_code, 2, none, 1, 1, (1695, 178, 1694, 110), C_Md_fails)
def C_Md_goOn : List PI := [(37, 1, 0, 0, 0, 0), (110, 3, 0, 182, 1, 136), z0, z0, (44, 3, 0, 11, 0, 0), z0, z0, (37, 1, 0, 0, 0, 0), (110, 3, 0, 181, 1, 133), z0, z0, (103, 1, 0, 0, 0, 0)]
def P_Md_goOn : PM := (12, ⟨"OneWaySpellModel", "goOn", "()V"⟩, prog_14_method_18_code, 1, none, 1, 0, (1699, 178, 1698, 111), C_Md_goOn)
def C_Md_isSign : List PI := [(37, 1, 0, 0, 0, 0), (65, 3, 0, 127, 12, 16), z0, z0, (32, 1, 2, 0, 0, 0), (47, 3, 0, 24, 0, 0), z0, z0, (37, 1, 0, 0, 0, 0), (37, 1, 0, 0, 0, 0), (65, 3, 0, 125, 12, 14), z0, z0, (110, 3, 0, 179, 2, 134), z0, z0, (36, 1, 0, 1, 0, 0), (47, 3, 0, 24, 0, 0), z0, z0, (32, 1, 1, 0, 0, 0), (56, 3, 0, 25, 0, 0), z0, z0, (32, 1, 0, 0, 0, 0), (100, 1, 0, 0, 0, 0)]
def P_Md_isSign : PM := (12, ⟨"OneWaySpellModel", "isSign", "(I)Z"⟩, prog_14_method_19_code, 2, some .boolean, 1, 1, (1711, 178, 1710, 114), C_Md_isSign)
def C_Md_packed : List PI := [(32, 1, 0, 0, 0, 0), (40, 1, 0, 1, 0, 0), (37, 1, 0, 0, 0, 0), (65, 3, 0, 125, 12, 14), z0, z0, (40, 1, 0, 2, 0, 0), (36, 1, 0, 2, 0, 0), (37, 1, 0, 0, 0, 0), (65, 3, 0, 126, 12, 15), z0, z0, (51, 3, 0, 35, 0, 0), z0, z0, (36, 1, 0, 1, 0, 0), (32, 2, 32, 0, 0, 0), z0, (3, 1, 0, 0, 0, 0), (37, 1, 0, 0, 0, 0), (36, 1, 0, 2, 0, 0), (110, 3, 0, 179, 2, 134), z0, z0, (1, 1, 0, 0, 0, 0), (32, 2, 96, 0, 0, 0), z0, (2, 1, 0, 0, 0, 0), (40, 1, 0, 1, 0, 0), (43, 3, 1, 2, 0, 0), z0, z0, (56, 3, 0, 7, 0, 0), z0, z0, (36, 1, 0, 1, 0, 0), (100, 1, 0, 0, 0, 0)]
def P_Md_packed : PM := (12, ⟨"OneWaySpellModel", "packed", "()I"⟩, prog_14_method_20_code, 3, some .int, 1, 0, (1690, 178, 1689, 109), C_Md_packed)
def C_Md_isShort : List PI := [(37, 1, 0, 0, 0, 0), (65, 3, 0, 127, 12, 16), z0, z0, (32, 1, 1, 0, 0, 0), (47, 3, 0, 26, 0, 0), z0, z0, (37, 1, 0, 0, 0, 0), (65, 3, 0, 126, 12, 15), z0, z0, (37, 1, 0, 0, 0, 0), (65, 3, 0, 125, 12, 14), z0, z0, (2, 1, 0, 0, 0, 0), (32, 2, 6, 0, 0, 0), z0, (53, 3, 0, 26, 0, 0), z0, z0, (32, 1, 1, 0, 0, 0), (56, 3, 0, 27, 0, 0), z0, z0, (32, 1, 0, 0, 0, 0), (100, 1, 0, 0, 0, 0)]
def P_Md_isShort : PM := (12, ⟨"OneWaySpellModel", "isShort", "()Z"⟩, prog_14_method_21_code, 1, some .boolean, 1, 0, (1686, 178, 1685, 108), C_Md_isShort)
def C_Md_isSound : List PI := [(37, 1, 0, 0, 0, 0), (110, 3, 0, 187, 1, 139), z0, z0, (44, 3, 0, 20, 0, 0), z0, z0, (37, 1, 0, 0, 0, 0), (110, 3, 0, 186, 1, 140), z0, z0, (34, 2, 20436420, 1691, 0, 0), z0, (47, 3, 0, 20, 0, 0), z0, z0, (32, 1, 1, 0, 0, 0), (56, 3, 0, 21, 0, 0), z0, z0, (32, 1, 0, 0, 0, 0), (100, 1, 0, 0, 0, 0)]
def P_Md_isSound : PM := (12, ⟨"OneWaySpellModel", "isSound", "()Z"⟩, prog_14_method_22_code, 1, some .boolean, 1, 0, (1682, 178, 1681, 107), C_Md_isSound)
def C_Md_readName : List PI := [(37, 1, 0, 0, 0, 0), (110, 3, 0, 187, 1, 139), z0, z0, (44, 3, 0, 14, 0, 0), z0, z0, (37, 1, 0, 0, 0, 0), (110, 3, 0, 188, 1, 138), z0, z0, (44, 3, 0, 19, 0, 0), z0, z0, (37, 1, 0, 0, 0, 0), (32, 1, 2, 0, 0, 0), (110, 3, 0, 183, 2, 141), z0, z0, (32, 1, 0, 0, 0, 0), (40, 1, 0, 1, 0, 0), (36, 1, 0, 1, 0, 0), (37, 1, 0, 0, 0, 0), (65, 3, 0, 132, 12, 21), z0, z0, (51, 3, 0, 60, 0, 0), z0, z0, (37, 1, 0, 0, 0, 0), (110, 3, 0, 182, 1, 136), z0, z0, (44, 3, 0, 60, 0, 0), z0, z0, (37, 1, 0, 0, 0, 0), (65, 3, 0, 119, 12, 8), z0, z0, (36, 1, 0, 1, 0, 0), (58, 1, 0, 0, 0, 0), (37, 1, 0, 0, 0, 0), (110, 3, 0, 186, 1, 140), z0, z0, (47, 3, 0, 54, 0, 0), z0, z0, (37, 1, 0, 0, 0, 0), (32, 1, 3, 0, 0, 0), (110, 3, 0, 183, 2, 141), z0, z0, (43, 3, 1, 1, 0, 0), z0, z0, (56, 3, 0, 21, 0, 0), z0, z0, (37, 1, 0, 0, 0, 0), (110, 3, 0, 182, 1, 136), z0, z0, (44, 3, 0, 90, 0, 0), z0, z0, (37, 1, 0, 0, 0, 0), (65, 3, 0, 119, 12, 8), z0, z0, (37, 1, 0, 0, 0, 0), (65, 3, 0, 132, 12, 21), z0, z0, (37, 1, 0, 0, 0, 0), (110, 3, 0, 186, 1, 140), z0, z0, (62, 1, 0, 0, 0, 0), (37, 1, 0, 0, 0, 0), (27, 1, 0, 0, 0, 0), (65, 3, 0, 132, 12, 21), z0, z0, (32, 1, 1, 0, 0, 0), (1, 1, 0, 0, 0, 0), (67, 3, 0, 132, 12, 21), z0, z0, (37, 1, 0, 0, 0, 0), (110, 3, 0, 184, 1, 142), z0, z0, (103, 1, 0, 0, 0, 0)]
def P_Md_readName : PM := (12, ⟨"OneWaySpellModel", "readName", "()V"⟩, prog_14_method_23_code, 2, none, 1, 0, (1703, 178, 1702, 112), C_Md_readName)
def C_Md_isTold : List PI := [(37, 1, 0, 0, 0, 0), (65, 3, 0, 121, 12, 10), z0, z0, (36, 1, 0, 1, 0, 0), (58, 1, 0, 0, 0, 0), (37, 1, 0, 0, 0, 0), (65, 3, 0, 126, 12, 15), z0, z0, (37, 1, 0, 0, 0, 0), (65, 3, 0, 125, 12, 14), z0, z0, (2, 1, 0, 0, 0, 0), (45, 3, 0, 20, 0, 0), z0, z0, (32, 1, 0, 0, 0, 0), (100, 1, 0, 0, 0, 0), (32, 1, 0, 0, 0, 0), (40, 1, 0, 2, 0, 0), (36, 1, 0, 2, 0, 0), (37, 1, 0, 0, 0, 0), (65, 3, 0, 121, 12, 10), z0, z0, (36, 1, 0, 1, 0, 0), (58, 1, 0, 0, 0, 0), (51, 3, 0, 64, 0, 0), z0, z0, (37, 1, 0, 0, 0, 0), (65, 3, 0, 120, 12, 9), z0, z0, (32, 2, 8, 0, 0, 0), z0, (36, 1, 0, 1, 0, 0), (3, 1, 0, 0, 0, 0), (36, 1, 0, 2, 0, 0), (1, 1, 0, 0, 0, 0), (58, 1, 0, 0, 0, 0), (37, 1, 0, 0, 0, 0), (37, 1, 0, 0, 0, 0), (65, 3, 0, 125, 12, 14), z0, z0, (36, 1, 0, 2, 0, 0), (1, 1, 0, 0, 0, 0), (110, 3, 0, 179, 2, 134), z0, z0, (45, 3, 0, 58, 0, 0), z0, z0, (32, 1, 0, 0, 0, 0), (100, 1, 0, 0, 0, 0), (43, 3, 1, 2, 0, 0), z0, z0, (56, 3, 0, 22, 0, 0), z0, z0, (32, 1, 1, 0, 0, 0), (100, 1, 0, 0, 0, 0)]
def P_Md_isTold : PM := (12, ⟨"OneWaySpellModel", "isTold", "(I)Z"⟩, prog_14_method_24_code, 3, some .boolean, 1, 1, (1719, 178, 1718, 116), C_Md_isTold)
def C_Md_readGroup : List PI := [(37, 1, 0, 0, 0, 0), (110, 3, 0, 187, 1, 139), z0, z0, (46, 3, 0, 12, 0, 0), z0, z0, (37, 1, 0, 0, 0, 0), (32, 1, 2, 0, 0, 0), (110, 3, 0, 183, 2, 141), z0, z0, (32, 1, 0, 0, 0, 0), (40, 1, 0, 1, 0, 0), (36, 1, 0, 1, 0, 0), (37, 1, 0, 0, 0, 0), (65, 3, 0, 133, 12, 22), z0, z0, (51, 3, 0, 48, 0, 0), z0, z0, (37, 1, 0, 0, 0, 0), (110, 3, 0, 182, 1, 136), z0, z0, (44, 3, 0, 48, 0, 0), z0, z0, (37, 1, 0, 0, 0, 0), (36, 1, 0, 1, 0, 0), (110, 3, 0, 190, 2, 147), z0, z0, (44, 3, 0, 42, 0, 0), z0, z0, (37, 1, 0, 0, 0, 0), (32, 1, 3, 0, 0, 0), (110, 3, 0, 183, 2, 141), z0, z0, (43, 3, 1, 1, 0, 0), z0, z0, (56, 3, 0, 14, 0, 0), z0, z0, (37, 1, 0, 0, 0, 0), (110, 3, 0, 182, 1, 136), z0, z0, (44, 3, 0, 69, 0, 0), z0, z0, (37, 1, 0, 0, 0, 0), (65, 3, 0, 133, 12, 22), z0, z0, (32, 2, 14, 0, 0, 0), z0, (47, 3, 0, 69, 0, 0), z0, z0, (37, 1, 0, 0, 0, 0), (32, 1, 4, 0, 0, 0), (110, 3, 0, 183, 2, 141), z0, z0, (37, 1, 0, 0, 0, 0), (110, 3, 0, 182, 1, 136), z0, z0, (44, 3, 0, 162, 0, 0), z0, z0, (37, 1, 0, 0, 0, 0), (65, 3, 0, 121, 12, 10), z0, z0, (37, 1, 0, 0, 0, 0), (65, 3, 0, 133, 12, 22), z0, z0, (37, 1, 0, 0, 0, 0), (65, 3, 0, 126, 12, 15), z0, z0, (37, 1, 0, 0, 0, 0), (65, 3, 0, 125, 12, 14), z0, z0, (2, 1, 0, 0, 0, 0), (62, 1, 0, 0, 0, 0), (37, 1, 0, 0, 0, 0), (65, 3, 0, 122, 12, 11), z0, z0, (37, 1, 0, 0, 0, 0), (65, 3, 0, 133, 12, 22), z0, z0, (37, 1, 0, 0, 0, 0), (65, 3, 0, 132, 12, 21), z0, z0, (32, 1, 1, 0, 0, 0), (2, 1, 0, 0, 0, 0), (62, 1, 0, 0, 0, 0), (37, 1, 0, 0, 0, 0), (65, 3, 0, 125, 12, 14), z0, z0, (40, 1, 0, 1, 0, 0), (36, 1, 0, 1, 0, 0), (37, 1, 0, 0, 0, 0), (65, 3, 0, 126, 12, 15), z0, z0, (51, 3, 0, 152, 0, 0), z0, z0, (37, 1, 0, 0, 0, 0), (65, 3, 0, 120, 12, 9), z0, z0, (32, 2, 8, 0, 0, 0), z0, (37, 1, 0, 0, 0, 0), (65, 3, 0, 133, 12, 22), z0, z0, (3, 1, 0, 0, 0, 0), (36, 1, 0, 1, 0, 0), (1, 1, 0, 0, 0, 0), (37, 1, 0, 0, 0, 0), (65, 3, 0, 125, 12, 14), z0, z0, (2, 1, 0, 0, 0, 0), (37, 1, 0, 0, 0, 0), (36, 1, 0, 1, 0, 0), (110, 3, 0, 179, 2, 134), z0, z0, (62, 1, 0, 0, 0, 0), (43, 3, 1, 1, 0, 0), z0, z0, (56, 3, 0, 114, 0, 0), z0, z0, (37, 1, 0, 0, 0, 0), (27, 1, 0, 0, 0, 0), (65, 3, 0, 133, 12, 22), z0, z0, (32, 1, 1, 0, 0, 0), (1, 1, 0, 0, 0, 0), (67, 3, 0, 133, 12, 22), z0, z0, (37, 1, 0, 0, 0, 0), (110, 3, 0, 184, 1, 142), z0, z0, (103, 1, 0, 0, 0, 0)]
def P_Md_readGroup : PM := (12, ⟨"OneWaySpellModel", "readGroup", "()V"⟩, prog_14_method_25_code, 2, none, 1, 0, (1715, 178, 1714, 115), C_Md_readGroup)
def C_Md_mustBe : List PI := [(37, 1, 0, 0, 0, 0), (110, 3, 0, 182, 1, 136), z0, z0, (44, 3, 0, 20, 0, 0), z0, z0, (37, 1, 0, 0, 0, 0), (36, 1, 0, 1, 0, 0), (110, 3, 0, 185, 2, 145), z0, z0, (46, 3, 0, 20, 0, 0), z0, z0, (37, 1, 0, 0, 0, 0), (32, 1, 2, 0, 0, 0), (110, 3, 0, 183, 2, 141), z0, z0, (37, 1, 0, 0, 0, 0), (110, 3, 0, 184, 1, 142), z0, z0, (103, 1, 0, 0, 0, 0)]
def P_Md_mustBe : PM := (12, ⟨"OneWaySpellModel", "mustBe", "(I)V"⟩, prog_14_method_26_code, 2, none, 1, 1, (1707, 178, 1706, 113), C_Md_mustBe)
def C_Md_readLine : List PI := [(37, 1, 0, 0, 0, 0), (110, 3, 0, 188, 1, 138), z0, z0, (46, 3, 0, 15, 0, 0), z0, z0, (37, 1, 0, 0, 0, 0), (32, 1, 2, 0, 0, 0), (110, 3, 0, 183, 2, 141), z0, z0, (56, 3, 0, 29, 0, 0), z0, z0, (37, 1, 0, 0, 0, 0), (65, 3, 0, 132, 12, 21), z0, z0, (32, 2, 10, 0, 0, 0), z0, (47, 3, 0, 29, 0, 0), z0, z0, (37, 1, 0, 0, 0, 0), (32, 1, 4, 0, 0, 0), (110, 3, 0, 183, 2, 141), z0, z0, (37, 1, 0, 0, 0, 0), (110, 3, 0, 184, 1, 142), z0, z0, (37, 1, 0, 0, 0, 0), (110, 3, 0, 182, 1, 136), z0, z0, (44, 3, 0, 44, 0, 0), z0, z0, (37, 1, 0, 0, 0, 0), (110, 3, 0, 189, 1, 143), z0, z0, (37, 1, 0, 0, 0, 0), (32, 2, 61, 0, 0, 0), z0, (110, 3, 0, 192, 2, 144), z0, z0, (37, 1, 0, 0, 0, 0), (110, 3, 0, 182, 1, 136), z0, z0, (44, 3, 0, 61, 0, 0), z0, z0, (37, 1, 0, 0, 0, 0), (110, 3, 0, 191, 1, 146), z0, z0, (37, 1, 0, 0, 0, 0), (110, 3, 0, 182, 1, 136), z0, z0, (44, 3, 0, 88, 0, 0), z0, z0, (37, 1, 0, 0, 0, 0), (32, 2, 124, 0, 0, 0), z0, (110, 3, 0, 185, 2, 145), z0, z0, (44, 3, 0, 88, 0, 0), z0, z0, (37, 1, 0, 0, 0, 0), (110, 3, 0, 181, 1, 133), z0, z0, (37, 1, 0, 0, 0, 0), (110, 3, 0, 191, 1, 146), z0, z0, (56, 3, 0, 61, 0, 0), z0, z0, (37, 1, 0, 0, 0, 0), (32, 2, 59, 0, 0, 0), z0, (110, 3, 0, 192, 2, 144), z0, z0, (103, 1, 0, 0, 0, 0)]
def P_Md_readLine : PM := (12, ⟨"OneWaySpellModel", "readLine", "()V"⟩, prog_14_method_27_code, 1, none, 1, 0, (1678, 178, 1677, 106), C_Md_readLine)
def C_Md_table : List PI := [(37, 1, 0, 0, 0, 0), (32, 1, 0, 0, 0, 0), (67, 3, 0, 111, 12, 0), z0, z0, (37, 1, 0, 0, 0, 0), (37, 1, 0, 0, 0, 0), (65, 3, 0, 123, 12, 12), z0, z0, (67, 3, 0, 124, 12, 13), z0, z0, (37, 1, 0, 0, 0, 0), (32, 1, 0, 0, 0, 0), (67, 3, 0, 123, 12, 12), z0, z0, (37, 1, 0, 0, 0, 0), (32, 1, 0, 0, 0, 0), (67, 3, 0, 126, 12, 15), z0, z0, (37, 1, 0, 0, 0, 0), (32, 1, 0, 0, 0, 0), (67, 3, 0, 130, 12, 19), z0, z0, (37, 1, 0, 0, 0, 0), (32, 1, 0, 0, 0, 0), (67, 3, 0, 132, 12, 21), z0, z0, (37, 1, 0, 0, 0, 0), (32, 1, 0, 0, 0, 0), (67, 3, 0, 133, 12, 22), z0, z0, (37, 1, 0, 0, 0, 0), (110, 3, 0, 181, 1, 133), z0, z0, (37, 1, 0, 0, 0, 0), (110, 3, 0, 182, 1, 136), z0, z0, (44, 3, 0, 63, 0, 0), z0, z0, (37, 1, 0, 0, 0, 0), (65, 3, 0, 127, 12, 16), z0, z0, (44, 3, 0, 63, 0, 0), z0, z0, (37, 1, 0, 0, 0, 0), (110, 3, 0, 193, 1, 137), z0, z0, (56, 3, 0, 42, 0, 0), z0, z0, (37, 1, 0, 0, 0, 0), (37, 1, 0, 0, 0, 0), (65, 3, 0, 130, 12, 19), z0, z0, (67, 3, 0, 128, 12, 17), z0, z0, (37, 1, 0, 0, 0, 0), (37, 1, 0, 0, 0, 0), (110, 3, 0, 182, 1, 136), z0, z0, (44, 3, 0, 83, 0, 0), z0, z0, (32, 1, -1, 0, 0, 0), (56, 3, 0, 87, 0, 0), z0, z0, (37, 1, 0, 0, 0, 0), (65, 3, 0, 131, 12, 20), z0, z0, (67, 3, 0, 129, 12, 18), z0, z0, (37, 1, 0, 0, 0, 0), (110, 3, 0, 182, 1, 136), z0, z0, (46, 3, 0, 99, 0, 0), z0, z0, (32, 1, -1, 0, 0, 0), (100, 1, 0, 0, 0, 0), (37, 1, 0, 0, 0, 0), (37, 1, 0, 0, 0, 0), (65, 3, 0, 133, 12, 22), z0, z0, (67, 3, 0, 115, 12, 4), z0, z0, (37, 1, 0, 0, 0, 0), (37, 1, 0, 0, 0, 0), (65, 3, 0, 132, 12, 21), z0, z0, (67, 3, 0, 116, 12, 5), z0, z0, (37, 1, 0, 0, 0, 0), (32, 1, 1, 0, 0, 0), (37, 1, 0, 0, 0, 0), (65, 3, 0, 115, 12, 4), z0, z0, (7, 1, 0, 0, 0, 0), (32, 1, 1, 0, 0, 0), (2, 1, 0, 0, 0, 0), (67, 3, 0, 117, 12, 6), z0, z0, (32, 1, 0, 0, 0, 0), (40, 1, 0, 1, 0, 0), (36, 1, 0, 1, 0, 0), (37, 1, 0, 0, 0, 0), (65, 3, 0, 115, 12, 4), z0, z0, (51, 3, 0, 207, 0, 0), z0, z0, (37, 1, 0, 0, 0, 0), (65, 3, 0, 113, 12, 2), z0, z0, (36, 1, 0, 1, 0, 0), (37, 1, 0, 0, 0, 0), (65, 3, 0, 121, 12, 10), z0, z0, (36, 1, 0, 1, 0, 0), (58, 1, 0, 0, 0, 0), (62, 1, 0, 0, 0, 0), (37, 1, 0, 0, 0, 0), (65, 3, 0, 114, 12, 3), z0, z0, (36, 1, 0, 1, 0, 0), (37, 1, 0, 0, 0, 0), (65, 3, 0, 122, 12, 11), z0, z0, (36, 1, 0, 1, 0, 0), (58, 1, 0, 0, 0, 0), (62, 1, 0, 0, 0, 0), (32, 1, 0, 0, 0, 0), (40, 1, 0, 2, 0, 0), (36, 1, 0, 2, 0, 0), (37, 1, 0, 0, 0, 0), (65, 3, 0, 113, 12, 2), z0, z0, (36, 1, 0, 1, 0, 0), (58, 1, 0, 0, 0, 0), (51, 3, 0, 201, 0, 0), z0, z0, (37, 1, 0, 0, 0, 0), (65, 3, 0, 112, 12, 1), z0, z0, (32, 2, 8, 0, 0, 0), z0, (36, 1, 0, 1, 0, 0), (3, 1, 0, 0, 0, 0), (36, 1, 0, 2, 0, 0), (1, 1, 0, 0, 0, 0), (37, 1, 0, 0, 0, 0), (65, 3, 0, 120, 12, 9), z0, z0, (32, 2, 8, 0, 0, 0), z0, (36, 1, 0, 1, 0, 0), (3, 1, 0, 0, 0, 0), (36, 1, 0, 2, 0, 0), (1, 1, 0, 0, 0, 0), (58, 1, 0, 0, 0, 0), (62, 1, 0, 0, 0, 0), (43, 3, 1, 2, 0, 0), z0, z0, (56, 3, 0, 163, 0, 0), z0, z0, (43, 3, 1, 1, 0, 0), z0, z0, (56, 3, 0, 129, 0, 0), z0, z0, (37, 1, 0, 0, 0, 0), (32, 1, 0, 0, 0, 0), (67, 3, 0, 135, 12, 24), z0, z0, (37, 1, 0, 0, 0, 0), (32, 1, 0, 0, 0, 0), (67, 3, 0, 187, 12, 76), z0, z0, (37, 1, 0, 0, 0, 0), (110, 3, 0, 196, 1, 148), z0, z0, (37, 1, 0, 0, 0, 0), (65, 3, 0, 115, 12, 4), z0, z0, (100, 1, 0, 0, 0, 0)]
def P_Md_table : PM := (12, ⟨"OneWaySpellModel", "table", "()I"⟩, prog_14_method_28_code, 3, some .int, 1, 0, (1659, 178, 1657, 1658), C_Md_table)
def C_Md_fault : List PI := [(37, 1, 0, 0, 0, 0), (32, 1, 0, 0, 0, 0), (67, 3, 0, 111, 12, 0), z0, z0, (36, 1, 0, 1, 0, 0), (46, 3, 0, 16, 0, 0), z0, z0, (37, 1, 0, 0, 0, 0), (65, 3, 0, 128, 12, 17), z0, z0, (56, 3, 0, 29, 0, 0), z0, z0, (36, 1, 0, 1, 0, 0), (32, 1, 1, 0, 0, 0), (47, 3, 0, 28, 0, 0), z0, z0, (37, 1, 0, 0, 0, 0), (65, 3, 0, 129, 12, 18), z0, z0, (56, 3, 0, 29, 0, 0), z0, z0, (32, 1, -1, 0, 0, 0), (100, 1, 0, 0, 0, 0)]
def P_Md_fault : PM := (12, ⟨"OneWaySpellModel", "fault", "(I)I"⟩, prog_14_method_29_code, 2, some .int, 1, 1, (1727, 178, 1725, 1726), C_Md_fault)
def C_Md_another : List PI := [(37, 1, 0, 0, 0, 0), (32, 1, 0, 0, 0, 0), (67, 3, 0, 136, 12, 25), z0, z0, (37, 1, 0, 0, 0, 0), (32, 1, 0, 0, 0, 0), (67, 3, 0, 137, 12, 26), z0, z0, (37, 1, 0, 0, 0, 0), (32, 1, 0, 0, 0, 0), (67, 3, 0, 181, 12, 70), z0, z0, (103, 1, 0, 0, 0, 0)]
def P_Md_another : PM := (12, ⟨"OneWaySpellModel", "another", "()V"⟩, prog_14_method_30_code, 1, none, 1, 0, (1723, 178, 1722, 117), C_Md_another)
def C_Md_lettersThere : List PI := [(32, 1, 0, 0, 0, 0), (40, 1, 0, 1, 0, 0), (32, 1, 0, 0, 0, 0), (40, 1, 0, 2, 0, 0), (36, 1, 0, 2, 0, 0), (37, 1, 0, 0, 0, 0), (65, 3, 0, 115, 12, 4), z0, z0, (51, 3, 0, 61, 0, 0), z0, z0, (32, 1, 0, 0, 0, 0), (40, 1, 0, 3, 0, 0), (36, 1, 0, 3, 0, 0), (37, 1, 0, 0, 0, 0), (65, 3, 0, 113, 12, 2), z0, z0, (36, 1, 0, 2, 0, 0), (58, 1, 0, 0, 0, 0), (51, 3, 0, 55, 0, 0), z0, z0, (37, 1, 0, 0, 0, 0), (65, 3, 0, 117, 12, 6), z0, z0, (36, 1, 0, 2, 0, 0), (110, 3, 0, 170, 2, 153), z0, z0, (44, 3, 0, 55, 0, 0), z0, z0, (36, 1, 0, 1, 0, 0), (32, 1, 1, 0, 0, 0), (37, 1, 0, 0, 0, 0), (36, 1, 0, 2, 0, 0), (36, 1, 0, 3, 0, 0), (110, 3, 0, 174, 3, 152), z0, z0, (32, 2, 97, 0, 0, 0), z0, (2, 1, 0, 0, 0, 0), (7, 1, 0, 0, 0, 0), (5, 1, 0, 0, 0, 0), (40, 1, 0, 1, 0, 0), (43, 3, 1, 3, 0, 0), z0, z0, (56, 3, 0, 14, 0, 0), z0, z0, (43, 3, 1, 2, 0, 0), z0, z0, (56, 3, 0, 4, 0, 0), z0, z0, (36, 1, 0, 1, 0, 0), (100, 1, 0, 0, 0, 0)]
def P_Md_lettersThere : PM := (12, ⟨"OneWaySpellModel", "lettersThere", "()I"⟩, prog_14_method_31_code, 4, some .int, 1, 0, (1754, 178, 1753, 121), C_Md_lettersThere)
def C_Md_unlike : List PI := [(32, 1, 0, 0, 0, 0), (40, 1, 0, 1, 0, 0), (32, 1, 0, 0, 0, 0), (40, 1, 0, 2, 0, 0), (36, 1, 0, 2, 0, 0), (32, 2, 27, 0, 0, 0), z0, (51, 3, 0, 27, 0, 0), z0, z0, (36, 1, 0, 1, 0, 0), (37, 1, 0, 0, 0, 0), (110, 3, 0, 197, 1, 156), z0, z0, (36, 1, 0, 2, 0, 0), (8, 1, 0, 0, 0, 0), (32, 1, 1, 0, 0, 0), (4, 1, 0, 0, 0, 0), (1, 1, 0, 0, 0, 0), (40, 1, 0, 1, 0, 0), (43, 3, 1, 2, 0, 0), z0, z0, (56, 3, 0, 4, 0, 0), z0, z0, (36, 1, 0, 1, 0, 0), (32, 1, 2, 0, 0, 0), (51, 3, 0, 36, 0, 0), z0, z0, (32, 1, 2, 0, 0, 0), (56, 3, 0, 37, 0, 0), z0, z0, (36, 1, 0, 1, 0, 0), (100, 1, 0, 0, 0, 0)]
def P_Md_unlike : PM := (12, ⟨"OneWaySpellModel", "unlike", "()I"⟩, prog_14_method_32_code, 3, some .int, 1, 0, (1750, 178, 1749, 120), C_Md_unlike)
def C_Md_begins : List PI := [(37, 1, 0, 0, 0, 0), (65, 3, 0, 113, 12, 2), z0, z0, (36, 1, 0, 1, 0, 0), (58, 1, 0, 0, 0, 0), (37, 1, 0, 0, 0, 0), (65, 3, 0, 113, 12, 2), z0, z0, (36, 1, 0, 2, 0, 0), (58, 1, 0, 0, 0, 0), (53, 3, 0, 36, 0, 0), z0, z0, (37, 1, 0, 0, 0, 0), (36, 1, 0, 1, 0, 0), (32, 1, 0, 0, 0, 0), (36, 1, 0, 2, 0, 0), (32, 1, 0, 0, 0, 0), (110, 3, 0, 175, 5, 159), z0, z0, (37, 1, 0, 0, 0, 0), (65, 3, 0, 113, 12, 2), z0, z0, (36, 1, 0, 1, 0, 0), (58, 1, 0, 0, 0, 0), (47, 3, 0, 36, 0, 0), z0, z0, (32, 1, 1, 0, 0, 0), (56, 3, 0, 37, 0, 0), z0, z0, (32, 1, 0, 0, 0, 0), (100, 1, 0, 0, 0, 0)]
def P_Md_begins : PM := (12, ⟨"OneWaySpellModel", "begins", "(II)Z"⟩, prog_14_method_33_code, 3, some .boolean, 1, 2, (1762, 178, 1761, 123), C_Md_begins)
def C_Md_ends : List PI := [(37, 1, 0, 0, 0, 0), (65, 3, 0, 113, 12, 2), z0, z0, (36, 1, 0, 1, 0, 0), (58, 1, 0, 0, 0, 0), (37, 1, 0, 0, 0, 0), (65, 3, 0, 113, 12, 2), z0, z0, (36, 1, 0, 2, 0, 0), (58, 1, 0, 0, 0, 0), (53, 3, 0, 48, 0, 0), z0, z0, (37, 1, 0, 0, 0, 0), (36, 1, 0, 1, 0, 0), (32, 1, 0, 0, 0, 0), (36, 1, 0, 2, 0, 0), (37, 1, 0, 0, 0, 0), (65, 3, 0, 113, 12, 2), z0, z0, (36, 1, 0, 2, 0, 0), (58, 1, 0, 0, 0, 0), (37, 1, 0, 0, 0, 0), (65, 3, 0, 113, 12, 2), z0, z0, (36, 1, 0, 1, 0, 0), (58, 1, 0, 0, 0, 0), (2, 1, 0, 0, 0, 0), (110, 3, 0, 175, 5, 159), z0, z0, (37, 1, 0, 0, 0, 0), (65, 3, 0, 113, 12, 2), z0, z0, (36, 1, 0, 1, 0, 0), (58, 1, 0, 0, 0, 0), (47, 3, 0, 48, 0, 0), z0, z0, (32, 1, 1, 0, 0, 0), (56, 3, 0, 49, 0, 0), z0, z0, (32, 1, 0, 0, 0, 0), (100, 1, 0, 0, 0, 0)]
def P_Md_ends : PM := (12, ⟨"OneWaySpellModel", "ends", "(II)Z"⟩, prog_14_method_34_code, 3, some .boolean, 1, 2, (1770, 178, 1769, 125), C_Md_ends)
def C_Md_isFree : List PI := [(32, 1, 0, 0, 0, 0), (40, 1, 0, 2, 0, 0), (36, 1, 0, 2, 0, 0), (37, 1, 0, 0, 0, 0), (65, 3, 0, 115, 12, 4), z0, z0, (51, 3, 0, 98, 0, 0), z0, z0, (32, 1, 0, 0, 0, 0), (40, 1, 0, 3, 0, 0), (36, 1, 0, 3, 0, 0), (37, 1, 0, 0, 0, 0), (65, 3, 0, 115, 12, 4), z0, z0, (51, 3, 0, 92, 0, 0), z0, z0, (36, 1, 0, 2, 0, 0), (36, 1, 0, 3, 0, 0), (45, 3, 0, 51, 0, 0), z0, z0, (37, 1, 0, 0, 0, 0), (65, 3, 0, 117, 12, 6), z0, z0, (36, 1, 0, 2, 0, 0), (110, 3, 0, 170, 2, 153), z0, z0, (44, 3, 0, 51, 0, 0), z0, z0, (37, 1, 0, 0, 0, 0), (65, 3, 0, 117, 12, 6), z0, z0, (36, 1, 0, 3, 0, 0), (110, 3, 0, 170, 2, 153), z0, z0, (44, 3, 0, 51, 0, 0), z0, z0, (32, 1, 1, 0, 0, 0), (56, 3, 0, 52, 0, 0), z0, z0, (32, 1, 0, 0, 0, 0), (40, 2, 0, 4, 0, 0), z0, (36, 2, 0, 4, 0, 0), z0, (44, 3, 0, 86, 0, 0), z0, z0, (36, 1, 0, 1, 0, 0), (44, 3, 0, 75, 0, 0), z0, z0, (37, 1, 0, 0, 0, 0), (36, 1, 0, 2, 0, 0), (36, 1, 0, 3, 0, 0), (110, 3, 0, 199, 3, 158), z0, z0, (44, 3, 0, 86, 0, 0), z0, z0, (56, 3, 0, 84, 0, 0), z0, z0, (37, 1, 0, 0, 0, 0), (36, 1, 0, 2, 0, 0), (36, 1, 0, 3, 0, 0), (110, 3, 0, 200, 3, 160), z0, z0, (44, 3, 0, 86, 0, 0), z0, z0, (32, 1, 0, 0, 0, 0), (100, 1, 0, 0, 0, 0), (43, 3, 1, 3, 0, 0), z0, z0, (56, 3, 0, 12, 0, 0), z0, z0, (43, 3, 1, 2, 0, 0), z0, z0, (56, 3, 0, 2, 0, 0), z0, z0, (32, 1, 1, 0, 0, 0), (100, 1, 0, 0, 0, 0)]
def P_Md_isFree : PM := (12, ⟨"OneWaySpellModel", "isFree", "(Z)Z"⟩, prog_14_method_35_code, 5, some .boolean, 1, 1, (1758, 178, 1757, 122), C_Md_isFree)
def C_Md_group : List PI := [(37, 1, 0, 0, 0, 0), (32, 1, 0, 0, 0, 0), (67, 3, 0, 111, 12, 0), z0, z0, (37, 1, 0, 0, 0, 0), (36, 1, 0, 1, 0, 0), (110, 3, 0, 173, 2, 151), z0, z0, (46, 3, 0, 15, 0, 0), z0, z0, (32, 1, -1, 0, 0, 0), (100, 1, 0, 0, 0, 0), (36, 1, 0, 2, 0, 0), (32, 2, 10, 0, 0, 0), z0, (32, 2, 9, 0, 0, 0), z0, (37, 1, 0, 0, 0, 0), (65, 3, 0, 113, 12, 2), z0, z0, (36, 1, 0, 1, 0, 0), (58, 1, 0, 0, 0, 0), (1, 1, 0, 0, 0, 0), (110, 3, 0, 169, 3, 131), z0, z0, (44, 3, 0, 43, 0, 0), z0, z0, (37, 1, 0, 0, 0, 0), (36, 1, 0, 1, 0, 0), (36, 1, 0, 2, 0, 0), (32, 2, 10, 0, 0, 0), z0, (2, 1, 0, 0, 0, 0), (110, 3, 0, 174, 3, 152), z0, z0, (100, 1, 0, 0, 0, 0), (36, 1, 0, 2, 0, 0), (46, 3, 0, 56, 0, 0), z0, z0, (37, 1, 0, 0, 0, 0), (65, 3, 0, 114, 12, 3), z0, z0, (36, 1, 0, 1, 0, 0), (58, 1, 0, 0, 0, 0), (56, 3, 0, 95, 0, 0), z0, z0, (36, 1, 0, 2, 0, 0), (32, 1, 1, 0, 0, 0), (47, 3, 0, 70, 0, 0), z0, z0, (37, 1, 0, 0, 0, 0), (65, 3, 0, 113, 12, 2), z0, z0, (36, 1, 0, 1, 0, 0), (58, 1, 0, 0, 0, 0), (56, 3, 0, 95, 0, 0), z0, z0, (36, 1, 0, 2, 0, 0), (32, 1, 2, 0, 0, 0), (47, 3, 0, 94, 0, 0), z0, z0, (37, 1, 0, 0, 0, 0), (65, 3, 0, 117, 12, 6), z0, z0, (36, 1, 0, 1, 0, 0), (110, 3, 0, 170, 2, 153), z0, z0, (44, 3, 0, 90, 0, 0), z0, z0, (32, 1, 0, 0, 0, 0), (56, 3, 0, 95, 0, 0), z0, z0, (32, 1, 1, 0, 0, 0), (56, 3, 0, 95, 0, 0), z0, z0, (32, 1, -1, 0, 0, 0), (100, 1, 0, 0, 0, 0)]
def P_Md_group : PM := (12, ⟨"OneWaySpellModel", "group", "(II)I"⟩, prog_14_method_36_code, 3, some .int, 1, 2, (1731, 178, 1729, 1730), C_Md_group)
def C_Md_about : List PI := [(37, 1, 0, 0, 0, 0), (32, 1, 0, 0, 0, 0), (67, 3, 0, 111, 12, 0), z0, z0, (36, 1, 0, 1, 0, 0), (77, 50, 0, 2, 0, 0), z0, z0, z0, z0, z0, z0, z0, z0, z0, z0, z0, z0, z0, z0, z0, z0, z0, z0, z0, z0, z0, z0, z0, z0, z0, z0, z0, z0, z0, z0, z0, z0, z0, z0, z0, z0, z0, z0, z0, z0, z0, z0, z0, z0, z0, z0, z0, z0, z0, (37, 1, 0, 0, 0, 0), (65, 3, 0, 116, 12, 5), z0, z0, (100, 1, 0, 0, 0, 0), (37, 1, 0, 0, 0, 0), (65, 3, 0, 115, 12, 4), z0, z0, (100, 1, 0, 0, 0, 0), (37, 1, 0, 0, 0, 0), (65, 3, 0, 117, 12, 6), z0, z0, (100, 1, 0, 0, 0, 0), (37, 1, 0, 0, 0, 0), (110, 3, 0, 198, 1, 155), z0, z0, (100, 1, 0, 0, 0, 0), (37, 1, 0, 0, 0, 0), (65, 3, 0, 135, 12, 24), z0, z0, (100, 1, 0, 0, 0, 0), (37, 1, 0, 0, 0, 0), (65, 3, 0, 187, 12, 76), z0, z0, (100, 1, 0, 0, 0, 0), (37, 1, 0, 0, 0, 0), (65, 3, 0, 123, 12, 12), z0, z0, (100, 1, 0, 0, 0, 0), (37, 1, 0, 0, 0, 0), (32, 1, 1, 0, 0, 0), (110, 3, 0, 201, 2, 157), z0, z0, (44, 3, 0, 103, 0, 0), z0, z0, (32, 1, 1, 0, 0, 0), (56, 3, 0, 104, 0, 0), z0, z0, (32, 1, 0, 0, 0, 0), (100, 1, 0, 0, 0, 0), (37, 1, 0, 0, 0, 0), (32, 1, 0, 0, 0, 0), (110, 3, 0, 201, 2, 157), z0, z0, (44, 3, 0, 117, 0, 0), z0, z0, (32, 1, 1, 0, 0, 0), (56, 3, 0, 118, 0, 0), z0, z0, (32, 1, 0, 0, 0, 0), (100, 1, 0, 0, 0, 0), (32, 1, -1, 0, 0, 0), (100, 1, 0, 0, 0, 0)]
def P_Md_about : PM := (12, ⟨"OneWaySpellModel", "about", "(I)I"⟩, prog_14_method_37_code, 2, some .int, 1, 1, (1746, 178, 1744, 1745), C_Md_about)
def C_Md_meets : List PI := [(37, 1, 0, 0, 0, 0), (32, 1, 0, 0, 0, 0), (67, 3, 0, 111, 12, 0), z0, z0, (37, 1, 0, 0, 0, 0), (36, 1, 0, 1, 0, 0), (110, 3, 0, 173, 2, 151), z0, z0, (44, 3, 0, 21, 0, 0), z0, z0, (37, 1, 0, 0, 0, 0), (36, 1, 0, 2, 0, 0), (110, 3, 0, 173, 2, 151), z0, z0, (46, 3, 0, 23, 0, 0), z0, z0, (32, 1, -1, 0, 0, 0), (100, 1, 0, 0, 0, 0), (37, 1, 0, 0, 0, 0), (65, 3, 0, 113, 12, 2), z0, z0, (36, 1, 0, 1, 0, 0), (58, 1, 0, 0, 0, 0), (37, 1, 0, 0, 0, 0), (65, 3, 0, 113, 12, 2), z0, z0, (36, 1, 0, 2, 0, 0), (58, 1, 0, 0, 0, 0), (110, 3, 0, 171, 2, 162), z0, z0, (32, 1, 1, 0, 0, 0), (2, 1, 0, 0, 0, 0), (40, 1, 0, 3, 0, 0), (36, 1, 0, 3, 0, 0), (54, 3, 0, 72, 0, 0), z0, z0, (37, 1, 0, 0, 0, 0), (36, 1, 0, 1, 0, 0), (37, 1, 0, 0, 0, 0), (65, 3, 0, 113, 12, 2), z0, z0, (36, 1, 0, 1, 0, 0), (58, 1, 0, 0, 0, 0), (36, 1, 0, 3, 0, 0), (2, 1, 0, 0, 0, 0), (36, 1, 0, 2, 0, 0), (32, 1, 0, 0, 0, 0), (110, 3, 0, 175, 5, 159), z0, z0, (36, 1, 0, 3, 0, 0), (49, 3, 0, 66, 0, 0), z0, z0, (36, 1, 0, 3, 0, 0), (100, 1, 0, 0, 0, 0), (43, 3, -1, 3, 0, 0), z0, z0, (56, 3, 0, 41, 0, 0), z0, z0, (32, 1, 0, 0, 0, 0), (100, 1, 0, 0, 0, 0)]
def P_Md_meets : PM := (12, ⟨"OneWaySpellModel", "meets", "(II)I"⟩, prog_14_method_38_code, 4, some .int, 1, 2, (1774, 178, 1772, 1773), C_Md_meets)
def C_Md_tailSize : List PI := [(37, 1, 0, 0, 0, 0), (65, 3, 0, 113, 12, 2), z0, z0, (37, 1, 0, 0, 0, 0), (65, 3, 0, 138, 12, 27), z0, z0, (36, 1, 0, 1, 0, 0), (58, 1, 0, 0, 0, 0), (58, 1, 0, 0, 0, 0), (37, 1, 0, 0, 0, 0), (65, 3, 0, 139, 12, 28), z0, z0, (36, 1, 0, 1, 0, 0), (58, 1, 0, 0, 0, 0), (2, 1, 0, 0, 0, 0), (100, 1, 0, 0, 0, 0)]
def P_Md_tailSize : PM := (12, ⟨"OneWaySpellModel", "tailSize", "(I)I"⟩, prog_14_method_39_code, 2, some .int, 1, 1, (1797, 178, 1796, 129), C_Md_tailSize)
def C_Md_tailLetter : List PI := [(37, 1, 0, 0, 0, 0), (37, 1, 0, 0, 0, 0), (65, 3, 0, 138, 12, 27), z0, z0, (36, 1, 0, 1, 0, 0), (58, 1, 0, 0, 0, 0), (37, 1, 0, 0, 0, 0), (65, 3, 0, 139, 12, 28), z0, z0, (36, 1, 0, 1, 0, 0), (58, 1, 0, 0, 0, 0), (36, 1, 0, 2, 0, 0), (1, 1, 0, 0, 0, 0), (110, 3, 0, 174, 3, 152), z0, z0, (100, 1, 0, 0, 0, 0)]
def P_Md_tailLetter : PM := (12, ⟨"OneWaySpellModel", "tailLetter", "(II)I"⟩, prog_14_method_40_code, 3, some .int, 1, 2, (1801, 178, 1800, 130), C_Md_tailLetter)
def C_Md_against : List PI := [(37, 1, 0, 0, 0, 0), (36, 1, 0, 1, 0, 0), (36, 1, 0, 2, 0, 0), (37, 1, 0, 0, 0, 0), (65, 3, 0, 138, 12, 27), z0, z0, (36, 1, 0, 3, 0, 0), (58, 1, 0, 0, 0, 0), (37, 1, 0, 0, 0, 0), (65, 3, 0, 139, 12, 28), z0, z0, (36, 1, 0, 3, 0, 0), (58, 1, 0, 0, 0, 0), (110, 3, 0, 175, 5, 159), z0, z0, (40, 2, 0, 4, 0, 0), z0, (36, 1, 0, 2, 0, 0), (36, 2, 0, 4, 0, 0), z0, (1, 1, 0, 0, 0, 0), (37, 1, 0, 0, 0, 0), (65, 3, 0, 113, 12, 2), z0, z0, (36, 1, 0, 1, 0, 0), (58, 1, 0, 0, 0, 0), (51, 3, 0, 45, 0, 0), z0, z0, (37, 1, 0, 0, 0, 0), (36, 1, 0, 1, 0, 0), (36, 1, 0, 2, 0, 0), (36, 2, 0, 4, 0, 0), z0, (1, 1, 0, 0, 0, 0), (110, 3, 0, 174, 3, 152), z0, z0, (56, 3, 0, 46, 0, 0), z0, z0, (32, 1, 0, 0, 0, 0), (40, 2, 0, 5, 0, 0), z0, (36, 2, 0, 4, 0, 0), z0, (37, 1, 0, 0, 0, 0), (36, 1, 0, 3, 0, 0), (110, 3, 0, 205, 2, 167), z0, z0, (51, 3, 0, 68, 0, 0), z0, z0, (37, 1, 0, 0, 0, 0), (36, 1, 0, 3, 0, 0), (36, 2, 0, 4, 0, 0), z0, (110, 3, 0, 206, 3, 168), z0, z0, (56, 3, 0, 69, 0, 0), z0, z0, (32, 1, 0, 0, 0, 0), (40, 2, 0, 6, 0, 0), z0, (36, 2, 0, 5, 0, 0), z0, (36, 2, 0, 6, 0, 0), z0, (2, 1, 0, 0, 0, 0), (100, 1, 0, 0, 0, 0)]
def P_Md_against : PM := (12, ⟨"OneWaySpellModel", "against", "(III)I"⟩, prog_14_method_41_code, 7, some .int, 1, 3, (1793, 178, 1792, 128), C_Md_against)
def C_Md_layEnds : List PI := [(37, 1, 0, 0, 0, 0), (32, 1, 0, 0, 0, 0), (67, 3, 0, 143, 12, 32), z0, z0, (32, 1, 0, 0, 0, 0), (40, 1, 0, 1, 0, 0), (36, 1, 0, 1, 0, 0), (37, 1, 0, 0, 0, 0), (65, 3, 0, 115, 12, 4), z0, z0, (51, 3, 0, 171, 0, 0), z0, z0, (32, 1, 1, 0, 0, 0), (40, 1, 0, 2, 0, 0), (36, 1, 0, 2, 0, 0), (37, 1, 0, 0, 0, 0), (65, 3, 0, 113, 12, 2), z0, z0, (36, 1, 0, 1, 0, 0), (58, 1, 0, 0, 0, 0), (51, 3, 0, 165, 0, 0), z0, z0, (37, 1, 0, 0, 0, 0), (65, 3, 0, 117, 12, 6), z0, z0, (36, 1, 0, 1, 0, 0), (110, 3, 0, 170, 2, 153), z0, z0, (44, 3, 0, 165, 0, 0), z0, z0, (32, 1, 0, 0, 0, 0), (40, 1, 0, 3, 0, 0), (36, 1, 0, 3, 0, 0), (37, 1, 0, 0, 0, 0), (65, 3, 0, 143, 12, 32), z0, z0, (51, 3, 0, 64, 0, 0), z0, z0, (37, 1, 0, 0, 0, 0), (36, 1, 0, 1, 0, 0), (36, 1, 0, 2, 0, 0), (36, 1, 0, 3, 0, 0), (110, 3, 0, 207, 4, 166), z0, z0, (54, 3, 0, 64, 0, 0), z0, z0, (43, 3, 1, 3, 0, 0), z0, z0, (56, 3, 0, 40, 0, 0), z0, z0, (36, 1, 0, 3, 0, 0), (37, 1, 0, 0, 0, 0), (65, 3, 0, 143, 12, 32), z0, z0, (51, 3, 0, 85, 0, 0), z0, z0, (37, 1, 0, 0, 0, 0), (36, 1, 0, 1, 0, 0), (36, 1, 0, 2, 0, 0), (36, 1, 0, 3, 0, 0), (110, 3, 0, 207, 4, 166), z0, z0, (46, 3, 0, 85, 0, 0), z0, z0, (56, 3, 0, 159, 0, 0), z0, z0, (37, 1, 0, 0, 0, 0), (65, 3, 0, 143, 12, 32), z0, z0, (40, 2, 0, 4, 0, 0), z0, (36, 2, 0, 4, 0, 0), z0, (36, 1, 0, 3, 0, 0), (55, 3, 0, 135, 0, 0), z0, z0, (37, 1, 0, 0, 0, 0), (65, 3, 0, 138, 12, 27), z0, z0, (36, 2, 0, 4, 0, 0), z0, (37, 1, 0, 0, 0, 0), (65, 3, 0, 138, 12, 27), z0, z0, (36, 2, 0, 4, 0, 0), z0, (32, 1, 1, 0, 0, 0), (2, 1, 0, 0, 0, 0), (58, 1, 0, 0, 0, 0), (62, 1, 0, 0, 0, 0), (37, 1, 0, 0, 0, 0), (65, 3, 0, 139, 12, 28), z0, z0, (36, 2, 0, 4, 0, 0), z0, (37, 1, 0, 0, 0, 0), (65, 3, 0, 139, 12, 28), z0, z0, (36, 2, 0, 4, 0, 0), z0, (32, 1, 1, 0, 0, 0), (2, 1, 0, 0, 0, 0), (58, 1, 0, 0, 0, 0), (62, 1, 0, 0, 0, 0), (43, 3, -1, 4, 0, 0), z0, z0, (56, 3, 0, 91, 0, 0), z0, z0, (37, 1, 0, 0, 0, 0), (65, 3, 0, 138, 12, 27), z0, z0, (36, 1, 0, 3, 0, 0), (36, 1, 0, 1, 0, 0), (62, 1, 0, 0, 0, 0), (37, 1, 0, 0, 0, 0), (65, 3, 0, 139, 12, 28), z0, z0, (36, 1, 0, 3, 0, 0), (36, 1, 0, 2, 0, 0), (62, 1, 0, 0, 0, 0), (37, 1, 0, 0, 0, 0), (27, 1, 0, 0, 0, 0), (65, 3, 0, 143, 12, 32), z0, z0, (32, 1, 1, 0, 0, 0), (1, 1, 0, 0, 0, 0), (67, 3, 0, 143, 12, 32), z0, z0, (43, 3, 1, 2, 0, 0), z0, z0, (56, 3, 0, 17, 0, 0), z0, z0, (43, 3, 1, 1, 0, 0), z0, z0, (56, 3, 0, 7, 0, 0), z0, z0, (32, 1, 0, 0, 0, 0), (40, 1, 0, 1, 0, 0), (36, 1, 0, 1, 0, 0), (37, 1, 0, 0, 0, 0), (65, 3, 0, 115, 12, 4), z0, z0, (51, 3, 0, 246, 0, 0), z0, z0, (32, 1, 1, 0, 0, 0), (40, 1, 0, 2, 0, 0), (36, 1, 0, 2, 0, 0), (37, 1, 0, 0, 0, 0), (65, 3, 0, 113, 12, 2), z0, z0, (36, 1, 0, 1, 0, 0), (58, 1, 0, 0, 0, 0), (51, 3, 0, 240, 0, 0), z0, z0, (37, 1, 0, 0, 0, 0), (65, 3, 0, 117, 12, 6), z0, z0, (36, 1, 0, 1, 0, 0), (110, 3, 0, 170, 2, 153), z0, z0, (44, 3, 0, 240, 0, 0), z0, z0, (32, 1, 0, 0, 0, 0), (40, 1, 0, 3, 0, 0), (37, 1, 0, 0, 0, 0), (36, 1, 0, 1, 0, 0), (36, 1, 0, 2, 0, 0), (36, 1, 0, 3, 0, 0), (110, 3, 0, 207, 4, 166), z0, z0, (44, 3, 0, 222, 0, 0), z0, z0, (43, 3, 1, 3, 0, 0), z0, z0, (56, 3, 0, 206, 0, 0), z0, z0, (37, 1, 0, 0, 0, 0), (65, 3, 0, 141, 12, 30), z0, z0, (32, 2, 8, 0, 0, 0), z0, (36, 1, 0, 1, 0, 0), (3, 1, 0, 0, 0, 0), (36, 1, 0, 2, 0, 0), (1, 1, 0, 0, 0, 0), (36, 1, 0, 3, 0, 0), (62, 1, 0, 0, 0, 0), (43, 3, 1, 2, 0, 0), z0, z0, (56, 3, 0, 183, 0, 0), z0, z0, (43, 3, 1, 1, 0, 0), z0, z0, (56, 3, 0, 173, 0, 0), z0, z0, (103, 1, 0, 0, 0, 0)]
def P_Md_layEnds : PM := (12, ⟨"OneWaySpellModel", "layEnds", "()V"⟩, prog_14_method_42_code, 5, none, 1, 0, (1789, 178, 1788, 127), C_Md_layEnds)
def C_Md_leftOf : List PI := [(37, 1, 0, 0, 0, 0), (36, 1, 0, 2, 0, 0), (32, 1, 0, 0, 0, 0), (37, 1, 0, 0, 0, 0), (65, 3, 0, 138, 12, 27), z0, z0, (36, 1, 0, 1, 0, 0), (58, 1, 0, 0, 0, 0), (37, 1, 0, 0, 0, 0), (65, 3, 0, 139, 12, 28), z0, z0, (36, 1, 0, 1, 0, 0), (58, 1, 0, 0, 0, 0), (110, 3, 0, 175, 5, 159), z0, z0, (40, 1, 0, 3, 0, 0), (36, 1, 0, 3, 0, 0), (37, 1, 0, 0, 0, 0), (65, 3, 0, 113, 12, 2), z0, z0, (36, 1, 0, 2, 0, 0), (58, 1, 0, 0, 0, 0), (47, 3, 0, 41, 0, 0), z0, z0, (36, 1, 0, 3, 0, 0), (37, 1, 0, 0, 0, 0), (36, 1, 0, 1, 0, 0), (110, 3, 0, 205, 2, 167), z0, z0, (47, 3, 0, 41, 0, 0), z0, z0, (32, 2, -2, 0, 0, 0), z0, (100, 1, 0, 0, 0, 0), (36, 1, 0, 3, 0, 0), (37, 1, 0, 0, 0, 0), (65, 3, 0, 113, 12, 2), z0, z0, (36, 1, 0, 2, 0, 0), (58, 1, 0, 0, 0, 0), (47, 3, 0, 75, 0, 0), z0, z0, (37, 1, 0, 0, 0, 0), (65, 3, 0, 141, 12, 30), z0, z0, (32, 2, 8, 0, 0, 0), z0, (37, 1, 0, 0, 0, 0), (65, 3, 0, 138, 12, 27), z0, z0, (36, 1, 0, 1, 0, 0), (58, 1, 0, 0, 0, 0), (3, 1, 0, 0, 0, 0), (37, 1, 0, 0, 0, 0), (65, 3, 0, 139, 12, 28), z0, z0, (36, 1, 0, 1, 0, 0), (58, 1, 0, 0, 0, 0), (1, 1, 0, 0, 0, 0), (36, 1, 0, 3, 0, 0), (1, 1, 0, 0, 0, 0), (58, 1, 0, 0, 0, 0), (100, 1, 0, 0, 0, 0), (36, 1, 0, 3, 0, 0), (37, 1, 0, 0, 0, 0), (36, 1, 0, 1, 0, 0), (110, 3, 0, 205, 2, 167), z0, z0, (47, 3, 0, 98, 0, 0), z0, z0, (37, 1, 0, 0, 0, 0), (65, 3, 0, 141, 12, 30), z0, z0, (32, 2, 8, 0, 0, 0), z0, (36, 1, 0, 2, 0, 0), (3, 1, 0, 0, 0, 0), (36, 1, 0, 3, 0, 0), (1, 1, 0, 0, 0, 0), (58, 1, 0, 0, 0, 0), (56, 3, 0, 99, 0, 0), z0, z0, (32, 1, -1, 0, 0, 0), (100, 1, 0, 0, 0, 0)]
def P_Md_leftOf : PM := (12, ⟨"OneWaySpellModel", "leftOf", "(II)I"⟩, prog_14_method_43_code, 4, some .int, 1, 2, (1805, 178, 1804, 131), C_Md_leftOf)
def C_Md_layTails : List PI := [(37, 1, 0, 0, 0, 0), (65, 3, 0, 136, 12, 25), z0, z0, (44, 3, 0, 8, 0, 0), z0, z0, (103, 1, 0, 0, 0, 0), (37, 1, 0, 0, 0, 0), (32, 1, 1, 0, 0, 0), (67, 3, 0, 136, 12, 25), z0, z0, (37, 1, 0, 0, 0, 0), (110, 3, 0, 208, 1, 165), z0, z0, (32, 1, 0, 0, 0, 0), (40, 1, 0, 1, 0, 0), (36, 1, 0, 1, 0, 0), (37, 1, 0, 0, 0, 0), (65, 3, 0, 143, 12, 32), z0, z0, (51, 3, 0, 88, 0, 0), z0, z0, (37, 1, 0, 0, 0, 0), (65, 3, 0, 140, 12, 29), z0, z0, (36, 1, 0, 1, 0, 0), (32, 1, 0, 0, 0, 0), (62, 1, 0, 0, 0, 0), (32, 1, 0, 0, 0, 0), (40, 1, 0, 2, 0, 0), (36, 1, 0, 2, 0, 0), (37, 1, 0, 0, 0, 0), (65, 3, 0, 115, 12, 4), z0, z0, (51, 3, 0, 82, 0, 0), z0, z0, (37, 1, 0, 0, 0, 0), (65, 3, 0, 142, 12, 31), z0, z0, (32, 2, 14, 0, 0, 0), z0, (36, 1, 0, 1, 0, 0), (3, 1, 0, 0, 0, 0), (36, 1, 0, 2, 0, 0), (1, 1, 0, 0, 0, 0), (37, 1, 0, 0, 0, 0), (65, 3, 0, 117, 12, 6), z0, z0, (36, 1, 0, 2, 0, 0), (110, 3, 0, 170, 2, 153), z0, z0, (44, 3, 0, 74, 0, 0), z0, z0, (37, 1, 0, 0, 0, 0), (36, 1, 0, 1, 0, 0), (36, 1, 0, 2, 0, 0), (110, 3, 0, 209, 3, 169), z0, z0, (56, 3, 0, 75, 0, 0), z0, z0, (32, 1, -1, 0, 0, 0), (62, 1, 0, 0, 0, 0), (43, 3, 1, 2, 0, 0), z0, z0, (56, 3, 0, 36, 0, 0), z0, z0, (43, 3, 1, 1, 0, 0), z0, z0, (56, 3, 0, 19, 0, 0), z0, z0, (32, 1, 0, 0, 0, 0), (40, 1, 0, 1, 0, 0), (36, 1, 0, 1, 0, 0), (37, 1, 0, 0, 0, 0), (65, 3, 0, 115, 12, 4), z0, z0, (51, 3, 0, 178, 0, 0), z0, z0, (32, 1, 0, 0, 0, 0), (40, 1, 0, 2, 0, 0), (36, 1, 0, 2, 0, 0), (37, 1, 0, 0, 0, 0), (65, 3, 0, 115, 12, 4), z0, z0, (51, 3, 0, 172, 0, 0), z0, z0, (36, 1, 0, 1, 0, 0), (36, 1, 0, 2, 0, 0), (45, 3, 0, 166, 0, 0), z0, z0, (37, 1, 0, 0, 0, 0), (65, 3, 0, 117, 12, 6), z0, z0, (36, 1, 0, 1, 0, 0), (110, 3, 0, 170, 2, 153), z0, z0, (44, 3, 0, 166, 0, 0), z0, z0, (37, 1, 0, 0, 0, 0), (65, 3, 0, 117, 12, 6), z0, z0, (36, 1, 0, 2, 0, 0), (110, 3, 0, 170, 2, 153), z0, z0, (44, 3, 0, 166, 0, 0), z0, z0, (37, 1, 0, 0, 0, 0), (36, 1, 0, 1, 0, 0), (36, 1, 0, 2, 0, 0), (110, 3, 0, 199, 3, 158), z0, z0, (44, 3, 0, 166, 0, 0), z0, z0, (37, 1, 0, 0, 0, 0), (65, 3, 0, 140, 12, 29), z0, z0, (37, 1, 0, 0, 0, 0), (65, 3, 0, 141, 12, 30), z0, z0, (32, 2, 8, 0, 0, 0), z0, (36, 1, 0, 2, 0, 0), (3, 1, 0, 0, 0, 0), (37, 1, 0, 0, 0, 0), (65, 3, 0, 113, 12, 2), z0, z0, (36, 1, 0, 1, 0, 0), (58, 1, 0, 0, 0, 0), (1, 1, 0, 0, 0, 0), (58, 1, 0, 0, 0, 0), (32, 1, 1, 0, 0, 0), (62, 1, 0, 0, 0, 0), (43, 3, 1, 2, 0, 0), z0, z0, (56, 3, 0, 100, 0, 0), z0, z0, (43, 3, 1, 1, 0, 0), z0, z0, (56, 3, 0, 90, 0, 0), z0, z0, (37, 1, 0, 0, 0, 0), (32, 1, 0, 0, 0, 0), (67, 3, 0, 144, 12, 33), z0, z0, (37, 1, 0, 0, 0, 0), (32, 1, -1, 0, 0, 0), (67, 3, 0, 145, 12, 34), z0, z0, (32, 1, 1, 0, 0, 0), (40, 1, 0, 1, 0, 0), (36, 1, 0, 1, 0, 0), (44, 3, 0, 260, 0, 0), z0, z0, (32, 1, 0, 0, 0, 0), (40, 1, 0, 1, 0, 0), (32, 1, 0, 0, 0, 0), (40, 1, 0, 2, 0, 0), (36, 1, 0, 2, 0, 0), (37, 1, 0, 0, 0, 0), (65, 3, 0, 143, 12, 32), z0, z0, (51, 3, 0, 235, 0, 0), z0, z0, (36, 1, 0, 1, 0, 0), (37, 1, 0, 0, 0, 0), (65, 3, 0, 140, 12, 29), z0, z0, (36, 1, 0, 2, 0, 0), (58, 1, 0, 0, 0, 0), (37, 1, 0, 0, 0, 0), (65, 3, 0, 144, 12, 33), z0, z0, (32, 1, 1, 0, 0, 0), (1, 1, 0, 0, 0, 0), (47, 3, 0, 226, 0, 0), z0, z0, (32, 1, 1, 0, 0, 0), (56, 3, 0, 227, 0, 0), z0, z0, (32, 1, 0, 0, 0, 0), (5, 1, 0, 0, 0, 0), (40, 1, 0, 1, 0, 0), (43, 3, 1, 2, 0, 0), z0, z0, (56, 3, 0, 198, 0, 0), z0, z0, (36, 1, 0, 1, 0, 0), (44, 3, 0, 190, 0, 0), z0, z0, (37, 1, 0, 0, 0, 0), (27, 1, 0, 0, 0, 0), (65, 3, 0, 144, 12, 33), z0, z0, (32, 1, 1, 0, 0, 0), (1, 1, 0, 0, 0, 0), (67, 3, 0, 144, 12, 33), z0, z0, (37, 1, 0, 0, 0, 0), (37, 1, 0, 0, 0, 0), (65, 3, 0, 144, 12, 33), z0, z0, (110, 3, 0, 211, 2, 170), z0, z0, (56, 3, 0, 190, 0, 0), z0, z0, (103, 1, 0, 0, 0, 0)]
def P_Md_layTails : PM := (12, ⟨"OneWaySpellModel", "layTails", "()V"⟩, prog_14_method_44_code, 3, none, 1, 0, (1785, 178, 1784, 126), C_Md_layTails)
def C_Md_goesOn : List PI := [(32, 1, 0, 0, 0, 0), (40, 1, 0, 2, 0, 0), (36, 1, 0, 2, 0, 0), (37, 1, 0, 0, 0, 0), (65, 3, 0, 143, 12, 32), z0, z0, (51, 3, 0, 99, 0, 0), z0, z0, (32, 1, 0, 0, 0, 0), (40, 1, 0, 3, 0, 0), (36, 1, 0, 3, 0, 0), (37, 1, 0, 0, 0, 0), (65, 3, 0, 115, 12, 4), z0, z0, (51, 3, 0, 93, 0, 0), z0, z0, (37, 1, 0, 0, 0, 0), (65, 3, 0, 140, 12, 29), z0, z0, (36, 1, 0, 2, 0, 0), (58, 1, 0, 0, 0, 0), (36, 1, 0, 1, 0, 0), (47, 3, 0, 93, 0, 0), z0, z0, (37, 1, 0, 0, 0, 0), (65, 3, 0, 142, 12, 31), z0, z0, (32, 2, 14, 0, 0, 0), z0, (36, 1, 0, 2, 0, 0), (3, 1, 0, 0, 0, 0), (36, 1, 0, 3, 0, 0), (1, 1, 0, 0, 0, 0), (58, 1, 0, 0, 0, 0), (40, 2, 0, 4, 0, 0), z0, (36, 2, 0, 4, 0, 0), z0, (32, 2, -2, 0, 0, 0), z0, (47, 3, 0, 62, 0, 0), z0, z0, (37, 1, 0, 0, 0, 0), (65, 3, 0, 145, 12, 34), z0, z0, (50, 3, 0, 62, 0, 0), z0, z0, (37, 1, 0, 0, 0, 0), (36, 1, 0, 1, 0, 0), (67, 3, 0, 145, 12, 34), z0, z0, (36, 2, 0, 4, 0, 0), z0, (48, 3, 0, 87, 0, 0), z0, z0, (37, 1, 0, 0, 0, 0), (65, 3, 0, 140, 12, 29), z0, z0, (36, 2, 0, 4, 0, 0), z0, (58, 1, 0, 0, 0, 0), (46, 3, 0, 87, 0, 0), z0, z0, (37, 1, 0, 0, 0, 0), (65, 3, 0, 140, 12, 29), z0, z0, (36, 2, 0, 4, 0, 0), z0, (36, 1, 0, 1, 0, 0), (32, 1, 1, 0, 0, 0), (1, 1, 0, 0, 0, 0), (62, 1, 0, 0, 0, 0), (43, 3, 1, 3, 0, 0), z0, z0, (56, 3, 0, 12, 0, 0), z0, z0, (43, 3, 1, 2, 0, 0), z0, z0, (56, 3, 0, 2, 0, 0), z0, z0, (103, 1, 0, 0, 0, 0)]
def P_Md_goesOn : PM := (12, ⟨"OneWaySpellModel", "goesOn", "(I)V"⟩, prog_14_method_45_code, 5, none, 1, 1, (1809, 178, 1808, 132), C_Md_goesOn)
def C_Md_parts : List PI := [(37, 1, 0, 0, 0, 0), (32, 1, 0, 0, 0, 0), (67, 3, 0, 111, 12, 0), z0, z0, (37, 1, 0, 0, 0, 0), (110, 3, 0, 210, 1, 164), z0, z0, (37, 1, 0, 0, 0, 0), (65, 3, 0, 145, 12, 34), z0, z0, (50, 3, 0, 20, 0, 0), z0, z0, (32, 1, 1, 0, 0, 0), (56, 3, 0, 21, 0, 0), z0, z0, (32, 1, 0, 0, 0, 0), (100, 1, 0, 0, 0, 0)]
def P_Md_parts : PM := (12, ⟨"OneWaySpellModel", "parts", "()I"⟩, prog_14_method_46_code, 1, some .int, 1, 0, (1781, 178, 1779, 1780), C_Md_parts)
def C_Md_tails : List PI := [(37, 1, 0, 0, 0, 0), (32, 1, 0, 0, 0, 0), (67, 3, 0, 111, 12, 0), z0, z0, (37, 1, 0, 0, 0, 0), (110, 3, 0, 210, 1, 164), z0, z0, (36, 1, 0, 1, 0, 0), (32, 1, -1, 0, 0, 0), (47, 3, 0, 19, 0, 0), z0, z0, (37, 1, 0, 0, 0, 0), (65, 3, 0, 144, 12, 33), z0, z0, (100, 1, 0, 0, 0, 0), (32, 1, 0, 0, 0, 0), (40, 1, 0, 2, 0, 0), (32, 1, 0, 0, 0, 0), (40, 1, 0, 3, 0, 0), (36, 1, 0, 3, 0, 0), (37, 1, 0, 0, 0, 0), (65, 3, 0, 143, 12, 32), z0, z0, (51, 3, 0, 59, 0, 0), z0, z0, (36, 1, 0, 2, 0, 0), (36, 1, 0, 1, 0, 0), (54, 3, 0, 50, 0, 0), z0, z0, (37, 1, 0, 0, 0, 0), (65, 3, 0, 140, 12, 29), z0, z0, (36, 1, 0, 3, 0, 0), (58, 1, 0, 0, 0, 0), (36, 1, 0, 1, 0, 0), (47, 3, 0, 50, 0, 0), z0, z0, (32, 1, 1, 0, 0, 0), (56, 3, 0, 51, 0, 0), z0, z0, (32, 1, 0, 0, 0, 0), (1, 1, 0, 0, 0, 0), (40, 1, 0, 2, 0, 0), (43, 3, 1, 3, 0, 0), z0, z0, (56, 3, 0, 23, 0, 0), z0, z0, (36, 1, 0, 2, 0, 0), (100, 1, 0, 0, 0, 0)]
def P_Md_tails : PM := (12, ⟨"OneWaySpellModel", "tails", "(I)I"⟩, prog_14_method_47_code, 4, some .int, 1, 1, (1813, 178, 1811, 1812), C_Md_tails)
def C_Md_tail : List PI := [(37, 1, 0, 0, 0, 0), (32, 1, 0, 0, 0, 0), (67, 3, 0, 111, 12, 0), z0, z0, (37, 1, 0, 0, 0, 0), (110, 3, 0, 210, 1, 164), z0, z0, (32, 1, 0, 0, 0, 0), (40, 2, 0, 4, 0, 0), z0, (32, 1, 0, 0, 0, 0), (40, 2, 0, 5, 0, 0), z0, (36, 2, 0, 5, 0, 0), z0, (37, 1, 0, 0, 0, 0), (65, 3, 0, 143, 12, 32), z0, z0, (51, 3, 0, 85, 0, 0), z0, z0, (36, 1, 0, 1, 0, 0), (54, 3, 0, 79, 0, 0), z0, z0, (37, 1, 0, 0, 0, 0), (65, 3, 0, 140, 12, 29), z0, z0, (36, 2, 0, 5, 0, 0), z0, (58, 1, 0, 0, 0, 0), (36, 1, 0, 1, 0, 0), (45, 3, 0, 42, 0, 0), z0, z0, (56, 3, 0, 79, 0, 0), z0, z0, (36, 2, 0, 4, 0, 0), z0, (36, 1, 0, 2, 0, 0), (47, 3, 0, 76, 0, 0), z0, z0, (36, 1, 0, 3, 0, 0), (32, 1, 0, 0, 0, 0), (37, 1, 0, 0, 0, 0), (36, 2, 0, 5, 0, 0), z0, (110, 3, 0, 205, 2, 167), z0, z0, (32, 1, 1, 0, 0, 0), (2, 1, 0, 0, 0, 0), (110, 3, 0, 169, 3, 131), z0, z0, (44, 3, 0, 74, 0, 0), z0, z0, (37, 1, 0, 0, 0, 0), (36, 2, 0, 5, 0, 0), z0, (36, 1, 0, 3, 0, 0), (110, 3, 0, 206, 3, 168), z0, z0, (56, 3, 0, 75, 0, 0), z0, z0, (32, 1, -1, 0, 0, 0), (100, 1, 0, 0, 0, 0), (43, 3, 1, 4, 0, 0), z0, z0, (43, 3, 1, 5, 0, 0), z0, z0, (56, 3, 0, 15, 0, 0), z0, z0, (32, 1, -1, 0, 0, 0), (100, 1, 0, 0, 0, 0)]
def P_Md_tail : PM := (12, ⟨"OneWaySpellModel", "tail", "(III)I"⟩, prog_14_method_48_code, 6, some .int, 1, 3, (1817, 178, 1815, 1816), C_Md_tail)
def C_Md_doubt : List PI := [(37, 1, 0, 0, 0, 0), (32, 1, 0, 0, 0, 0), (67, 3, 0, 111, 12, 0), z0, z0, (37, 1, 0, 0, 0, 0), (110, 3, 0, 210, 1, 164), z0, z0, (37, 1, 0, 0, 0, 0), (65, 3, 0, 145, 12, 34), z0, z0, (100, 1, 0, 0, 0, 0)]
def P_Md_doubt : PM := (12, ⟨"OneWaySpellModel", "doubt", "()I"⟩, prog_14_method_49_code, 1, some .int, 1, 0, (1821, 178, 1819, 1820), C_Md_doubt)
def C_Md_tries : List PI := [(36, 1, 0, 2, 0, 0), (40, 1, 0, 3, 0, 0), (36, 1, 0, 3, 0, 0), (37, 1, 0, 0, 0, 0), (65, 3, 0, 113, 12, 2), z0, z0, (36, 1, 0, 1, 0, 0), (58, 1, 0, 0, 0, 0), (51, 3, 0, 43, 0, 0), z0, z0, (37, 1, 0, 0, 0, 0), (65, 3, 0, 148, 12, 37), z0, z0, (37, 1, 0, 0, 0, 0), (65, 3, 0, 149, 12, 38), z0, z0, (37, 1, 0, 0, 0, 0), (36, 1, 0, 1, 0, 0), (36, 1, 0, 3, 0, 0), (110, 3, 0, 174, 3, 152), z0, z0, (62, 1, 0, 0, 0, 0), (37, 1, 0, 0, 0, 0), (27, 1, 0, 0, 0, 0), (65, 3, 0, 149, 12, 38), z0, z0, (32, 1, 1, 0, 0, 0), (1, 1, 0, 0, 0, 0), (67, 3, 0, 149, 12, 38), z0, z0, (43, 3, 1, 3, 0, 0), z0, z0, (56, 3, 0, 2, 0, 0), z0, z0, (103, 1, 0, 0, 0, 0)]
def P_Md_tries : PM := (12, ⟨"OneWaySpellModel", "tries", "(II)V"⟩, prog_14_method_50_code, 4, none, 1, 2, (1833, 178, 1832, 134), C_Md_tries)
def C_Md_isBefore : List PI := [(36, 1, 0, 3, 0, 0), (48, 3, 0, 12, 0, 0), z0, z0, (37, 1, 0, 0, 0, 0), (65, 3, 0, 149, 12, 38), z0, z0, (36, 1, 0, 3, 0, 0), (45, 3, 0, 30, 0, 0), z0, z0, (36, 1, 0, 3, 0, 0), (48, 3, 0, 24, 0, 0), z0, z0, (37, 1, 0, 0, 0, 0), (65, 3, 0, 149, 12, 38), z0, z0, (36, 1, 0, 3, 0, 0), (51, 3, 0, 28, 0, 0), z0, z0, (32, 1, 1, 0, 0, 0), (56, 3, 0, 29, 0, 0), z0, z0, (32, 1, 0, 0, 0, 0), (100, 1, 0, 0, 0, 0), (32, 1, 0, 0, 0, 0), (40, 2, 0, 4, 0, 0), z0, (36, 2, 0, 4, 0, 0), z0, (36, 1, 0, 3, 0, 0), (51, 3, 0, 83, 0, 0), z0, z0, (37, 1, 0, 0, 0, 0), (65, 3, 0, 148, 12, 37), z0, z0, (36, 2, 0, 4, 0, 0), z0, (58, 1, 0, 0, 0, 0), (37, 1, 0, 1, 0, 0), (36, 1, 0, 2, 0, 0), (36, 2, 0, 4, 0, 0), z0, (1, 1, 0, 0, 0, 0), (58, 1, 0, 0, 0, 0), (45, 3, 0, 77, 0, 0), z0, z0, (37, 1, 0, 0, 0, 0), (65, 3, 0, 148, 12, 37), z0, z0, (36, 2, 0, 4, 0, 0), z0, (58, 1, 0, 0, 0, 0), (37, 1, 0, 1, 0, 0), (36, 1, 0, 2, 0, 0), (36, 2, 0, 4, 0, 0), z0, (1, 1, 0, 0, 0, 0), (58, 1, 0, 0, 0, 0), (51, 3, 0, 75, 0, 0), z0, z0, (32, 1, 1, 0, 0, 0), (56, 3, 0, 76, 0, 0), z0, z0, (32, 1, 0, 0, 0, 0), (100, 1, 0, 0, 0, 0), (43, 3, 1, 4, 0, 0), z0, z0, (56, 3, 0, 33, 0, 0), z0, z0, (32, 1, 0, 0, 0, 0), (100, 1, 0, 0, 0, 0)]
def P_Md_isBefore : PM := (12, ⟨"OneWaySpellModel", "isBefore", "([III)Z"⟩, prog_14_method_51_code, 5, some .boolean, 1, 3, (1841, 178, 1840, 136), C_Md_isBefore)
def C_Md_takes : List PI := [(37, 1, 0, 0, 0, 0), (37, 1, 0, 0, 0, 0), (65, 3, 0, 146, 12, 35), z0, z0, (32, 3, 800, 0, 0, 0), z0, z0, (36, 1, 0, 1, 0, 0), (3, 1, 0, 0, 0, 0), (37, 1, 0, 0, 0, 0), (65, 3, 0, 147, 12, 36), z0, z0, (36, 1, 0, 1, 0, 0), (58, 1, 0, 0, 0, 0), (110, 3, 0, 217, 4, 178), z0, z0, (46, 3, 0, 24, 0, 0), z0, z0, (32, 1, 0, 0, 0, 0), (100, 1, 0, 0, 0, 0), (32, 1, 0, 0, 0, 0), (40, 1, 0, 2, 0, 0), (36, 1, 0, 2, 0, 0), (37, 1, 0, 0, 0, 0), (65, 3, 0, 149, 12, 38), z0, z0, (51, 3, 0, 58, 0, 0), z0, z0, (37, 1, 0, 0, 0, 0), (65, 3, 0, 146, 12, 35), z0, z0, (32, 3, 800, 0, 0, 0), z0, z0, (36, 1, 0, 1, 0, 0), (3, 1, 0, 0, 0, 0), (36, 1, 0, 2, 0, 0), (1, 1, 0, 0, 0, 0), (37, 1, 0, 0, 0, 0), (65, 3, 0, 148, 12, 37), z0, z0, (36, 1, 0, 2, 0, 0), (58, 1, 0, 0, 0, 0), (62, 1, 0, 0, 0, 0), (43, 3, 1, 2, 0, 0), z0, z0, (56, 3, 0, 26, 0, 0), z0, z0, (37, 1, 0, 0, 0, 0), (65, 3, 0, 147, 12, 36), z0, z0, (36, 1, 0, 1, 0, 0), (37, 1, 0, 0, 0, 0), (65, 3, 0, 149, 12, 38), z0, z0, (62, 1, 0, 0, 0, 0), (32, 1, 1, 0, 0, 0), (100, 1, 0, 0, 0, 0)]
def P_Md_takes : PM := (12, ⟨"OneWaySpellModel", "takes", "(I)Z"⟩, prog_14_method_52_code, 3, some .boolean, 1, 1, (1837, 178, 1836, 135), C_Md_takes)
def C_Md_layBest : List PI := [(32, 1, 0, 0, 0, 0), (40, 1, 0, 1, 0, 0), (36, 1, 0, 1, 0, 0), (37, 1, 0, 0, 0, 0), (65, 3, 0, 143, 12, 32), z0, z0, (51, 3, 0, 23, 0, 0), z0, z0, (37, 1, 0, 0, 0, 0), (65, 3, 0, 147, 12, 36), z0, z0, (36, 1, 0, 1, 0, 0), (32, 1, -1, 0, 0, 0), (62, 1, 0, 0, 0, 0), (43, 3, 1, 1, 0, 0), z0, z0, (56, 3, 0, 2, 0, 0), z0, z0, (32, 1, 0, 0, 0, 0), (40, 1, 0, 1, 0, 0), (36, 1, 0, 1, 0, 0), (37, 1, 0, 0, 0, 0), (65, 3, 0, 115, 12, 4), z0, z0, (51, 3, 0, 123, 0, 0), z0, z0, (32, 1, 0, 0, 0, 0), (40, 1, 0, 2, 0, 0), (36, 1, 0, 2, 0, 0), (37, 1, 0, 0, 0, 0), (65, 3, 0, 115, 12, 4), z0, z0, (51, 3, 0, 117, 0, 0), z0, z0, (36, 1, 0, 1, 0, 0), (36, 1, 0, 2, 0, 0), (45, 3, 0, 111, 0, 0), z0, z0, (37, 1, 0, 0, 0, 0), (65, 3, 0, 117, 12, 6), z0, z0, (36, 1, 0, 1, 0, 0), (110, 3, 0, 170, 2, 153), z0, z0, (44, 3, 0, 111, 0, 0), z0, z0, (37, 1, 0, 0, 0, 0), (65, 3, 0, 117, 12, 6), z0, z0, (36, 1, 0, 2, 0, 0), (110, 3, 0, 170, 2, 153), z0, z0, (44, 3, 0, 111, 0, 0), z0, z0, (37, 1, 0, 0, 0, 0), (36, 1, 0, 1, 0, 0), (36, 1, 0, 2, 0, 0), (110, 3, 0, 199, 3, 158), z0, z0, (44, 3, 0, 111, 0, 0), z0, z0, (37, 1, 0, 0, 0, 0), (32, 1, 0, 0, 0, 0), (67, 3, 0, 149, 12, 38), z0, z0, (37, 1, 0, 0, 0, 0), (36, 1, 0, 2, 0, 0), (32, 1, 0, 0, 0, 0), (110, 3, 0, 216, 3, 176), z0, z0, (37, 1, 0, 0, 0, 0), (37, 1, 0, 0, 0, 0), (65, 3, 0, 141, 12, 30), z0, z0, (32, 2, 8, 0, 0, 0), z0, (36, 1, 0, 2, 0, 0), (3, 1, 0, 0, 0, 0), (37, 1, 0, 0, 0, 0), (65, 3, 0, 113, 12, 2), z0, z0, (36, 1, 0, 1, 0, 0), (58, 1, 0, 0, 0, 0), (1, 1, 0, 0, 0, 0), (58, 1, 0, 0, 0, 0), (110, 3, 0, 218, 2, 177), z0, z0, (28, 1, 0, 0, 0, 0), (43, 3, 1, 2, 0, 0), z0, z0, (56, 3, 0, 35, 0, 0), z0, z0, (43, 3, 1, 1, 0, 0), z0, z0, (56, 3, 0, 25, 0, 0), z0, z0, (32, 1, 1, 0, 0, 0), (40, 1, 0, 1, 0, 0), (36, 1, 0, 1, 0, 0), (44, 3, 0, 272, 0, 0), z0, z0, (32, 1, 0, 0, 0, 0), (40, 1, 0, 1, 0, 0), (32, 1, 0, 0, 0, 0), (40, 1, 0, 2, 0, 0), (36, 1, 0, 2, 0, 0), (37, 1, 0, 0, 0, 0), (65, 3, 0, 143, 12, 32), z0, z0, (51, 3, 0, 269, 0, 0), z0, z0, (32, 1, 0, 0, 0, 0), (40, 1, 0, 3, 0, 0), (36, 1, 0, 3, 0, 0), (37, 1, 0, 0, 0, 0), (65, 3, 0, 115, 12, 4), z0, z0, (51, 3, 0, 263, 0, 0), z0, z0, (37, 1, 0, 0, 0, 0), (65, 3, 0, 147, 12, 36), z0, z0, (36, 1, 0, 2, 0, 0), (58, 1, 0, 0, 0, 0), (48, 3, 0, 263, 0, 0), z0, z0, (37, 1, 0, 0, 0, 0), (65, 3, 0, 142, 12, 31), z0, z0, (32, 2, 14, 0, 0, 0), z0, (36, 1, 0, 2, 0, 0), (3, 1, 0, 0, 0, 0), (36, 1, 0, 3, 0, 0), (1, 1, 0, 0, 0, 0), (58, 1, 0, 0, 0, 0), (40, 2, 0, 4, 0, 0), z0, (36, 2, 0, 4, 0, 0), z0, (50, 3, 0, 181, 0, 0), z0, z0, (56, 3, 0, 257, 0, 0), z0, z0, (37, 1, 0, 0, 0, 0), (37, 1, 0, 0, 0, 0), (65, 3, 0, 147, 12, 36), z0, z0, (36, 1, 0, 2, 0, 0), (58, 1, 0, 0, 0, 0), (67, 3, 0, 149, 12, 38), z0, z0, (32, 1, 0, 0, 0, 0), (40, 2, 0, 5, 0, 0), z0, (36, 2, 0, 5, 0, 0), z0, (37, 1, 0, 0, 0, 0), (65, 3, 0, 149, 12, 38), z0, z0, (51, 3, 0, 229, 0, 0), z0, z0, (37, 1, 0, 0, 0, 0), (65, 3, 0, 148, 12, 37), z0, z0, (36, 2, 0, 5, 0, 0), z0, (37, 1, 0, 0, 0, 0), (65, 3, 0, 146, 12, 35), z0, z0, (32, 3, 800, 0, 0, 0), z0, z0, (36, 1, 0, 2, 0, 0), (3, 1, 0, 0, 0, 0), (36, 2, 0, 5, 0, 0), z0, (1, 1, 0, 0, 0, 0), (58, 1, 0, 0, 0, 0), (62, 1, 0, 0, 0, 0), (43, 3, 1, 5, 0, 0), z0, z0, (56, 3, 0, 194, 0, 0), z0, z0, (37, 1, 0, 0, 0, 0), (36, 1, 0, 3, 0, 0), (37, 1, 0, 0, 0, 0), (65, 3, 0, 113, 12, 2), z0, z0, (36, 1, 0, 3, 0, 0), (58, 1, 0, 0, 0, 0), (37, 1, 0, 0, 0, 0), (36, 1, 0, 2, 0, 0), (110, 3, 0, 205, 2, 167), z0, z0, (110, 3, 0, 171, 2, 162), z0, z0, (110, 3, 0, 216, 3, 176), z0, z0, (36, 1, 0, 1, 0, 0), (37, 1, 0, 0, 0, 0), (36, 2, 0, 4, 0, 0), z0, (110, 3, 0, 218, 2, 177), z0, z0, (5, 1, 0, 0, 0, 0), (40, 1, 0, 1, 0, 0), (43, 3, 1, 3, 0, 0), z0, z0, (56, 3, 0, 143, 0, 0), z0, z0, (43, 3, 1, 2, 0, 0), z0, z0, (56, 3, 0, 133, 0, 0), z0, z0, (56, 3, 0, 125, 0, 0), z0, z0, (103, 1, 0, 0, 0, 0)]
def P_Md_layBest : PM := (12, ⟨"OneWaySpellModel", "layBest", "()V"⟩, prog_14_method_53_code, 6, none, 1, 0, (1829, 178, 1828, 133), C_Md_layBest)
def C_Md_takesWord : List PI := [(32, 1, 0, 0, 0, 0), (40, 2, 0, 4, 0, 0), z0, (36, 2, 0, 4, 0, 0), z0, (36, 1, 0, 3, 0, 0), (51, 3, 0, 28, 0, 0), z0, z0, (37, 1, 0, 0, 0, 0), (65, 3, 0, 134, 12, 23), z0, z0, (36, 2, 0, 4, 0, 0), z0, (37, 1, 0, 1, 0, 0), (36, 1, 0, 2, 0, 0), (36, 2, 0, 4, 0, 0), z0, (1, 1, 0, 0, 0, 0), (58, 1, 0, 0, 0, 0), (62, 1, 0, 0, 0, 0), (43, 3, 1, 4, 0, 0), z0, z0, (56, 3, 0, 3, 0, 0), z0, z0, (37, 1, 0, 0, 0, 0), (36, 1, 0, 3, 0, 0), (67, 3, 0, 135, 12, 24), z0, z0, (103, 1, 0, 0, 0, 0)]
def P_Md_takesWord : PM := (12, ⟨"OneWaySpellModel", "takesWord", "([III)V"⟩, prog_14_method_54_code, 5, none, 1, 3, (1845, 178, 1844, 137), C_Md_takesWord)
def C_Md_witness : List PI := [(37, 1, 0, 0, 0, 0), (32, 1, 0, 0, 0, 0), (67, 3, 0, 111, 12, 0), z0, z0, (37, 1, 0, 0, 0, 0), (110, 3, 0, 210, 1, 164), z0, z0, (37, 1, 0, 0, 0, 0), (65, 3, 0, 145, 12, 34), z0, z0, (50, 3, 0, 18, 0, 0), z0, z0, (32, 1, -1, 0, 0, 0), (100, 1, 0, 0, 0, 0), (37, 1, 0, 0, 0, 0), (110, 3, 0, 219, 1, 175), z0, z0, (32, 1, -1, 0, 0, 0), (40, 1, 0, 1, 0, 0), (32, 1, 0, 0, 0, 0), (40, 1, 0, 2, 0, 0), (36, 1, 0, 2, 0, 0), (37, 1, 0, 0, 0, 0), (65, 3, 0, 143, 12, 32), z0, z0, (51, 3, 0, 181, 0, 0), z0, z0, (32, 1, 0, 0, 0, 0), (40, 1, 0, 3, 0, 0), (32, 1, 0, 0, 0, 0), (40, 2, 0, 4, 0, 0), z0, (36, 2, 0, 4, 0, 0), z0, (37, 1, 0, 0, 0, 0), (65, 3, 0, 115, 12, 4), z0, z0, (51, 3, 0, 79, 0, 0), z0, z0, (36, 1, 0, 3, 0, 0), (37, 1, 0, 0, 0, 0), (65, 3, 0, 142, 12, 31), z0, z0, (32, 2, 14, 0, 0, 0), z0, (36, 1, 0, 2, 0, 0), (3, 1, 0, 0, 0, 0), (36, 2, 0, 4, 0, 0), z0, (1, 1, 0, 0, 0, 0), (58, 1, 0, 0, 0, 0), (32, 2, -2, 0, 0, 0), z0, (47, 3, 0, 70, 0, 0), z0, z0, (32, 1, 1, 0, 0, 0), (56, 3, 0, 71, 0, 0), z0, z0, (32, 1, 0, 0, 0, 0), (5, 1, 0, 0, 0, 0), (40, 1, 0, 3, 0, 0), (43, 3, 1, 4, 0, 0), z0, z0, (56, 3, 0, 39, 0, 0), z0, z0, (36, 1, 0, 3, 0, 0), (44, 3, 0, 175, 0, 0), z0, z0, (37, 1, 0, 0, 0, 0), (65, 3, 0, 147, 12, 36), z0, z0, (36, 1, 0, 2, 0, 0), (58, 1, 0, 0, 0, 0), (50, 3, 0, 95, 0, 0), z0, z0, (56, 3, 0, 175, 0, 0), z0, z0, (37, 1, 0, 0, 0, 0), (37, 1, 0, 0, 0, 0), (65, 3, 0, 147, 12, 36), z0, z0, (36, 1, 0, 2, 0, 0), (58, 1, 0, 0, 0, 0), (67, 3, 0, 149, 12, 38), z0, z0, (32, 1, 0, 0, 0, 0), (40, 2, 0, 4, 0, 0), z0, (36, 2, 0, 4, 0, 0), z0, (37, 1, 0, 0, 0, 0), (65, 3, 0, 149, 12, 38), z0, z0, (51, 3, 0, 143, 0, 0), z0, z0, (37, 1, 0, 0, 0, 0), (65, 3, 0, 148, 12, 37), z0, z0, (36, 2, 0, 4, 0, 0), z0, (37, 1, 0, 0, 0, 0), (65, 3, 0, 146, 12, 35), z0, z0, (32, 3, 800, 0, 0, 0), z0, z0, (36, 1, 0, 2, 0, 0), (3, 1, 0, 0, 0, 0), (36, 2, 0, 4, 0, 0), z0, (1, 1, 0, 0, 0, 0), (58, 1, 0, 0, 0, 0), (62, 1, 0, 0, 0, 0), (43, 3, 1, 4, 0, 0), z0, z0, (56, 3, 0, 108, 0, 0), z0, z0, (36, 1, 0, 1, 0, 0), (48, 3, 0, 169, 0, 0), z0, z0, (37, 1, 0, 0, 0, 0), (37, 1, 0, 0, 0, 0), (65, 3, 0, 146, 12, 35), z0, z0, (32, 3, 800, 0, 0, 0), z0, z0, (36, 1, 0, 1, 0, 0), (3, 1, 0, 0, 0, 0), (37, 1, 0, 0, 0, 0), (65, 3, 0, 147, 12, 36), z0, z0, (36, 1, 0, 1, 0, 0), (58, 1, 0, 0, 0, 0), (110, 3, 0, 217, 4, 178), z0, z0, (44, 3, 0, 173, 0, 0), z0, z0, (36, 1, 0, 2, 0, 0), (56, 3, 0, 174, 0, 0), z0, z0, (36, 1, 0, 1, 0, 0), (40, 1, 0, 1, 0, 0), (43, 3, 1, 2, 0, 0), z0, z0, (56, 3, 0, 26, 0, 0), z0, z0, (37, 1, 0, 0, 0, 0), (37, 1, 0, 0, 0, 0), (65, 3, 0, 146, 12, 35), z0, z0, (32, 3, 800, 0, 0, 0), z0, z0, (36, 1, 0, 1, 0, 0), (3, 1, 0, 0, 0, 0), (37, 1, 0, 0, 0, 0), (65, 3, 0, 147, 12, 36), z0, z0, (36, 1, 0, 1, 0, 0), (58, 1, 0, 0, 0, 0), (110, 3, 0, 220, 4, 179), z0, z0, (37, 1, 0, 0, 0, 0), (65, 3, 0, 135, 12, 24), z0, z0, (100, 1, 0, 0, 0, 0)]
def P_Md_witness : PM := (12, ⟨"OneWaySpellModel", "witness", "()I"⟩, prog_14_method_55_code, 5, some .int, 1, 0, (1825, 178, 1823, 1824), C_Md_witness)
def C_Md_look : List PI := [(37, 1, 0, 0, 0, 0), (32, 1, 0, 0, 0, 0), (67, 3, 0, 111, 12, 0), z0, z0, (37, 1, 0, 0, 0, 0), (110, 3, 0, 210, 1, 164), z0, z0, (37, 1, 0, 0, 0, 0), (65, 3, 0, 145, 12, 34), z0, z0, (48, 3, 0, 18, 0, 0), z0, z0, (32, 1, -1, 0, 0, 0), (100, 1, 0, 0, 0, 0), (32, 1, 0, 0, 0, 0), (40, 1, 0, 1, 0, 0), (36, 1, 0, 1, 0, 0), (37, 1, 0, 0, 0, 0), (65, 3, 0, 143, 12, 32), z0, z0, (51, 3, 0, 41, 0, 0), z0, z0, (37, 1, 0, 0, 0, 0), (65, 3, 0, 150, 12, 39), z0, z0, (36, 1, 0, 1, 0, 0), (32, 1, 0, 0, 0, 0), (62, 1, 0, 0, 0, 0), (43, 3, 1, 1, 0, 0), z0, z0, (56, 3, 0, 20, 0, 0), z0, z0, (32, 1, 1, 0, 0, 0), (40, 1, 0, 1, 0, 0), (32, 1, 0, 0, 0, 0), (40, 1, 0, 2, 0, 0), (36, 1, 0, 2, 0, 0), (37, 1, 0, 0, 0, 0), (65, 3, 0, 143, 12, 32), z0, z0, (32, 1, 1, 0, 0, 0), (1, 1, 0, 0, 0, 0), (53, 3, 0, 198, 0, 0), z0, z0, (36, 1, 0, 1, 0, 0), (44, 3, 0, 198, 0, 0), z0, z0, (32, 1, 0, 0, 0, 0), (40, 1, 0, 1, 0, 0), (32, 1, 0, 0, 0, 0), (40, 1, 0, 3, 0, 0), (36, 1, 0, 3, 0, 0), (37, 1, 0, 0, 0, 0), (65, 3, 0, 143, 12, 32), z0, z0, (51, 3, 0, 192, 0, 0), z0, z0, (32, 1, 0, 0, 0, 0), (40, 2, 0, 4, 0, 0), z0, (36, 2, 0, 4, 0, 0), z0, (37, 1, 0, 0, 0, 0), (65, 3, 0, 115, 12, 4), z0, z0, (51, 3, 0, 186, 0, 0), z0, z0, (37, 1, 0, 0, 0, 0), (65, 3, 0, 140, 12, 29), z0, z0, (36, 1, 0, 3, 0, 0), (58, 1, 0, 0, 0, 0), (54, 3, 0, 186, 0, 0), z0, z0, (37, 1, 0, 0, 0, 0), (65, 3, 0, 117, 12, 6), z0, z0, (36, 2, 0, 4, 0, 0), z0, (110, 3, 0, 170, 2, 153), z0, z0, (46, 3, 0, 107, 0, 0), z0, z0, (56, 3, 0, 180, 0, 0), z0, z0, (37, 1, 0, 0, 0, 0), (65, 3, 0, 142, 12, 31), z0, z0, (32, 2, 14, 0, 0, 0), z0, (36, 1, 0, 3, 0, 0), (3, 1, 0, 0, 0, 0), (36, 2, 0, 4, 0, 0), z0, (1, 1, 0, 0, 0, 0), (58, 1, 0, 0, 0, 0), (40, 2, 0, 5, 0, 0), z0, (37, 1, 0, 0, 0, 0), (36, 2, 0, 4, 0, 0), z0, (32, 1, 0, 0, 0, 0), (37, 1, 0, 0, 0, 0), (65, 3, 0, 138, 12, 27), z0, z0, (36, 1, 0, 3, 0, 0), (58, 1, 0, 0, 0, 0), (37, 1, 0, 0, 0, 0), (65, 3, 0, 139, 12, 28), z0, z0, (36, 1, 0, 3, 0, 0), (58, 1, 0, 0, 0, 0), (110, 3, 0, 175, 5, 159), z0, z0, (36, 2, 0, 5, 0, 0), z0, (48, 3, 0, 155, 0, 0), z0, z0, (37, 1, 0, 0, 0, 0), (65, 3, 0, 150, 12, 39), z0, z0, (36, 2, 0, 5, 0, 0), z0, (58, 1, 0, 0, 0, 0), (56, 3, 0, 156, 0, 0), z0, z0, (32, 1, 0, 0, 0, 0), (1, 1, 0, 0, 0, 0), (40, 2, 0, 6, 0, 0), z0, (36, 2, 0, 6, 0, 0), z0, (37, 1, 0, 0, 0, 0), (65, 3, 0, 150, 12, 39), z0, z0, (36, 1, 0, 3, 0, 0), (58, 1, 0, 0, 0, 0), (55, 3, 0, 180, 0, 0), z0, z0, (37, 1, 0, 0, 0, 0), (65, 3, 0, 150, 12, 39), z0, z0, (36, 1, 0, 3, 0, 0), (36, 2, 0, 6, 0, 0), z0, (62, 1, 0, 0, 0, 0), (32, 1, 1, 0, 0, 0), (40, 1, 0, 1, 0, 0), (43, 3, 1, 4, 0, 0), z0, z0, (56, 3, 0, 74, 0, 0), z0, z0, (43, 3, 1, 3, 0, 0), z0, z0, (56, 3, 0, 63, 0, 0), z0, z0, (43, 3, 1, 2, 0, 0), z0, z0, (56, 3, 0, 45, 0, 0), z0, z0, (36, 1, 0, 1, 0, 0), (44, 3, 0, 204, 0, 0), z0, z0, (32, 1, -1, 0, 0, 0), (100, 1, 0, 0, 0, 0), (32, 1, 0, 0, 0, 0), (40, 1, 0, 2, 0, 0), (32, 1, 0, 0, 0, 0), (40, 1, 0, 3, 0, 0), (36, 1, 0, 3, 0, 0), (37, 1, 0, 0, 0, 0), (65, 3, 0, 115, 12, 4), z0, z0, (51, 3, 0, 330, 0, 0), z0, z0, (32, 1, 0, 0, 0, 0), (40, 2, 0, 4, 0, 0), z0, (36, 2, 0, 4, 0, 0), z0, (37, 1, 0, 0, 0, 0), (65, 3, 0, 115, 12, 4), z0, z0, (51, 3, 0, 324, 0, 0), z0, z0, (36, 1, 0, 3, 0, 0), (36, 2, 0, 4, 0, 0), z0, (45, 3, 0, 318, 0, 0), z0, z0, (37, 1, 0, 0, 0, 0), (65, 3, 0, 117, 12, 6), z0, z0, (36, 1, 0, 3, 0, 0), (110, 3, 0, 170, 2, 153), z0, z0, (44, 3, 0, 318, 0, 0), z0, z0, (37, 1, 0, 0, 0, 0), (65, 3, 0, 117, 12, 6), z0, z0, (36, 2, 0, 4, 0, 0), z0, (110, 3, 0, 170, 2, 153), z0, z0, (44, 3, 0, 318, 0, 0), z0, z0, (37, 1, 0, 0, 0, 0), (36, 1, 0, 3, 0, 0), (32, 1, 0, 0, 0, 0), (36, 2, 0, 4, 0, 0), z0, (32, 1, 0, 0, 0, 0), (110, 3, 0, 175, 5, 159), z0, z0, (37, 1, 0, 0, 0, 0), (36, 1, 0, 3, 0, 0), (36, 2, 0, 4, 0, 0), z0, (110, 3, 0, 199, 3, 158), z0, z0, (44, 3, 0, 301, 0, 0), z0, z0, (37, 1, 0, 0, 0, 0), (65, 3, 0, 150, 12, 39), z0, z0, (37, 1, 0, 0, 0, 0), (65, 3, 0, 141, 12, 30), z0, z0, (32, 2, 8, 0, 0, 0), z0, (36, 2, 0, 4, 0, 0), z0, (3, 1, 0, 0, 0, 0), (37, 1, 0, 0, 0, 0), (65, 3, 0, 113, 12, 2), z0, z0, (36, 1, 0, 3, 0, 0), (58, 1, 0, 0, 0, 0), (1, 1, 0, 0, 0, 0), (58, 1, 0, 0, 0, 0), (58, 1, 0, 0, 0, 0), (56, 3, 0, 302, 0, 0), z0, z0, (32, 1, 0, 0, 0, 0), (1, 1, 0, 0, 0, 0), (40, 2, 0, 5, 0, 0), z0, (36, 2, 0, 5, 0, 0), z0, (36, 1, 0, 2, 0, 0), (55, 3, 0, 316, 0, 0), z0, z0, (36, 2, 0, 5, 0, 0), z0, (56, 3, 0, 317, 0, 0), z0, z0, (36, 1, 0, 2, 0, 0), (40, 1, 0, 2, 0, 0), (43, 3, 1, 4, 0, 0), z0, z0, (56, 3, 0, 219, 0, 0), z0, z0, (43, 3, 1, 3, 0, 0), z0, z0, (56, 3, 0, 208, 0, 0), z0, z0, (36, 1, 0, 2, 0, 0), (100, 1, 0, 0, 0, 0)]
def P_Md_look : PM := (12, ⟨"OneWaySpellModel", "look", "()I"⟩, prog_14_method_56_code, 7, some .int, 1, 0, (1849, 178, 1847, 1848), C_Md_look)
def C_Md_common : List PI := [(38, 1, 0, 0, 0, 0), (42, 2, 0, 4, 0, 0), z0, (38, 1, 0, 2, 0, 0), (42, 2, 0, 6, 0, 0), z0, (38, 2, 0, 6, 0, 0), z0, (33, 1, 0, 0, 0, 0), (22, 1, 0, 0, 0, 0), (44, 3, 0, 31, 0, 0), z0, z0, (38, 2, 0, 4, 0, 0), z0, (38, 2, 0, 6, 0, 0), z0, (19, 1, 0, 0, 0, 0), (42, 2, 0, 8, 0, 0), z0, (38, 2, 0, 6, 0, 0), z0, (42, 2, 0, 4, 0, 0), z0, (38, 2, 0, 8, 0, 0), z0, (42, 2, 0, 6, 0, 0), z0, (56, 3, 0, 6, 0, 0), z0, z0, (38, 2, 0, 4, 0, 0), z0, (101, 1, 0, 0, 0, 0)]
def P_Md_common : PM := (12, ⟨"OneWaySpellModel", "common", "(JJ)J"⟩, prog_14_method_57_code, 10, some .long, 0, 2, (1857, 178, 1856, 0), C_Md_common)
def C_Md_share : List PI := [(37, 1, 0, 0, 0, 0), (32, 1, 0, 0, 0, 0), (67, 3, 0, 111, 12, 0), z0, z0, (36, 1, 0, 1, 0, 0), (32, 1, 0, 0, 0, 0), (32, 1, 1, 0, 0, 0), (110, 3, 0, 169, 3, 131), z0, z0, (46, 3, 0, 18, 0, 0), z0, z0, (35, 3, -1, 1854, 0, 0), z0, z0, (101, 1, 0, 0, 0, 0), (33, 1, 0, 0, 0, 0), (42, 1, 0, 2, 0, 0), (33, 1, 1, 0, 0, 0), (42, 2, 0, 4, 0, 0), z0, (33, 1, 1, 0, 0, 0), (42, 2, 0, 6, 0, 0), z0, (37, 1, 0, 0, 0, 0), (110, 3, 0, 198, 1, 155), z0, z0, (40, 2, 0, 8, 0, 0), z0, (32, 1, 1, 0, 0, 0), (40, 2, 0, 9, 0, 0), z0, (36, 2, 0, 9, 0, 0), z0, (32, 2, 7, 0, 0, 0), z0, (53, 3, 0, 113, 0, 0), z0, z0, (38, 1, 0, 2, 0, 0), (36, 2, 0, 8, 0, 0), z0, (24, 1, 0, 0, 0, 0), (14, 1, 0, 0, 0, 0), (42, 1, 0, 2, 0, 0), (38, 2, 0, 4, 0, 0), z0, (36, 2, 0, 8, 0, 0), z0, (24, 1, 0, 0, 0, 0), (14, 1, 0, 0, 0, 0), (42, 2, 0, 4, 0, 0), z0, (32, 1, 0, 0, 0, 0), (40, 2, 0, 10, 0, 0), z0, (36, 2, 0, 10, 0, 0), z0, (37, 1, 0, 0, 0, 0), (65, 3, 0, 115, 12, 4), z0, z0, (51, 3, 0, 107, 0, 0), z0, z0, (38, 1, 0, 2, 0, 0), (37, 1, 0, 0, 0, 0), (65, 3, 0, 117, 12, 6), z0, z0, (36, 2, 0, 10, 0, 0), z0, (110, 3, 0, 170, 2, 153), z0, z0, (44, 3, 0, 98, 0, 0), z0, z0, (37, 1, 0, 0, 0, 0), (65, 3, 0, 113, 12, 2), z0, z0, (36, 2, 0, 10, 0, 0), z0, (58, 1, 0, 0, 0, 0), (36, 2, 0, 9, 0, 0), z0, (47, 3, 0, 98, 0, 0), z0, z0, (38, 2, 0, 6, 0, 0), z0, (56, 3, 0, 99, 0, 0), z0, z0, (33, 1, 0, 0, 0, 0), (12, 1, 0, 0, 0, 0), (42, 1, 0, 2, 0, 0), (43, 3, 1, 10, 0, 0), z0, z0, (56, 3, 0, 59, 0, 0), z0, z0, (43, 3, 1, 9, 0, 0), z0, z0, (56, 3, 0, 35, 0, 0), z0, z0, (38, 1, 0, 2, 0, 0), (38, 2, 0, 4, 0, 0), z0, (110, 3, 0, 223, 2, 182), z0, z0, (42, 2, 0, 9, 0, 0), z0, (36, 1, 0, 1, 0, 0), (46, 3, 0, 132, 0, 0), z0, z0, (38, 1, 0, 2, 0, 0), (38, 2, 0, 9, 0, 0), z0, (18, 1, 0, 0, 0, 0), (56, 3, 0, 137, 0, 0), z0, z0, (38, 2, 0, 4, 0, 0), z0, (38, 2, 0, 9, 0, 0), z0, (18, 1, 0, 0, 0, 0), (101, 1, 0, 0, 0, 0)]
def P_Md_share : PM := (12, ⟨"OneWaySpellModel", "share", "(I)J"⟩, prog_14_method_58_code, 11, some .long, 1, 1, (1853, 178, 1851, 1852), C_Md_share)
def C_Md_stands : List PI := [(37, 1, 0, 0, 0, 0), (65, 3, 0, 117, 12, 6), z0, z0, (36, 1, 0, 1, 0, 0), (110, 3, 0, 170, 2, 153), z0, z0, (44, 3, 0, 24, 0, 0), z0, z0, (36, 2, 0, 4, 0, 0), z0, (37, 1, 0, 0, 0, 0), (65, 3, 0, 113, 12, 2), z0, z0, (36, 1, 0, 1, 0, 0), (58, 1, 0, 0, 0, 0), (1, 1, 0, 0, 0, 0), (36, 1, 0, 3, 0, 0), (55, 3, 0, 26, 0, 0), z0, z0, (32, 1, 0, 0, 0, 0), (100, 1, 0, 0, 0, 0), (32, 1, 0, 0, 0, 0), (40, 2, 0, 5, 0, 0), z0, (36, 2, 0, 5, 0, 0), z0, (37, 1, 0, 0, 0, 0), (65, 3, 0, 113, 12, 2), z0, z0, (36, 1, 0, 1, 0, 0), (58, 1, 0, 0, 0, 0), (51, 3, 0, 65, 0, 0), z0, z0, (37, 1, 0, 2, 0, 0), (36, 2, 0, 4, 0, 0), z0, (36, 2, 0, 5, 0, 0), z0, (1, 1, 0, 0, 0, 0), (58, 1, 0, 0, 0, 0), (37, 1, 0, 0, 0, 0), (36, 1, 0, 1, 0, 0), (36, 2, 0, 5, 0, 0), z0, (110, 3, 0, 174, 3, 152), z0, z0, (45, 3, 0, 59, 0, 0), z0, z0, (32, 1, 0, 0, 0, 0), (100, 1, 0, 0, 0, 0), (43, 3, 1, 5, 0, 0), z0, z0, (56, 3, 0, 29, 0, 0), z0, z0, (32, 1, 1, 0, 0, 0), (100, 1, 0, 0, 0, 0)]
def P_Md_stands : PM := (12, ⟨"OneWaySpellModel", "stands", "(I[III)Z"⟩, prog_14_method_59_code, 6, some .boolean, 1, 4, (1877, 178, 1876, 139), C_Md_stands)
def C_Md_layWays : List PI := [(37, 1, 0, 0, 0, 0), (65, 3, 0, 151, 12, 40), z0, z0, (36, 1, 0, 2, 0, 0), (33, 1, 1, 0, 0, 0), (63, 1, 0, 0, 0, 0), (36, 1, 0, 2, 0, 0), (32, 1, 1, 0, 0, 0), (2, 1, 0, 0, 0, 0), (40, 1, 0, 3, 0, 0), (36, 1, 0, 3, 0, 0), (48, 3, 0, 85, 0, 0), z0, z0, (37, 1, 0, 0, 0, 0), (65, 3, 0, 151, 12, 40), z0, z0, (36, 1, 0, 3, 0, 0), (33, 1, 0, 0, 0, 0), (63, 1, 0, 0, 0, 0), (32, 1, 0, 0, 0, 0), (40, 2, 0, 4, 0, 0), z0, (36, 2, 0, 4, 0, 0), z0, (37, 1, 0, 0, 0, 0), (65, 3, 0, 115, 12, 4), z0, z0, (51, 3, 0, 79, 0, 0), z0, z0, (37, 1, 0, 0, 0, 0), (65, 3, 0, 151, 12, 40), z0, z0, (36, 1, 0, 3, 0, 0), (31, 1, 0, 0, 0, 0), (59, 1, 0, 0, 0, 0), (37, 1, 0, 0, 0, 0), (36, 2, 0, 4, 0, 0), z0, (37, 1, 0, 1, 0, 0), (36, 1, 0, 2, 0, 0), (36, 1, 0, 3, 0, 0), (110, 3, 0, 225, 5, 187), z0, z0, (44, 3, 0, 70, 0, 0), z0, z0, (37, 1, 0, 0, 0, 0), (65, 3, 0, 151, 12, 40), z0, z0, (36, 1, 0, 3, 0, 0), (37, 1, 0, 0, 0, 0), (65, 3, 0, 113, 12, 2), z0, z0, (36, 2, 0, 4, 0, 0), z0, (58, 1, 0, 0, 0, 0), (1, 1, 0, 0, 0, 0), (59, 1, 0, 0, 0, 0), (56, 3, 0, 71, 0, 0), z0, z0, (33, 1, 0, 0, 0, 0), (12, 1, 0, 0, 0, 0), (63, 1, 0, 0, 0, 0), (43, 3, 1, 4, 0, 0), z0, z0, (56, 3, 0, 25, 0, 0), z0, z0, (43, 3, -1, 3, 0, 0), z0, z0, (56, 3, 0, 11, 0, 0), z0, z0, (103, 1, 0, 0, 0, 0)]
def P_Md_layWays : PM := (12, ⟨"OneWaySpellModel", "layWays", "([II)V"⟩, prog_14_method_60_code, 5, none, 1, 2, (1873, 178, 1872, 138), C_Md_layWays)
def C_Md_word : List PI := [(37, 1, 0, 0, 0, 0), (32, 1, 0, 0, 0, 0), (67, 3, 0, 111, 12, 0), z0, z0, (37, 1, 0, 0, 0, 0), (65, 3, 0, 123, 12, 12), z0, z0, (40, 1, 0, 1, 0, 0), (37, 1, 0, 0, 0, 0), (32, 1, 0, 0, 0, 0), (67, 3, 0, 123, 12, 12), z0, z0, (36, 1, 0, 1, 0, 0), (32, 2, 40, 0, 0, 0), z0, (53, 3, 0, 25, 0, 0), z0, z0, (32, 1, 1, 0, 0, 0), (56, 3, 0, 26, 0, 0), z0, z0, (32, 1, 0, 0, 0, 0), (40, 1, 0, 2, 0, 0), (32, 1, 0, 0, 0, 0), (40, 1, 0, 3, 0, 0), (36, 1, 0, 3, 0, 0), (36, 1, 0, 1, 0, 0), (51, 3, 0, 70, 0, 0), z0, z0, (36, 1, 0, 2, 0, 0), (37, 1, 0, 0, 0, 0), (65, 3, 0, 118, 12, 7), z0, z0, (36, 1, 0, 3, 0, 0), (58, 1, 0, 0, 0, 0), (32, 2, 97, 0, 0, 0), z0, (49, 3, 0, 61, 0, 0), z0, z0, (37, 1, 0, 0, 0, 0), (65, 3, 0, 118, 12, 7), z0, z0, (36, 1, 0, 3, 0, 0), (58, 1, 0, 0, 0, 0), (32, 2, 123, 0, 0, 0), z0, (53, 3, 0, 61, 0, 0), z0, z0, (32, 1, 1, 0, 0, 0), (56, 3, 0, 62, 0, 0), z0, z0, (32, 1, 0, 0, 0, 0), (4, 1, 0, 0, 0, 0), (40, 1, 0, 2, 0, 0), (43, 3, 1, 3, 0, 0), z0, z0, (56, 3, 0, 29, 0, 0), z0, z0, (36, 1, 0, 2, 0, 0), (46, 3, 0, 76, 0, 0), z0, z0, (32, 1, -1, 0, 0, 0), (100, 1, 0, 0, 0, 0), (37, 1, 0, 0, 0, 0), (37, 1, 0, 0, 0, 0), (65, 3, 0, 118, 12, 7), z0, z0, (32, 1, 0, 0, 0, 0), (36, 1, 0, 1, 0, 0), (110, 3, 0, 220, 4, 179), z0, z0, (36, 1, 0, 1, 0, 0), (100, 1, 0, 0, 0, 0)]
def P_Md_word : PM := (12, ⟨"OneWaySpellModel", "word", "()I"⟩, prog_14_method_61_code, 4, some .int, 1, 0, (1861, 178, 1859, 1860), C_Md_word)
def C_Md_letter : List PI := [(37, 1, 0, 0, 0, 0), (32, 1, 0, 0, 0, 0), (67, 3, 0, 111, 12, 0), z0, z0, (36, 1, 0, 1, 0, 0), (32, 1, 0, 0, 0, 0), (37, 1, 0, 0, 0, 0), (65, 3, 0, 135, 12, 24), z0, z0, (32, 1, 1, 0, 0, 0), (2, 1, 0, 0, 0, 0), (110, 3, 0, 169, 3, 131), z0, z0, (44, 3, 0, 28, 0, 0), z0, z0, (37, 1, 0, 0, 0, 0), (65, 3, 0, 134, 12, 23), z0, z0, (36, 1, 0, 1, 0, 0), (58, 1, 0, 0, 0, 0), (56, 3, 0, 29, 0, 0), z0, z0, (32, 1, -1, 0, 0, 0), (100, 1, 0, 0, 0, 0)]
def P_Md_letter : PM := (12, ⟨"OneWaySpellModel", "letter", "(I)I"⟩, prog_14_method_62_code, 2, some .int, 1, 1, (1865, 178, 1863, 1864), C_Md_letter)
def C_Md_readings : List PI := [(37, 1, 0, 0, 0, 0), (32, 1, 0, 0, 0, 0), (67, 3, 0, 111, 12, 0), z0, z0, (37, 1, 0, 0, 0, 0), (37, 1, 0, 0, 0, 0), (65, 3, 0, 134, 12, 23), z0, z0, (37, 1, 0, 0, 0, 0), (65, 3, 0, 135, 12, 24), z0, z0, (110, 3, 0, 226, 3, 186), z0, z0, (37, 1, 0, 0, 0, 0), (65, 3, 0, 151, 12, 40), z0, z0, (32, 1, 0, 0, 0, 0), (59, 1, 0, 0, 0, 0), (101, 1, 0, 0, 0, 0)]
def P_Md_readings : PM := (12, ⟨"OneWaySpellModel", "readings", "()J"⟩, prog_14_method_63_code, 1, some .long, 1, 0, (1869, 178, 1867, 1868), C_Md_readings)
def C_Md_goesBy : List PI := [(38, 1, 0, 1, 0, 0), (42, 1, 0, 3, 0, 0), (32, 1, 0, 0, 0, 0), (40, 2, 0, 5, 0, 0), z0, (36, 2, 0, 5, 0, 0), z0, (37, 1, 0, 0, 0, 0), (65, 3, 0, 115, 12, 4), z0, z0, (51, 3, 0, 100, 0, 0), z0, z0, (37, 1, 0, 0, 0, 0), (36, 2, 0, 5, 0, 0), z0, (37, 1, 0, 0, 0, 0), (65, 3, 0, 134, 12, 23), z0, z0, (37, 1, 0, 0, 0, 0), (65, 3, 0, 135, 12, 24), z0, z0, (37, 1, 0, 0, 0, 0), (65, 3, 0, 152, 12, 41), z0, z0, (110, 3, 0, 225, 5, 187), z0, z0, (44, 3, 0, 55, 0, 0), z0, z0, (37, 1, 0, 0, 0, 0), (65, 3, 0, 151, 12, 40), z0, z0, (37, 1, 0, 0, 0, 0), (65, 3, 0, 152, 12, 41), z0, z0, (37, 1, 0, 0, 0, 0), (65, 3, 0, 113, 12, 2), z0, z0, (36, 2, 0, 5, 0, 0), z0, (58, 1, 0, 0, 0, 0), (1, 1, 0, 0, 0, 0), (59, 1, 0, 0, 0, 0), (56, 3, 0, 56, 0, 0), z0, z0, (33, 1, 0, 0, 0, 0), (42, 2, 0, 6, 0, 0), z0, (38, 1, 0, 3, 0, 0), (38, 2, 0, 6, 0, 0), z0, (22, 1, 0, 0, 0, 0), (50, 3, 0, 89, 0, 0), z0, z0, (37, 1, 0, 0, 0, 0), (36, 2, 0, 5, 0, 0), z0, (67, 3, 0, 153, 12, 42), z0, z0, (37, 1, 0, 0, 0, 0), (27, 1, 0, 0, 0, 0), (65, 3, 0, 152, 12, 41), z0, z0, (37, 1, 0, 0, 0, 0), (65, 3, 0, 113, 12, 2), z0, z0, (36, 2, 0, 5, 0, 0), z0, (58, 1, 0, 0, 0, 0), (1, 1, 0, 0, 0, 0), (67, 3, 0, 152, 12, 41), z0, z0, (38, 1, 0, 3, 0, 0), (101, 1, 0, 0, 0, 0), (38, 1, 0, 3, 0, 0), (38, 2, 0, 6, 0, 0), z0, (13, 1, 0, 0, 0, 0), (42, 1, 0, 3, 0, 0), (43, 3, 1, 5, 0, 0), z0, z0, (56, 3, 0, 5, 0, 0), z0, z0, (37, 1, 0, 0, 0, 0), (32, 1, -1, 0, 0, 0), (67, 3, 0, 153, 12, 42), z0, z0, (38, 1, 0, 3, 0, 0), (101, 1, 0, 0, 0, 0)]
def P_Md_goesBy : PM := (12, ⟨"OneWaySpellModel", "goesBy", "(J)J"⟩, prog_14_method_64_code, 8, some .long, 1, 1, (1885, 178, 1884, 140), C_Md_goesBy)
def C_Md_reading : List PI := [(37, 1, 0, 0, 0, 0), (32, 1, 0, 0, 0, 0), (67, 3, 0, 111, 12, 0), z0, z0, (37, 1, 0, 0, 0, 0), (37, 1, 0, 0, 0, 0), (65, 3, 0, 134, 12, 23), z0, z0, (37, 1, 0, 0, 0, 0), (65, 3, 0, 135, 12, 24), z0, z0, (110, 3, 0, 226, 3, 186), z0, z0, (36, 1, 0, 1, 0, 0), (48, 3, 0, 37, 0, 0), z0, z0, (36, 1, 0, 1, 0, 0), (24, 1, 0, 0, 0, 0), (37, 1, 0, 0, 0, 0), (65, 3, 0, 151, 12, 40), z0, z0, (32, 1, 0, 0, 0, 0), (59, 1, 0, 0, 0, 0), (22, 1, 0, 0, 0, 0), (50, 3, 0, 37, 0, 0), z0, z0, (36, 1, 0, 2, 0, 0), (50, 3, 0, 39, 0, 0), z0, z0, (32, 1, -1, 0, 0, 0), (100, 1, 0, 0, 0, 0), (36, 1, 0, 1, 0, 0), (24, 1, 0, 0, 0, 0), (42, 1, 0, 3, 0, 0), (37, 1, 0, 0, 0, 0), (32, 1, 0, 0, 0, 0), (67, 3, 0, 152, 12, 41), z0, z0, (32, 1, 0, 0, 0, 0), (40, 2, 0, 5, 0, 0), z0, (36, 2, 0, 5, 0, 0), z0, (36, 1, 0, 2, 0, 0), (53, 3, 0, 81, 0, 0), z0, z0, (37, 1, 0, 0, 0, 0), (65, 3, 0, 152, 12, 41), z0, z0, (37, 1, 0, 0, 0, 0), (65, 3, 0, 135, 12, 24), z0, z0, (47, 3, 0, 69, 0, 0), z0, z0, (32, 1, -1, 0, 0, 0), (100, 1, 0, 0, 0, 0), (37, 1, 0, 0, 0, 0), (38, 1, 0, 3, 0, 0), (110, 3, 0, 230, 2, 189), z0, z0, (42, 1, 0, 3, 0, 0), (43, 3, 1, 5, 0, 0), z0, z0, (56, 3, 0, 50, 0, 0), z0, z0, (37, 1, 0, 0, 0, 0), (65, 3, 0, 153, 12, 42), z0, z0, (100, 1, 0, 0, 0, 0)]
def P_Md_reading : PM := (12, ⟨"OneWaySpellModel", "reading", "(II)I"⟩, prog_14_method_65_code, 6, some .int, 1, 2, (1881, 178, 1879, 1880), C_Md_reading)
def C_Md_sounds : List PI := [(37, 1, 0, 0, 0, 0), (32, 1, 0, 0, 0, 0), (67, 3, 0, 111, 12, 0), z0, z0, (37, 1, 0, 0, 0, 0), (37, 1, 0, 0, 0, 0), (65, 3, 0, 134, 12, 23), z0, z0, (37, 1, 0, 0, 0, 0), (65, 3, 0, 135, 12, 24), z0, z0, (110, 3, 0, 226, 3, 186), z0, z0, (37, 1, 0, 0, 0, 0), (65, 3, 0, 151, 12, 40), z0, z0, (32, 1, 0, 0, 0, 0), (59, 1, 0, 0, 0, 0), (35, 3, 2, 1890, 0, 0), z0, z0, (22, 1, 0, 0, 0, 0), (50, 3, 0, 38, 0, 0), z0, z0, (37, 1, 0, 0, 0, 0), (65, 3, 0, 151, 12, 40), z0, z0, (32, 1, 0, 0, 0, 0), (59, 1, 0, 0, 0, 0), (25, 1, 0, 0, 0, 0), (100, 1, 0, 0, 0, 0), (32, 1, 0, 0, 0, 0), (40, 1, 0, 1, 0, 0), (33, 1, 0, 0, 0, 0), (42, 1, 0, 2, 0, 0), (37, 1, 0, 0, 0, 0), (32, 1, 0, 0, 0, 0), (67, 3, 0, 152, 12, 41), z0, z0, (37, 1, 0, 0, 0, 0), (65, 3, 0, 152, 12, 41), z0, z0, (37, 1, 0, 0, 0, 0), (65, 3, 0, 135, 12, 24), z0, z0, (51, 3, 0, 85, 0, 0), z0, z0, (37, 1, 0, 0, 0, 0), (38, 1, 0, 2, 0, 0), (110, 3, 0, 230, 2, 189), z0, z0, (42, 1, 0, 2, 0, 0), (37, 1, 0, 0, 0, 0), (65, 3, 0, 154, 12, 43), z0, z0, (36, 1, 0, 1, 0, 0), (37, 1, 0, 0, 0, 0), (65, 3, 0, 114, 12, 3), z0, z0, (37, 1, 0, 0, 0, 0), (65, 3, 0, 153, 12, 42), z0, z0, (58, 1, 0, 0, 0, 0), (62, 1, 0, 0, 0, 0), (43, 3, 1, 1, 0, 0), z0, z0, (56, 3, 0, 47, 0, 0), z0, z0, (32, 1, 0, 0, 0, 0), (40, 2, 0, 4, 0, 0), z0, (33, 1, 1, 0, 0, 0), (42, 1, 0, 2, 0, 0), (37, 1, 0, 0, 0, 0), (32, 1, 0, 0, 0, 0), (67, 3, 0, 152, 12, 41), z0, z0, (37, 1, 0, 0, 0, 0), (65, 3, 0, 152, 12, 41), z0, z0, (37, 1, 0, 0, 0, 0), (65, 3, 0, 135, 12, 24), z0, z0, (51, 3, 0, 145, 0, 0), z0, z0, (37, 1, 0, 0, 0, 0), (38, 1, 0, 2, 0, 0), (110, 3, 0, 230, 2, 189), z0, z0, (42, 1, 0, 2, 0, 0), (36, 2, 0, 4, 0, 0), z0, (36, 1, 0, 1, 0, 0), (51, 3, 0, 137, 0, 0), z0, z0, (37, 1, 0, 0, 0, 0), (65, 3, 0, 154, 12, 43), z0, z0, (36, 2, 0, 4, 0, 0), z0, (58, 1, 0, 0, 0, 0), (37, 1, 0, 0, 0, 0), (65, 3, 0, 114, 12, 3), z0, z0, (37, 1, 0, 0, 0, 0), (65, 3, 0, 153, 12, 42), z0, z0, (58, 1, 0, 0, 0, 0), (45, 3, 0, 139, 0, 0), z0, z0, (32, 1, 2, 0, 0, 0), (100, 1, 0, 0, 0, 0), (43, 3, 1, 4, 0, 0), z0, z0, (56, 3, 0, 95, 0, 0), z0, z0, (36, 2, 0, 4, 0, 0), z0, (36, 1, 0, 1, 0, 0), (47, 3, 0, 155, 0, 0), z0, z0, (32, 1, 1, 0, 0, 0), (56, 3, 0, 156, 0, 0), z0, z0, (32, 1, 2, 0, 0, 0), (100, 1, 0, 0, 0, 0)]
def P_Md_sounds : PM := (12, ⟨"OneWaySpellModel", "sounds", "()I"⟩, prog_14_method_66_code, 5, some .int, 1, 0, (1889, 178, 1887, 1888), C_Md_sounds)
def C_Md_takenAt : List PI := [(32, 1, -1, 0, 0, 0), (40, 1, 0, 3, 0, 0), (32, 1, 0, 0, 0, 0), (40, 2, 0, 4, 0, 0), z0, (36, 2, 0, 4, 0, 0), z0, (37, 1, 0, 0, 0, 0), (65, 3, 0, 115, 12, 4), z0, z0, (51, 3, 0, 102, 0, 0), z0, z0, (37, 1, 0, 0, 0, 0), (36, 2, 0, 4, 0, 0), z0, (37, 1, 0, 0, 0, 0), (65, 3, 0, 134, 12, 23), z0, z0, (37, 1, 0, 0, 0, 0), (65, 3, 0, 135, 12, 24), z0, z0, (36, 1, 0, 2, 0, 0), (110, 3, 0, 225, 5, 187), z0, z0, (44, 3, 0, 96, 0, 0), z0, z0, (36, 1, 0, 3, 0, 0), (48, 3, 0, 77, 0, 0), z0, z0, (36, 1, 0, 1, 0, 0), (46, 3, 0, 56, 0, 0), z0, z0, (37, 1, 0, 0, 0, 0), (65, 3, 0, 113, 12, 2), z0, z0, (36, 2, 0, 4, 0, 0), z0, (58, 1, 0, 0, 0, 0), (37, 1, 0, 0, 0, 0), (65, 3, 0, 113, 12, 2), z0, z0, (36, 1, 0, 3, 0, 0), (58, 1, 0, 0, 0, 0), (53, 3, 0, 77, 0, 0), z0, z0, (36, 1, 0, 1, 0, 0), (32, 1, 1, 0, 0, 0), (47, 3, 0, 81, 0, 0), z0, z0, (37, 1, 0, 0, 0, 0), (65, 3, 0, 113, 12, 2), z0, z0, (36, 2, 0, 4, 0, 0), z0, (58, 1, 0, 0, 0, 0), (37, 1, 0, 0, 0, 0), (65, 3, 0, 113, 12, 2), z0, z0, (36, 1, 0, 3, 0, 0), (58, 1, 0, 0, 0, 0), (51, 3, 0, 81, 0, 0), z0, z0, (32, 1, 1, 0, 0, 0), (56, 3, 0, 82, 0, 0), z0, z0, (32, 1, 0, 0, 0, 0), (40, 2, 0, 5, 0, 0), z0, (36, 2, 0, 5, 0, 0), z0, (44, 3, 0, 94, 0, 0), z0, z0, (36, 2, 0, 4, 0, 0), z0, (56, 3, 0, 95, 0, 0), z0, z0, (36, 1, 0, 3, 0, 0), (40, 1, 0, 3, 0, 0), (43, 3, 1, 4, 0, 0), z0, z0, (56, 3, 0, 5, 0, 0), z0, z0, (36, 1, 0, 3, 0, 0), (100, 1, 0, 0, 0, 0)]
def P_Md_takenAt : PM := (12, ⟨"OneWaySpellModel", "takenAt", "(II)I"⟩, prog_14_method_67_code, 6, some .int, 1, 2, (1898, 178, 1897, 141), C_Md_takenAt)
def C_Md_reads : List PI := [(37, 1, 0, 0, 0, 0), (32, 1, 0, 0, 0, 0), (67, 3, 0, 111, 12, 0), z0, z0, (36, 1, 0, 1, 0, 0), (32, 1, 0, 0, 0, 0), (32, 1, 2, 0, 0, 0), (110, 3, 0, 169, 3, 131), z0, z0, (46, 3, 0, 17, 0, 0), z0, z0, (32, 2, -2, 0, 0, 0), z0, (100, 1, 0, 0, 0, 0), (32, 1, 0, 0, 0, 0), (40, 1, 0, 2, 0, 0), (32, 1, 0, 0, 0, 0), (40, 1, 0, 3, 0, 0), (36, 1, 0, 3, 0, 0), (37, 1, 0, 0, 0, 0), (65, 3, 0, 135, 12, 24), z0, z0, (51, 3, 0, 60, 0, 0), z0, z0, (37, 1, 0, 0, 0, 0), (36, 1, 0, 1, 0, 0), (36, 1, 0, 3, 0, 0), (110, 3, 0, 233, 3, 192), z0, z0, (40, 2, 0, 4, 0, 0), z0, (36, 2, 0, 4, 0, 0), z0, (50, 3, 0, 44, 0, 0), z0, z0, (32, 1, -1, 0, 0, 0), (100, 1, 0, 0, 0, 0), (36, 1, 0, 3, 0, 0), (37, 1, 0, 0, 0, 0), (65, 3, 0, 113, 12, 2), z0, z0, (36, 2, 0, 4, 0, 0), z0, (58, 1, 0, 0, 0, 0), (1, 1, 0, 0, 0, 0), (40, 1, 0, 3, 0, 0), (43, 3, 1, 2, 0, 0), z0, z0, (56, 3, 0, 21, 0, 0), z0, z0, (36, 1, 0, 2, 0, 0), (100, 1, 0, 0, 0, 0)]
def P_Md_reads : PM := (12, ⟨"OneWaySpellModel", "reads", "(I)I"⟩, prog_14_method_68_code, 5, some .int, 1, 1, (1894, 178, 1892, 1893), C_Md_reads)
def C_Md_took : List PI := [(37, 1, 0, 0, 0, 0), (32, 1, 0, 0, 0, 0), (67, 3, 0, 111, 12, 0), z0, z0, (36, 1, 0, 1, 0, 0), (32, 1, 0, 0, 0, 0), (32, 1, 2, 0, 0, 0), (110, 3, 0, 169, 3, 131), z0, z0, (44, 3, 0, 18, 0, 0), z0, z0, (36, 1, 0, 2, 0, 0), (50, 3, 0, 20, 0, 0), z0, z0, (32, 1, -1, 0, 0, 0), (100, 1, 0, 0, 0, 0), (32, 1, 0, 0, 0, 0), (40, 1, 0, 3, 0, 0), (32, 1, 0, 0, 0, 0), (40, 2, 0, 4, 0, 0), z0, (36, 1, 0, 3, 0, 0), (37, 1, 0, 0, 0, 0), (65, 3, 0, 135, 12, 24), z0, z0, (51, 3, 0, 71, 0, 0), z0, z0, (37, 1, 0, 0, 0, 0), (36, 1, 0, 1, 0, 0), (36, 1, 0, 3, 0, 0), (110, 3, 0, 233, 3, 192), z0, z0, (40, 2, 0, 5, 0, 0), z0, (36, 2, 0, 5, 0, 0), z0, (48, 3, 0, 52, 0, 0), z0, z0, (36, 2, 0, 4, 0, 0), z0, (36, 1, 0, 2, 0, 0), (47, 3, 0, 55, 0, 0), z0, z0, (36, 2, 0, 5, 0, 0), z0, (100, 1, 0, 0, 0, 0), (36, 1, 0, 3, 0, 0), (37, 1, 0, 0, 0, 0), (65, 3, 0, 113, 12, 2), z0, z0, (36, 2, 0, 5, 0, 0), z0, (58, 1, 0, 0, 0, 0), (1, 1, 0, 0, 0, 0), (40, 1, 0, 3, 0, 0), (43, 3, 1, 4, 0, 0), z0, z0, (56, 3, 0, 25, 0, 0), z0, z0, (32, 1, -1, 0, 0, 0), (100, 1, 0, 0, 0, 0)]
def P_Md_took : PM := (12, ⟨"OneWaySpellModel", "took", "(II)I"⟩, prog_14_method_69_code, 6, some .int, 1, 2, (1902, 178, 1900, 1901), C_Md_took)
def C_Md_layCover : List PI := [(32, 1, 1, 0, 0, 0), (40, 1, 0, 1, 0, 0), (36, 1, 0, 1, 0, 0), (32, 2, 6, 0, 0, 0), z0, (53, 3, 0, 71, 0, 0), z0, z0, (32, 1, 0, 0, 0, 0), (40, 1, 0, 2, 0, 0), (36, 1, 0, 2, 0, 0), (37, 1, 0, 0, 0, 0), (65, 3, 0, 143, 12, 32), z0, z0, (51, 3, 0, 65, 0, 0), z0, z0, (37, 1, 0, 0, 0, 0), (36, 1, 0, 2, 0, 0), (110, 3, 0, 205, 2, 167), z0, z0, (36, 1, 0, 1, 0, 0), (45, 3, 0, 30, 0, 0), z0, z0, (56, 3, 0, 59, 0, 0), z0, z0, (37, 1, 0, 0, 0, 0), (65, 3, 0, 156, 12, 45), z0, z0, (36, 1, 0, 2, 0, 0), (32, 1, -1, 0, 0, 0), (62, 1, 0, 0, 0, 0), (32, 1, 0, 0, 0, 0), (40, 1, 0, 3, 0, 0), (36, 1, 0, 3, 0, 0), (37, 1, 0, 0, 0, 0), (65, 3, 0, 115, 12, 4), z0, z0, (51, 3, 0, 59, 0, 0), z0, z0, (37, 1, 0, 0, 0, 0), (36, 1, 0, 2, 0, 0), (36, 1, 0, 3, 0, 0), (110, 3, 0, 237, 3, 196), z0, z0, (43, 3, 1, 3, 0, 0), z0, z0, (56, 3, 0, 39, 0, 0), z0, z0, (43, 3, 1, 2, 0, 0), z0, z0, (56, 3, 0, 10, 0, 0), z0, z0, (43, 3, 1, 1, 0, 0), z0, z0, (56, 3, 0, 2, 0, 0), z0, z0, (103, 1, 0, 0, 0, 0)]
def P_Md_layCover : PM := (12, ⟨"OneWaySpellModel", "layCover", "()V"⟩, prog_14_method_70_code, 4, none, 1, 0, (1910, 178, 1909, 142), C_Md_layCover)
def C_Md_coversBy : List PI := [(37, 1, 0, 0, 0, 0), (65, 3, 0, 117, 12, 6), z0, z0, (36, 1, 0, 2, 0, 0), (110, 3, 0, 170, 2, 153), z0, z0, (46, 3, 0, 12, 0, 0), z0, z0, (103, 1, 0, 0, 0, 0), (37, 1, 0, 0, 0, 0), (36, 1, 0, 2, 0, 0), (32, 1, 0, 0, 0, 0), (37, 1, 0, 0, 0, 0), (65, 3, 0, 138, 12, 27), z0, z0, (36, 1, 0, 1, 0, 0), (58, 1, 0, 0, 0, 0), (37, 1, 0, 0, 0, 0), (65, 3, 0, 139, 12, 28), z0, z0, (36, 1, 0, 1, 0, 0), (58, 1, 0, 0, 0, 0), (110, 3, 0, 175, 5, 159), z0, z0, (40, 1, 0, 3, 0, 0), (36, 1, 0, 3, 0, 0), (37, 1, 0, 0, 0, 0), (65, 3, 0, 113, 12, 2), z0, z0, (36, 1, 0, 2, 0, 0), (58, 1, 0, 0, 0, 0), (47, 3, 0, 76, 0, 0), z0, z0, (36, 1, 0, 3, 0, 0), (37, 1, 0, 0, 0, 0), (36, 1, 0, 1, 0, 0), (110, 3, 0, 205, 2, 167), z0, z0, (51, 3, 0, 76, 0, 0), z0, z0, (37, 1, 0, 0, 0, 0), (65, 3, 0, 141, 12, 30), z0, z0, (32, 2, 8, 0, 0, 0), z0, (37, 1, 0, 0, 0, 0), (65, 3, 0, 138, 12, 27), z0, z0, (36, 1, 0, 1, 0, 0), (58, 1, 0, 0, 0, 0), (3, 1, 0, 0, 0, 0), (37, 1, 0, 0, 0, 0), (65, 3, 0, 139, 12, 28), z0, z0, (36, 1, 0, 1, 0, 0), (58, 1, 0, 0, 0, 0), (1, 1, 0, 0, 0, 0), (36, 1, 0, 3, 0, 0), (1, 1, 0, 0, 0, 0), (58, 1, 0, 0, 0, 0), (56, 3, 0, 77, 0, 0), z0, z0, (32, 1, -1, 0, 0, 0), (40, 2, 0, 4, 0, 0), z0, (36, 1, 0, 3, 0, 0), (37, 1, 0, 0, 0, 0), (36, 1, 0, 1, 0, 0), (110, 3, 0, 205, 2, 167), z0, z0, (51, 3, 0, 104, 0, 0), z0, z0, (36, 2, 0, 4, 0, 0), z0, (48, 3, 0, 103, 0, 0), z0, z0, (37, 1, 0, 0, 0, 0), (65, 3, 0, 156, 12, 45), z0, z0, (36, 2, 0, 4, 0, 0), z0, (58, 1, 0, 0, 0, 0), (50, 3, 0, 104, 0, 0), z0, z0, (103, 1, 0, 0, 0, 0), (37, 1, 0, 0, 0, 0), (32, 1, 0, 0, 0, 0), (67, 3, 0, 149, 12, 38), z0, z0, (37, 1, 0, 0, 0, 0), (36, 1, 0, 2, 0, 0), (32, 1, 0, 0, 0, 0), (110, 3, 0, 216, 3, 176), z0, z0, (32, 1, 0, 0, 0, 0), (40, 2, 0, 5, 0, 0), z0, (36, 2, 0, 4, 0, 0), z0, (48, 3, 0, 173, 0, 0), z0, z0, (36, 2, 0, 5, 0, 0), z0, (37, 1, 0, 0, 0, 0), (65, 3, 0, 156, 12, 45), z0, z0, (36, 2, 0, 4, 0, 0), z0, (58, 1, 0, 0, 0, 0), (51, 3, 0, 173, 0, 0), z0, z0, (37, 1, 0, 0, 0, 0), (65, 3, 0, 148, 12, 37), z0, z0, (37, 1, 0, 0, 0, 0), (65, 3, 0, 149, 12, 38), z0, z0, (37, 1, 0, 0, 0, 0), (65, 3, 0, 155, 12, 44), z0, z0, (32, 2, 30, 0, 0, 0), z0, (36, 2, 0, 4, 0, 0), z0, (3, 1, 0, 0, 0, 0), (36, 2, 0, 5, 0, 0), z0, (1, 1, 0, 0, 0, 0), (58, 1, 0, 0, 0, 0), (62, 1, 0, 0, 0, 0), (37, 1, 0, 0, 0, 0), (27, 1, 0, 0, 0, 0), (65, 3, 0, 149, 12, 38), z0, z0, (32, 1, 1, 0, 0, 0), (1, 1, 0, 0, 0, 0), (67, 3, 0, 149, 12, 38), z0, z0, (43, 3, 1, 5, 0, 0), z0, z0, (56, 3, 0, 118, 0, 0), z0, z0, (37, 1, 0, 0, 0, 0), (37, 1, 0, 0, 0, 0), (65, 3, 0, 155, 12, 44), z0, z0, (32, 2, 30, 0, 0, 0), z0, (36, 1, 0, 1, 0, 0), (3, 1, 0, 0, 0, 0), (37, 1, 0, 0, 0, 0), (65, 3, 0, 156, 12, 45), z0, z0, (36, 1, 0, 1, 0, 0), (58, 1, 0, 0, 0, 0), (110, 3, 0, 217, 4, 178), z0, z0, (44, 3, 0, 241, 0, 0), z0, z0, (32, 1, 0, 0, 0, 0), (40, 2, 0, 5, 0, 0), z0, (36, 2, 0, 5, 0, 0), z0, (37, 1, 0, 0, 0, 0), (65, 3, 0, 149, 12, 38), z0, z0, (51, 3, 0, 231, 0, 0), z0, z0, (37, 1, 0, 0, 0, 0), (65, 3, 0, 155, 12, 44), z0, z0, (32, 2, 30, 0, 0, 0), z0, (36, 1, 0, 1, 0, 0), (3, 1, 0, 0, 0, 0), (36, 2, 0, 5, 0, 0), z0, (1, 1, 0, 0, 0, 0), (37, 1, 0, 0, 0, 0), (65, 3, 0, 148, 12, 37), z0, z0, (36, 2, 0, 5, 0, 0), z0, (58, 1, 0, 0, 0, 0), (62, 1, 0, 0, 0, 0), (43, 3, 1, 5, 0, 0), z0, z0, (56, 3, 0, 197, 0, 0), z0, z0, (37, 1, 0, 0, 0, 0), (65, 3, 0, 156, 12, 45), z0, z0, (36, 1, 0, 1, 0, 0), (37, 1, 0, 0, 0, 0), (65, 3, 0, 149, 12, 38), z0, z0, (62, 1, 0, 0, 0, 0), (103, 1, 0, 0, 0, 0)]
def P_Md_coversBy : PM := (12, ⟨"OneWaySpellModel", "coversBy", "(II)V"⟩, prog_14_method_71_code, 6, none, 1, 2, (1914, 178, 1913, 143), C_Md_coversBy)
def C_Md_takesLeast : List PI := [(37, 1, 0, 0, 0, 0), (37, 1, 0, 0, 0, 0), (65, 3, 0, 157, 12, 46), z0, z0, (32, 1, 0, 0, 0, 0), (37, 1, 0, 0, 0, 0), (65, 3, 0, 158, 12, 47), z0, z0, (110, 3, 0, 217, 4, 178), z0, z0, (44, 3, 0, 52, 0, 0), z0, z0, (32, 1, 0, 0, 0, 0), (40, 1, 0, 1, 0, 0), (36, 1, 0, 1, 0, 0), (37, 1, 0, 0, 0, 0), (65, 3, 0, 149, 12, 38), z0, z0, (51, 3, 0, 44, 0, 0), z0, z0, (37, 1, 0, 0, 0, 0), (65, 3, 0, 157, 12, 46), z0, z0, (36, 1, 0, 1, 0, 0), (37, 1, 0, 0, 0, 0), (65, 3, 0, 148, 12, 37), z0, z0, (36, 1, 0, 1, 0, 0), (58, 1, 0, 0, 0, 0), (62, 1, 0, 0, 0, 0), (43, 3, 1, 1, 0, 0), z0, z0, (56, 3, 0, 18, 0, 0), z0, z0, (37, 1, 0, 0, 0, 0), (37, 1, 0, 0, 0, 0), (65, 3, 0, 149, 12, 38), z0, z0, (67, 3, 0, 158, 12, 47), z0, z0, (103, 1, 0, 0, 0, 0)]
def P_Md_takesLeast : PM := (12, ⟨"OneWaySpellModel", "takesLeast", "()V"⟩, prog_14_method_72_code, 2, none, 1, 0, (1922, 178, 1921, 145), C_Md_takesLeast)
def C_Md_foolsBy : List PI := [(36, 1, 0, 1, 0, 0), (32, 1, 2, 0, 0, 0), (47, 3, 0, 11, 0, 0), z0, z0, (36, 1, 0, 3, 0, 0), (36, 1, 0, 2, 0, 0), (55, 3, 0, 11, 0, 0), z0, z0, (103, 1, 0, 0, 0, 0), (36, 1, 0, 1, 0, 0), (44, 3, 0, 39, 0, 0), z0, z0, (37, 1, 0, 0, 0, 0), (36, 1, 0, 3, 0, 0), (36, 1, 0, 2, 0, 0), (110, 3, 0, 199, 3, 158), z0, z0, (44, 3, 0, 39, 0, 0), z0, z0, (37, 1, 0, 0, 0, 0), (32, 1, 0, 0, 0, 0), (67, 3, 0, 149, 12, 38), z0, z0, (37, 1, 0, 0, 0, 0), (36, 1, 0, 2, 0, 0), (32, 1, 0, 0, 0, 0), (110, 3, 0, 216, 3, 176), z0, z0, (37, 1, 0, 0, 0, 0), (110, 3, 0, 238, 1, 198), z0, z0, (36, 1, 0, 1, 0, 0), (32, 1, 1, 0, 0, 0), (45, 3, 0, 149, 0, 0), z0, z0, (37, 1, 0, 0, 0, 0), (36, 1, 0, 2, 0, 0), (36, 1, 0, 3, 0, 0), (110, 3, 0, 199, 3, 158), z0, z0, (44, 3, 0, 149, 0, 0), z0, z0, (37, 1, 0, 0, 0, 0), (65, 3, 0, 141, 12, 30), z0, z0, (32, 2, 8, 0, 0, 0), z0, (36, 1, 0, 3, 0, 0), (3, 1, 0, 0, 0, 0), (37, 1, 0, 0, 0, 0), (65, 3, 0, 113, 12, 2), z0, z0, (36, 1, 0, 2, 0, 0), (58, 1, 0, 0, 0, 0), (1, 1, 0, 0, 0, 0), (58, 1, 0, 0, 0, 0), (40, 2, 0, 4, 0, 0), z0, (37, 1, 0, 0, 0, 0), (65, 3, 0, 156, 12, 45), z0, z0, (36, 2, 0, 4, 0, 0), z0, (58, 1, 0, 0, 0, 0), (48, 3, 0, 149, 0, 0), z0, z0, (37, 1, 0, 0, 0, 0), (32, 1, 0, 0, 0, 0), (67, 3, 0, 149, 12, 38), z0, z0, (37, 1, 0, 0, 0, 0), (36, 1, 0, 2, 0, 0), (32, 1, 0, 0, 0, 0), (110, 3, 0, 216, 3, 176), z0, z0, (32, 1, 0, 0, 0, 0), (40, 2, 0, 5, 0, 0), z0, (36, 2, 0, 5, 0, 0), z0, (37, 1, 0, 0, 0, 0), (65, 3, 0, 156, 12, 45), z0, z0, (36, 2, 0, 4, 0, 0), z0, (58, 1, 0, 0, 0, 0), (51, 3, 0, 145, 0, 0), z0, z0, (37, 1, 0, 0, 0, 0), (65, 3, 0, 148, 12, 37), z0, z0, (37, 1, 0, 0, 0, 0), (65, 3, 0, 149, 12, 38), z0, z0, (37, 1, 0, 0, 0, 0), (65, 3, 0, 155, 12, 44), z0, z0, (32, 2, 30, 0, 0, 0), z0, (36, 2, 0, 4, 0, 0), z0, (3, 1, 0, 0, 0, 0), (36, 2, 0, 5, 0, 0), z0, (1, 1, 0, 0, 0, 0), (58, 1, 0, 0, 0, 0), (62, 1, 0, 0, 0, 0), (37, 1, 0, 0, 0, 0), (27, 1, 0, 0, 0, 0), (65, 3, 0, 149, 12, 38), z0, z0, (32, 1, 1, 0, 0, 0), (1, 1, 0, 0, 0, 0), (67, 3, 0, 149, 12, 38), z0, z0, (43, 3, 1, 5, 0, 0), z0, z0, (56, 3, 0, 95, 0, 0), z0, z0, (37, 1, 0, 0, 0, 0), (110, 3, 0, 238, 1, 198), z0, z0, (103, 1, 0, 0, 0, 0)]
def P_Md_foolsBy : PM := (12, ⟨"OneWaySpellModel", "foolsBy", "(III)V"⟩, prog_14_method_73_code, 6, none, 1, 3, (1918, 178, 1917, 144), C_Md_foolsBy)
def C_Md_fool : List PI := [(37, 1, 0, 0, 0, 0), (32, 1, 0, 0, 0, 0), (67, 3, 0, 111, 12, 0), z0, z0, (36, 1, 0, 1, 0, 0), (32, 1, 0, 0, 0, 0), (32, 1, 2, 0, 0, 0), (110, 3, 0, 169, 3, 131), z0, z0, (46, 3, 0, 17, 0, 0), z0, z0, (32, 2, -2, 0, 0, 0), z0, (100, 1, 0, 0, 0, 0), (37, 1, 0, 0, 0, 0), (110, 3, 0, 210, 1, 164), z0, z0, (37, 1, 0, 0, 0, 0), (110, 3, 0, 236, 1, 195), z0, z0, (37, 1, 0, 0, 0, 0), (32, 1, -1, 0, 0, 0), (67, 3, 0, 158, 12, 47), z0, z0, (32, 1, 0, 0, 0, 0), (40, 1, 0, 2, 0, 0), (36, 1, 0, 2, 0, 0), (37, 1, 0, 0, 0, 0), (65, 3, 0, 115, 12, 4), z0, z0, (51, 3, 0, 96, 0, 0), z0, z0, (32, 1, 0, 0, 0, 0), (40, 1, 0, 3, 0, 0), (36, 1, 0, 3, 0, 0), (37, 1, 0, 0, 0, 0), (65, 3, 0, 115, 12, 4), z0, z0, (51, 3, 0, 90, 0, 0), z0, z0, (36, 1, 0, 2, 0, 0), (36, 1, 0, 3, 0, 0), (45, 3, 0, 84, 0, 0), z0, z0, (37, 1, 0, 0, 0, 0), (65, 3, 0, 117, 12, 6), z0, z0, (36, 1, 0, 2, 0, 0), (110, 3, 0, 170, 2, 153), z0, z0, (44, 3, 0, 84, 0, 0), z0, z0, (37, 1, 0, 0, 0, 0), (65, 3, 0, 117, 12, 6), z0, z0, (36, 1, 0, 3, 0, 0), (110, 3, 0, 170, 2, 153), z0, z0, (44, 3, 0, 84, 0, 0), z0, z0, (37, 1, 0, 0, 0, 0), (36, 1, 0, 1, 0, 0), (36, 1, 0, 2, 0, 0), (36, 1, 0, 3, 0, 0), (110, 3, 0, 239, 4, 197), z0, z0, (43, 3, 1, 3, 0, 0), z0, z0, (56, 3, 0, 42, 0, 0), z0, z0, (43, 3, 1, 2, 0, 0), z0, z0, (56, 3, 0, 32, 0, 0), z0, z0, (37, 1, 0, 0, 0, 0), (65, 3, 0, 158, 12, 47), z0, z0, (50, 3, 0, 105, 0, 0), z0, z0, (32, 1, -1, 0, 0, 0), (100, 1, 0, 0, 0, 0), (37, 1, 0, 0, 0, 0), (37, 1, 0, 0, 0, 0), (65, 3, 0, 157, 12, 46), z0, z0, (32, 1, 0, 0, 0, 0), (37, 1, 0, 0, 0, 0), (65, 3, 0, 158, 12, 47), z0, z0, (110, 3, 0, 220, 4, 179), z0, z0, (37, 1, 0, 0, 0, 0), (65, 3, 0, 135, 12, 24), z0, z0, (100, 1, 0, 0, 0, 0)]
def P_Md_fool : PM := (12, ⟨"OneWaySpellModel", "fool", "(I)I"⟩, prog_14_method_74_code, 4, some .int, 1, 1, (1906, 178, 1904, 1905), C_Md_fool)
def C_Md_goes : List PI := [(37, 1, 0, 0, 0, 0), (32, 1, 0, 0, 0, 0), (67, 3, 0, 111, 12, 0), z0, z0, (32, 1, 0, 0, 0, 0), (40, 1, 0, 1, 0, 0), (32, 1, 0, 0, 0, 0), (40, 1, 0, 2, 0, 0), (36, 1, 0, 2, 0, 0), (37, 1, 0, 0, 0, 0), (65, 3, 0, 135, 12, 24), z0, z0, (53, 3, 0, 38, 0, 0), z0, z0, (37, 1, 0, 0, 0, 0), (65, 3, 0, 159, 12, 48), z0, z0, (36, 1, 0, 2, 0, 0), (36, 1, 0, 2, 0, 0), (46, 3, 0, 30, 0, 0), z0, z0, (32, 1, 1, 0, 0, 0), (56, 3, 0, 31, 0, 0), z0, z0, (32, 1, 0, 0, 0, 0), (64, 1, 0, 0, 0, 0), (43, 3, 1, 2, 0, 0), z0, z0, (56, 3, 0, 9, 0, 0), z0, z0, (32, 1, 0, 0, 0, 0), (40, 1, 0, 2, 0, 0), (36, 1, 0, 2, 0, 0), (37, 1, 0, 0, 0, 0), (65, 3, 0, 135, 12, 24), z0, z0, (51, 3, 0, 183, 0, 0), z0, z0, (32, 1, 0, 0, 0, 0), (40, 1, 0, 3, 0, 0), (36, 1, 0, 3, 0, 0), (37, 1, 0, 0, 0, 0), (65, 3, 0, 115, 12, 4), z0, z0, (51, 3, 0, 177, 0, 0), z0, z0, (37, 1, 0, 0, 0, 0), (65, 3, 0, 159, 12, 48), z0, z0, (36, 1, 0, 2, 0, 0), (60, 1, 0, 0, 0, 0), (44, 3, 0, 177, 0, 0), z0, z0, (32, 1, 0, 0, 0, 0), (40, 2, 0, 4, 0, 0), z0, (37, 1, 0, 0, 0, 0), (65, 3, 0, 117, 12, 6), z0, z0, (36, 1, 0, 3, 0, 0), (110, 3, 0, 170, 2, 153), z0, z0, (44, 3, 0, 128, 0, 0), z0, z0, (36, 2, 0, 4, 0, 0), z0, (37, 1, 0, 0, 0, 0), (65, 3, 0, 113, 12, 2), z0, z0, (36, 1, 0, 3, 0, 0), (58, 1, 0, 0, 0, 0), (51, 3, 0, 128, 0, 0), z0, z0, (36, 1, 0, 2, 0, 0), (36, 2, 0, 4, 0, 0), z0, (1, 1, 0, 0, 0, 0), (37, 1, 0, 0, 0, 0), (65, 3, 0, 135, 12, 24), z0, z0, (51, 3, 0, 128, 0, 0), z0, z0, (37, 1, 0, 0, 0, 0), (65, 3, 0, 134, 12, 23), z0, z0, (36, 1, 0, 2, 0, 0), (36, 2, 0, 4, 0, 0), z0, (1, 1, 0, 0, 0, 0), (58, 1, 0, 0, 0, 0), (37, 1, 0, 0, 0, 0), (36, 1, 0, 3, 0, 0), (36, 2, 0, 4, 0, 0), z0, (110, 3, 0, 174, 3, 152), z0, z0, (47, 3, 0, 128, 0, 0), z0, z0, (43, 3, 1, 4, 0, 0), z0, z0, (56, 3, 0, 70, 0, 0), z0, z0, (36, 1, 0, 2, 0, 0), (36, 2, 0, 4, 0, 0), z0, (1, 1, 0, 0, 0, 0), (36, 1, 0, 1, 0, 0), (55, 3, 0, 143, 0, 0), z0, z0, (36, 1, 0, 2, 0, 0), (36, 2, 0, 4, 0, 0), z0, (1, 1, 0, 0, 0, 0), (56, 3, 0, 144, 0, 0), z0, z0, (36, 1, 0, 1, 0, 0), (40, 1, 0, 1, 0, 0), (36, 2, 0, 4, 0, 0), z0, (54, 3, 0, 171, 0, 0), z0, z0, (36, 2, 0, 4, 0, 0), z0, (37, 1, 0, 0, 0, 0), (65, 3, 0, 113, 12, 2), z0, z0, (36, 1, 0, 3, 0, 0), (58, 1, 0, 0, 0, 0), (47, 3, 0, 171, 0, 0), z0, z0, (37, 1, 0, 0, 0, 0), (65, 3, 0, 159, 12, 48), z0, z0, (36, 1, 0, 2, 0, 0), (36, 2, 0, 4, 0, 0), z0, (1, 1, 0, 0, 0, 0), (32, 1, 1, 0, 0, 0), (64, 1, 0, 0, 0, 0), (43, 3, 1, 3, 0, 0), z0, z0, (56, 3, 0, 50, 0, 0), z0, z0, (43, 3, 1, 2, 0, 0), z0, z0, (56, 3, 0, 40, 0, 0), z0, z0, (36, 1, 0, 1, 0, 0), (100, 1, 0, 0, 0, 0)]
def P_Md_goes : PM := (12, ⟨"OneWaySpellModel", "goes", "()I"⟩, prog_14_method_75_code, 5, some .int, 1, 0, (1926, 178, 1924, 1925), C_Md_goes)
def C_Md_isSpelling : List PI := [(37, 1, 0, 0, 0, 0), (32, 1, 0, 0, 0, 0), (67, 3, 0, 149, 12, 38), z0, z0, (32, 1, 0, 0, 0, 0), (40, 1, 0, 2, 0, 0), (36, 1, 0, 2, 0, 0), (36, 1, 0, 1, 0, 0), (51, 3, 0, 29, 0, 0), z0, z0, (37, 1, 0, 0, 0, 0), (37, 1, 0, 0, 0, 0), (65, 3, 0, 161, 12, 50), z0, z0, (36, 1, 0, 2, 0, 0), (58, 1, 0, 0, 0, 0), (32, 1, 0, 0, 0, 0), (110, 3, 0, 216, 3, 176), z0, z0, (43, 3, 1, 2, 0, 0), z0, z0, (56, 3, 0, 7, 0, 0), z0, z0, (37, 1, 0, 0, 0, 0), (65, 3, 0, 158, 12, 47), z0, z0, (48, 3, 0, 49, 0, 0), z0, z0, (37, 1, 0, 0, 0, 0), (65, 3, 0, 149, 12, 38), z0, z0, (37, 1, 0, 0, 0, 0), (65, 3, 0, 158, 12, 47), z0, z0, (49, 3, 0, 49, 0, 0), z0, z0, (32, 1, 0, 0, 0, 0), (100, 1, 0, 0, 0, 0), (37, 1, 0, 0, 0, 0), (37, 1, 0, 0, 0, 0), (65, 3, 0, 148, 12, 37), z0, z0, (37, 1, 0, 0, 0, 0), (65, 3, 0, 149, 12, 38), z0, z0, (110, 3, 0, 226, 3, 186), z0, z0, (37, 1, 0, 0, 0, 0), (65, 3, 0, 151, 12, 40), z0, z0, (32, 1, 0, 0, 0, 0), (59, 1, 0, 0, 0, 0), (33, 1, 1, 0, 0, 0), (22, 1, 0, 0, 0, 0), (46, 3, 0, 76, 0, 0), z0, z0, (32, 1, 1, 0, 0, 0), (56, 3, 0, 77, 0, 0), z0, z0, (32, 1, 0, 0, 0, 0), (100, 1, 0, 0, 0, 0)]
def P_Md_isSpelling : PM := (12, ⟨"OneWaySpellModel", "isSpelling", "(I)Z"⟩, prog_14_method_76_code, 3, some .boolean, 1, 1, (1938, 178, 1937, 147), C_Md_isSpelling)
def C_Md_ofSound : List PI := [(36, 1, 0, 2, 0, 0), (40, 1, 0, 3, 0, 0), (36, 1, 0, 3, 0, 0), (37, 1, 0, 0, 0, 0), (65, 3, 0, 115, 12, 4), z0, z0, (51, 3, 0, 44, 0, 0), z0, z0, (37, 1, 0, 0, 0, 0), (65, 3, 0, 117, 12, 6), z0, z0, (36, 1, 0, 3, 0, 0), (110, 3, 0, 170, 2, 153), z0, z0, (44, 3, 0, 38, 0, 0), z0, z0, (37, 1, 0, 0, 0, 0), (65, 3, 0, 114, 12, 3), z0, z0, (36, 1, 0, 3, 0, 0), (58, 1, 0, 0, 0, 0), (37, 1, 0, 0, 0, 0), (65, 3, 0, 160, 12, 49), z0, z0, (36, 1, 0, 1, 0, 0), (58, 1, 0, 0, 0, 0), (47, 3, 0, 38, 0, 0), z0, z0, (36, 1, 0, 3, 0, 0), (100, 1, 0, 0, 0, 0), (43, 3, 1, 3, 0, 0), z0, z0, (56, 3, 0, 2, 0, 0), z0, z0, (32, 1, -1, 0, 0, 0), (100, 1, 0, 0, 0, 0)]
def P_Md_ofSound : PM := (12, ⟨"OneWaySpellModel", "ofSound", "(II)I"⟩, prog_14_method_77_code, 4, some .int, 1, 2, (1934, 178, 1933, 146), C_Md_ofSound)
def C_Md_spell : List PI := [(37, 1, 0, 0, 0, 0), (32, 1, 0, 0, 0, 0), (67, 3, 0, 111, 12, 0), z0, z0, (37, 1, 0, 0, 0, 0), (65, 3, 0, 160, 12, 49), z0, z0, (32, 1, 0, 0, 0, 0), (36, 1, 0, 1, 0, 0), (62, 1, 0, 0, 0, 0), (37, 1, 0, 0, 0, 0), (65, 3, 0, 160, 12, 49), z0, z0, (32, 1, 1, 0, 0, 0), (36, 1, 0, 2, 0, 0), (62, 1, 0, 0, 0, 0), (37, 1, 0, 0, 0, 0), (65, 3, 0, 160, 12, 49), z0, z0, (32, 1, 2, 0, 0, 0), (36, 1, 0, 3, 0, 0), (62, 1, 0, 0, 0, 0), (37, 1, 0, 0, 0, 0), (65, 3, 0, 160, 12, 49), z0, z0, (32, 1, 3, 0, 0, 0), (36, 2, 0, 4, 0, 0), z0, (62, 1, 0, 0, 0, 0), (32, 1, 0, 0, 0, 0), (40, 2, 0, 5, 0, 0), z0, (32, 1, 1, 0, 0, 0), (40, 2, 0, 6, 0, 0), z0, (32, 1, 0, 0, 0, 0), (40, 2, 0, 7, 0, 0), z0, (36, 2, 0, 7, 0, 0), z0, (32, 1, 4, 0, 0, 0), (51, 3, 0, 131, 0, 0), z0, z0, (36, 2, 0, 6, 0, 0), z0, (37, 1, 0, 0, 0, 0), (65, 3, 0, 160, 12, 49), z0, z0, (36, 2, 0, 7, 0, 0), z0, (58, 1, 0, 0, 0, 0), (36, 2, 0, 7, 0, 0), z0, (46, 3, 0, 67, 0, 0), z0, z0, (32, 1, 0, 0, 0, 0), (56, 3, 0, 68, 0, 0), z0, z0, (32, 1, -1, 0, 0, 0), (37, 1, 0, 0, 0, 0), (65, 3, 0, 116, 12, 5), z0, z0, (32, 1, 1, 0, 0, 0), (2, 1, 0, 0, 0, 0), (110, 3, 0, 169, 3, 131), z0, z0, (44, 3, 0, 101, 0, 0), z0, z0, (37, 1, 0, 0, 0, 0), (65, 3, 0, 160, 12, 49), z0, z0, (36, 2, 0, 7, 0, 0), z0, (58, 1, 0, 0, 0, 0), (48, 3, 0, 97, 0, 0), z0, z0, (36, 2, 0, 5, 0, 0), z0, (36, 2, 0, 7, 0, 0), z0, (47, 3, 0, 101, 0, 0), z0, z0, (32, 1, 1, 0, 0, 0), (56, 3, 0, 102, 0, 0), z0, z0, (32, 1, 0, 0, 0, 0), (4, 1, 0, 0, 0, 0), (40, 2, 0, 6, 0, 0), z0, (36, 2, 0, 5, 0, 0), z0, (37, 1, 0, 0, 0, 0), (65, 3, 0, 160, 12, 49), z0, z0, (36, 2, 0, 7, 0, 0), z0, (58, 1, 0, 0, 0, 0), (48, 3, 0, 121, 0, 0), z0, z0, (32, 1, 1, 0, 0, 0), (56, 3, 0, 122, 0, 0), z0, z0, (32, 1, 0, 0, 0, 0), (1, 1, 0, 0, 0, 0), (40, 2, 0, 5, 0, 0), z0, (43, 3, 1, 7, 0, 0), z0, z0, (56, 3, 0, 43, 0, 0), z0, z0, (36, 2, 0, 6, 0, 0), z0, (46, 3, 0, 138, 0, 0), z0, z0, (32, 1, -1, 0, 0, 0), (100, 1, 0, 0, 0, 0), (37, 1, 0, 0, 0, 0), (32, 1, -1, 0, 0, 0), (67, 3, 0, 158, 12, 47), z0, z0, (32, 1, 0, 0, 0, 0), (40, 2, 0, 7, 0, 0), z0, (37, 1, 0, 0, 0, 0), (65, 3, 0, 161, 12, 50), z0, z0, (32, 1, 0, 0, 0, 0), (32, 1, -1, 0, 0, 0), (62, 1, 0, 0, 0, 0), (36, 2, 0, 7, 0, 0), z0, (48, 3, 0, 271, 0, 0), z0, z0, (37, 1, 0, 0, 0, 0), (65, 3, 0, 161, 12, 50), z0, z0, (36, 2, 0, 7, 0, 0), z0, (37, 1, 0, 0, 0, 0), (36, 2, 0, 7, 0, 0), z0, (37, 1, 0, 0, 0, 0), (65, 3, 0, 161, 12, 50), z0, z0, (36, 2, 0, 7, 0, 0), z0, (58, 1, 0, 0, 0, 0), (32, 1, 1, 0, 0, 0), (1, 1, 0, 0, 0, 0), (110, 3, 0, 243, 3, 201), z0, z0, (62, 1, 0, 0, 0, 0), (37, 1, 0, 0, 0, 0), (65, 3, 0, 161, 12, 50), z0, z0, (36, 2, 0, 7, 0, 0), z0, (58, 1, 0, 0, 0, 0), (50, 3, 0, 196, 0, 0), z0, z0, (43, 3, -1, 7, 0, 0), z0, z0, (56, 3, 0, 153, 0, 0), z0, z0, (36, 2, 0, 7, 0, 0), z0, (36, 2, 0, 5, 0, 0), z0, (32, 1, 1, 0, 0, 0), (2, 1, 0, 0, 0, 0), (51, 3, 0, 219, 0, 0), z0, z0, (43, 3, 1, 7, 0, 0), z0, z0, (37, 1, 0, 0, 0, 0), (65, 3, 0, 161, 12, 50), z0, z0, (36, 2, 0, 7, 0, 0), z0, (32, 1, -1, 0, 0, 0), (62, 1, 0, 0, 0, 0), (56, 3, 0, 153, 0, 0), z0, z0, (37, 1, 0, 0, 0, 0), (36, 2, 0, 5, 0, 0), z0, (110, 3, 0, 242, 2, 202), z0, z0, (44, 3, 0, 153, 0, 0), z0, z0, (32, 1, 0, 0, 0, 0), (40, 2, 0, 8, 0, 0), z0, (36, 2, 0, 8, 0, 0), z0, (37, 1, 0, 0, 0, 0), (65, 3, 0, 149, 12, 38), z0, z0, (51, 3, 0, 260, 0, 0), z0, z0, (37, 1, 0, 0, 0, 0), (65, 3, 0, 157, 12, 46), z0, z0, (36, 2, 0, 8, 0, 0), z0, (37, 1, 0, 0, 0, 0), (65, 3, 0, 148, 12, 37), z0, z0, (36, 2, 0, 8, 0, 0), z0, (58, 1, 0, 0, 0, 0), (62, 1, 0, 0, 0, 0), (43, 3, 1, 8, 0, 0), z0, z0, (56, 3, 0, 231, 0, 0), z0, z0, (37, 1, 0, 0, 0, 0), (37, 1, 0, 0, 0, 0), (65, 3, 0, 149, 12, 38), z0, z0, (67, 3, 0, 158, 12, 47), z0, z0, (56, 3, 0, 153, 0, 0), z0, z0, (37, 1, 0, 0, 0, 0), (65, 3, 0, 158, 12, 47), z0, z0, (50, 3, 0, 280, 0, 0), z0, z0, (32, 1, -1, 0, 0, 0), (100, 1, 0, 0, 0, 0), (37, 1, 0, 0, 0, 0), (37, 1, 0, 0, 0, 0), (65, 3, 0, 157, 12, 46), z0, z0, (32, 1, 0, 0, 0, 0), (37, 1, 0, 0, 0, 0), (65, 3, 0, 158, 12, 47), z0, z0, (110, 3, 0, 220, 4, 179), z0, z0, (37, 1, 0, 0, 0, 0), (65, 3, 0, 135, 12, 24), z0, z0, (100, 1, 0, 0, 0, 0)]
def P_Md_spell : PM := (12, ⟨"OneWaySpellModel", "spell", "(IIII)I"⟩, prog_14_method_78_code, 9, some .int, 1, 4, (1930, 178, 1928, 1929), C_Md_spell)
def C_Md_drawn : List PI := [(37, 1, 0, 0, 0, 0), (32, 1, 0, 0, 0, 0), (67, 3, 0, 111, 12, 0), z0, z0, (36, 1, 0, 2, 0, 0), (32, 1, 1, 0, 0, 0), (32, 1, 5, 0, 0, 0), (110, 3, 0, 169, 3, 131), z0, z0, (44, 3, 0, 21, 0, 0), z0, z0, (37, 1, 0, 0, 0, 0), (65, 3, 0, 117, 12, 6), z0, z0, (46, 3, 0, 23, 0, 0), z0, z0, (32, 1, -1, 0, 0, 0), (100, 1, 0, 0, 0, 0), (36, 1, 0, 1, 0, 0), (40, 1, 0, 3, 0, 0), (37, 1, 0, 0, 0, 0), (32, 1, 0, 0, 0, 0), (67, 3, 0, 149, 12, 38), z0, z0, (32, 1, 0, 0, 0, 0), (40, 2, 0, 4, 0, 0), z0, (36, 2, 0, 4, 0, 0), z0, (36, 1, 0, 2, 0, 0), (51, 3, 0, 124, 0, 0), z0, z0, (36, 1, 0, 3, 0, 0), (34, 3, 1103515245, 1943, 0, 0), z0, z0, (3, 1, 0, 0, 0, 0), (32, 3, 12345, 0, 0, 0), z0, z0, (1, 1, 0, 0, 0, 0), (40, 1, 0, 3, 0, 0), (36, 1, 0, 3, 0, 0), (32, 2, 16, 0, 0, 0), z0, (9, 1, 0, 0, 0, 0), (37, 1, 0, 0, 0, 0), (65, 3, 0, 117, 12, 6), z0, z0, (110, 3, 0, 172, 1, 204), z0, z0, (11, 1, 0, 0, 0, 0), (40, 2, 0, 5, 0, 0), z0, (32, 1, 0, 0, 0, 0), (40, 2, 0, 6, 0, 0), z0, (37, 1, 0, 0, 0, 0), (65, 3, 0, 117, 12, 6), z0, z0, (36, 2, 0, 6, 0, 0), z0, (110, 3, 0, 170, 2, 153), z0, z0, (44, 3, 0, 83, 0, 0), z0, z0, (36, 2, 0, 5, 0, 0), z0, (54, 3, 0, 111, 0, 0), z0, z0, (36, 2, 0, 5, 0, 0), z0, (37, 1, 0, 0, 0, 0), (65, 3, 0, 117, 12, 6), z0, z0, (36, 2, 0, 6, 0, 0), z0, (110, 3, 0, 170, 2, 153), z0, z0, (44, 3, 0, 101, 0, 0), z0, z0, (32, 1, 1, 0, 0, 0), (56, 3, 0, 102, 0, 0), z0, z0, (32, 1, 0, 0, 0, 0), (2, 1, 0, 0, 0, 0), (40, 2, 0, 5, 0, 0), z0, (43, 3, 1, 6, 0, 0), z0, z0, (56, 3, 0, 66, 0, 0), z0, z0, (37, 1, 0, 0, 0, 0), (36, 2, 0, 6, 0, 0), z0, (32, 1, 0, 0, 0, 0), (110, 3, 0, 216, 3, 176), z0, z0, (43, 3, 1, 4, 0, 0), z0, z0, (56, 3, 0, 33, 0, 0), z0, z0, (37, 1, 0, 0, 0, 0), (37, 1, 0, 0, 0, 0), (65, 3, 0, 148, 12, 37), z0, z0, (32, 1, 0, 0, 0, 0), (37, 1, 0, 0, 0, 0), (65, 3, 0, 149, 12, 38), z0, z0, (110, 3, 0, 220, 4, 179), z0, z0, (37, 1, 0, 0, 0, 0), (65, 3, 0, 135, 12, 24), z0, z0, (100, 1, 0, 0, 0, 0)]
def P_Md_drawn : PM := (12, ⟨"OneWaySpellModel", "drawn", "(II)I"⟩, prog_14_method_79_code, 7, some .int, 1, 2, (1942, 178, 1940, 1941), C_Md_drawn)
def C_Md_layNodes : List PI := [(37, 1, 0, 0, 0, 0), (65, 3, 0, 137, 12, 26), z0, z0, (44, 3, 0, 8, 0, 0), z0, z0, (103, 1, 0, 0, 0, 0), (37, 1, 0, 0, 0, 0), (32, 1, 1, 0, 0, 0), (67, 3, 0, 137, 12, 26), z0, z0, (37, 1, 0, 0, 0, 0), (32, 1, 1, 0, 0, 0), (67, 3, 0, 164, 12, 53), z0, z0, (32, 1, 0, 0, 0, 0), (40, 1, 0, 1, 0, 0), (36, 1, 0, 1, 0, 0), (32, 2, 27, 0, 0, 0), z0, (51, 3, 0, 39, 0, 0), z0, z0, (37, 1, 0, 0, 0, 0), (65, 3, 0, 162, 12, 51), z0, z0, (36, 1, 0, 1, 0, 0), (32, 1, -1, 0, 0, 0), (62, 1, 0, 0, 0, 0), (43, 3, 1, 1, 0, 0), z0, z0, (56, 3, 0, 20, 0, 0), z0, z0, (32, 1, 0, 0, 0, 0), (40, 1, 0, 1, 0, 0), (36, 1, 0, 1, 0, 0), (37, 1, 0, 0, 0, 0), (65, 3, 0, 115, 12, 4), z0, z0, (51, 3, 0, 219, 0, 0), z0, z0, (32, 1, 0, 0, 0, 0), (40, 1, 0, 2, 0, 0), (32, 1, 0, 0, 0, 0), (40, 1, 0, 3, 0, 0), (36, 1, 0, 3, 0, 0), (37, 1, 0, 0, 0, 0), (65, 3, 0, 113, 12, 2), z0, z0, (36, 1, 0, 1, 0, 0), (58, 1, 0, 0, 0, 0), (51, 3, 0, 213, 0, 0), z0, z0, (37, 1, 0, 0, 0, 0), (65, 3, 0, 117, 12, 6), z0, z0, (36, 1, 0, 1, 0, 0), (110, 3, 0, 170, 2, 153), z0, z0, (44, 3, 0, 213, 0, 0), z0, z0, (37, 1, 0, 0, 0, 0), (36, 1, 0, 1, 0, 0), (36, 1, 0, 3, 0, 0), (110, 3, 0, 174, 3, 152), z0, z0, (32, 2, 97, 0, 0, 0), z0, (2, 1, 0, 0, 0, 0), (40, 2, 0, 4, 0, 0), z0, (37, 1, 0, 0, 0, 0), (65, 3, 0, 162, 12, 51), z0, z0, (32, 2, 27, 0, 0, 0), z0, (36, 1, 0, 2, 0, 0), (3, 1, 0, 0, 0, 0), (36, 2, 0, 4, 0, 0), z0, (1, 1, 0, 0, 0, 0), (58, 1, 0, 0, 0, 0), (50, 3, 0, 168, 0, 0), z0, z0, (37, 1, 0, 0, 0, 0), (65, 3, 0, 162, 12, 51), z0, z0, (32, 2, 27, 0, 0, 0), z0, (36, 1, 0, 2, 0, 0), (3, 1, 0, 0, 0, 0), (36, 2, 0, 4, 0, 0), z0, (1, 1, 0, 0, 0, 0), (37, 1, 0, 0, 0, 0), (65, 3, 0, 164, 12, 53), z0, z0, (62, 1, 0, 0, 0, 0), (37, 1, 0, 0, 0, 0), (65, 3, 0, 163, 12, 52), z0, z0, (37, 1, 0, 0, 0, 0), (65, 3, 0, 164, 12, 53), z0, z0, (32, 1, 0, 0, 0, 0), (64, 1, 0, 0, 0, 0), (32, 1, 0, 0, 0, 0), (40, 2, 0, 5, 0, 0), z0, (36, 2, 0, 5, 0, 0), z0, (32, 2, 27, 0, 0, 0), z0, (51, 3, 0, 158, 0, 0), z0, z0, (37, 1, 0, 0, 0, 0), (65, 3, 0, 162, 12, 51), z0, z0, (32, 2, 27, 0, 0, 0), z0, (37, 1, 0, 0, 0, 0), (65, 3, 0, 164, 12, 53), z0, z0, (3, 1, 0, 0, 0, 0), (36, 2, 0, 5, 0, 0), z0, (1, 1, 0, 0, 0, 0), (32, 1, -1, 0, 0, 0), (62, 1, 0, 0, 0, 0), (43, 3, 1, 5, 0, 0), z0, z0, (56, 3, 0, 129, 0, 0), z0, z0, (37, 1, 0, 0, 0, 0), (27, 1, 0, 0, 0, 0), (65, 3, 0, 164, 12, 53), z0, z0, (32, 1, 1, 0, 0, 0), (1, 1, 0, 0, 0, 0), (67, 3, 0, 164, 12, 53), z0, z0, (37, 1, 0, 0, 0, 0), (65, 3, 0, 162, 12, 51), z0, z0, (32, 2, 27, 0, 0, 0), z0, (36, 1, 0, 2, 0, 0), (3, 1, 0, 0, 0, 0), (36, 2, 0, 4, 0, 0), z0, (1, 1, 0, 0, 0, 0), (58, 1, 0, 0, 0, 0), (40, 1, 0, 2, 0, 0), (37, 1, 0, 0, 0, 0), (65, 3, 0, 163, 12, 52), z0, z0, (36, 1, 0, 2, 0, 0), (31, 1, 0, 0, 0, 0), (60, 1, 0, 0, 0, 0), (36, 1, 0, 3, 0, 0), (37, 1, 0, 0, 0, 0), (65, 3, 0, 113, 12, 2), z0, z0, (36, 1, 0, 1, 0, 0), (58, 1, 0, 0, 0, 0), (32, 1, 1, 0, 0, 0), (2, 1, 0, 0, 0, 0), (47, 3, 0, 204, 0, 0), z0, z0, (32, 1, 1, 0, 0, 0), (56, 3, 0, 205, 0, 0), z0, z0, (32, 1, 0, 0, 0, 0), (5, 1, 0, 0, 0, 0), (64, 1, 0, 0, 0, 0), (43, 3, 1, 3, 0, 0), z0, z0, (56, 3, 0, 53, 0, 0), z0, z0, (43, 3, 1, 1, 0, 0), z0, z0, (56, 3, 0, 41, 0, 0), z0, z0, (103, 1, 0, 0, 0, 0)]
def P_Md_layNodes : PM := (12, ⟨"OneWaySpellModel", "layNodes", "()V"⟩, prog_14_method_80_code, 6, none, 1, 0, (1958, 178, 1957, 149), C_Md_layNodes)
def C_Md_often : List PI := [(38, 1, 0, 0, 0, 0), (32, 1, 2, 0, 0, 0), (36, 1, 0, 2, 0, 0), (3, 1, 0, 0, 0, 0), (21, 1, 0, 0, 0, 0), (35, 3, 3, 1990, 0, 0), z0, z0, (15, 1, 0, 0, 0, 0), (25, 1, 0, 0, 0, 0), (100, 1, 0, 0, 0, 0)]
def P_Md_often : PM := (12, ⟨"OneWaySpellModel", "often", "(JI)I"⟩, prog_14_method_81_code, 3, some .int, 0, 2, (1989, 178, 1988, 0), C_Md_often)
def C_Md_oftenAt : List PI := [(37, 1, 0, 1, 0, 0), (36, 1, 0, 2, 0, 0), (32, 2, 32, 0, 0, 0), z0, (10, 1, 0, 0, 0, 0), (59, 1, 0, 0, 0, 0), (36, 1, 0, 2, 0, 0), (32, 2, 32, 0, 0, 0), z0, (11, 1, 0, 0, 0, 0), (110, 3, 0, 247, 2, 214), z0, z0, (100, 1, 0, 0, 0, 0)]
def P_Md_oftenAt : PM := (12, ⟨"OneWaySpellModel", "oftenAt", "([JI)I"⟩, prog_14_method_82_code, 3, some .int, 1, 2, (1986, 178, 1985, 155), C_Md_oftenAt)
def C_Md_adds : List PI := [(32, 1, 2, 0, 0, 0), (37, 1, 0, 0, 0, 0), (37, 1, 0, 0, 0, 0), (65, 3, 0, 171, 12, 60), z0, z0, (36, 1, 0, 1, 0, 0), (110, 3, 0, 248, 3, 213), z0, z0, (36, 1, 0, 2, 0, 0), (1, 1, 0, 0, 0, 0), (110, 3, 0, 171, 2, 162), z0, z0, (40, 1, 0, 3, 0, 0), (32, 1, 2, 0, 0, 0), (36, 1, 0, 1, 0, 0), (32, 2, 32, 0, 0, 0), z0, (11, 1, 0, 0, 0, 0), (3, 1, 0, 0, 0, 0), (40, 2, 0, 4, 0, 0), z0, (37, 1, 0, 0, 0, 0), (65, 3, 0, 171, 12, 60), z0, z0, (36, 1, 0, 1, 0, 0), (32, 2, 32, 0, 0, 0), z0, (10, 1, 0, 0, 0, 0), (37, 1, 0, 0, 0, 0), (65, 3, 0, 171, 12, 60), z0, z0, (36, 1, 0, 1, 0, 0), (32, 2, 32, 0, 0, 0), z0, (10, 1, 0, 0, 0, 0), (59, 1, 0, 0, 0, 0), (35, 3, 3, 1990, 0, 0), z0, z0, (36, 2, 0, 4, 0, 0), z0, (20, 1, 0, 0, 0, 0), (35, 3, -1, 1854, 0, 0), z0, z0, (17, 1, 0, 0, 0, 0), (15, 1, 0, 0, 0, 0), (36, 1, 0, 3, 0, 0), (24, 1, 0, 0, 0, 0), (36, 2, 0, 4, 0, 0), z0, (20, 1, 0, 0, 0, 0), (16, 1, 0, 0, 0, 0), (63, 1, 0, 0, 0, 0), (103, 1, 0, 0, 0, 0)]
def P_Md_adds : PM := (12, ⟨"OneWaySpellModel", "adds", "(II)V"⟩, prog_14_method_83_code, 5, none, 1, 2, (1994, 178, 1993, 156), C_Md_adds)
def C_Md_steps : List PI := [(32, 1, 0, 0, 0, 0), (40, 1, 0, 2, 0, 0), (36, 1, 0, 2, 0, 0), (32, 1, 4, 0, 0, 0), (51, 3, 0, 20, 0, 0), z0, z0, (37, 1, 0, 0, 0, 0), (65, 3, 0, 171, 12, 60), z0, z0, (36, 1, 0, 2, 0, 0), (33, 1, 0, 0, 0, 0), (63, 1, 0, 0, 0, 0), (43, 3, 1, 2, 0, 0), z0, z0, (56, 3, 0, 2, 0, 0), z0, z0, (32, 1, 0, 0, 0, 0), (40, 1, 0, 2, 0, 0), (32, 1, 0, 0, 0, 0), (40, 1, 0, 3, 0, 0), (36, 1, 0, 3, 0, 0), (37, 1, 0, 0, 0, 0), (65, 3, 0, 164, 12, 53), z0, z0, (51, 3, 0, 106, 0, 0), z0, z0, (37, 1, 0, 0, 0, 0), (37, 1, 0, 0, 0, 0), (65, 3, 0, 170, 12, 59), z0, z0, (36, 1, 0, 3, 0, 0), (110, 3, 0, 248, 3, 213), z0, z0, (40, 2, 0, 4, 0, 0), z0, (36, 2, 0, 4, 0, 0), z0, (46, 3, 0, 52, 0, 0), z0, z0, (32, 1, -1, 0, 0, 0), (56, 3, 0, 63, 0, 0), z0, z0, (37, 1, 0, 0, 0, 0), (65, 3, 0, 162, 12, 51), z0, z0, (32, 2, 27, 0, 0, 0), z0, (36, 1, 0, 3, 0, 0), (3, 1, 0, 0, 0, 0), (36, 1, 0, 1, 0, 0), (1, 1, 0, 0, 0, 0), (58, 1, 0, 0, 0, 0), (40, 2, 0, 5, 0, 0), z0, (36, 2, 0, 5, 0, 0), z0, (50, 3, 0, 73, 0, 0), z0, z0, (56, 3, 0, 100, 0, 0), z0, z0, (32, 1, 1, 0, 0, 0), (40, 1, 0, 2, 0, 0), (37, 1, 0, 0, 0, 0), (36, 2, 0, 5, 0, 0), z0, (36, 2, 0, 4, 0, 0), z0, (110, 3, 0, 249, 3, 215), z0, z0, (37, 1, 0, 0, 0, 0), (65, 3, 0, 163, 12, 52), z0, z0, (36, 2, 0, 5, 0, 0), z0, (60, 1, 0, 0, 0, 0), (44, 3, 0, 100, 0, 0), z0, z0, (37, 1, 0, 0, 0, 0), (32, 1, 0, 0, 0, 0), (36, 2, 0, 4, 0, 0), z0, (110, 3, 0, 249, 3, 215), z0, z0, (43, 3, 1, 3, 0, 0), z0, z0, (56, 3, 0, 24, 0, 0), z0, z0, (36, 1, 0, 2, 0, 0), (100, 1, 0, 0, 0, 0)]
def P_Md_steps : PM := (12, ⟨"OneWaySpellModel", "steps", "(I)Z"⟩, prog_14_method_84_code, 6, some .boolean, 1, 1, (1982, 178, 1981, 154), C_Md_steps)
def C_Md_empties : List PI := [(32, 1, 0, 0, 0, 0), (40, 1, 0, 2, 0, 0), (36, 1, 0, 2, 0, 0), (37, 1, 0, 0, 0, 0), (65, 3, 0, 169, 12, 58), z0, z0, (36, 1, 0, 1, 0, 0), (58, 1, 0, 0, 0, 0), (51, 3, 0, 36, 0, 0), z0, z0, (37, 1, 0, 0, 0, 0), (65, 3, 0, 167, 12, 56), z0, z0, (37, 1, 0, 0, 0, 0), (65, 3, 0, 168, 12, 57), z0, z0, (32, 3, 16384, 0, 0, 0), z0, z0, (36, 1, 0, 1, 0, 0), (3, 1, 0, 0, 0, 0), (36, 1, 0, 2, 0, 0), (1, 1, 0, 0, 0, 0), (58, 1, 0, 0, 0, 0), (32, 1, 0, 0, 0, 0), (64, 1, 0, 0, 0, 0), (43, 3, 1, 2, 0, 0), z0, z0, (56, 3, 0, 2, 0, 0), z0, z0, (37, 1, 0, 0, 0, 0), (65, 3, 0, 169, 12, 58), z0, z0, (36, 1, 0, 1, 0, 0), (32, 1, 0, 0, 0, 0), (62, 1, 0, 0, 0, 0), (103, 1, 0, 0, 0, 0)]
def P_Md_empties : PM := (12, ⟨"OneWaySpellModel", "empties", "(I)V"⟩, prog_14_method_85_code, 3, none, 1, 1, (1966, 178, 1965, 151), C_Md_empties)
def C_Md_isThere : List PI := [(32, 1, 0, 0, 0, 0), (40, 1, 0, 2, 0, 0), (36, 1, 0, 2, 0, 0), (32, 1, 4, 0, 0, 0), (51, 3, 0, 35, 0, 0), z0, z0, (37, 1, 0, 0, 0, 0), (65, 3, 0, 165, 12, 54), z0, z0, (32, 1, 4, 0, 0, 0), (36, 1, 0, 1, 0, 0), (3, 1, 0, 0, 0, 0), (36, 1, 0, 2, 0, 0), (1, 1, 0, 0, 0, 0), (59, 1, 0, 0, 0, 0), (37, 1, 0, 0, 0, 0), (65, 3, 0, 171, 12, 60), z0, z0, (36, 1, 0, 2, 0, 0), (59, 1, 0, 0, 0, 0), (22, 1, 0, 0, 0, 0), (44, 3, 0, 29, 0, 0), z0, z0, (32, 1, 0, 0, 0, 0), (100, 1, 0, 0, 0, 0), (43, 3, 1, 2, 0, 0), z0, z0, (56, 3, 0, 2, 0, 0), z0, z0, (32, 1, 1, 0, 0, 0), (100, 1, 0, 0, 0, 0)]
def P_Md_isThere : PM := (12, ⟨"OneWaySpellModel", "isThere", "(I)Z"⟩, prog_14_method_86_code, 3, some .boolean, 1, 1, (1978, 178, 1977, 153), C_Md_isThere)
def C_Md_counts : List PI := [(37, 1, 0, 0, 0, 0), (65, 3, 0, 171, 12, 60), z0, z0, (32, 1, 0, 0, 0, 0), (59, 1, 0, 0, 0, 0), (35, 3, 31, 1971, 0, 0), z0, z0, (14, 1, 0, 0, 0, 0), (37, 1, 0, 0, 0, 0), (65, 3, 0, 171, 12, 60), z0, z0, (32, 1, 1, 0, 0, 0), (59, 1, 0, 0, 0, 0), (35, 3, 1000003, 1972, 0, 0), z0, z0, (14, 1, 0, 0, 0, 0), (12, 1, 0, 0, 0, 0), (37, 1, 0, 0, 0, 0), (65, 3, 0, 171, 12, 60), z0, z0, (32, 1, 2, 0, 0, 0), (59, 1, 0, 0, 0, 0), (35, 3, 7919, 1973, 0, 0), z0, z0, (14, 1, 0, 0, 0, 0), (12, 1, 0, 0, 0, 0), (37, 1, 0, 0, 0, 0), (65, 3, 0, 171, 12, 60), z0, z0, (32, 1, 3, 0, 0, 0), (59, 1, 0, 0, 0, 0), (12, 1, 0, 0, 0, 0), (42, 2, 0, 4, 0, 0), z0, (38, 2, 0, 4, 0, 0), z0, (38, 2, 0, 4, 0, 0), z0, (32, 2, 17, 0, 0, 0), z0, (21, 1, 0, 0, 0, 0), (17, 1, 0, 0, 0, 0), (38, 2, 0, 4, 0, 0), z0, (32, 2, 37, 0, 0, 0), z0, (21, 1, 0, 0, 0, 0), (17, 1, 0, 0, 0, 0), (42, 2, 0, 4, 0, 0), z0, (32, 3, 16384, 0, 0, 0), z0, z0, (36, 1, 0, 1, 0, 0), (3, 1, 0, 0, 0, 0), (38, 2, 0, 4, 0, 0), z0, (35, 3, 16383, 1974, 0, 0), z0, z0, (15, 1, 0, 0, 0, 0), (25, 1, 0, 0, 0, 0), (1, 1, 0, 0, 0, 0), (40, 2, 0, 6, 0, 0), z0, (37, 1, 0, 0, 0, 0), (65, 3, 0, 167, 12, 56), z0, z0, (36, 2, 0, 6, 0, 0), z0, (60, 1, 0, 0, 0, 0), (44, 3, 0, 110, 0, 0), z0, z0, (37, 1, 0, 0, 0, 0), (36, 2, 0, 6, 0, 0), z0, (110, 3, 0, 252, 2, 211), z0, z0, (46, 3, 0, 110, 0, 0), z0, z0, (32, 3, 16384, 0, 0, 0), z0, z0, (36, 1, 0, 1, 0, 0), (3, 1, 0, 0, 0, 0), (36, 2, 0, 6, 0, 0), z0, (32, 1, 1, 0, 0, 0), (1, 1, 0, 0, 0, 0), (32, 3, 16383, 0, 0, 0), z0, z0, (4, 1, 0, 0, 0, 0), (1, 1, 0, 0, 0, 0), (40, 2, 0, 6, 0, 0), z0, (56, 3, 0, 72, 0, 0), z0, z0, (37, 1, 0, 0, 0, 0), (65, 3, 0, 167, 12, 56), z0, z0, (36, 2, 0, 6, 0, 0), z0, (60, 1, 0, 0, 0, 0), (46, 3, 0, 199, 0, 0), z0, z0, (37, 1, 0, 0, 0, 0), (65, 3, 0, 167, 12, 56), z0, z0, (36, 2, 0, 6, 0, 0), z0, (32, 1, 1, 0, 0, 0), (64, 1, 0, 0, 0, 0), (37, 1, 0, 0, 0, 0), (65, 3, 0, 168, 12, 57), z0, z0, (32, 3, 16384, 0, 0, 0), z0, z0, (36, 1, 0, 1, 0, 0), (3, 1, 0, 0, 0, 0), (37, 1, 0, 0, 0, 0), (65, 3, 0, 169, 12, 58), z0, z0, (36, 1, 0, 1, 0, 0), (58, 1, 0, 0, 0, 0), (1, 1, 0, 0, 0, 0), (36, 2, 0, 6, 0, 0), z0, (62, 1, 0, 0, 0, 0), (37, 1, 0, 0, 0, 0), (65, 3, 0, 169, 12, 58), z0, z0, (36, 1, 0, 1, 0, 0), (31, 1, 0, 0, 0, 0), (58, 1, 0, 0, 0, 0), (32, 1, 1, 0, 0, 0), (1, 1, 0, 0, 0, 0), (62, 1, 0, 0, 0, 0), (37, 1, 0, 0, 0, 0), (65, 3, 0, 166, 12, 55), z0, z0, (36, 2, 0, 6, 0, 0), z0, (33, 1, 0, 0, 0, 0), (63, 1, 0, 0, 0, 0), (32, 1, 0, 0, 0, 0), (40, 2, 0, 7, 0, 0), z0, (36, 2, 0, 7, 0, 0), z0, (32, 1, 4, 0, 0, 0), (51, 3, 0, 199, 0, 0), z0, z0, (37, 1, 0, 0, 0, 0), (65, 3, 0, 165, 12, 54), z0, z0, (32, 1, 4, 0, 0, 0), (36, 2, 0, 6, 0, 0), z0, (3, 1, 0, 0, 0, 0), (36, 2, 0, 7, 0, 0), z0, (1, 1, 0, 0, 0, 0), (37, 1, 0, 0, 0, 0), (65, 3, 0, 171, 12, 60), z0, z0, (36, 2, 0, 7, 0, 0), z0, (59, 1, 0, 0, 0, 0), (63, 1, 0, 0, 0, 0), (43, 3, 1, 7, 0, 0), z0, z0, (56, 3, 0, 168, 0, 0), z0, z0, (37, 1, 0, 0, 0, 0), (65, 3, 0, 166, 12, 55), z0, z0, (36, 2, 0, 6, 0, 0), z0, (31, 1, 0, 0, 0, 0), (59, 1, 0, 0, 0, 0), (38, 1, 0, 2, 0, 0), (12, 1, 0, 0, 0, 0), (63, 1, 0, 0, 0, 0), (103, 1, 0, 0, 0, 0)]
def P_Md_counts : PM := (12, ⟨"OneWaySpellModel", "counts", "(IJ)V"⟩, prog_14_method_87_code, 8, none, 1, 2, (1970, 178, 1969, 152), C_Md_counts)
def C_Md_countFrom : List PI := [(37, 1, 0, 0, 0, 0), (32, 1, 0, 0, 0, 0), (110, 3, 0, 251, 2, 209), z0, z0, (32, 1, 0, 0, 0, 0), (40, 1, 0, 2, 0, 0), (36, 1, 0, 2, 0, 0), (32, 1, 4, 0, 0, 0), (51, 3, 0, 30, 0, 0), z0, z0, (37, 1, 0, 0, 0, 0), (65, 3, 0, 171, 12, 60), z0, z0, (36, 1, 0, 2, 0, 0), (37, 1, 0, 0, 0, 0), (65, 3, 0, 170, 12, 59), z0, z0, (36, 1, 0, 2, 0, 0), (59, 1, 0, 0, 0, 0), (63, 1, 0, 0, 0, 0), (43, 3, 1, 2, 0, 0), z0, z0, (56, 3, 0, 7, 0, 0), z0, z0, (37, 1, 0, 0, 0, 0), (32, 1, 0, 0, 0, 0), (33, 1, 1, 0, 0, 0), (110, 3, 0, 253, 3, 210), z0, z0, (32, 1, 0, 0, 0, 0), (40, 1, 0, 2, 0, 0), (32, 1, 0, 0, 0, 0), (40, 1, 0, 3, 0, 0), (36, 1, 0, 3, 0, 0), (36, 1, 0, 1, 0, 0), (51, 3, 0, 170, 0, 0), z0, z0, (37, 1, 0, 0, 0, 0), (32, 1, 1, 0, 0, 0), (36, 1, 0, 2, 0, 0), (2, 1, 0, 0, 0, 0), (110, 3, 0, 251, 2, 209), z0, z0, (32, 1, 0, 0, 0, 0), (40, 2, 0, 4, 0, 0), z0, (36, 2, 0, 4, 0, 0), z0, (37, 1, 0, 0, 0, 0), (65, 3, 0, 169, 12, 58), z0, z0, (36, 1, 0, 2, 0, 0), (58, 1, 0, 0, 0, 0), (51, 3, 0, 160, 0, 0), z0, z0, (37, 1, 0, 0, 0, 0), (65, 3, 0, 168, 12, 57), z0, z0, (32, 3, 16384, 0, 0, 0), z0, z0, (36, 1, 0, 2, 0, 0), (3, 1, 0, 0, 0, 0), (36, 2, 0, 4, 0, 0), z0, (1, 1, 0, 0, 0, 0), (58, 1, 0, 0, 0, 0), (40, 2, 0, 5, 0, 0), z0, (32, 1, 0, 0, 0, 0), (40, 2, 0, 6, 0, 0), z0, (36, 2, 0, 6, 0, 0), z0, (32, 2, 27, 0, 0, 0), z0, (51, 3, 0, 154, 0, 0), z0, z0, (32, 1, 0, 0, 0, 0), (40, 2, 0, 7, 0, 0), z0, (36, 2, 0, 7, 0, 0), z0, (32, 1, 4, 0, 0, 0), (51, 3, 0, 125, 0, 0), z0, z0, (37, 1, 0, 0, 0, 0), (65, 3, 0, 170, 12, 59), z0, z0, (36, 2, 0, 7, 0, 0), z0, (37, 1, 0, 0, 0, 0), (65, 3, 0, 165, 12, 54), z0, z0, (32, 1, 4, 0, 0, 0), (36, 2, 0, 5, 0, 0), z0, (3, 1, 0, 0, 0, 0), (36, 2, 0, 7, 0, 0), z0, (1, 1, 0, 0, 0, 0), (59, 1, 0, 0, 0, 0), (63, 1, 0, 0, 0, 0), (43, 3, 1, 7, 0, 0), z0, z0, (56, 3, 0, 94, 0, 0), z0, z0, (37, 1, 0, 0, 0, 0), (36, 2, 0, 6, 0, 0), z0, (110, 3, 0, 250, 2, 212), z0, z0, (44, 3, 0, 148, 0, 0), z0, z0, (37, 1, 0, 0, 0, 0), (32, 1, 1, 0, 0, 0), (36, 1, 0, 2, 0, 0), (2, 1, 0, 0, 0, 0), (37, 1, 0, 0, 0, 0), (65, 3, 0, 166, 12, 55), z0, z0, (36, 2, 0, 5, 0, 0), z0, (59, 1, 0, 0, 0, 0), (110, 3, 0, 253, 3, 210), z0, z0, (43, 3, 1, 6, 0, 0), z0, z0, (56, 3, 0, 84, 0, 0), z0, z0, (43, 3, 1, 4, 0, 0), z0, z0, (56, 3, 0, 55, 0, 0), z0, z0, (32, 1, 1, 0, 0, 0), (36, 1, 0, 2, 0, 0), (2, 1, 0, 0, 0, 0), (40, 1, 0, 2, 0, 0), (43, 3, 1, 3, 0, 0), z0, z0, (56, 3, 0, 40, 0, 0), z0, z0, (37, 1, 0, 0, 0, 0), (33, 1, 0, 0, 0, 0), (67, 3, 0, 172, 12, 61), z0, z0, (37, 1, 0, 0, 0, 0), (33, 1, 0, 0, 0, 0), (67, 3, 0, 173, 12, 62), z0, z0, (32, 1, 0, 0, 0, 0), (40, 1, 0, 3, 0, 0), (36, 1, 0, 3, 0, 0), (37, 1, 0, 0, 0, 0), (65, 3, 0, 169, 12, 58), z0, z0, (36, 1, 0, 2, 0, 0), (58, 1, 0, 0, 0, 0), (51, 3, 0, 278, 0, 0), z0, z0, (37, 1, 0, 0, 0, 0), (65, 3, 0, 168, 12, 57), z0, z0, (32, 3, 16384, 0, 0, 0), z0, z0, (36, 1, 0, 2, 0, 0), (3, 1, 0, 0, 0, 0), (36, 1, 0, 3, 0, 0), (1, 1, 0, 0, 0, 0), (58, 1, 0, 0, 0, 0), (40, 2, 0, 4, 0, 0), z0, (37, 1, 0, 0, 0, 0), (65, 3, 0, 165, 12, 54), z0, z0, (32, 1, 4, 0, 0, 0), (36, 2, 0, 4, 0, 0), z0, (3, 1, 0, 0, 0, 0), (59, 1, 0, 0, 0, 0), (32, 1, 0, 0, 0, 0), (110, 3, 0, 247, 2, 214), z0, z0, (40, 2, 0, 5, 0, 0), z0, (37, 1, 0, 0, 0, 0), (27, 1, 0, 0, 0, 0), (65, 3, 0, 172, 12, 61), z0, z0, (36, 2, 0, 5, 0, 0), z0, (54, 3, 0, 241, 0, 0), z0, z0, (37, 1, 0, 0, 0, 0), (65, 3, 0, 166, 12, 55), z0, z0, (36, 2, 0, 4, 0, 0), z0, (59, 1, 0, 0, 0, 0), (56, 3, 0, 242, 0, 0), z0, z0, (33, 1, 0, 0, 0, 0), (12, 1, 0, 0, 0, 0), (67, 3, 0, 172, 12, 61), z0, z0, (37, 1, 0, 0, 0, 0), (27, 1, 0, 0, 0, 0), (65, 3, 0, 173, 12, 62), z0, z0, (36, 2, 0, 5, 0, 0), z0, (32, 1, 1, 0, 0, 0), (55, 3, 0, 267, 0, 0), z0, z0, (37, 1, 0, 0, 0, 0), (65, 3, 0, 166, 12, 55), z0, z0, (36, 2, 0, 4, 0, 0), z0, (59, 1, 0, 0, 0, 0), (56, 3, 0, 268, 0, 0), z0, z0, (33, 1, 0, 0, 0, 0), (12, 1, 0, 0, 0, 0), (67, 3, 0, 173, 12, 62), z0, z0, (43, 3, 1, 3, 0, 0), z0, z0, (56, 3, 0, 182, 0, 0), z0, z0, (103, 1, 0, 0, 0, 0)]
def P_Md_countFrom : PM := (12, ⟨"OneWaySpellModel", "countFrom", "(I)V"⟩, prog_14_method_88_code, 8, none, 1, 1, (1962, 178, 1961, 150), C_Md_countFrom)
def C_Md_startsAnew : List PI := [(37, 1, 0, 0, 0, 0), (110, 3, 0, 246, 1, 207), z0, z0, (37, 1, 0, 0, 0, 0), (65, 3, 0, 170, 12, 59), z0, z0, (32, 1, 0, 0, 0, 0), (33, 1, 1, 0, 0, 0), (63, 1, 0, 0, 0, 0), (37, 1, 0, 0, 0, 0), (65, 3, 0, 170, 12, 59), z0, z0, (32, 1, 1, 0, 0, 0), (33, 1, 0, 0, 0, 0), (63, 1, 0, 0, 0, 0), (37, 1, 0, 0, 0, 0), (65, 3, 0, 170, 12, 59), z0, z0, (32, 1, 2, 0, 0, 0), (33, 1, 0, 0, 0, 0), (63, 1, 0, 0, 0, 0), (37, 1, 0, 0, 0, 0), (65, 3, 0, 170, 12, 59), z0, z0, (32, 1, 3, 0, 0, 0), (33, 1, 0, 0, 0, 0), (63, 1, 0, 0, 0, 0), (103, 1, 0, 0, 0, 0)]
def P_Md_startsAnew : PM := (12, ⟨"OneWaySpellModel", "startsAnew", "()V"⟩, prog_14_method_89_code, 1, none, 1, 0, (1954, 178, 1953, 148), C_Md_startsAnew)
def C_Md_words : List PI := [(37, 1, 0, 0, 0, 0), (32, 1, 0, 0, 0, 0), (67, 3, 0, 111, 12, 0), z0, z0, (36, 1, 0, 1, 0, 0), (32, 1, 0, 0, 0, 0), (32, 2, 10, 0, 0, 0), z0, (110, 3, 0, 169, 3, 131), z0, z0, (44, 3, 0, 24, 0, 0), z0, z0, (36, 1, 0, 2, 0, 0), (32, 1, 0, 0, 0, 0), (32, 1, 2, 0, 0, 0), (110, 3, 0, 169, 3, 131), z0, z0, (46, 3, 0, 28, 0, 0), z0, z0, (35, 3, -1, 1854, 0, 0), z0, z0, (101, 1, 0, 0, 0, 0), (37, 1, 0, 0, 0, 0), (110, 3, 0, 255, 1, 206), z0, z0, (37, 1, 0, 0, 0, 0), (36, 1, 0, 1, 0, 0), (110, 3, 0, 254, 2, 208), z0, z0, (36, 1, 0, 2, 0, 0), (46, 3, 0, 48, 0, 0), z0, z0, (37, 1, 0, 0, 0, 0), (65, 3, 0, 172, 12, 61), z0, z0, (56, 3, 0, 69, 0, 0), z0, z0, (36, 1, 0, 2, 0, 0), (32, 1, 1, 0, 0, 0), (47, 3, 0, 65, 0, 0), z0, z0, (37, 1, 0, 0, 0, 0), (65, 3, 0, 172, 12, 61), z0, z0, (37, 1, 0, 0, 0, 0), (65, 3, 0, 173, 12, 62), z0, z0, (13, 1, 0, 0, 0, 0), (56, 3, 0, 69, 0, 0), z0, z0, (37, 1, 0, 0, 0, 0), (65, 3, 0, 173, 12, 62), z0, z0, (101, 1, 0, 0, 0, 0)]
def P_Md_words : PM := (12, ⟨"OneWaySpellModel", "words", "(II)J"⟩, prog_14_method_90_code, 3, some .long, 1, 2, (1950, 178, 1948, 1949), C_Md_words)
def C_Md_behindBy : List PI := [(32, 1, 0, 0, 0, 0), (40, 1, 0, 3, 0, 0), (36, 1, 0, 3, 0, 0), (32, 1, 4, 0, 0, 0), (51, 3, 0, 25, 0, 0), z0, z0, (37, 1, 0, 0, 0, 0), (65, 3, 0, 170, 12, 59), z0, z0, (36, 1, 0, 3, 0, 0), (37, 1, 0, 0, 0, 0), (65, 3, 0, 174, 12, 63), z0, z0, (36, 1, 0, 3, 0, 0), (59, 1, 0, 0, 0, 0), (63, 1, 0, 0, 0, 0), (43, 3, 1, 3, 0, 0), z0, z0, (56, 3, 0, 2, 0, 0), z0, z0, (37, 1, 0, 0, 0, 0), (36, 1, 0, 1, 0, 0), (110, 3, 0, 250, 2, 212), z0, z0, (46, 3, 0, 35, 0, 0), z0, z0, (33, 1, 0, 0, 0, 0), (101, 1, 0, 0, 0, 0), (32, 1, 0, 0, 0, 0), (40, 1, 0, 3, 0, 0), (36, 1, 0, 3, 0, 0), (32, 1, 4, 0, 0, 0), (51, 3, 0, 72, 0, 0), z0, z0, (37, 1, 0, 0, 0, 0), (65, 3, 0, 170, 12, 59), z0, z0, (36, 1, 0, 3, 0, 0), (37, 1, 0, 0, 0, 0), (65, 3, 0, 171, 12, 60), z0, z0, (36, 1, 0, 3, 0, 0), (59, 1, 0, 0, 0, 0), (63, 1, 0, 0, 0, 0), (37, 1, 0, 0, 0, 0), (65, 3, 0, 175, 12, 64), z0, z0, (36, 1, 0, 3, 0, 0), (37, 1, 0, 0, 0, 0), (65, 3, 0, 171, 12, 60), z0, z0, (36, 1, 0, 3, 0, 0), (59, 1, 0, 0, 0, 0), (63, 1, 0, 0, 0, 0), (43, 3, 1, 3, 0, 0), z0, z0, (56, 3, 0, 37, 0, 0), z0, z0, (37, 1, 0, 0, 0, 0), (36, 1, 0, 2, 0, 0), (110, 3, 0, 254, 2, 208), z0, z0, (37, 1, 0, 0, 0, 0), (65, 3, 0, 172, 12, 61), z0, z0, (101, 1, 0, 0, 0, 0)]
def P_Md_behindBy : PM := (12, ⟨"OneWaySpellModel", "behindBy", "(II)J"⟩, prog_14_method_91_code, 4, some .long, 1, 2, (2002, 178, 2001, 157), C_Md_behindBy)
def C_Md_goesThere : List PI := [(32, 1, 0, 0, 0, 0), (40, 1, 0, 1, 0, 0), (36, 1, 0, 1, 0, 0), (32, 1, 4, 0, 0, 0), (51, 3, 0, 25, 0, 0), z0, z0, (37, 1, 0, 0, 0, 0), (65, 3, 0, 174, 12, 63), z0, z0, (36, 1, 0, 1, 0, 0), (37, 1, 0, 0, 0, 0), (65, 3, 0, 175, 12, 64), z0, z0, (36, 1, 0, 1, 0, 0), (59, 1, 0, 0, 0, 0), (63, 1, 0, 0, 0, 0), (43, 3, 1, 1, 0, 0), z0, z0, (56, 3, 0, 2, 0, 0), z0, z0, (103, 1, 0, 0, 0, 0)]
def P_Md_goesThere : PM := (12, ⟨"OneWaySpellModel", "goesThere", "()V"⟩, prog_14_method_92_code, 2, none, 1, 0, (2006, 178, 2005, 158), C_Md_goesThere)
def C_Md_nth : List PI := [(37, 1, 0, 0, 0, 0), (32, 1, 0, 0, 0, 0), (67, 3, 0, 111, 12, 0), z0, z0, (36, 1, 0, 1, 0, 0), (32, 1, 0, 0, 0, 0), (32, 2, 10, 0, 0, 0), z0, (110, 3, 0, 169, 3, 131), z0, z0, (44, 3, 0, 21, 0, 0), z0, z0, (38, 1, 0, 2, 0, 0), (33, 1, 0, 0, 0, 0), (22, 1, 0, 0, 0, 0), (50, 3, 0, 23, 0, 0), z0, z0, (32, 1, 0, 0, 0, 0), (100, 1, 0, 0, 0, 0), (37, 1, 0, 0, 0, 0), (110, 3, 0, 255, 1, 206), z0, z0, (32, 1, 0, 0, 0, 0), (40, 2, 0, 4, 0, 0), z0, (36, 2, 0, 4, 0, 0), z0, (32, 1, 4, 0, 0, 0), (51, 3, 0, 56, 0, 0), z0, z0, (37, 1, 0, 0, 0, 0), (65, 3, 0, 174, 12, 63), z0, z0, (36, 2, 0, 4, 0, 0), z0, (37, 1, 0, 0, 0, 0), (65, 3, 0, 170, 12, 59), z0, z0, (36, 2, 0, 4, 0, 0), z0, (59, 1, 0, 0, 0, 0), (63, 1, 0, 0, 0, 0), (43, 3, 1, 4, 0, 0), z0, z0, (56, 3, 0, 30, 0, 0), z0, z0, (37, 1, 0, 0, 0, 0), (36, 1, 0, 1, 0, 0), (110, 3, 0, 254, 2, 208), z0, z0, (38, 1, 0, 2, 0, 0), (37, 1, 0, 0, 0, 0), (65, 3, 0, 172, 12, 61), z0, z0, (22, 1, 0, 0, 0, 0), (48, 3, 0, 72, 0, 0), z0, z0, (32, 1, 0, 0, 0, 0), (100, 1, 0, 0, 0, 0), (38, 1, 0, 2, 0, 0), (42, 2, 0, 4, 0, 0), z0, (32, 1, 0, 0, 0, 0), (40, 2, 0, 6, 0, 0), z0, (36, 2, 0, 6, 0, 0), z0, (36, 1, 0, 1, 0, 0), (51, 3, 0, 158, 0, 0), z0, z0, (32, 1, 0, 0, 0, 0), (40, 2, 0, 7, 0, 0), z0, (37, 1, 0, 0, 0, 0), (36, 2, 0, 7, 0, 0), z0, (36, 1, 0, 1, 0, 0), (32, 1, 1, 0, 0, 0), (2, 1, 0, 0, 0, 0), (36, 2, 0, 6, 0, 0), z0, (2, 1, 0, 0, 0, 0), (110, 3, 0, 257, 3, 217), z0, z0, (42, 2, 0, 8, 0, 0), z0, (38, 2, 0, 4, 0, 0), z0, (38, 2, 0, 8, 0, 0), z0, (22, 1, 0, 0, 0, 0), (48, 3, 0, 136, 0, 0), z0, z0, (38, 2, 0, 4, 0, 0), z0, (38, 2, 0, 8, 0, 0), z0, (13, 1, 0, 0, 0, 0), (42, 2, 0, 4, 0, 0), z0, (43, 3, 1, 7, 0, 0), z0, z0, (37, 1, 0, 0, 0, 0), (36, 2, 0, 7, 0, 0), z0, (36, 1, 0, 1, 0, 0), (32, 1, 1, 0, 0, 0), (2, 1, 0, 0, 0, 0), (36, 2, 0, 6, 0, 0), z0, (2, 1, 0, 0, 0, 0), (110, 3, 0, 257, 3, 217), z0, z0, (42, 2, 0, 8, 0, 0), z0, (56, 3, 0, 101, 0, 0), z0, z0, (37, 1, 0, 0, 0, 0), (110, 3, 0, 258, 1, 218), z0, z0, (37, 1, 0, 0, 0, 0), (65, 3, 0, 134, 12, 23), z0, z0, (36, 2, 0, 6, 0, 0), z0, (32, 2, 97, 0, 0, 0), z0, (36, 2, 0, 7, 0, 0), z0, (1, 1, 0, 0, 0, 0), (62, 1, 0, 0, 0, 0), (43, 3, 1, 6, 0, 0), z0, z0, (56, 3, 0, 78, 0, 0), z0, z0, (37, 1, 0, 0, 0, 0), (36, 1, 0, 1, 0, 0), (67, 3, 0, 135, 12, 24), z0, z0, (32, 1, 1, 0, 0, 0), (100, 1, 0, 0, 0, 0)]
def P_Md_nth : PM := (12, ⟨"OneWaySpellModel", "nth", "(IJ)Z"⟩, prog_14_method_93_code, 10, some .boolean, 1, 2, (1998, 178, 1996, 1997), C_Md_nth)
def C_Md_place : List PI := [(37, 1, 0, 0, 0, 0), (32, 1, 0, 0, 0, 0), (67, 3, 0, 111, 12, 0), z0, z0, (37, 1, 0, 0, 0, 0), (37, 1, 0, 0, 0, 0), (65, 3, 0, 134, 12, 23), z0, z0, (37, 1, 0, 0, 0, 0), (65, 3, 0, 135, 12, 24), z0, z0, (110, 3, 0, 226, 3, 186), z0, z0, (37, 1, 0, 0, 0, 0), (65, 3, 0, 135, 12, 24), z0, z0, (32, 2, 10, 0, 0, 0), z0, (53, 3, 0, 37, 0, 0), z0, z0, (37, 1, 0, 0, 0, 0), (65, 3, 0, 151, 12, 40), z0, z0, (32, 1, 0, 0, 0, 0), (59, 1, 0, 0, 0, 0), (33, 1, 0, 0, 0, 0), (22, 1, 0, 0, 0, 0), (46, 3, 0, 41, 0, 0), z0, z0, (35, 3, -1, 1854, 0, 0), z0, z0, (101, 1, 0, 0, 0, 0), (37, 1, 0, 0, 0, 0), (110, 3, 0, 255, 1, 206), z0, z0, (32, 1, 0, 0, 0, 0), (40, 1, 0, 1, 0, 0), (36, 1, 0, 1, 0, 0), (32, 1, 4, 0, 0, 0), (51, 3, 0, 70, 0, 0), z0, z0, (37, 1, 0, 0, 0, 0), (65, 3, 0, 174, 12, 63), z0, z0, (36, 1, 0, 1, 0, 0), (37, 1, 0, 0, 0, 0), (65, 3, 0, 170, 12, 59), z0, z0, (36, 1, 0, 1, 0, 0), (59, 1, 0, 0, 0, 0), (63, 1, 0, 0, 0, 0), (43, 3, 1, 1, 0, 0), z0, z0, (56, 3, 0, 47, 0, 0), z0, z0, (33, 1, 0, 0, 0, 0), (42, 1, 0, 1, 0, 0), (32, 1, 0, 0, 0, 0), (40, 1, 0, 3, 0, 0), (36, 1, 0, 3, 0, 0), (37, 1, 0, 0, 0, 0), (65, 3, 0, 135, 12, 24), z0, z0, (51, 3, 0, 154, 0, 0), z0, z0, (32, 1, 0, 0, 0, 0), (40, 2, 0, 4, 0, 0), z0, (36, 2, 0, 4, 0, 0), z0, (37, 1, 0, 0, 0, 0), (65, 3, 0, 134, 12, 23), z0, z0, (36, 1, 0, 3, 0, 0), (58, 1, 0, 0, 0, 0), (32, 2, 97, 0, 0, 0), z0, (2, 1, 0, 0, 0, 0), (51, 3, 0, 122, 0, 0), z0, z0, (38, 1, 0, 1, 0, 0), (37, 1, 0, 0, 0, 0), (36, 2, 0, 4, 0, 0), z0, (37, 1, 0, 0, 0, 0), (65, 3, 0, 135, 12, 24), z0, z0, (32, 1, 1, 0, 0, 0), (2, 1, 0, 0, 0, 0), (36, 1, 0, 3, 0, 0), (2, 1, 0, 0, 0, 0), (110, 3, 0, 257, 3, 217), z0, z0, (12, 1, 0, 0, 0, 0), (42, 1, 0, 1, 0, 0), (43, 3, 1, 4, 0, 0), z0, z0, (56, 3, 0, 85, 0, 0), z0, z0, (37, 1, 0, 0, 0, 0), (37, 1, 0, 0, 0, 0), (65, 3, 0, 134, 12, 23), z0, z0, (36, 1, 0, 3, 0, 0), (58, 1, 0, 0, 0, 0), (32, 2, 97, 0, 0, 0), z0, (2, 1, 0, 0, 0, 0), (37, 1, 0, 0, 0, 0), (65, 3, 0, 135, 12, 24), z0, z0, (32, 1, 1, 0, 0, 0), (2, 1, 0, 0, 0, 0), (36, 1, 0, 3, 0, 0), (2, 1, 0, 0, 0, 0), (110, 3, 0, 257, 3, 217), z0, z0, (29, 1, 0, 0, 0, 0), (37, 1, 0, 0, 0, 0), (110, 3, 0, 258, 1, 218), z0, z0, (43, 3, 1, 3, 0, 0), z0, z0, (56, 3, 0, 74, 0, 0), z0, z0, (38, 1, 0, 1, 0, 0), (101, 1, 0, 0, 0, 0)]
def P_Md_place : PM := (12, ⟨"OneWaySpellModel", "place", "()J"⟩, prog_14_method_94_code, 5, some .long, 1, 0, (2010, 178, 2008, 2009), C_Md_place)
def C_Md_unpack : List PI := [(32, 1, 0, 0, 0, 0), (40, 1, 0, 3, 0, 0), (36, 1, 0, 3, 0, 0), (36, 1, 0, 2, 0, 0), (51, 3, 0, 34, 0, 0), z0, z0, (37, 1, 0, 0, 0, 0), (65, 3, 0, 179, 12, 68), z0, z0, (36, 1, 0, 3, 0, 0), (36, 1, 0, 1, 0, 0), (32, 1, 5, 0, 0, 0), (36, 1, 0, 2, 0, 0), (32, 1, 1, 0, 0, 0), (2, 1, 0, 0, 0, 0), (36, 1, 0, 3, 0, 0), (2, 1, 0, 0, 0, 0), (3, 1, 0, 0, 0, 0), (8, 1, 0, 0, 0, 0), (32, 2, 31, 0, 0, 0), z0, (4, 1, 0, 0, 0, 0), (32, 2, 97, 0, 0, 0), z0, (1, 1, 0, 0, 0, 0), (62, 1, 0, 0, 0, 0), (43, 3, 1, 3, 0, 0), z0, z0, (56, 3, 0, 2, 0, 0), z0, z0, (103, 1, 0, 0, 0, 0)]
def P_Md_unpack : PM := (12, ⟨"OneWaySpellModel", "unpack", "(II)V"⟩, prog_14_method_95_code, 4, none, 1, 2, (2022, 178, 2021, 160), C_Md_unpack)
def C_Md_meetsEnd : List PI := [(32, 1, 1, 0, 0, 0), (40, 2, 0, 4, 0, 0), z0, (36, 2, 0, 4, 0, 0), z0, (36, 1, 0, 2, 0, 0), (36, 1, 0, 3, 0, 0), (110, 3, 0, 171, 2, 162), z0, z0, (53, 3, 0, 42, 0, 0), z0, z0, (37, 1, 0, 0, 0, 0), (65, 3, 0, 179, 12, 68), z0, z0, (36, 1, 0, 3, 0, 0), (36, 2, 0, 4, 0, 0), z0, (2, 1, 0, 0, 0, 0), (58, 1, 0, 0, 0, 0), (37, 1, 0, 0, 0, 0), (36, 1, 0, 1, 0, 0), (36, 1, 0, 2, 0, 0), (36, 2, 0, 4, 0, 0), z0, (2, 1, 0, 0, 0, 0), (110, 3, 0, 174, 3, 152), z0, z0, (45, 3, 0, 36, 0, 0), z0, z0, (32, 1, 0, 0, 0, 0), (100, 1, 0, 0, 0, 0), (43, 3, 1, 4, 0, 0), z0, z0, (56, 3, 0, 3, 0, 0), z0, z0, (32, 1, 1, 0, 0, 0), (100, 1, 0, 0, 0, 0)]
def P_Md_meetsEnd : PM := (12, ⟨"OneWaySpellModel", "meetsEnd", "(III)Z"⟩, prog_14_method_96_code, 5, some .boolean, 1, 3, (2030, 178, 2029, 162), C_Md_meetsEnd)
def C_Md_layEndsOf : List PI := [(32, 1, 0, 0, 0, 0), (40, 1, 0, 2, 0, 0), (36, 1, 0, 2, 0, 0), (36, 1, 0, 1, 0, 0), (53, 3, 0, 116, 0, 0), z0, z0, (37, 1, 0, 0, 0, 0), (65, 3, 0, 180, 12, 69), z0, z0, (36, 1, 0, 2, 0, 0), (36, 1, 0, 2, 0, 0), (46, 3, 0, 20, 0, 0), z0, z0, (32, 1, 1, 0, 0, 0), (56, 3, 0, 21, 0, 0), z0, z0, (32, 1, 0, 0, 0, 0), (64, 1, 0, 0, 0, 0), (32, 1, 0, 0, 0, 0), (40, 1, 0, 3, 0, 0), (36, 1, 0, 3, 0, 0), (37, 1, 0, 0, 0, 0), (65, 3, 0, 115, 12, 4), z0, z0, (51, 3, 0, 110, 0, 0), z0, z0, (37, 1, 0, 0, 0, 0), (65, 3, 0, 180, 12, 69), z0, z0, (36, 1, 0, 2, 0, 0), (60, 1, 0, 0, 0, 0), (46, 3, 0, 110, 0, 0), z0, z0, (37, 1, 0, 0, 0, 0), (65, 3, 0, 180, 12, 69), z0, z0, (36, 1, 0, 2, 0, 0), (37, 1, 0, 0, 0, 0), (65, 3, 0, 117, 12, 6), z0, z0, (36, 1, 0, 3, 0, 0), (110, 3, 0, 170, 2, 153), z0, z0, (44, 3, 0, 102, 0, 0), z0, z0, (37, 1, 0, 0, 0, 0), (36, 1, 0, 3, 0, 0), (37, 1, 0, 0, 0, 0), (65, 3, 0, 113, 12, 2), z0, z0, (36, 1, 0, 3, 0, 0), (58, 1, 0, 0, 0, 0), (36, 1, 0, 2, 0, 0), (110, 3, 0, 262, 4, 224), z0, z0, (44, 3, 0, 102, 0, 0), z0, z0, (37, 1, 0, 0, 0, 0), (65, 3, 0, 113, 12, 2), z0, z0, (36, 1, 0, 3, 0, 0), (58, 1, 0, 0, 0, 0), (36, 1, 0, 2, 0, 0), (51, 3, 0, 98, 0, 0), z0, z0, (37, 1, 0, 0, 0, 0), (65, 3, 0, 180, 12, 69), z0, z0, (36, 1, 0, 2, 0, 0), (37, 1, 0, 0, 0, 0), (65, 3, 0, 113, 12, 2), z0, z0, (36, 1, 0, 3, 0, 0), (58, 1, 0, 0, 0, 0), (2, 1, 0, 0, 0, 0), (60, 1, 0, 0, 0, 0), (44, 3, 0, 102, 0, 0), z0, z0, (32, 1, 1, 0, 0, 0), (56, 3, 0, 103, 0, 0), z0, z0, (32, 1, 0, 0, 0, 0), (64, 1, 0, 0, 0, 0), (43, 3, 1, 3, 0, 0), z0, z0, (56, 3, 0, 24, 0, 0), z0, z0, (43, 3, 1, 2, 0, 0), z0, z0, (56, 3, 0, 2, 0, 0), z0, z0, (103, 1, 0, 0, 0, 0)]
def P_Md_layEndsOf : PM := (12, ⟨"OneWaySpellModel", "layEndsOf", "(I)V"⟩, prog_14_method_97_code, 4, none, 1, 1, (2026, 178, 2025, 161), C_Md_layEndsOf)
def C_Md_isWithin : List PI := [(32, 1, 0, 0, 0, 0), (40, 1, 0, 2, 0, 0), (36, 1, 0, 2, 0, 0), (37, 1, 0, 0, 0, 0), (65, 3, 0, 115, 12, 4), z0, z0, (51, 3, 0, 73, 0, 0), z0, z0, (32, 1, 1, 0, 0, 0), (40, 1, 0, 3, 0, 0), (36, 1, 0, 3, 0, 0), (37, 1, 0, 0, 0, 0), (65, 3, 0, 113, 12, 2), z0, z0, (36, 1, 0, 2, 0, 0), (58, 1, 0, 0, 0, 0), (51, 3, 0, 67, 0, 0), z0, z0, (37, 1, 0, 0, 0, 0), (65, 3, 0, 117, 12, 6), z0, z0, (36, 1, 0, 2, 0, 0), (110, 3, 0, 170, 2, 153), z0, z0, (44, 3, 0, 67, 0, 0), z0, z0, (37, 1, 0, 0, 0, 0), (36, 1, 0, 2, 0, 0), (36, 1, 0, 3, 0, 0), (36, 1, 0, 1, 0, 0), (110, 3, 0, 262, 4, 224), z0, z0, (44, 3, 0, 61, 0, 0), z0, z0, (36, 1, 0, 3, 0, 0), (36, 1, 0, 1, 0, 0), (51, 3, 0, 59, 0, 0), z0, z0, (37, 1, 0, 0, 0, 0), (65, 3, 0, 180, 12, 69), z0, z0, (36, 1, 0, 1, 0, 0), (36, 1, 0, 3, 0, 0), (2, 1, 0, 0, 0, 0), (60, 1, 0, 0, 0, 0), (44, 3, 0, 61, 0, 0), z0, z0, (32, 1, 1, 0, 0, 0), (100, 1, 0, 0, 0, 0), (43, 3, 1, 3, 0, 0), z0, z0, (56, 3, 0, 12, 0, 0), z0, z0, (43, 3, 1, 2, 0, 0), z0, z0, (56, 3, 0, 2, 0, 0), z0, z0, (32, 1, 0, 0, 0, 0), (100, 1, 0, 0, 0, 0)]
def P_Md_isWithin : PM := (12, ⟨"OneWaySpellModel", "isWithin", "(I)Z"⟩, prog_14_method_98_code, 4, some .boolean, 1, 1, (2034, 178, 2033, 163), C_Md_isWithin)
def C_Md_layBorders : List PI := [(37, 1, 0, 0, 0, 0), (65, 3, 0, 181, 12, 70), z0, z0, (36, 1, 0, 1, 0, 0), (47, 3, 0, 9, 0, 0), z0, z0, (103, 1, 0, 0, 0, 0), (37, 1, 0, 0, 0, 0), (36, 1, 0, 1, 0, 0), (67, 3, 0, 181, 12, 70), z0, z0, (37, 1, 0, 0, 0, 0), (65, 3, 0, 177, 12, 66), z0, z0, (32, 1, 0, 0, 0, 0), (32, 1, 1, 0, 0, 0), (62, 1, 0, 0, 0, 0), (37, 1, 0, 0, 0, 0), (65, 3, 0, 176, 12, 65), z0, z0, (32, 1, 0, 0, 0, 0), (32, 1, 0, 0, 0, 0), (62, 1, 0, 0, 0, 0), (32, 1, 1, 0, 0, 0), (40, 1, 0, 2, 0, 0), (36, 1, 0, 2, 0, 0), (36, 1, 0, 1, 0, 0), (53, 3, 0, 154, 0, 0), z0, z0, (36, 1, 0, 2, 0, 0), (32, 1, 2, 0, 0, 0), (11, 1, 0, 0, 0, 0), (40, 1, 0, 3, 0, 0), (37, 1, 0, 0, 0, 0), (65, 3, 0, 177, 12, 66), z0, z0, (36, 1, 0, 3, 0, 0), (32, 1, 0, 0, 0, 0), (62, 1, 0, 0, 0, 0), (37, 1, 0, 0, 0, 0), (32, 1, 0, 0, 0, 0), (67, 3, 0, 182, 12, 71), z0, z0, (32, 1, 0, 0, 0, 0), (40, 2, 0, 4, 0, 0), z0, (36, 2, 0, 4, 0, 0), z0, (32, 2, 27, 0, 0, 0), z0, (51, 3, 0, 148, 0, 0), z0, z0, (32, 1, 0, 0, 0, 0), (40, 2, 0, 5, 0, 0), z0, (36, 2, 0, 5, 0, 0), z0, (37, 1, 0, 0, 0, 0), (65, 3, 0, 177, 12, 66), z0, z0, (32, 1, 1, 0, 0, 0), (36, 1, 0, 3, 0, 0), (2, 1, 0, 0, 0, 0), (58, 1, 0, 0, 0, 0), (51, 3, 0, 142, 0, 0), z0, z0, (36, 2, 0, 4, 0, 0), z0, (32, 1, 5, 0, 0, 0), (36, 1, 0, 2, 0, 0), (32, 1, 1, 0, 0, 0), (2, 1, 0, 0, 0, 0), (3, 1, 0, 0, 0, 0), (7, 1, 0, 0, 0, 0), (37, 1, 0, 0, 0, 0), (65, 3, 0, 176, 12, 65), z0, z0, (32, 3, 20000, 0, 0, 0), z0, z0, (32, 1, 1, 0, 0, 0), (36, 1, 0, 3, 0, 0), (2, 1, 0, 0, 0, 0), (3, 1, 0, 0, 0, 0), (36, 2, 0, 5, 0, 0), z0, (1, 1, 0, 0, 0, 0), (58, 1, 0, 0, 0, 0), (5, 1, 0, 0, 0, 0), (40, 2, 0, 6, 0, 0), z0, (37, 1, 0, 0, 0, 0), (36, 2, 0, 6, 0, 0), z0, (36, 1, 0, 2, 0, 0), (110, 3, 0, 261, 3, 222), z0, z0, (37, 1, 0, 0, 0, 0), (36, 1, 0, 2, 0, 0), (110, 3, 0, 263, 2, 223), z0, z0, (37, 1, 0, 0, 0, 0), (65, 3, 0, 180, 12, 69), z0, z0, (36, 1, 0, 2, 0, 0), (60, 1, 0, 0, 0, 0), (44, 3, 0, 136, 0, 0), z0, z0, (37, 1, 0, 0, 0, 0), (36, 2, 0, 6, 0, 0), z0, (36, 1, 0, 3, 0, 0), (37, 1, 0, 0, 0, 0), (36, 1, 0, 2, 0, 0), (110, 3, 0, 264, 2, 225), z0, z0, (110, 3, 0, 266, 4, 226), z0, z0, (43, 3, 1, 5, 0, 0), z0, z0, (56, 3, 0, 64, 0, 0), z0, z0, (43, 3, 1, 4, 0, 0), z0, z0, (56, 3, 0, 54, 0, 0), z0, z0, (43, 3, 1, 2, 0, 0), z0, z0, (56, 3, 0, 30, 0, 0), z0, z0, (103, 1, 0, 0, 0, 0)]
def P_Md_layBorders : PM := (12, ⟨"OneWaySpellModel", "layBorders", "(I)V"⟩, prog_14_method_99_code, 7, none, 1, 1, (2018, 178, 2017, 159), C_Md_layBorders)
def C_Md_puts : List PI := [(36, 1, 0, 3, 0, 0), (44, 3, 0, 35, 0, 0), z0, z0, (37, 1, 0, 0, 0, 0), (65, 3, 0, 176, 12, 65), z0, z0, (32, 3, 20000, 0, 0, 0), z0, z0, (36, 1, 0, 2, 0, 0), (3, 1, 0, 0, 0, 0), (37, 1, 0, 0, 0, 0), (65, 3, 0, 177, 12, 66), z0, z0, (36, 1, 0, 2, 0, 0), (58, 1, 0, 0, 0, 0), (1, 1, 0, 0, 0, 0), (36, 1, 0, 1, 0, 0), (62, 1, 0, 0, 0, 0), (37, 1, 0, 0, 0, 0), (65, 3, 0, 177, 12, 66), z0, z0, (36, 1, 0, 2, 0, 0), (31, 1, 0, 0, 0, 0), (58, 1, 0, 0, 0, 0), (32, 1, 1, 0, 0, 0), (1, 1, 0, 0, 0, 0), (62, 1, 0, 0, 0, 0), (56, 3, 0, 55, 0, 0), z0, z0, (37, 1, 0, 0, 0, 0), (65, 3, 0, 178, 12, 67), z0, z0, (37, 1, 0, 0, 0, 0), (65, 3, 0, 182, 12, 71), z0, z0, (36, 1, 0, 1, 0, 0), (62, 1, 0, 0, 0, 0), (37, 1, 0, 0, 0, 0), (27, 1, 0, 0, 0, 0), (65, 3, 0, 182, 12, 71), z0, z0, (32, 1, 1, 0, 0, 0), (1, 1, 0, 0, 0, 0), (67, 3, 0, 182, 12, 71), z0, z0, (103, 1, 0, 0, 0, 0)]
def P_Md_puts : PM := (12, ⟨"OneWaySpellModel", "puts", "(IIZ)V"⟩, prog_14_method_100_code, 4, none, 1, 3, (2038, 178, 2037, 164), C_Md_puts)
def C_Md_borders : List PI := [(37, 1, 0, 0, 0, 0), (32, 1, 0, 0, 0, 0), (67, 3, 0, 111, 12, 0), z0, z0, (36, 1, 0, 1, 0, 0), (32, 1, 1, 0, 0, 0), (32, 1, 4, 0, 0, 0), (110, 3, 0, 169, 3, 131), z0, z0, (46, 3, 0, 16, 0, 0), z0, z0, (32, 1, -1, 0, 0, 0), (100, 1, 0, 0, 0, 0), (37, 1, 0, 0, 0, 0), (36, 1, 0, 1, 0, 0), (110, 3, 0, 265, 2, 221), z0, z0, (37, 1, 0, 0, 0, 0), (65, 3, 0, 182, 12, 71), z0, z0, (100, 1, 0, 0, 0, 0)]
def P_Md_borders : PM := (12, ⟨"OneWaySpellModel", "borders", "(I)I"⟩, prog_14_method_101_code, 2, some .int, 1, 1, (2014, 178, 2012, 2013), C_Md_borders)
def C_Md_border : List PI := [(37, 1, 0, 0, 0, 0), (32, 1, 0, 0, 0, 0), (67, 3, 0, 111, 12, 0), z0, z0, (36, 1, 0, 1, 0, 0), (32, 1, 1, 0, 0, 0), (32, 1, 4, 0, 0, 0), (110, 3, 0, 169, 3, 131), z0, z0, (44, 3, 0, 25, 0, 0), z0, z0, (36, 1, 0, 3, 0, 0), (32, 1, 0, 0, 0, 0), (36, 1, 0, 1, 0, 0), (32, 1, 1, 0, 0, 0), (2, 1, 0, 0, 0, 0), (110, 3, 0, 169, 3, 131), z0, z0, (46, 3, 0, 27, 0, 0), z0, z0, (32, 1, -1, 0, 0, 0), (100, 1, 0, 0, 0, 0), (37, 1, 0, 0, 0, 0), (36, 1, 0, 1, 0, 0), (110, 3, 0, 265, 2, 221), z0, z0, (36, 1, 0, 2, 0, 0), (32, 1, 0, 0, 0, 0), (37, 1, 0, 0, 0, 0), (65, 3, 0, 182, 12, 71), z0, z0, (32, 1, 1, 0, 0, 0), (2, 1, 0, 0, 0, 0), (110, 3, 0, 169, 3, 131), z0, z0, (46, 3, 0, 48, 0, 0), z0, z0, (32, 1, -1, 0, 0, 0), (100, 1, 0, 0, 0, 0), (37, 1, 0, 0, 0, 0), (37, 1, 0, 0, 0, 0), (65, 3, 0, 178, 12, 67), z0, z0, (36, 1, 0, 2, 0, 0), (58, 1, 0, 0, 0, 0), (36, 1, 0, 1, 0, 0), (110, 3, 0, 261, 3, 222), z0, z0, (37, 1, 0, 0, 0, 0), (65, 3, 0, 179, 12, 68), z0, z0, (36, 1, 0, 3, 0, 0), (58, 1, 0, 0, 0, 0), (100, 1, 0, 0, 0, 0)]
def P_Md_border : PM := (12, ⟨"OneWaySpellModel", "border", "(III)I"⟩, prog_14_method_102_code, 4, some .int, 1, 3, (2042, 178, 2040, 2041), C_Md_border)
def C_Md_comesIn : List PI := [(37, 1, 0, 0, 0, 0), (65, 3, 0, 184, 12, 73), z0, z0, (32, 2, 8, 0, 0, 0), z0, (36, 1, 0, 1, 0, 0), (3, 1, 0, 0, 0, 0), (36, 1, 0, 2, 0, 0), (1, 1, 0, 0, 0, 0), (60, 1, 0, 0, 0, 0), (46, 3, 0, 51, 0, 0), z0, z0, (37, 1, 0, 0, 0, 0), (65, 3, 0, 184, 12, 73), z0, z0, (32, 2, 8, 0, 0, 0), z0, (36, 1, 0, 1, 0, 0), (3, 1, 0, 0, 0, 0), (36, 1, 0, 2, 0, 0), (1, 1, 0, 0, 0, 0), (32, 1, 1, 0, 0, 0), (64, 1, 0, 0, 0, 0), (37, 1, 0, 0, 0, 0), (65, 3, 0, 183, 12, 72), z0, z0, (37, 1, 0, 0, 0, 0), (65, 3, 0, 185, 12, 74), z0, z0, (32, 2, 8, 0, 0, 0), z0, (36, 1, 0, 1, 0, 0), (3, 1, 0, 0, 0, 0), (36, 1, 0, 2, 0, 0), (1, 1, 0, 0, 0, 0), (62, 1, 0, 0, 0, 0), (37, 1, 0, 0, 0, 0), (27, 1, 0, 0, 0, 0), (65, 3, 0, 185, 12, 74), z0, z0, (32, 1, 1, 0, 0, 0), (1, 1, 0, 0, 0, 0), (67, 3, 0, 185, 12, 74), z0, z0, (32, 1, 1, 0, 0, 0), (100, 1, 0, 0, 0, 0)]
def P_Md_comesIn : PM := (12, ⟨"OneWaySpellModel", "comesIn", "(II)Z"⟩, prog_14_method_103_code, 3, some .boolean, 1, 2, (2070, 178, 2069, 170), C_Md_comesIn)
def C_Md_partsNow : List PI := [(37, 1, 0, 0, 0, 0), (32, 1, 0, 0, 0, 0), (67, 3, 0, 185, 12, 74), z0, z0, (32, 1, 0, 0, 0, 0), (40, 1, 0, 1, 0, 0), (36, 1, 0, 1, 0, 0), (32, 2, 112, 0, 0, 0), z0, (51, 3, 0, 26, 0, 0), z0, z0, (37, 1, 0, 0, 0, 0), (65, 3, 0, 184, 12, 73), z0, z0, (36, 1, 0, 1, 0, 0), (32, 1, 0, 0, 0, 0), (64, 1, 0, 0, 0, 0), (43, 3, 1, 1, 0, 0), z0, z0, (56, 3, 0, 7, 0, 0), z0, z0, (32, 1, 0, 0, 0, 0), (40, 1, 0, 1, 0, 0), (36, 1, 0, 1, 0, 0), (37, 1, 0, 0, 0, 0), (65, 3, 0, 115, 12, 4), z0, z0, (51, 3, 0, 106, 0, 0), z0, z0, (32, 1, 0, 0, 0, 0), (40, 1, 0, 2, 0, 0), (36, 1, 0, 2, 0, 0), (37, 1, 0, 0, 0, 0), (65, 3, 0, 115, 12, 4), z0, z0, (51, 3, 0, 100, 0, 0), z0, z0, (36, 1, 0, 1, 0, 0), (36, 1, 0, 2, 0, 0), (45, 3, 0, 94, 0, 0), z0, z0, (37, 1, 0, 0, 0, 0), (65, 3, 0, 117, 12, 6), z0, z0, (36, 1, 0, 1, 0, 0), (110, 3, 0, 170, 2, 153), z0, z0, (44, 3, 0, 94, 0, 0), z0, z0, (37, 1, 0, 0, 0, 0), (65, 3, 0, 117, 12, 6), z0, z0, (36, 1, 0, 2, 0, 0), (110, 3, 0, 170, 2, 153), z0, z0, (44, 3, 0, 94, 0, 0), z0, z0, (37, 1, 0, 0, 0, 0), (36, 1, 0, 1, 0, 0), (36, 1, 0, 2, 0, 0), (110, 3, 0, 199, 3, 158), z0, z0, (44, 3, 0, 94, 0, 0), z0, z0, (37, 1, 0, 0, 0, 0), (36, 1, 0, 2, 0, 0), (37, 1, 0, 0, 0, 0), (65, 3, 0, 113, 12, 2), z0, z0, (36, 1, 0, 1, 0, 0), (58, 1, 0, 0, 0, 0), (110, 3, 0, 269, 3, 234), z0, z0, (28, 1, 0, 0, 0, 0), (43, 3, 1, 2, 0, 0), z0, z0, (56, 3, 0, 38, 0, 0), z0, z0, (43, 3, 1, 1, 0, 0), z0, z0, (56, 3, 0, 28, 0, 0), z0, z0, (32, 1, 0, 0, 0, 0), (40, 1, 0, 1, 0, 0), (36, 1, 0, 1, 0, 0), (37, 1, 0, 0, 0, 0), (65, 3, 0, 185, 12, 74), z0, z0, (51, 3, 0, 269, 0, 0), z0, z0, (37, 1, 0, 0, 0, 0), (65, 3, 0, 183, 12, 72), z0, z0, (36, 1, 0, 1, 0, 0), (58, 1, 0, 0, 0, 0), (32, 2, 8, 0, 0, 0), z0, (10, 1, 0, 0, 0, 0), (40, 1, 0, 2, 0, 0), (37, 1, 0, 0, 0, 0), (65, 3, 0, 183, 12, 72), z0, z0, (36, 1, 0, 1, 0, 0), (58, 1, 0, 0, 0, 0), (32, 2, 8, 0, 0, 0), z0, (11, 1, 0, 0, 0, 0), (40, 1, 0, 3, 0, 0), (32, 1, 0, 0, 0, 0), (40, 2, 0, 4, 0, 0), z0, (36, 2, 0, 4, 0, 0), z0, (37, 1, 0, 0, 0, 0), (65, 3, 0, 115, 12, 4), z0, z0, (51, 3, 0, 263, 0, 0), z0, z0, (37, 1, 0, 0, 0, 0), (65, 3, 0, 117, 12, 6), z0, z0, (36, 2, 0, 4, 0, 0), z0, (110, 3, 0, 170, 2, 153), z0, z0, (44, 3, 0, 172, 0, 0), z0, z0, (37, 1, 0, 0, 0, 0), (36, 2, 0, 4, 0, 0), z0, (32, 1, 0, 0, 0, 0), (36, 1, 0, 2, 0, 0), (36, 1, 0, 3, 0, 0), (110, 3, 0, 175, 5, 159), z0, z0, (56, 3, 0, 173, 0, 0), z0, z0, (32, 1, 0, 0, 0, 0), (40, 2, 0, 5, 0, 0), z0, (36, 2, 0, 5, 0, 0), z0, (46, 3, 0, 183, 0, 0), z0, z0, (56, 3, 0, 257, 0, 0), z0, z0, (36, 2, 0, 5, 0, 0), z0, (37, 1, 0, 0, 0, 0), (65, 3, 0, 113, 12, 2), z0, z0, (36, 2, 0, 4, 0, 0), z0, (58, 1, 0, 0, 0, 0), (47, 3, 0, 210, 0, 0), z0, z0, (36, 2, 0, 5, 0, 0), z0, (37, 1, 0, 0, 0, 0), (65, 3, 0, 113, 12, 2), z0, z0, (36, 1, 0, 2, 0, 0), (58, 1, 0, 0, 0, 0), (36, 1, 0, 3, 0, 0), (2, 1, 0, 0, 0, 0), (47, 3, 0, 210, 0, 0), z0, z0, (32, 1, 0, 0, 0, 0), (100, 1, 0, 0, 0, 0), (36, 2, 0, 5, 0, 0), z0, (37, 1, 0, 0, 0, 0), (65, 3, 0, 113, 12, 2), z0, z0, (36, 2, 0, 4, 0, 0), z0, (58, 1, 0, 0, 0, 0), (47, 3, 0, 235, 0, 0), z0, z0, (37, 1, 0, 0, 0, 0), (36, 1, 0, 2, 0, 0), (36, 1, 0, 3, 0, 0), (36, 2, 0, 5, 0, 0), z0, (1, 1, 0, 0, 0, 0), (110, 3, 0, 269, 3, 234), z0, z0, (28, 1, 0, 0, 0, 0), (56, 3, 0, 257, 0, 0), z0, z0, (36, 2, 0, 5, 0, 0), z0, (37, 1, 0, 0, 0, 0), (65, 3, 0, 113, 12, 2), z0, z0, (36, 1, 0, 2, 0, 0), (58, 1, 0, 0, 0, 0), (36, 1, 0, 3, 0, 0), (2, 1, 0, 0, 0, 0), (47, 3, 0, 257, 0, 0), z0, z0, (37, 1, 0, 0, 0, 0), (36, 2, 0, 4, 0, 0), z0, (36, 2, 0, 5, 0, 0), z0, (110, 3, 0, 269, 3, 234), z0, z0, (28, 1, 0, 0, 0, 0), (43, 3, 1, 4, 0, 0), z0, z0, (56, 3, 0, 139, 0, 0), z0, z0, (43, 3, 1, 1, 0, 0), z0, z0, (56, 3, 0, 108, 0, 0), z0, z0, (32, 1, 1, 0, 0, 0), (100, 1, 0, 0, 0, 0)]
def P_Md_partsNow : PM := (12, ⟨"OneWaySpellModel", "partsNow", "()Z"⟩, prog_14_method_104_code, 6, some .boolean, 1, 0, (2066, 178, 2065, 169), C_Md_partsNow)
def C_Md_marks : List PI := [(37, 1, 0, 0, 0, 0), (65, 3, 0, 113, 12, 2), z0, z0, (36, 1, 0, 1, 0, 0), (58, 1, 0, 0, 0, 0), (40, 1, 0, 3, 0, 0), (36, 1, 0, 3, 0, 0), (54, 3, 0, 45, 0, 0), z0, z0, (36, 1, 0, 2, 0, 0), (44, 3, 0, 45, 0, 0), z0, z0, (37, 1, 0, 0, 0, 0), (65, 3, 0, 112, 12, 1), z0, z0, (32, 2, 8, 0, 0, 0), z0, (36, 1, 0, 1, 0, 0), (3, 1, 0, 0, 0, 0), (36, 1, 0, 3, 0, 0), (1, 1, 0, 0, 0, 0), (37, 1, 0, 0, 0, 0), (65, 3, 0, 112, 12, 1), z0, z0, (32, 2, 8, 0, 0, 0), z0, (36, 1, 0, 1, 0, 0), (3, 1, 0, 0, 0, 0), (36, 1, 0, 3, 0, 0), (1, 1, 0, 0, 0, 0), (32, 1, 1, 0, 0, 0), (2, 1, 0, 0, 0, 0), (58, 1, 0, 0, 0, 0), (62, 1, 0, 0, 0, 0), (43, 3, -1, 3, 0, 0), z0, z0, (56, 3, 0, 7, 0, 0), z0, z0, (37, 1, 0, 0, 0, 0), (65, 3, 0, 112, 12, 1), z0, z0, (32, 2, 8, 0, 0, 0), z0, (36, 1, 0, 1, 0, 0), (3, 1, 0, 0, 0, 0), (36, 1, 0, 2, 0, 0), (44, 3, 0, 61, 0, 0), z0, z0, (32, 1, 0, 0, 0, 0), (56, 3, 0, 67, 0, 0), z0, z0, (37, 1, 0, 0, 0, 0), (65, 3, 0, 113, 12, 2), z0, z0, (36, 1, 0, 1, 0, 0), (58, 1, 0, 0, 0, 0), (1, 1, 0, 0, 0, 0), (32, 2, 123, 0, 0, 0), z0, (62, 1, 0, 0, 0, 0), (37, 1, 0, 0, 0, 0), (65, 3, 0, 113, 12, 2), z0, z0, (36, 1, 0, 1, 0, 0), (31, 1, 0, 0, 0, 0), (58, 1, 0, 0, 0, 0), (32, 1, 1, 0, 0, 0), (1, 1, 0, 0, 0, 0), (62, 1, 0, 0, 0, 0), (103, 1, 0, 0, 0, 0)]
def P_Md_marks : PM := (12, ⟨"OneWaySpellModel", "marks", "(IZ)V"⟩, prog_14_method_105_code, 4, none, 1, 2, (2062, 178, 2061, 168), C_Md_marks)
def C_Md_unmarks : List PI := [(37, 1, 0, 0, 0, 0), (65, 3, 0, 113, 12, 2), z0, z0, (36, 1, 0, 1, 0, 0), (31, 1, 0, 0, 0, 0), (58, 1, 0, 0, 0, 0), (32, 1, 1, 0, 0, 0), (2, 1, 0, 0, 0, 0), (62, 1, 0, 0, 0, 0), (32, 1, 0, 0, 0, 0), (40, 1, 0, 3, 0, 0), (36, 1, 0, 3, 0, 0), (37, 1, 0, 0, 0, 0), (65, 3, 0, 113, 12, 2), z0, z0, (36, 1, 0, 1, 0, 0), (58, 1, 0, 0, 0, 0), (51, 3, 0, 56, 0, 0), z0, z0, (36, 1, 0, 2, 0, 0), (44, 3, 0, 56, 0, 0), z0, z0, (37, 1, 0, 0, 0, 0), (65, 3, 0, 112, 12, 1), z0, z0, (32, 2, 8, 0, 0, 0), z0, (36, 1, 0, 1, 0, 0), (3, 1, 0, 0, 0, 0), (36, 1, 0, 3, 0, 0), (1, 1, 0, 0, 0, 0), (37, 1, 0, 0, 0, 0), (65, 3, 0, 112, 12, 1), z0, z0, (32, 2, 8, 0, 0, 0), z0, (36, 1, 0, 1, 0, 0), (3, 1, 0, 0, 0, 0), (36, 1, 0, 3, 0, 0), (1, 1, 0, 0, 0, 0), (32, 1, 1, 0, 0, 0), (1, 1, 0, 0, 0, 0), (58, 1, 0, 0, 0, 0), (62, 1, 0, 0, 0, 0), (43, 3, 1, 3, 0, 0), z0, z0, (56, 3, 0, 12, 0, 0), z0, z0, (103, 1, 0, 0, 0, 0)]
def P_Md_unmarks : PM := (12, ⟨"OneWaySpellModel", "unmarks", "(IZ)V"⟩, prog_14_method_106_code, 4, none, 1, 2, (2074, 178, 2073, 171), C_Md_unmarks)
def C_Md_does : List PI := [(32, 1, 0, 0, 0, 0), (40, 1, 0, 3, 0, 0), (36, 1, 0, 3, 0, 0), (37, 1, 0, 0, 0, 0), (65, 3, 0, 115, 12, 4), z0, z0, (51, 3, 0, 44, 0, 0), z0, z0, (36, 1, 0, 1, 0, 0), (32, 1, 2, 0, 0, 0), (51, 3, 0, 44, 0, 0), z0, z0, (36, 1, 0, 2, 0, 0), (36, 1, 0, 3, 0, 0), (110, 3, 0, 170, 2, 153), z0, z0, (44, 3, 0, 38, 0, 0), z0, z0, (37, 1, 0, 0, 0, 0), (36, 1, 0, 3, 0, 0), (36, 1, 0, 1, 0, 0), (32, 1, 1, 0, 0, 0), (47, 3, 0, 34, 0, 0), z0, z0, (32, 1, 1, 0, 0, 0), (56, 3, 0, 35, 0, 0), z0, z0, (32, 1, 0, 0, 0, 0), (110, 3, 0, 271, 3, 232), z0, z0, (43, 3, 1, 3, 0, 0), z0, z0, (56, 3, 0, 2, 0, 0), z0, z0, (37, 1, 0, 0, 0, 0), (27, 1, 0, 0, 0, 0), (65, 3, 0, 117, 12, 6), z0, z0, (36, 1, 0, 1, 0, 0), (32, 1, 2, 0, 0, 0), (47, 3, 0, 60, 0, 0), z0, z0, (36, 1, 0, 2, 0, 0), (32, 1, -1, 0, 0, 0), (6, 1, 0, 0, 0, 0), (56, 3, 0, 61, 0, 0), z0, z0, (32, 1, -1, 0, 0, 0), (4, 1, 0, 0, 0, 0), (67, 3, 0, 117, 12, 6), z0, z0, (103, 1, 0, 0, 0, 0)]
def P_Md_does : PM := (12, ⟨"OneWaySpellModel", "does", "(II)V"⟩, prog_14_method_107_code, 4, none, 1, 2, (2058, 178, 2057, 167), C_Md_does)
def C_Md_isCure : List PI := [(37, 1, 0, 0, 0, 0), (65, 3, 0, 117, 12, 6), z0, z0, (40, 1, 0, 3, 0, 0), (37, 1, 0, 0, 0, 0), (36, 1, 0, 1, 0, 0), (36, 1, 0, 2, 0, 0), (110, 3, 0, 273, 3, 231), z0, z0, (37, 1, 0, 0, 0, 0), (110, 3, 0, 270, 1, 233), z0, z0, (40, 2, 0, 4, 0, 0), z0, (32, 1, 0, 0, 0, 0), (40, 2, 0, 5, 0, 0), z0, (36, 2, 0, 5, 0, 0), z0, (37, 1, 0, 0, 0, 0), (65, 3, 0, 115, 12, 4), z0, z0, (51, 3, 0, 65, 0, 0), z0, z0, (36, 1, 0, 1, 0, 0), (32, 1, 2, 0, 0, 0), (51, 3, 0, 65, 0, 0), z0, z0, (36, 1, 0, 2, 0, 0), (36, 2, 0, 5, 0, 0), z0, (110, 3, 0, 170, 2, 153), z0, z0, (44, 3, 0, 59, 0, 0), z0, z0, (37, 1, 0, 0, 0, 0), (36, 2, 0, 5, 0, 0), z0, (36, 1, 0, 1, 0, 0), (32, 1, 1, 0, 0, 0), (47, 3, 0, 55, 0, 0), z0, z0, (32, 1, 1, 0, 0, 0), (56, 3, 0, 56, 0, 0), z0, z0, (32, 1, 0, 0, 0, 0), (110, 3, 0, 272, 3, 235), z0, z0, (43, 3, 1, 5, 0, 0), z0, z0, (56, 3, 0, 20, 0, 0), z0, z0, (37, 1, 0, 0, 0, 0), (36, 1, 0, 3, 0, 0), (67, 3, 0, 117, 12, 6), z0, z0, (36, 2, 0, 4, 0, 0), z0, (100, 1, 0, 0, 0, 0)]
def P_Md_isCure : PM := (12, ⟨"OneWaySpellModel", "isCure", "(II)Z"⟩, prog_14_method_108_code, 6, some .boolean, 1, 2, (2054, 178, 2053, 166), C_Md_isCure)
def C_Md_cureOf : List PI := [(32, 1, 0, 0, 0, 0), (40, 1, 0, 2, 0, 0), (32, 1, 0, 0, 0, 0), (40, 1, 0, 3, 0, 0), (36, 1, 0, 3, 0, 0), (37, 1, 0, 0, 0, 0), (65, 3, 0, 115, 12, 4), z0, z0, (51, 3, 0, 50, 0, 0), z0, z0, (36, 1, 0, 2, 0, 0), (37, 1, 0, 0, 0, 0), (65, 3, 0, 117, 12, 6), z0, z0, (36, 1, 0, 3, 0, 0), (110, 3, 0, 170, 2, 153), z0, z0, (44, 3, 0, 41, 0, 0), z0, z0, (37, 1, 0, 0, 0, 0), (65, 3, 0, 113, 12, 2), z0, z0, (36, 1, 0, 3, 0, 0), (58, 1, 0, 0, 0, 0), (32, 2, 6, 0, 0, 0), z0, (53, 3, 0, 41, 0, 0), z0, z0, (32, 1, 1, 0, 0, 0), (36, 1, 0, 3, 0, 0), (7, 1, 0, 0, 0, 0), (56, 3, 0, 42, 0, 0), z0, z0, (32, 1, 0, 0, 0, 0), (5, 1, 0, 0, 0, 0), (40, 1, 0, 2, 0, 0), (43, 3, 1, 3, 0, 0), z0, z0, (56, 3, 0, 4, 0, 0), z0, z0, (32, 1, -1, 0, 0, 0), (40, 1, 0, 3, 0, 0), (32, 1, 0, 0, 0, 0), (40, 2, 0, 4, 0, 0), z0, (36, 2, 0, 4, 0, 0), z0, (32, 1, 1, 0, 0, 0), (37, 1, 0, 0, 0, 0), (65, 3, 0, 115, 12, 4), z0, z0, (7, 1, 0, 0, 0, 0), (51, 3, 0, 156, 0, 0), z0, z0, (36, 2, 0, 4, 0, 0), z0, (36, 1, 0, 2, 0, 0), (32, 1, -1, 0, 0, 0), (6, 1, 0, 0, 0, 0), (4, 1, 0, 0, 0, 0), (44, 3, 0, 78, 0, 0), z0, z0, (56, 3, 0, 150, 0, 0), z0, z0, (36, 2, 0, 4, 0, 0), z0, (110, 3, 0, 172, 1, 204), z0, z0, (40, 2, 0, 5, 0, 0), z0, (36, 2, 0, 4, 0, 0), z0, (36, 1, 0, 3, 0, 0), (6, 1, 0, 0, 0, 0), (40, 2, 0, 6, 0, 0), z0, (36, 1, 0, 3, 0, 0), (48, 3, 0, 125, 0, 0), z0, z0, (36, 2, 0, 5, 0, 0), z0, (36, 1, 0, 3, 0, 0), (110, 3, 0, 172, 1, 204), z0, z0, (49, 3, 0, 125, 0, 0), z0, z0, (36, 2, 0, 5, 0, 0), z0, (36, 1, 0, 3, 0, 0), (110, 3, 0, 172, 1, 204), z0, z0, (47, 3, 0, 129, 0, 0), z0, z0, (36, 2, 0, 6, 0, 0), z0, (36, 2, 0, 6, 0, 0), z0, (23, 1, 0, 0, 0, 0), (4, 1, 0, 0, 0, 0), (36, 2, 0, 4, 0, 0), z0, (4, 1, 0, 0, 0, 0), (44, 3, 0, 129, 0, 0), z0, z0, (32, 1, 1, 0, 0, 0), (56, 3, 0, 130, 0, 0), z0, z0, (32, 1, 0, 0, 0, 0), (40, 2, 0, 7, 0, 0), z0, (36, 2, 0, 7, 0, 0), z0, (44, 3, 0, 150, 0, 0), z0, z0, (37, 1, 0, 0, 0, 0), (36, 1, 0, 1, 0, 0), (36, 2, 0, 4, 0, 0), z0, (110, 3, 0, 274, 3, 230), z0, z0, (44, 3, 0, 150, 0, 0), z0, z0, (36, 2, 0, 4, 0, 0), z0, (40, 1, 0, 3, 0, 0), (43, 3, 1, 4, 0, 0), z0, z0, (56, 3, 0, 55, 0, 0), z0, z0, (36, 1, 0, 3, 0, 0), (100, 1, 0, 0, 0, 0)]
def P_Md_cureOf : PM := (12, ⟨"OneWaySpellModel", "cureOf", "(I)I"⟩, prog_14_method_109_code, 8, some .int, 1, 1, (2050, 178, 2049, 165), C_Md_cureOf)
def C_Md_cure : List PI := [(37, 1, 0, 0, 0, 0), (32, 1, 0, 0, 0, 0), (67, 3, 0, 111, 12, 0), z0, z0, (36, 1, 0, 1, 0, 0), (32, 1, 0, 0, 0, 0), (32, 1, 2, 0, 0, 0), (110, 3, 0, 169, 3, 131), z0, z0, (44, 3, 0, 22, 0, 0), z0, z0, (37, 1, 0, 0, 0, 0), (36, 1, 0, 1, 0, 0), (110, 3, 0, 275, 2, 229), z0, z0, (56, 3, 0, 23, 0, 0), z0, z0, (32, 1, -1, 0, 0, 0), (100, 1, 0, 0, 0, 0)]
def P_Md_cure : PM := (12, ⟨"OneWaySpellModel", "cure", "(I)I"⟩, prog_14_method_110_code, 2, some .int, 1, 1, (2046, 178, 2044, 2045), C_Md_cure)
def C_Md_keep : List PI := [(37, 1, 0, 0, 0, 0), (65, 3, 0, 187, 12, 76), z0, z0, (32, 2, 12, 0, 0, 0), z0, (47, 3, 0, 52, 0, 0), z0, z0, (32, 3, 141, 0, 0, 0), z0, z0, (40, 1, 0, 1, 0, 0), (36, 1, 0, 1, 0, 0), (32, 3, 1692, 0, 0, 0), z0, z0, (51, 3, 0, 42, 0, 0), z0, z0, (37, 1, 0, 0, 0, 0), (65, 3, 0, 186, 12, 75), z0, z0, (36, 1, 0, 1, 0, 0), (32, 3, 141, 0, 0, 0), z0, z0, (2, 1, 0, 0, 0, 0), (37, 1, 0, 0, 0, 0), (65, 3, 0, 186, 12, 75), z0, z0, (36, 1, 0, 1, 0, 0), (58, 1, 0, 0, 0, 0), (62, 1, 0, 0, 0, 0), (43, 3, 1, 1, 0, 0), z0, z0, (56, 3, 0, 13, 0, 0), z0, z0, (37, 1, 0, 0, 0, 0), (27, 1, 0, 0, 0, 0), (65, 3, 0, 187, 12, 76), z0, z0, (32, 1, 1, 0, 0, 0), (2, 1, 0, 0, 0, 0), (67, 3, 0, 187, 12, 76), z0, z0, (32, 3, 141, 0, 0, 0), z0, z0, (37, 1, 0, 0, 0, 0), (65, 3, 0, 187, 12, 76), z0, z0, (3, 1, 0, 0, 0, 0), (40, 1, 0, 1, 0, 0), (32, 1, 0, 0, 0, 0), (40, 1, 0, 2, 0, 0), (36, 1, 0, 2, 0, 0), (32, 2, 112, 0, 0, 0), z0, (51, 3, 0, 89, 0, 0), z0, z0, (37, 1, 0, 0, 0, 0), (65, 3, 0, 186, 12, 75), z0, z0, (36, 1, 0, 1, 0, 0), (36, 1, 0, 2, 0, 0), (1, 1, 0, 0, 0, 0), (37, 1, 0, 0, 0, 0), (65, 3, 0, 112, 12, 1), z0, z0, (36, 1, 0, 2, 0, 0), (58, 1, 0, 0, 0, 0), (62, 1, 0, 0, 0, 0), (43, 3, 1, 2, 0, 0), z0, z0, (56, 3, 0, 63, 0, 0), z0, z0, (32, 1, 0, 0, 0, 0), (40, 1, 0, 2, 0, 0), (36, 1, 0, 2, 0, 0), (32, 2, 14, 0, 0, 0), z0, (51, 3, 0, 120, 0, 0), z0, z0, (37, 1, 0, 0, 0, 0), (65, 3, 0, 186, 12, 75), z0, z0, (36, 1, 0, 1, 0, 0), (32, 2, 112, 0, 0, 0), z0, (1, 1, 0, 0, 0, 0), (36, 1, 0, 2, 0, 0), (1, 1, 0, 0, 0, 0), (37, 1, 0, 0, 0, 0), (65, 3, 0, 113, 12, 2), z0, z0, (36, 1, 0, 2, 0, 0), (58, 1, 0, 0, 0, 0), (62, 1, 0, 0, 0, 0), (43, 3, 1, 2, 0, 0), z0, z0, (56, 3, 0, 91, 0, 0), z0, z0, (37, 1, 0, 0, 0, 0), (65, 3, 0, 186, 12, 75), z0, z0, (36, 1, 0, 1, 0, 0), (32, 2, 126, 0, 0, 0), z0, (1, 1, 0, 0, 0, 0), (37, 1, 0, 0, 0, 0), (65, 3, 0, 117, 12, 6), z0, z0, (62, 1, 0, 0, 0, 0), (37, 1, 0, 0, 0, 0), (27, 1, 0, 0, 0, 0), (65, 3, 0, 187, 12, 76), z0, z0, (32, 1, 1, 0, 0, 0), (1, 1, 0, 0, 0, 0), (67, 3, 0, 187, 12, 76), z0, z0, (37, 1, 0, 0, 0, 0), (110, 3, 0, 196, 1, 148), z0, z0, (103, 1, 0, 0, 0, 0)]
def P_Md_keep : PM := (12, ⟨"OneWaySpellModel", "keep", "()V"⟩, prog_14_method_111_code, 3, none, 1, 0, (2082, 178, 2081, 172), C_Md_keep)
def C_Md_mend : List PI := [(37, 1, 0, 0, 0, 0), (32, 1, 0, 0, 0, 0), (67, 3, 0, 111, 12, 0), z0, z0, (36, 1, 0, 1, 0, 0), (32, 1, 0, 0, 0, 0), (32, 1, 2, 0, 0, 0), (110, 3, 0, 169, 3, 131), z0, z0, (44, 3, 0, 22, 0, 0), z0, z0, (37, 1, 0, 0, 0, 0), (36, 1, 0, 1, 0, 0), (110, 3, 0, 275, 2, 229), z0, z0, (56, 3, 0, 23, 0, 0), z0, z0, (32, 1, -1, 0, 0, 0), (40, 1, 0, 2, 0, 0), (36, 1, 0, 2, 0, 0), (52, 3, 0, 30, 0, 0), z0, z0, (32, 1, -1, 0, 0, 0), (100, 1, 0, 0, 0, 0), (37, 1, 0, 0, 0, 0), (110, 3, 0, 277, 1, 237), z0, z0, (37, 1, 0, 0, 0, 0), (36, 1, 0, 1, 0, 0), (36, 1, 0, 2, 0, 0), (110, 3, 0, 273, 3, 231), z0, z0, (36, 1, 0, 2, 0, 0), (110, 3, 0, 172, 1, 204), z0, z0, (100, 1, 0, 0, 0, 0)]
def P_Md_mend : PM := (12, ⟨"OneWaySpellModel", "mend", "(I)I"⟩, prog_14_method_112_code, 3, some .int, 1, 1, (2078, 178, 2076, 2077), C_Md_mend)
def C_Md_out : List PI := [(37, 1, 0, 0, 0, 0), (32, 1, 0, 0, 0, 0), (67, 3, 0, 111, 12, 0), z0, z0, (37, 1, 0, 0, 0, 0), (36, 1, 0, 1, 0, 0), (110, 3, 0, 173, 2, 151), z0, z0, (44, 3, 0, 25, 0, 0), z0, z0, (37, 1, 0, 0, 0, 0), (65, 3, 0, 117, 12, 6), z0, z0, (36, 1, 0, 1, 0, 0), (110, 3, 0, 170, 2, 153), z0, z0, (36, 1, 0, 2, 0, 0), (45, 3, 0, 27, 0, 0), z0, z0, (32, 1, 0, 0, 0, 0), (100, 1, 0, 0, 0, 0), (37, 1, 0, 0, 0, 0), (110, 3, 0, 277, 1, 237), z0, z0, (37, 1, 0, 0, 0, 0), (27, 1, 0, 0, 0, 0), (65, 3, 0, 117, 12, 6), z0, z0, (32, 1, 1, 0, 0, 0), (36, 1, 0, 1, 0, 0), (7, 1, 0, 0, 0, 0), (6, 1, 0, 0, 0, 0), (67, 3, 0, 117, 12, 6), z0, z0, (32, 1, 1, 0, 0, 0), (100, 1, 0, 0, 0, 0)]
def P_Md_out : PM := (12, ⟨"OneWaySpellModel", "out", "(IZ)Z"⟩, prog_14_method_113_code, 3, some .boolean, 1, 2, (2086, 178, 2084, 2085), C_Md_out)
def C_Md_undo : List PI := [(37, 1, 0, 0, 0, 0), (32, 1, 0, 0, 0, 0), (67, 3, 0, 111, 12, 0), z0, z0, (37, 1, 0, 0, 0, 0), (65, 3, 0, 187, 12, 76), z0, z0, (46, 3, 0, 14, 0, 0), z0, z0, (32, 1, 0, 0, 0, 0), (100, 1, 0, 0, 0, 0), (37, 1, 0, 0, 0, 0), (27, 1, 0, 0, 0, 0), (65, 3, 0, 187, 12, 76), z0, z0, (32, 1, 1, 0, 0, 0), (2, 1, 0, 0, 0, 0), (67, 3, 0, 187, 12, 76), z0, z0, (32, 3, 141, 0, 0, 0), z0, z0, (37, 1, 0, 0, 0, 0), (65, 3, 0, 187, 12, 76), z0, z0, (3, 1, 0, 0, 0, 0), (40, 1, 0, 1, 0, 0), (32, 1, 0, 0, 0, 0), (40, 1, 0, 2, 0, 0), (36, 1, 0, 2, 0, 0), (32, 2, 112, 0, 0, 0), z0, (51, 3, 0, 61, 0, 0), z0, z0, (37, 1, 0, 0, 0, 0), (65, 3, 0, 112, 12, 1), z0, z0, (36, 1, 0, 2, 0, 0), (37, 1, 0, 0, 0, 0), (65, 3, 0, 186, 12, 75), z0, z0, (36, 1, 0, 1, 0, 0), (36, 1, 0, 2, 0, 0), (1, 1, 0, 0, 0, 0), (58, 1, 0, 0, 0, 0), (62, 1, 0, 0, 0, 0), (43, 3, 1, 2, 0, 0), z0, z0, (56, 3, 0, 35, 0, 0), z0, z0, (32, 1, 0, 0, 0, 0), (40, 1, 0, 2, 0, 0), (36, 1, 0, 2, 0, 0), (32, 2, 14, 0, 0, 0), z0, (51, 3, 0, 92, 0, 0), z0, z0, (37, 1, 0, 0, 0, 0), (65, 3, 0, 113, 12, 2), z0, z0, (36, 1, 0, 2, 0, 0), (37, 1, 0, 0, 0, 0), (65, 3, 0, 186, 12, 75), z0, z0, (36, 1, 0, 1, 0, 0), (32, 2, 112, 0, 0, 0), z0, (1, 1, 0, 0, 0, 0), (36, 1, 0, 2, 0, 0), (1, 1, 0, 0, 0, 0), (58, 1, 0, 0, 0, 0), (62, 1, 0, 0, 0, 0), (43, 3, 1, 2, 0, 0), z0, z0, (56, 3, 0, 63, 0, 0), z0, z0, (37, 1, 0, 0, 0, 0), (37, 1, 0, 0, 0, 0), (65, 3, 0, 186, 12, 75), z0, z0, (36, 1, 0, 1, 0, 0), (32, 2, 126, 0, 0, 0), z0, (1, 1, 0, 0, 0, 0), (58, 1, 0, 0, 0, 0), (67, 3, 0, 117, 12, 6), z0, z0, (37, 1, 0, 0, 0, 0), (110, 3, 0, 196, 1, 148), z0, z0, (32, 1, 1, 0, 0, 0), (100, 1, 0, 0, 0, 0)]
def P_Md_undo : PM := (12, ⟨"OneWaySpellModel", "undo", "()Z"⟩, prog_14_method_114_code, 3, some .boolean, 1, 0, (2090, 178, 2088, 2089), C_Md_undo)
def C_Ji_bitCount : List PI := [(36, 1, 0, 0, 0, 0), (36, 1, 0, 0, 0, 0), (32, 1, 1, 0, 0, 0), (9, 1, 0, 0, 0, 0), (34, 3, 1431655765, 477, 0, 0), z0, z0, (4, 1, 0, 0, 0, 0), (2, 1, 0, 0, 0, 0), (40, 1, 0, 0, 0, 0), (36, 1, 0, 0, 0, 0), (34, 3, 858993459, 478, 0, 0), z0, z0, (4, 1, 0, 0, 0, 0), (36, 1, 0, 0, 0, 0), (32, 1, 2, 0, 0, 0), (9, 1, 0, 0, 0, 0), (34, 3, 858993459, 478, 0, 0), z0, z0, (4, 1, 0, 0, 0, 0), (1, 1, 0, 0, 0, 0), (40, 1, 0, 0, 0, 0), (36, 1, 0, 0, 0, 0), (36, 1, 0, 0, 0, 0), (32, 1, 4, 0, 0, 0), (9, 1, 0, 0, 0, 0), (1, 1, 0, 0, 0, 0), (34, 3, 252645135, 479, 0, 0), z0, z0, (4, 1, 0, 0, 0, 0), (40, 1, 0, 0, 0, 0), (36, 1, 0, 0, 0, 0), (36, 1, 0, 0, 0, 0), (32, 2, 8, 0, 0, 0), z0, (9, 1, 0, 0, 0, 0), (1, 1, 0, 0, 0, 0), (40, 1, 0, 0, 0, 0), (36, 1, 0, 0, 0, 0), (36, 1, 0, 0, 0, 0), (32, 2, 16, 0, 0, 0), z0, (9, 1, 0, 0, 0, 0), (1, 1, 0, 0, 0, 0), (40, 1, 0, 0, 0, 0), (36, 1, 0, 0, 0, 0), (32, 2, 63, 0, 0, 0), z0, (4, 1, 0, 0, 0, 0), (100, 1, 0, 0, 0, 0)]
def P_Ji_bitCount : PM := (15, ⟨"java/lang/Integer", "bitCount", "(I)I"⟩, prog_16_method_49_code, 1, some .int, 0, 1, (476, 181, 475, 0), C_Ji_bitCount)
def C_Ja_rangeCheck : List PI := [(36, 1, 0, 1, 0, 0), (36, 1, 0, 2, 0, 0), (55, 3, 0, 46, 0, 0), z0, z0, z0, z0, z0, (27, 1, 0, 0, 0, 0), z0, z0, z0, (27, 1, 0, 0, 0, 0), z0, z0, z0, z0, z0, z0, z0, z0, z0, z0, z0, z0, z0, z0, z0, z0, z0, z0, z0, z0, z0, z0, z0, z0, z0, z0, z0, z0, z0, z0, z0, z0, z0, (36, 1, 0, 1, 0, 0), (50, 3, 0, 59, 0, 0), z0, z0, z0, z0, z0, (27, 1, 0, 0, 0, 0), (36, 1, 0, 1, 0, 0), z0, z0, z0, z0, (36, 1, 0, 2, 0, 0), (36, 1, 0, 0, 0, 0), (55, 3, 0, 73, 0, 0), z0, z0, z0, z0, z0, (27, 1, 0, 0, 0, 0), (36, 1, 0, 2, 0, 0), z0, z0, z0, z0, (103, 1, 0, 0, 0, 0)]
def P_Ja_rangeCheck : PM := (16, ⟨"java/util/Arrays", "rangeCheck", "(III)V"⟩, prog_19_method_30_code, 3, none, 0, 3, (985, 185, 984, 0), C_Ja_rangeCheck)
def C_Ja_fillI : List PI := [(32, 1, 0, 0, 0, 0), (40, 1, 0, 2, 0, 0), (37, 1, 0, 0, 0, 0), (61, 1, 0, 0, 0, 0), (40, 1, 0, 3, 0, 0), (36, 1, 0, 2, 0, 0), (36, 1, 0, 3, 0, 0), (51, 3, 0, 20, 0, 0), z0, z0, (37, 1, 0, 0, 0, 0), (36, 1, 0, 2, 0, 0), (36, 1, 0, 1, 0, 0), (62, 1, 0, 0, 0, 0), (43, 3, 1, 2, 0, 0), z0, z0, (56, 3, 0, 5, 0, 0), z0, z0, (103, 1, 0, 0, 0, 0)]
def P_Ja_fillI : PM := (16, ⟨"java/util/Arrays", "fill", "([II)V"⟩, prog_19_method_103_code, 4, none, 0, 2, (731, 185, 730, 0), C_Ja_fillI)
def C_Ja_fillZ : List PI := [(32, 1, 0, 0, 0, 0), (40, 1, 0, 2, 0, 0), (37, 1, 0, 0, 0, 0), (61, 1, 0, 0, 0, 0), (40, 1, 0, 3, 0, 0), (36, 1, 0, 2, 0, 0), (36, 1, 0, 3, 0, 0), (51, 3, 0, 20, 0, 0), z0, z0, (37, 1, 0, 0, 0, 0), (36, 1, 0, 2, 0, 0), (36, 1, 0, 1, 0, 0), (64, 1, 0, 0, 0, 0), (43, 3, 1, 2, 0, 0), z0, z0, (56, 3, 0, 5, 0, 0), z0, z0, (103, 1, 0, 0, 0, 0)]
def P_Ja_fillZ : PM := (16, ⟨"java/util/Arrays", "fill", "([ZZ)V"⟩, prog_19_method_111_code, 4, none, 0, 2, (734, 185, 733, 0), C_Ja_fillZ)
def C_Ja_fillZr : List PI := [(37, 1, 0, 0, 0, 0), (61, 1, 0, 0, 0, 0), (36, 1, 0, 1, 0, 0), (36, 1, 0, 2, 0, 0), (110, 3, 0, 282, 3, 79), z0, z0, (36, 1, 0, 1, 0, 0), (40, 2, 0, 4, 0, 0), z0, (36, 2, 0, 4, 0, 0), z0, (36, 1, 0, 2, 0, 0), (51, 3, 0, 27, 0, 0), z0, z0, (37, 1, 0, 0, 0, 0), (36, 2, 0, 4, 0, 0), z0, (36, 1, 0, 3, 0, 0), (64, 1, 0, 0, 0, 0), (43, 3, 1, 4, 0, 0), z0, z0, (56, 3, 0, 10, 0, 0), z0, z0, (103, 1, 0, 0, 0, 0)]
def P_Ja_fillZr : PM := (16, ⟨"java/util/Arrays", "fill", "([ZIIZ)V"⟩, prog_19_method_112_code, 5, none, 0, 4, (982, 185, 981, 0), C_Ja_fillZr)
def C_Ja_copyB : List PI := [(36, 1, 0, 1, 0, 0), (37, 1, 0, 0, 0, 0), (61, 1, 0, 0, 0, 0), (47, 3, 0, 14, 0, 0), z0, z0, (37, 1, 0, 0, 0, 0), z0, z0, z0, z0, z0, z0, z0, (36, 1, 0, 1, 0, 0), (72, 2, 0, 0, 0, 0), z0, (41, 1, 0, 2, 0, 0), (37, 1, 0, 0, 0, 0), (32, 1, 0, 0, 0, 0), (37, 1, 0, 2, 0, 0), (32, 1, 0, 0, 0, 0), (37, 1, 0, 0, 0, 0), (61, 1, 0, 0, 0, 0), (36, 1, 0, 1, 0, 0), (83, 3, 0, 1137, 0, 0), z0, z0, (80, 3, 0, 1138, 0, 0), z0, z0, (37, 1, 0, 2, 0, 0), (102, 1, 0, 0, 0, 0)]
def P_Ja_copyB : PM := (16, ⟨"java/util/Arrays", "copyOf", "([BI)[B"⟩, prog_19_method_121_code, 3, some (.array .byte), 0, 2, (1157, 185, 1156, 0), C_Ja_copyB)
def C_Ja_copyI : List PI := [(36, 1, 0, 1, 0, 0), (37, 1, 0, 0, 0, 0), (61, 1, 0, 0, 0, 0), (47, 3, 0, 14, 0, 0), z0, z0, (37, 1, 0, 0, 0, 0), z0, z0, z0, z0, z0, z0, z0, (36, 1, 0, 1, 0, 0), (71, 2, 0, 0, 0, 0), z0, (41, 1, 0, 2, 0, 0), (37, 1, 0, 0, 0, 0), (32, 1, 0, 0, 0, 0), (37, 1, 0, 2, 0, 0), (32, 1, 0, 0, 0, 0), (37, 1, 0, 0, 0, 0), (61, 1, 0, 0, 0, 0), (36, 1, 0, 1, 0, 0), (83, 3, 0, 1137, 0, 0), z0, z0, (79, 3, 0, 1138, 0, 0), z0, z0, (37, 1, 0, 2, 0, 0), (102, 1, 0, 0, 0, 0)]
def P_Ja_copyI : PM := (16, ⟨"java/util/Arrays", "copyOf", "([II)[I"⟩, prog_19_method_123_code, 3, some (.array .int), 0, 2, (1129, 185, 1128, 0), C_Ja_copyI)
def C_Lw_law : List PI := [(70, 3, 0, 191, 11, 0), z0, z0, (27, 1, 0, 0, 0, 0), (110, 3, 0, 117, 1, 0), z0, z0, (41, 1, 0, 1, 0, 0), (70, 3, 0, 1399, 12, 0), z0, z0, (27, 1, 0, 0, 0, 0), (110, 3, 0, 168, 1, 127), z0, z0, (41, 1, 0, 2, 0, 0), (32, 1, 0, 0, 0, 0), (40, 1, 0, 3, 0, 0), (36, 1, 0, 3, 0, 0), (39, 1, 0, 0, 0, 0), (76, 1, 0, 0, 0, 0), (32, 2, 6, 0, 0, 0), z0, (2, 1, 0, 0, 0, 0), (53, 3, 0, 1102, 0, 0), z0, z0, (39, 1, 0, 0, 0, 0), (36, 1, 0, 3, 0, 0), (75, 1, 0, 0, 0, 0), (32, 2, 63, 0, 0, 0), z0, (4, 1, 0, 0, 0, 0), (77, 151, 0, 3, 0, 0), z0, z0, z0, z0, z0, z0, z0, z0, z0, z0, z0, z0, z0, z0, z0, z0, z0, z0, z0, z0, z0, z0, z0, z0, z0, z0, z0, z0, z0, z0, z0, z0, z0, z0, z0, z0, z0, z0, z0, z0, z0, z0, z0, z0, z0, z0, z0, z0, z0, z0, z0, z0, z0, z0, z0, z0, z0, z0, z0, z0, z0, z0, z0, z0, z0, z0, z0, z0, z0, z0, z0, z0, z0, z0, z0, z0, z0, z0, z0, z0, z0, z0, z0, z0, z0, z0, z0, z0, z0, z0, z0, z0, z0, z0, z0, z0, z0, z0, z0, z0, z0, z0, z0, z0, z0, z0, z0, z0, z0, z0, z0, z0, z0, z0, z0, z0, z0, z0, z0, z0, z0, z0, z0, z0, z0, z0, z0, z0, z0, z0, z0, z0, z0, z0, z0, z0, z0, z0, z0, z0, z0, z0, z0, z0, z0, z0, z0, z0, z0, z0, (37, 1, 0, 1, 0, 0), (39, 1, 0, 0, 0, 0), (36, 1, 0, 3, 0, 0), (32, 1, 1, 0, 0, 0), (1, 1, 0, 0, 0, 0), (75, 1, 0, 0, 0, 0), (39, 1, 0, 0, 0, 0), (36, 1, 0, 3, 0, 0), (32, 1, 2, 0, 0, 0), (1, 1, 0, 0, 0, 0), (75, 1, 0, 0, 0, 0), (39, 1, 0, 0, 0, 0), (36, 1, 0, 3, 0, 0), (32, 1, 3, 0, 0, 0), (1, 1, 0, 0, 0, 0), (75, 1, 0, 0, 0, 0), (39, 1, 0, 0, 0, 0), (36, 1, 0, 3, 0, 0), (32, 1, 4, 0, 0, 0), (1, 1, 0, 0, 0, 0), (75, 1, 0, 0, 0, 0), (39, 1, 0, 0, 0, 0), (36, 1, 0, 3, 0, 0), (32, 1, 5, 0, 0, 0), (1, 1, 0, 0, 0, 0), (75, 1, 0, 0, 0, 0), (110, 3, 0, 118, 6, 1), z0, z0, (37, 1, 0, 2, 0, 0), (39, 1, 0, 0, 0, 0), (36, 1, 0, 3, 0, 0), (32, 1, 1, 0, 0, 0), (1, 1, 0, 0, 0, 0), (75, 1, 0, 0, 0, 0), (39, 1, 0, 0, 0, 0), (36, 1, 0, 3, 0, 0), (32, 1, 2, 0, 0, 0), (1, 1, 0, 0, 0, 0), (75, 1, 0, 0, 0, 0), (39, 1, 0, 0, 0, 0), (36, 1, 0, 3, 0, 0), (32, 1, 3, 0, 0, 0), (1, 1, 0, 0, 0, 0), (75, 1, 0, 0, 0, 0), (39, 1, 0, 0, 0, 0), (36, 1, 0, 3, 0, 0), (32, 1, 4, 0, 0, 0), (1, 1, 0, 0, 0, 0), (75, 1, 0, 0, 0, 0), (39, 1, 0, 0, 0, 0), (36, 1, 0, 3, 0, 0), (32, 1, 5, 0, 0, 0), (1, 1, 0, 0, 0, 0), (75, 1, 0, 0, 0, 0), (110, 3, 0, 177, 6, 128), z0, z0, (45, 3, 0, 1096, 0, 0), z0, z0, (32, 1, 0, 0, 0, 0), (100, 1, 0, 0, 0, 0), (37, 1, 0, 1, 0, 0), (39, 1, 0, 0, 0, 0), (36, 1, 0, 3, 0, 0), (32, 1, 1, 0, 0, 0), (1, 1, 0, 0, 0, 0), (75, 1, 0, 0, 0, 0), (110, 3, 0, 119, 2, 3), z0, z0, (37, 1, 0, 2, 0, 0), (39, 1, 0, 0, 0, 0), (36, 1, 0, 3, 0, 0), (32, 1, 1, 0, 0, 0), (1, 1, 0, 0, 0, 0), (75, 1, 0, 0, 0, 0), (110, 3, 0, 178, 2, 130), z0, z0, (45, 3, 0, 1096, 0, 0), z0, z0, (32, 1, 0, 0, 0, 0), (100, 1, 0, 0, 0, 0), (37, 1, 0, 1, 0, 0), (110, 3, 0, 120, 1, 4), z0, z0, (37, 1, 0, 2, 0, 0), (110, 3, 0, 194, 1, 132), z0, z0, (45, 3, 0, 1096, 0, 0), z0, z0, (32, 1, 0, 0, 0, 0), (100, 1, 0, 0, 0, 0), (37, 1, 0, 1, 0, 0), (39, 1, 0, 0, 0, 0), (36, 1, 0, 3, 0, 0), (32, 1, 1, 0, 0, 0), (1, 1, 0, 0, 0, 0), (75, 1, 0, 0, 0, 0), (110, 3, 0, 121, 2, 12), z0, z0, (37, 1, 0, 2, 0, 0), (39, 1, 0, 0, 0, 0), (36, 1, 0, 3, 0, 0), (32, 1, 1, 0, 0, 0), (1, 1, 0, 0, 0, 0), (75, 1, 0, 0, 0, 0), (110, 3, 0, 195, 2, 149), z0, z0, (45, 3, 0, 1096, 0, 0), z0, z0, (32, 1, 0, 0, 0, 0), (100, 1, 0, 0, 0, 0), (37, 1, 0, 1, 0, 0), (39, 1, 0, 0, 0, 0), (36, 1, 0, 3, 0, 0), (32, 1, 1, 0, 0, 0), (1, 1, 0, 0, 0, 0), (75, 1, 0, 0, 0, 0), (39, 1, 0, 0, 0, 0), (36, 1, 0, 3, 0, 0), (32, 1, 2, 0, 0, 0), (1, 1, 0, 0, 0, 0), (75, 1, 0, 0, 0, 0), (110, 3, 0, 122, 3, 13), z0, z0, (37, 1, 0, 2, 0, 0), (39, 1, 0, 0, 0, 0), (36, 1, 0, 3, 0, 0), (32, 1, 1, 0, 0, 0), (1, 1, 0, 0, 0, 0), (75, 1, 0, 0, 0, 0), (39, 1, 0, 0, 0, 0), (36, 1, 0, 3, 0, 0), (32, 1, 2, 0, 0, 0), (1, 1, 0, 0, 0, 0), (75, 1, 0, 0, 0, 0), (110, 3, 0, 202, 3, 150), z0, z0, (45, 3, 0, 1096, 0, 0), z0, z0, (32, 1, 0, 0, 0, 0), (100, 1, 0, 0, 0, 0), (37, 1, 0, 1, 0, 0), (39, 1, 0, 0, 0, 0), (36, 1, 0, 3, 0, 0), (32, 1, 1, 0, 0, 0), (1, 1, 0, 0, 0, 0), (75, 1, 0, 0, 0, 0), (110, 3, 0, 123, 2, 17), z0, z0, (37, 1, 0, 2, 0, 0), (39, 1, 0, 0, 0, 0), (36, 1, 0, 3, 0, 0), (32, 1, 1, 0, 0, 0), (1, 1, 0, 0, 0, 0), (75, 1, 0, 0, 0, 0), (110, 3, 0, 203, 2, 154), z0, z0, (45, 3, 0, 1096, 0, 0), z0, z0, (32, 1, 0, 0, 0, 0), (100, 1, 0, 0, 0, 0), (37, 1, 0, 1, 0, 0), (39, 1, 0, 0, 0, 0), (36, 1, 0, 3, 0, 0), (32, 1, 1, 0, 0, 0), (1, 1, 0, 0, 0, 0), (75, 1, 0, 0, 0, 0), (39, 1, 0, 0, 0, 0), (36, 1, 0, 3, 0, 0), (32, 1, 2, 0, 0, 0), (1, 1, 0, 0, 0, 0), (75, 1, 0, 0, 0, 0), (110, 3, 0, 124, 3, 22), z0, z0, (37, 1, 0, 2, 0, 0), (39, 1, 0, 0, 0, 0), (36, 1, 0, 3, 0, 0), (32, 1, 1, 0, 0, 0), (1, 1, 0, 0, 0, 0), (75, 1, 0, 0, 0, 0), (39, 1, 0, 0, 0, 0), (36, 1, 0, 3, 0, 0), (32, 1, 2, 0, 0, 0), (1, 1, 0, 0, 0, 0), (75, 1, 0, 0, 0, 0), (110, 3, 0, 204, 3, 161), z0, z0, (45, 3, 0, 1096, 0, 0), z0, z0, (32, 1, 0, 0, 0, 0), (100, 1, 0, 0, 0, 0), (37, 1, 0, 1, 0, 0), (110, 3, 0, 125, 1, 23), z0, z0, (37, 1, 0, 2, 0, 0), (110, 3, 0, 212, 1, 163), z0, z0, (45, 3, 0, 1096, 0, 0), z0, z0, (32, 1, 0, 0, 0, 0), (100, 1, 0, 0, 0, 0), (37, 1, 0, 1, 0, 0), (39, 1, 0, 0, 0, 0), (36, 1, 0, 3, 0, 0), (32, 1, 1, 0, 0, 0), (1, 1, 0, 0, 0, 0), (75, 1, 0, 0, 0, 0), (110, 3, 0, 126, 2, 31), z0, z0, (37, 1, 0, 2, 0, 0), (39, 1, 0, 0, 0, 0), (36, 1, 0, 3, 0, 0), (32, 1, 1, 0, 0, 0), (1, 1, 0, 0, 0, 0), (75, 1, 0, 0, 0, 0), (110, 3, 0, 213, 2, 171), z0, z0, (45, 3, 0, 1096, 0, 0), z0, z0, (32, 1, 0, 0, 0, 0), (100, 1, 0, 0, 0, 0), (37, 1, 0, 1, 0, 0), (39, 1, 0, 0, 0, 0), (36, 1, 0, 3, 0, 0), (32, 1, 1, 0, 0, 0), (1, 1, 0, 0, 0, 0), (75, 1, 0, 0, 0, 0), (39, 1, 0, 0, 0, 0), (36, 1, 0, 3, 0, 0), (32, 1, 2, 0, 0, 0), (1, 1, 0, 0, 0, 0), (75, 1, 0, 0, 0, 0), (39, 1, 0, 0, 0, 0), (36, 1, 0, 3, 0, 0), (32, 1, 3, 0, 0, 0), (1, 1, 0, 0, 0, 0), (75, 1, 0, 0, 0, 0), (110, 3, 0, 127, 4, 32), z0, z0, (37, 1, 0, 2, 0, 0), (39, 1, 0, 0, 0, 0), (36, 1, 0, 3, 0, 0), (32, 1, 1, 0, 0, 0), (1, 1, 0, 0, 0, 0), (75, 1, 0, 0, 0, 0), (39, 1, 0, 0, 0, 0), (36, 1, 0, 3, 0, 0), (32, 1, 2, 0, 0, 0), (1, 1, 0, 0, 0, 0), (75, 1, 0, 0, 0, 0), (39, 1, 0, 0, 0, 0), (36, 1, 0, 3, 0, 0), (32, 1, 3, 0, 0, 0), (1, 1, 0, 0, 0, 0), (75, 1, 0, 0, 0, 0), (110, 3, 0, 214, 4, 172), z0, z0, (45, 3, 0, 1096, 0, 0), z0, z0, (32, 1, 0, 0, 0, 0), (100, 1, 0, 0, 0, 0), (37, 1, 0, 1, 0, 0), (110, 3, 0, 128, 1, 34), z0, z0, (37, 1, 0, 2, 0, 0), (110, 3, 0, 215, 1, 173), z0, z0, (45, 3, 0, 1096, 0, 0), z0, z0, (32, 1, 0, 0, 0, 0), (100, 1, 0, 0, 0, 0), (37, 1, 0, 1, 0, 0), (110, 3, 0, 129, 1, 35), z0, z0, (37, 1, 0, 2, 0, 0), (110, 3, 0, 221, 1, 174), z0, z0, (45, 3, 0, 1096, 0, 0), z0, z0, (32, 1, 0, 0, 0, 0), (100, 1, 0, 0, 0, 0), (37, 1, 0, 1, 0, 0), (110, 3, 0, 130, 1, 48), z0, z0, (37, 1, 0, 2, 0, 0), (110, 3, 0, 222, 1, 180), z0, z0, (45, 3, 0, 1096, 0, 0), z0, z0, (32, 1, 0, 0, 0, 0), (100, 1, 0, 0, 0, 0), (37, 1, 0, 1, 0, 0), (39, 1, 0, 0, 0, 0), (36, 1, 0, 3, 0, 0), (32, 1, 1, 0, 0, 0), (1, 1, 0, 0, 0, 0), (75, 1, 0, 0, 0, 0), (110, 3, 0, 131, 2, 52), z0, z0, (37, 1, 0, 2, 0, 0), (39, 1, 0, 0, 0, 0), (36, 1, 0, 3, 0, 0), (32, 1, 1, 0, 0, 0), (1, 1, 0, 0, 0, 0), (75, 1, 0, 0, 0, 0), (110, 3, 0, 224, 2, 181), z0, z0, (22, 1, 0, 0, 0, 0), (44, 3, 0, 1096, 0, 0), z0, z0, (32, 1, 0, 0, 0, 0), (100, 1, 0, 0, 0, 0), (37, 1, 0, 1, 0, 0), (110, 3, 0, 132, 1, 55), z0, z0, (37, 1, 0, 2, 0, 0), (110, 3, 0, 227, 1, 183), z0, z0, (45, 3, 0, 1096, 0, 0), z0, z0, (32, 1, 0, 0, 0, 0), (100, 1, 0, 0, 0, 0), (37, 1, 0, 1, 0, 0), (39, 1, 0, 0, 0, 0), (36, 1, 0, 3, 0, 0), (32, 1, 1, 0, 0, 0), (1, 1, 0, 0, 0, 0), (75, 1, 0, 0, 0, 0), (110, 3, 0, 133, 2, 56), z0, z0, (37, 1, 0, 2, 0, 0), (39, 1, 0, 0, 0, 0), (36, 1, 0, 3, 0, 0), (32, 1, 1, 0, 0, 0), (1, 1, 0, 0, 0, 0), (75, 1, 0, 0, 0, 0), (110, 3, 0, 228, 2, 184), z0, z0, (45, 3, 0, 1096, 0, 0), z0, z0, (32, 1, 0, 0, 0, 0), (100, 1, 0, 0, 0, 0), (37, 1, 0, 1, 0, 0), (110, 3, 0, 134, 1, 57), z0, z0, (37, 1, 0, 2, 0, 0), (110, 3, 0, 229, 1, 185), z0, z0, (22, 1, 0, 0, 0, 0), (44, 3, 0, 1096, 0, 0), z0, z0, (32, 1, 0, 0, 0, 0), (100, 1, 0, 0, 0, 0), (37, 1, 0, 1, 0, 0), (39, 1, 0, 0, 0, 0), (36, 1, 0, 3, 0, 0), (32, 1, 1, 0, 0, 0), (1, 1, 0, 0, 0, 0), (75, 1, 0, 0, 0, 0), (39, 1, 0, 0, 0, 0), (36, 1, 0, 3, 0, 0), (32, 1, 2, 0, 0, 0), (1, 1, 0, 0, 0, 0), (75, 1, 0, 0, 0, 0), (110, 3, 0, 135, 3, 61), z0, z0, (37, 1, 0, 2, 0, 0), (39, 1, 0, 0, 0, 0), (36, 1, 0, 3, 0, 0), (32, 1, 1, 0, 0, 0), (1, 1, 0, 0, 0, 0), (75, 1, 0, 0, 0, 0), (39, 1, 0, 0, 0, 0), (36, 1, 0, 3, 0, 0), (32, 1, 2, 0, 0, 0), (1, 1, 0, 0, 0, 0), (75, 1, 0, 0, 0, 0), (110, 3, 0, 231, 3, 188), z0, z0, (45, 3, 0, 1096, 0, 0), z0, z0, (32, 1, 0, 0, 0, 0), (100, 1, 0, 0, 0, 0), (37, 1, 0, 1, 0, 0), (110, 3, 0, 136, 1, 64), z0, z0, (37, 1, 0, 2, 0, 0), (110, 3, 0, 232, 1, 190), z0, z0, (45, 3, 0, 1096, 0, 0), z0, z0, (32, 1, 0, 0, 0, 0), (100, 1, 0, 0, 0, 0), (37, 1, 0, 1, 0, 0), (39, 1, 0, 0, 0, 0), (36, 1, 0, 3, 0, 0), (32, 1, 1, 0, 0, 0), (1, 1, 0, 0, 0, 0), (75, 1, 0, 0, 0, 0), (110, 3, 0, 137, 2, 65), z0, z0, (37, 1, 0, 2, 0, 0), (39, 1, 0, 0, 0, 0), (36, 1, 0, 3, 0, 0), (32, 1, 1, 0, 0, 0), (1, 1, 0, 0, 0, 0), (75, 1, 0, 0, 0, 0), (110, 3, 0, 234, 2, 191), z0, z0, (45, 3, 0, 1096, 0, 0), z0, z0, (32, 1, 0, 0, 0, 0), (100, 1, 0, 0, 0, 0), (37, 1, 0, 1, 0, 0), (39, 1, 0, 0, 0, 0), (36, 1, 0, 3, 0, 0), (32, 1, 1, 0, 0, 0), (1, 1, 0, 0, 0, 0), (75, 1, 0, 0, 0, 0), (39, 1, 0, 0, 0, 0), (36, 1, 0, 3, 0, 0), (32, 1, 2, 0, 0, 0), (1, 1, 0, 0, 0, 0), (75, 1, 0, 0, 0, 0), (110, 3, 0, 138, 3, 69), z0, z0, (37, 1, 0, 2, 0, 0), (39, 1, 0, 0, 0, 0), (36, 1, 0, 3, 0, 0), (32, 1, 1, 0, 0, 0), (1, 1, 0, 0, 0, 0), (75, 1, 0, 0, 0, 0), (39, 1, 0, 0, 0, 0), (36, 1, 0, 3, 0, 0), (32, 1, 2, 0, 0, 0), (1, 1, 0, 0, 0, 0), (75, 1, 0, 0, 0, 0), (110, 3, 0, 235, 3, 193), z0, z0, (45, 3, 0, 1096, 0, 0), z0, z0, (32, 1, 0, 0, 0, 0), (100, 1, 0, 0, 0, 0), (37, 1, 0, 1, 0, 0), (39, 1, 0, 0, 0, 0), (36, 1, 0, 3, 0, 0), (32, 1, 1, 0, 0, 0), (1, 1, 0, 0, 0, 0), (75, 1, 0, 0, 0, 0), (110, 3, 0, 139, 2, 70), z0, z0, (37, 1, 0, 2, 0, 0), (39, 1, 0, 0, 0, 0), (36, 1, 0, 3, 0, 0), (32, 1, 1, 0, 0, 0), (1, 1, 0, 0, 0, 0), (75, 1, 0, 0, 0, 0), (110, 3, 0, 240, 2, 194), z0, z0, (45, 3, 0, 1096, 0, 0), z0, z0, (32, 1, 0, 0, 0, 0), (100, 1, 0, 0, 0, 0), (37, 1, 0, 1, 0, 0), (110, 3, 0, 140, 1, 77), z0, z0, (37, 1, 0, 2, 0, 0), (110, 3, 0, 241, 1, 199), z0, z0, (45, 3, 0, 1096, 0, 0), z0, z0, (32, 1, 0, 0, 0, 0), (100, 1, 0, 0, 0, 0), (37, 1, 0, 1, 0, 0), (39, 1, 0, 0, 0, 0), (36, 1, 0, 3, 0, 0), (32, 1, 1, 0, 0, 0), (1, 1, 0, 0, 0, 0), (75, 1, 0, 0, 0, 0), (39, 1, 0, 0, 0, 0), (36, 1, 0, 3, 0, 0), (32, 1, 2, 0, 0, 0), (1, 1, 0, 0, 0, 0), (75, 1, 0, 0, 0, 0), (39, 1, 0, 0, 0, 0), (36, 1, 0, 3, 0, 0), (32, 1, 3, 0, 0, 0), (1, 1, 0, 0, 0, 0), (75, 1, 0, 0, 0, 0), (39, 1, 0, 0, 0, 0), (36, 1, 0, 3, 0, 0), (32, 1, 4, 0, 0, 0), (1, 1, 0, 0, 0, 0), (75, 1, 0, 0, 0, 0), (110, 3, 0, 141, 5, 80), z0, z0, (37, 1, 0, 2, 0, 0), (39, 1, 0, 0, 0, 0), (36, 1, 0, 3, 0, 0), (32, 1, 1, 0, 0, 0), (1, 1, 0, 0, 0, 0), (75, 1, 0, 0, 0, 0), (39, 1, 0, 0, 0, 0), (36, 1, 0, 3, 0, 0), (32, 1, 2, 0, 0, 0), (1, 1, 0, 0, 0, 0), (75, 1, 0, 0, 0, 0), (39, 1, 0, 0, 0, 0), (36, 1, 0, 3, 0, 0), (32, 1, 3, 0, 0, 0), (1, 1, 0, 0, 0, 0), (75, 1, 0, 0, 0, 0), (39, 1, 0, 0, 0, 0), (36, 1, 0, 3, 0, 0), (32, 1, 4, 0, 0, 0), (1, 1, 0, 0, 0, 0), (75, 1, 0, 0, 0, 0), (110, 3, 0, 244, 5, 200), z0, z0, (45, 3, 0, 1096, 0, 0), z0, z0, (32, 1, 0, 0, 0, 0), (100, 1, 0, 0, 0, 0), (37, 1, 0, 1, 0, 0), (39, 1, 0, 0, 0, 0), (36, 1, 0, 3, 0, 0), (32, 1, 1, 0, 0, 0), (1, 1, 0, 0, 0, 0), (75, 1, 0, 0, 0, 0), (39, 1, 0, 0, 0, 0), (36, 1, 0, 3, 0, 0), (32, 1, 2, 0, 0, 0), (1, 1, 0, 0, 0, 0), (75, 1, 0, 0, 0, 0), (110, 3, 0, 142, 3, 85), z0, z0, (37, 1, 0, 2, 0, 0), (39, 1, 0, 0, 0, 0), (36, 1, 0, 3, 0, 0), (32, 1, 1, 0, 0, 0), (1, 1, 0, 0, 0, 0), (75, 1, 0, 0, 0, 0), (39, 1, 0, 0, 0, 0), (36, 1, 0, 3, 0, 0), (32, 1, 2, 0, 0, 0), (1, 1, 0, 0, 0, 0), (75, 1, 0, 0, 0, 0), (110, 3, 0, 245, 3, 203), z0, z0, (45, 3, 0, 1096, 0, 0), z0, z0, (32, 1, 0, 0, 0, 0), (100, 1, 0, 0, 0, 0), (37, 1, 0, 1, 0, 0), (39, 1, 0, 0, 0, 0), (36, 1, 0, 3, 0, 0), (32, 1, 1, 0, 0, 0), (1, 1, 0, 0, 0, 0), (75, 1, 0, 0, 0, 0), (39, 1, 0, 0, 0, 0), (36, 1, 0, 3, 0, 0), (32, 1, 2, 0, 0, 0), (1, 1, 0, 0, 0, 0), (75, 1, 0, 0, 0, 0), (110, 3, 0, 143, 3, 87), z0, z0, (37, 1, 0, 2, 0, 0), (39, 1, 0, 0, 0, 0), (36, 1, 0, 3, 0, 0), (32, 1, 1, 0, 0, 0), (1, 1, 0, 0, 0, 0), (75, 1, 0, 0, 0, 0), (39, 1, 0, 0, 0, 0), (36, 1, 0, 3, 0, 0), (32, 1, 2, 0, 0, 0), (1, 1, 0, 0, 0, 0), (75, 1, 0, 0, 0, 0), (110, 3, 0, 256, 3, 205), z0, z0, (22, 1, 0, 0, 0, 0), (44, 3, 0, 1096, 0, 0), z0, z0, (32, 1, 0, 0, 0, 0), (100, 1, 0, 0, 0, 0), (37, 1, 0, 1, 0, 0), (39, 1, 0, 0, 0, 0), (36, 1, 0, 3, 0, 0), (32, 1, 1, 0, 0, 0), (1, 1, 0, 0, 0, 0), (75, 1, 0, 0, 0, 0), (39, 1, 0, 0, 0, 0), (36, 1, 0, 3, 0, 0), (32, 1, 2, 0, 0, 0), (1, 1, 0, 0, 0, 0), (75, 1, 0, 0, 0, 0), (24, 1, 0, 0, 0, 0), (32, 2, 32, 0, 0, 0), z0, (20, 1, 0, 0, 0, 0), (39, 1, 0, 0, 0, 0), (36, 1, 0, 3, 0, 0), (32, 1, 3, 0, 0, 0), (1, 1, 0, 0, 0, 0), (75, 1, 0, 0, 0, 0), (24, 1, 0, 0, 0, 0), (35, 3, 4294967295, 2091, 0, 0), z0, z0, (15, 1, 0, 0, 0, 0), (16, 1, 0, 0, 0, 0), (110, 3, 0, 144, 3, 98), z0, z0, (37, 1, 0, 2, 0, 0), (39, 1, 0, 0, 0, 0), (36, 1, 0, 3, 0, 0), (32, 1, 1, 0, 0, 0), (1, 1, 0, 0, 0, 0), (75, 1, 0, 0, 0, 0), (39, 1, 0, 0, 0, 0), (36, 1, 0, 3, 0, 0), (32, 1, 2, 0, 0, 0), (1, 1, 0, 0, 0, 0), (75, 1, 0, 0, 0, 0), (24, 1, 0, 0, 0, 0), (32, 2, 32, 0, 0, 0), z0, (20, 1, 0, 0, 0, 0), (39, 1, 0, 0, 0, 0), (36, 1, 0, 3, 0, 0), (32, 1, 3, 0, 0, 0), (1, 1, 0, 0, 0, 0), (75, 1, 0, 0, 0, 0), (24, 1, 0, 0, 0, 0), (35, 3, 4294967295, 2091, 0, 0), z0, z0, (15, 1, 0, 0, 0, 0), (16, 1, 0, 0, 0, 0), (110, 3, 0, 259, 3, 216), z0, z0, (45, 3, 0, 1096, 0, 0), z0, z0, (32, 1, 0, 0, 0, 0), (100, 1, 0, 0, 0, 0), (37, 1, 0, 1, 0, 0), (110, 3, 0, 145, 1, 99), z0, z0, (37, 1, 0, 2, 0, 0), (110, 3, 0, 260, 1, 219), z0, z0, (22, 1, 0, 0, 0, 0), (44, 3, 0, 1096, 0, 0), z0, z0, (32, 1, 0, 0, 0, 0), (100, 1, 0, 0, 0, 0), (37, 1, 0, 1, 0, 0), (39, 1, 0, 0, 0, 0), (36, 1, 0, 3, 0, 0), (32, 1, 1, 0, 0, 0), (1, 1, 0, 0, 0, 0), (75, 1, 0, 0, 0, 0), (110, 3, 0, 146, 2, 100), z0, z0, (37, 1, 0, 2, 0, 0), (39, 1, 0, 0, 0, 0), (36, 1, 0, 3, 0, 0), (32, 1, 1, 0, 0, 0), (1, 1, 0, 0, 0, 0), (75, 1, 0, 0, 0, 0), (110, 3, 0, 267, 2, 220), z0, z0, (45, 3, 0, 1096, 0, 0), z0, z0, (32, 1, 0, 0, 0, 0), (100, 1, 0, 0, 0, 0), (37, 1, 0, 1, 0, 0), (39, 1, 0, 0, 0, 0), (36, 1, 0, 3, 0, 0), (32, 1, 1, 0, 0, 0), (1, 1, 0, 0, 0, 0), (75, 1, 0, 0, 0, 0), (39, 1, 0, 0, 0, 0), (36, 1, 0, 3, 0, 0), (32, 1, 2, 0, 0, 0), (1, 1, 0, 0, 0, 0), (75, 1, 0, 0, 0, 0), (39, 1, 0, 0, 0, 0), (36, 1, 0, 3, 0, 0), (32, 1, 3, 0, 0, 0), (1, 1, 0, 0, 0, 0), (75, 1, 0, 0, 0, 0), (110, 3, 0, 147, 4, 112), z0, z0, (37, 1, 0, 2, 0, 0), (39, 1, 0, 0, 0, 0), (36, 1, 0, 3, 0, 0), (32, 1, 1, 0, 0, 0), (1, 1, 0, 0, 0, 0), (75, 1, 0, 0, 0, 0), (39, 1, 0, 0, 0, 0), (36, 1, 0, 3, 0, 0), (32, 1, 2, 0, 0, 0), (1, 1, 0, 0, 0, 0), (75, 1, 0, 0, 0, 0), (39, 1, 0, 0, 0, 0), (36, 1, 0, 3, 0, 0), (32, 1, 3, 0, 0, 0), (1, 1, 0, 0, 0, 0), (75, 1, 0, 0, 0, 0), (110, 3, 0, 268, 4, 227), z0, z0, (45, 3, 0, 1096, 0, 0), z0, z0, (32, 1, 0, 0, 0, 0), (100, 1, 0, 0, 0, 0), (37, 1, 0, 1, 0, 0), (39, 1, 0, 0, 0, 0), (36, 1, 0, 3, 0, 0), (32, 1, 1, 0, 0, 0), (1, 1, 0, 0, 0, 0), (75, 1, 0, 0, 0, 0), (110, 3, 0, 148, 2, 114), z0, z0, (37, 1, 0, 2, 0, 0), (39, 1, 0, 0, 0, 0), (36, 1, 0, 3, 0, 0), (32, 1, 1, 0, 0, 0), (1, 1, 0, 0, 0, 0), (75, 1, 0, 0, 0, 0), (110, 3, 0, 276, 2, 228), z0, z0, (45, 3, 0, 1096, 0, 0), z0, z0, (32, 1, 0, 0, 0, 0), (100, 1, 0, 0, 0, 0), (37, 1, 0, 1, 0, 0), (39, 1, 0, 0, 0, 0), (36, 1, 0, 3, 0, 0), (32, 1, 1, 0, 0, 0), (1, 1, 0, 0, 0, 0), (75, 1, 0, 0, 0, 0), (110, 3, 0, 149, 2, 122), z0, z0, (37, 1, 0, 2, 0, 0), (39, 1, 0, 0, 0, 0), (36, 1, 0, 3, 0, 0), (32, 1, 1, 0, 0, 0), (1, 1, 0, 0, 0, 0), (75, 1, 0, 0, 0, 0), (110, 3, 0, 278, 2, 236), z0, z0, (45, 3, 0, 1096, 0, 0), z0, z0, (32, 1, 0, 0, 0, 0), (100, 1, 0, 0, 0, 0), (37, 1, 0, 1, 0, 0), (39, 1, 0, 0, 0, 0), (36, 1, 0, 3, 0, 0), (32, 1, 1, 0, 0, 0), (1, 1, 0, 0, 0, 0), (75, 1, 0, 0, 0, 0), (39, 1, 0, 0, 0, 0), (36, 1, 0, 3, 0, 0), (32, 1, 2, 0, 0, 0), (1, 1, 0, 0, 0, 0), (75, 1, 0, 0, 0, 0), (44, 3, 0, 1052, 0, 0), z0, z0, (32, 1, 1, 0, 0, 0), (56, 3, 0, 1053, 0, 0), z0, z0, (32, 1, 0, 0, 0, 0), (110, 3, 0, 150, 3, 124), z0, z0, (37, 1, 0, 2, 0, 0), (39, 1, 0, 0, 0, 0), (36, 1, 0, 3, 0, 0), (32, 1, 1, 0, 0, 0), (1, 1, 0, 0, 0, 0), (75, 1, 0, 0, 0, 0), (39, 1, 0, 0, 0, 0), (36, 1, 0, 3, 0, 0), (32, 1, 2, 0, 0, 0), (1, 1, 0, 0, 0, 0), (75, 1, 0, 0, 0, 0), (44, 3, 0, 1074, 0, 0), z0, z0, (32, 1, 1, 0, 0, 0), (56, 3, 0, 1075, 0, 0), z0, z0, (32, 1, 0, 0, 0, 0), (110, 3, 0, 279, 3, 238), z0, z0, (45, 3, 0, 1096, 0, 0), z0, z0, (32, 1, 0, 0, 0, 0), (100, 1, 0, 0, 0, 0), (37, 1, 0, 1, 0, 0), (110, 3, 0, 151, 1, 125), z0, z0, (37, 1, 0, 2, 0, 0), (110, 3, 0, 280, 1, 239), z0, z0, (45, 3, 0, 1096, 0, 0), z0, z0, (32, 1, 0, 0, 0, 0), (100, 1, 0, 0, 0, 0), (43, 3, 6, 3, 0, 0), z0, z0, (56, 3, 0, 18, 0, 0), z0, z0, (32, 1, 1, 0, 0, 0), (100, 1, 0, 0, 0, 0)]
def P_Lw_law : PM := (13, ⟨"OneWaySpellLaw", "law", "([I)Z"⟩, code, 4, some .boolean, 0, 1, (0, 0, 0, 0), C_Lw_law)
def mT_0 : List PM := [P_Bo_init, P_Bo_build, P_Bo_clear, P_Bo_put, P_Bo_has, P_Bo_isEmpty, P_Bo_lengthen, P_Bo_putAhead, P_Bo_keep, P_Bo_sort, P_Bo_findStarts, P_Bo_sizeOf, P_Bo_indexOf, P_Bo_codeAt, P_Ce_init, P_Ce_build, P_Ce_keyBehind, P_Ce_stateOf, P_Ce_growStates, P_Ce_growSlots, P_Ce_addEdge, P_Ce_countFrom, P_Ce_amount, P_Ce_bringTo, P_Ce_rankOf, P_Cu_init, P_Cu_fewest, P_Cu_findChoosable, P_Cu_searchOfSize, P_Cu_chosenMask, P_Cu_chooseNext, P_Cu_isRefuted]
def mT_1 : List PM := [P_Cu_heals, P_Gr_init, P_Gr_has, P_Gr_isIn, P_Gr_takeTold, P_Gr_copyFrom, P_Gr_act, P_Gr_takeBackAct, P_Gr_change, P_Gr_unmark, P_Gr_unlikeLetters, P_Gr_groupBegins, P_Gr_noneBeginsAnother, P_Gr_noneEndsAnother, P_Gr_overlap, P_Gr_inByNumber, P_Re_init, P_Re_isKind, P_Re_prefers, P_Re_choose, P_Re_countTaken, P_Re_takenAt, P_Re_findFool, P_Re_startTrial, P_Re_coverRest, P_Re_coverWith, P_Re_keepBetter, P_Re_trialIsEarlier, P_Re_copyTo, P_Sp_init, P_Sp_ask, P_Sp_search]
def mT_2 : List PM := [P_Sp_shortestOf, P_Sp_goOn, P_Sp_countNew, P_Sp_copyTo, P_Ta_init, P_Ta_build, P_Ta_addFirstRound, P_Ta_addNextRound, P_Ta_add, P_Ta_find, P_Ta_sortAsInDictionary, P_Ta_seekDoubt, P_Ta_sizeOf, P_Ta_indexOf, P_Ta_lookAhead, P_Ta_inCommon, P_Ta_prepareSteps, P_Ta_deepen, P_Te_init, P_Te_tell, P_Te_rowStop, P_Te_rowCode, P_Te_takeRow, P_Te_takeLine, P_Te_takeName, P_Te_takeGroup, P_Te_takeSign, P_Tr_init, P_Tr_build, P_Tr_plant, P_Tr_linkSuffixes, P_Tr_listBySign]
def mT_3 : List PM := [P_Tr_isUsed, P_Tr_next, P_Tr_back, P_Tw_init, P_Tw_find, P_Tw_goOn, P_Tw_step, P_Tw_push, P_Tw_copyTo, P_Wo_init, P_Wo_clear, P_Wo_add, P_Wo_addRow, P_Wo_standing, P_Wo_fits, P_Wo_countWays, P_Wo_sumWithoutWrap, P_Wo_groupOfReading, P_Wo_groupToward, P_Wo_unlikeSoundRows, P_Wo_longestBeginning, P_Ow_init, P_Ow_feed, P_Ow_end, P_Ow_table, P_Ow_fault, P_Ow_group, P_Ow_about, P_Ow_meets, P_Ow_parts, P_Ow_tails, P_Ow_tail]
def mT_4 : List PM := [P_Ow_doubt, P_Ow_witness, P_Ow_look, P_Ow_share, P_Ow_word, P_Ow_letter, P_Ow_readings, P_Ow_reading, P_Ow_sounds, P_Ow_reads, P_Ow_took, P_Ow_fool, P_Ow_goes, P_Ow_spell, P_Ow_drawn, P_Ow_words, P_Ow_nth, P_Ow_place, P_Ow_borders, P_Ow_border, P_Ow_cure, P_Ow_mend, P_Ow_out, P_Ow_undo, P_Ow_freshTree, P_Ow_freshTails, P_Ow_freshCensus, P_Ow_freshBorders, P_Ow_theReader, P_Ow_theCures, P_Ow_put, P_Ow_power]
def mT_5 : List PM := [P_Ow_commonDivisor, P_Ow_begins, P_Ow_ends, P_Ow_lastOf, P_Ow_signOf, P_Ow_shown, P_Ow_flushLeft, P_Ow_commonLetters, P_Md_init, P_Md_in, P_Md_isOf, P_Md_lesser, P_Md_many, P_Md_isGroup, P_Md_letterAt, P_Md_alike, P_Md_four, P_Md_feed, P_Md_end, P_Md_byteAt, P_Md_isSmall, P_Md_next, P_Md_isGood, P_Md_fails, P_Md_goOn, P_Md_isSign, P_Md_packed, P_Md_isShort, P_Md_isSound, P_Md_readName, P_Md_isTold, P_Md_readGroup]
def mT_6 : List PM := [P_Md_mustBe, P_Md_readLine, P_Md_table, P_Md_fault, P_Md_another, P_Md_lettersThere, P_Md_unlike, P_Md_begins, P_Md_ends, P_Md_isFree, P_Md_group, P_Md_about, P_Md_meets, P_Md_tailSize, P_Md_tailLetter, P_Md_against, P_Md_layEnds, P_Md_leftOf, P_Md_layTails, P_Md_goesOn, P_Md_parts, P_Md_tails, P_Md_tail, P_Md_doubt, P_Md_tries, P_Md_isBefore, P_Md_takes, P_Md_layBest, P_Md_takesWord, P_Md_witness, P_Md_look, P_Md_common]
def mT_7 : List PM := [P_Md_share, P_Md_stands, P_Md_layWays, P_Md_word, P_Md_letter, P_Md_readings, P_Md_goesBy, P_Md_reading, P_Md_sounds, P_Md_takenAt, P_Md_reads, P_Md_took, P_Md_layCover, P_Md_coversBy, P_Md_takesLeast, P_Md_foolsBy, P_Md_fool, P_Md_goes, P_Md_isSpelling, P_Md_ofSound, P_Md_spell, P_Md_drawn, P_Md_layNodes, P_Md_often, P_Md_oftenAt, P_Md_adds, P_Md_steps, P_Md_empties, P_Md_isThere, P_Md_counts, P_Md_countFrom, P_Md_startsAnew]
def mT_8 : List PM := [P_Md_words, P_Md_behindBy, P_Md_goesThere, P_Md_nth, P_Md_place, P_Md_unpack, P_Md_meetsEnd, P_Md_layEndsOf, P_Md_isWithin, P_Md_layBorders, P_Md_puts, P_Md_borders, P_Md_border, P_Md_comesIn, P_Md_partsNow, P_Md_marks, P_Md_unmarks, P_Md_does, P_Md_isCure, P_Md_cureOf, P_Md_cure, P_Md_keep, P_Md_mend, P_Md_out, P_Md_undo, P_Ji_bitCount, P_Ja_rangeCheck, P_Ja_fillI, P_Ja_fillZ, P_Ja_fillZr, P_Ja_copyB, P_Ja_copyI]
def pm0 : PM := (99, ⟨"", "", ""⟩, ⟨#[]⟩, 0, none, 9, 0, (0, 0, 0, 0), [])
def mTs : List (List PM) := [mT_0, mT_1, mT_2, mT_3, mT_4, mT_5, mT_6, mT_7, mT_8]
def mOf (id : Nat) : PM := (mTs.getD (id / 32) []).getD (id % 32) pm0
def mlT : List (Nat × Nat × Nat) := [(13, 9, 117), (13, 13, 118), (11, 38, 158), (13, 18, 119), (13, 23, 120), (7, 41, 84), (7, 45, 85), (7, 49, 86), (7, 65, 87), (7, 69, 88), (7, 73, 89), (7, 53, 90), (13, 28, 121), (13, 32, 122), (3, 32, 34), (11, 80, 165), (11, 340, 164), (13, 37, 123), (3, 78, 35), (3, 85, 281), (3, 101, 43), (11, 337, 163), (13, 41, 124), (13, 45, 125), (11, 111, 153), (6, 53, 70), (6, 82, 72), (6, 94, 73), (6, 57, 74), (6, 61, 75), (6, 65, 71), (13, 49, 126), (13, 53, 127), (6, 101, 76), (13, 58, 128), (13, 62, 129), (11, 139, 152), (8, 47, 283), (8, 53, 284), (8, 73, 93), (8, 77, 94), (8, 88, 98), (8, 92, 97), (8, 81, 95), (9, 36, 284), (9, 49, 103), (9, 53, 101), (9, 61, 102), (13, 66, 130), (6, 105, 80), (6, 108, 81), (6, 111, 79), (13, 70, 131), (11, 157, 159), (11, 161, 160), (13, 75, 132), (13, 79, 133), (13, 83, 134), (10, 54, 110), (10, 48, 109), (10, 58, 112), (13, 88, 135), (10, 66, 111), (10, 74, 114), (13, 92, 136), (13, 96, 137), (11, 190, 156), (4, 45, 51), (4, 38, 50), (13, 100, 138), (13, 104, 139), (4, 60, 55), (4, 64, 58), (4, 106, 59), (4, 67, 56), (4, 82, 284), (4, 88, 57), (13, 108, 140), (10, 83, 285), (16, 13, 282), (13, 112, 141), (5, 36, 64), (5, 43, 65), (5, 66, 66), (10, 31, 107), (13, 117, 142), (11, 228, 281), (13, 121, 143), (11, 243, 154), (1, 48, 283), (1, 54, 17), (1, 95, 18), (1, 101, 287), (1, 98, 19), (1, 65, 16), (1, 69, 20), (1, 105, 286), (1, 73, 21), (13, 128, 144), (13, 133, 145), (13, 137, 146), (11, 261, 155), (0, 32, 2), (0, 43, 3), (0, 47, 6), (0, 57, 7), (0, 73, 4), (0, 60, 5), (0, 64, 8), (0, 83, 287), (0, 51, 9), (0, 54, 10), (13, 141, 147), (0, 89, 11), (13, 145, 148), (11, 271, 157), (2, 55, 27), (2, 62, 28), (2, 79, 29), (2, 83, 31), (2, 86, 32), (2, 90, 30), (13, 149, 149), (3, 65, 40), (13, 153, 150), (13, 158, 151), (3, 69, 41), (13, 12, 168), (13, 17, 177), (12, 172, 176), (13, 22, 178), (12, 161, 169), (13, 27, 194), (12, 206, 181), (12, 182, 179), (12, 192, 180), (12, 202, 182), (12, 247, 193), (12, 217, 188), (12, 209, 187), (12, 212, 186), (12, 220, 183), (12, 226, 184), (12, 238, 189), (12, 241, 192), (12, 235, 185), (12, 244, 191), (12, 232, 190), (12, 265, 196), (13, 31, 195), (13, 36, 202), (12, 295, 173), (12, 165, 174), (12, 278, 170), (13, 40, 203), (12, 298, 198), (12, 282, 197), (12, 301, 201), (12, 289, 199), (12, 285, 175), (12, 292, 200), (13, 44, 204), (12, 305, 171), (13, 48, 212), (12, 336, 210), (12, 321, 208), (12, 317, 207), (12, 308, 205), (12, 311, 206), (12, 324, 209), (12, 333, 211), (13, 52, 213), (13, 57, 214), (13, 61, 215), (13, 65, 221), (12, 353, 219), (12, 346, 216), (12, 350, 218), (12, 342, 217), (12, 356, 220), (13, 69, 222), (13, 74, 224), (12, 362, 223), (13, 78, 227), (13, 82, 228), (13, 87, 229), (12, 370, 226), (12, 366, 225), (13, 91, 231), (12, 379, 230), (13, 95, 232), (13, 99, 234), (12, 385, 233), (13, 103, 235), (13, 107, 240), (12, 397, 236), (12, 388, 237), (12, 400, 239), (12, 394, 238), (13, 111, 241), (13, 116, 244), (12, 404, 243), (12, 407, 242), (13, 120, 245), (12, 411, 172), (13, 125, 256), (12, 460, 255), (12, 457, 246), (12, 463, 254), (12, 441, 251), (12, 444, 253), (12, 438, 252), (12, 447, 250), (12, 423, 248), (12, 419, 247), (12, 427, 249), (13, 132, 259), (12, 466, 257), (12, 470, 258), (13, 136, 260), (13, 140, 267), (12, 492, 265), (12, 479, 261), (12, 482, 263), (12, 473, 262), (12, 485, 264), (12, 488, 266), (13, 144, 268), (13, 148, 276), (12, 517, 275), (12, 514, 274), (12, 505, 273), (12, 501, 271), (12, 508, 270), (12, 498, 269), (12, 511, 272), (13, 152, 278), (12, 520, 277), (13, 157, 279), (13, 162, 280)]
def mlN : List (Nat × Nat × Nat) := [(11, 15, 33), (11, 22, 82), (11, 29, 105), (11, 42, 83), (11, 49, 36), (11, 53, 106), (11, 62, 34), (11, 73, 35), (11, 90, 42), (3, 81, 164), (11, 100, 44), (3, 97, 161), (11, 104, 45), (3, 105, 162), (11, 107, 46), (3, 74, 163), (11, 306, 68), (11, 308, 69), (6, 72, 35), (6, 76, 43), (6, 90, 163), (6, 98, 166), (6, 86, 161), (11, 123, 76), (11, 127, 77), (11, 138, 99), (11, 294, 91), (11, 299, 92), (8, 62, 35), (8, 84, 164), (11, 143, 100), (9, 57, 96), (9, 70, 97), (9, 74, 98), (11, 147, 104), (9, 86, 106), (9, 89, 107), (11, 151, 78), (6, 121, 167), (11, 165, 107), (11, 171, 111), (10, 35, 35), (10, 27, 164), (11, 178, 113), (11, 182, 115), (11, 185, 49), (11, 331, 48), (11, 194, 52), (4, 32, 110), (11, 198, 53), (11, 202, 54), (4, 52, 35), (4, 56, 43), (4, 78, 164), (4, 98, 163), (4, 102, 167), (11, 206, 60), (4, 116, 106), (4, 119, 107), (11, 207, 116), (11, 216, 61), (11, 217, 62), (11, 221, 63), (5, 50, 35), (5, 74, 164), (5, 78, 163), (11, 225, 67), (5, 88, 106), (5, 93, 108), (11, 234, 47), (11, 237, 108), (11, 315, 14), (11, 317, 15), (1, 59, 96), (1, 76, 98), (1, 79, 97), (11, 247, 22), (11, 251, 23), (1, 110, 106), (1, 115, 107), (11, 255, 24), (11, 324, 0), (11, 326, 1), (11, 265, 11), (11, 266, 12), (11, 267, 13), (11, 336, 25), (2, 11, 33), (2, 20, 68), (11, 275, 26), (2, 72, 35), (2, 93, 37), (2, 96, 40), (2, 100, 69), (11, 281, 38), (11, 285, 39)]
end
section
/-! the program is what the Statement has: every row decodes so, every word stands in the tables -/
def inB (i : Nat) (w : Cond) : Bool := decide (lw_tbl[i]? = some w) && goodWord w
theorem inB_ok {i : Nat} {w : Cond} (h : inB i w = true) : w ∈ gt := by
  simp only [inB, Bool.and_eq_true, decide_eq_true_eq] at h
  exact gt_in i h.1 h.2
def wordsB (M : PM) : Bool := decide ((m_y M).cls = cN (m_o M)) && plainName (m_y M).cls && inB (m_pl M).1 (.code (m_y M) (m_b M) (m_L M) (m_ret M)) && inB (m_pl M).2.1 (.initialized (m_y M).cls) && (match m_kd M with
    | 0 => inB (m_pl M).2.2.1 (.static (m_y M))
    | 1 => inB (m_pl M).2.2.1 (.instanceMethod (m_y M)) && inB (m_pl M).2.2.2 (.selects (m_y M).cls (m_y M) (m_y M)) && (match cls[m_o M]? with
      | some q => q.1 == (m_y M).cls
      | none => false)
    | 2 => inB (m_pl M).2.2.1 (.instanceMethod (m_y M)) && (m_y M).name == "<init>" && m_ret M == none
    | _ => false) && decide ((m_y M).cls ≠ "java/lang/invoke/MethodHandle") && decide ((m_y M).cls ≠ "java/lang/invoke/VarHandle") && decide ((parseMethodDescriptor (m_y M).desc).map (fun d => d.parameters.length) = some (m_np M)) && decide (m_L M ≤ 80)
theorem wordsB_ok {M : PM} (h : wordsB M = true) : wordsOK M := by
  simp only [wordsB, Bool.and_eq_true, decide_eq_true_eq] at h
  obtain ⟨⟨⟨⟨⟨⟨⟨⟨h1, h2⟩, h3⟩, h4⟩, h5⟩, h6⟩, h7⟩, h8⟩, h9⟩ := h
  refine ⟨h1, h2, inB_ok h3, inB_ok h4, fun k => ?_, fun k => ?_, fun k => ?_, h6, h7, h8, h9⟩
  · rw [k] at h5
    exact inB_ok h5
  · rw [k] at h5
    simp only [Bool.and_eq_true] at h5
    refine ⟨inB_ok h5.1.1, inB_ok h5.1.2, ?_⟩
    have h := h5.2
    split at h
    next q hq => exact ⟨q.2.1, q.2.2, by rw [hq, ← beq_iff_eq.mp h]⟩
    · cases h
  · rw [k] at h5
    simp only [Bool.and_eq_true, beq_iff_eq] at h5
    exact ⟨inB_ok h5.1.1, h5.1.2, h5.2⟩
def codeB (M : PM) : Bool := (m_code M).zipIdx.all (fun q => chkI mOf mlT mlN M q.2 q.1)
theorem codeB_ok {M : PM} (h : codeB M = true) : codeOK mOf mlT mlN M := fun pc i hi => List.all_eq_true.mp h (i, pc) (List.mem_zipIdx_iff_getElem?.mpr hi)
set_option maxRecDepth 100000 in
theorem wk_Bo_init : wordsB P_Bo_init = true := by decide +kernel
set_option maxRecDepth 100000 in
theorem ck_Bo_init : codeB P_Bo_init = true := by decide +kernel
set_option maxRecDepth 100000 in
theorem wk_Bo_build : wordsB P_Bo_build = true := by decide +kernel
set_option maxRecDepth 100000 in
theorem ck_Bo_build : codeB P_Bo_build = true := by decide +kernel
set_option maxRecDepth 100000 in
theorem wk_Bo_clear : wordsB P_Bo_clear = true := by decide +kernel
set_option maxRecDepth 100000 in
theorem ck_Bo_clear : codeB P_Bo_clear = true := by decide +kernel
set_option maxRecDepth 100000 in
theorem wk_Bo_put : wordsB P_Bo_put = true := by decide +kernel
set_option maxRecDepth 100000 in
theorem ck_Bo_put : codeB P_Bo_put = true := by decide +kernel
set_option maxRecDepth 100000 in
theorem wk_Bo_has : wordsB P_Bo_has = true := by decide +kernel
set_option maxRecDepth 100000 in
theorem ck_Bo_has : codeB P_Bo_has = true := by decide +kernel
set_option maxRecDepth 100000 in
theorem wk_Bo_isEmpty : wordsB P_Bo_isEmpty = true := by decide +kernel
set_option maxRecDepth 100000 in
theorem ck_Bo_isEmpty : codeB P_Bo_isEmpty = true := by decide +kernel
set_option maxRecDepth 100000 in
theorem wk_Bo_lengthen : wordsB P_Bo_lengthen = true := by decide +kernel
set_option maxRecDepth 100000 in
theorem ck_Bo_lengthen : codeB P_Bo_lengthen = true := by decide +kernel
set_option maxRecDepth 100000 in
theorem wk_Bo_putAhead : wordsB P_Bo_putAhead = true := by decide +kernel
set_option maxRecDepth 100000 in
theorem ck_Bo_putAhead : codeB P_Bo_putAhead = true := by decide +kernel
set_option maxRecDepth 100000 in
theorem wk_Bo_keep : wordsB P_Bo_keep = true := by decide +kernel
set_option maxRecDepth 100000 in
theorem ck_Bo_keep : codeB P_Bo_keep = true := by decide +kernel
set_option maxRecDepth 100000 in
theorem wk_Bo_sort : wordsB P_Bo_sort = true := by decide +kernel
set_option maxRecDepth 100000 in
theorem ck_Bo_sort : codeB P_Bo_sort = true := by decide +kernel
set_option maxRecDepth 100000 in
theorem wk_Bo_findStarts : wordsB P_Bo_findStarts = true := by decide +kernel
set_option maxRecDepth 100000 in
theorem ck_Bo_findStarts : codeB P_Bo_findStarts = true := by decide +kernel
set_option maxRecDepth 100000 in
theorem wk_Bo_sizeOf : wordsB P_Bo_sizeOf = true := by decide +kernel
set_option maxRecDepth 100000 in
theorem ck_Bo_sizeOf : codeB P_Bo_sizeOf = true := by decide +kernel
set_option maxRecDepth 100000 in
theorem wk_Bo_indexOf : wordsB P_Bo_indexOf = true := by decide +kernel
set_option maxRecDepth 100000 in
theorem ck_Bo_indexOf : codeB P_Bo_indexOf = true := by decide +kernel
set_option maxRecDepth 100000 in
theorem wk_Bo_codeAt : wordsB P_Bo_codeAt = true := by decide +kernel
set_option maxRecDepth 100000 in
theorem ck_Bo_codeAt : codeB P_Bo_codeAt = true := by decide +kernel
set_option maxRecDepth 100000 in
theorem wk_Ce_init : wordsB P_Ce_init = true := by decide +kernel
set_option maxRecDepth 100000 in
theorem ck_Ce_init : codeB P_Ce_init = true := by decide +kernel
set_option maxRecDepth 100000 in
theorem wk_Ce_build : wordsB P_Ce_build = true := by decide +kernel
set_option maxRecDepth 100000 in
theorem ck_Ce_build : codeB P_Ce_build = true := by decide +kernel
set_option maxRecDepth 100000 in
theorem wk_Ce_keyBehind : wordsB P_Ce_keyBehind = true := by decide +kernel
set_option maxRecDepth 100000 in
theorem ck_Ce_keyBehind : codeB P_Ce_keyBehind = true := by decide +kernel
set_option maxRecDepth 100000 in
theorem wk_Ce_stateOf : wordsB P_Ce_stateOf = true := by decide +kernel
set_option maxRecDepth 100000 in
theorem ck_Ce_stateOf : codeB P_Ce_stateOf = true := by decide +kernel
set_option maxRecDepth 100000 in
theorem wk_Ce_growStates : wordsB P_Ce_growStates = true := by decide +kernel
set_option maxRecDepth 100000 in
theorem ck_Ce_growStates : codeB P_Ce_growStates = true := by decide +kernel
set_option maxRecDepth 100000 in
theorem wk_Ce_growSlots : wordsB P_Ce_growSlots = true := by decide +kernel
set_option maxRecDepth 100000 in
theorem ck_Ce_growSlots : codeB P_Ce_growSlots = true := by decide +kernel
set_option maxRecDepth 100000 in
theorem wk_Ce_addEdge : wordsB P_Ce_addEdge = true := by decide +kernel
set_option maxRecDepth 100000 in
theorem ck_Ce_addEdge : codeB P_Ce_addEdge = true := by decide +kernel
set_option maxRecDepth 100000 in
theorem wk_Ce_countFrom : wordsB P_Ce_countFrom = true := by decide +kernel
set_option maxRecDepth 100000 in
theorem ck_Ce_countFrom : codeB P_Ce_countFrom = true := by decide +kernel
set_option maxRecDepth 100000 in
theorem wk_Ce_amount : wordsB P_Ce_amount = true := by decide +kernel
set_option maxRecDepth 100000 in
theorem ck_Ce_amount : codeB P_Ce_amount = true := by decide +kernel
set_option maxRecDepth 100000 in
theorem wk_Ce_bringTo : wordsB P_Ce_bringTo = true := by decide +kernel
set_option maxRecDepth 100000 in
theorem ck_Ce_bringTo : codeB P_Ce_bringTo = true := by decide +kernel
set_option maxRecDepth 100000 in
theorem wk_Ce_rankOf : wordsB P_Ce_rankOf = true := by decide +kernel
set_option maxRecDepth 100000 in
theorem ck_Ce_rankOf : codeB P_Ce_rankOf = true := by decide +kernel
set_option maxRecDepth 100000 in
theorem wk_Cu_init : wordsB P_Cu_init = true := by decide +kernel
set_option maxRecDepth 100000 in
theorem ck_Cu_init : codeB P_Cu_init = true := by decide +kernel
set_option maxRecDepth 100000 in
theorem wk_Cu_fewest : wordsB P_Cu_fewest = true := by decide +kernel
set_option maxRecDepth 100000 in
theorem ck_Cu_fewest : codeB P_Cu_fewest = true := by decide +kernel
set_option maxRecDepth 100000 in
theorem wk_Cu_findChoosable : wordsB P_Cu_findChoosable = true := by decide +kernel
set_option maxRecDepth 100000 in
theorem ck_Cu_findChoosable : codeB P_Cu_findChoosable = true := by decide +kernel
set_option maxRecDepth 100000 in
theorem wk_Cu_searchOfSize : wordsB P_Cu_searchOfSize = true := by decide +kernel
set_option maxRecDepth 100000 in
theorem ck_Cu_searchOfSize : codeB P_Cu_searchOfSize = true := by decide +kernel
set_option maxRecDepth 100000 in
theorem wk_Cu_chosenMask : wordsB P_Cu_chosenMask = true := by decide +kernel
set_option maxRecDepth 100000 in
theorem ck_Cu_chosenMask : codeB P_Cu_chosenMask = true := by decide +kernel
set_option maxRecDepth 100000 in
theorem wk_Cu_chooseNext : wordsB P_Cu_chooseNext = true := by decide +kernel
set_option maxRecDepth 100000 in
theorem ck_Cu_chooseNext : codeB P_Cu_chooseNext = true := by decide +kernel
set_option maxRecDepth 100000 in
theorem wk_Cu_isRefuted : wordsB P_Cu_isRefuted = true := by decide +kernel
set_option maxRecDepth 100000 in
theorem ck_Cu_isRefuted : codeB P_Cu_isRefuted = true := by decide +kernel
set_option maxRecDepth 100000 in
theorem wk_Cu_heals : wordsB P_Cu_heals = true := by decide +kernel
set_option maxRecDepth 100000 in
theorem ck_Cu_heals : codeB P_Cu_heals = true := by decide +kernel
set_option maxRecDepth 100000 in
theorem wk_Gr_init : wordsB P_Gr_init = true := by decide +kernel
set_option maxRecDepth 100000 in
theorem ck_Gr_init : codeB P_Gr_init = true := by decide +kernel
set_option maxRecDepth 100000 in
theorem wk_Gr_has : wordsB P_Gr_has = true := by decide +kernel
set_option maxRecDepth 100000 in
theorem ck_Gr_has : codeB P_Gr_has = true := by decide +kernel
set_option maxRecDepth 100000 in
theorem wk_Gr_isIn : wordsB P_Gr_isIn = true := by decide +kernel
set_option maxRecDepth 100000 in
theorem ck_Gr_isIn : codeB P_Gr_isIn = true := by decide +kernel
set_option maxRecDepth 100000 in
theorem wk_Gr_takeTold : wordsB P_Gr_takeTold = true := by decide +kernel
set_option maxRecDepth 100000 in
theorem ck_Gr_takeTold : codeB P_Gr_takeTold = true := by decide +kernel
set_option maxRecDepth 100000 in
theorem wk_Gr_copyFrom : wordsB P_Gr_copyFrom = true := by decide +kernel
set_option maxRecDepth 100000 in
theorem ck_Gr_copyFrom : codeB P_Gr_copyFrom = true := by decide +kernel
set_option maxRecDepth 100000 in
theorem wk_Gr_act : wordsB P_Gr_act = true := by decide +kernel
set_option maxRecDepth 100000 in
theorem ck_Gr_act : codeB P_Gr_act = true := by decide +kernel
set_option maxRecDepth 100000 in
theorem wk_Gr_takeBackAct : wordsB P_Gr_takeBackAct = true := by decide +kernel
set_option maxRecDepth 100000 in
theorem ck_Gr_takeBackAct : codeB P_Gr_takeBackAct = true := by decide +kernel
set_option maxRecDepth 100000 in
theorem wk_Gr_change : wordsB P_Gr_change = true := by decide +kernel
set_option maxRecDepth 100000 in
theorem ck_Gr_change : codeB P_Gr_change = true := by decide +kernel
set_option maxRecDepth 100000 in
theorem wk_Gr_unmark : wordsB P_Gr_unmark = true := by decide +kernel
set_option maxRecDepth 100000 in
theorem ck_Gr_unmark : codeB P_Gr_unmark = true := by decide +kernel
set_option maxRecDepth 100000 in
theorem wk_Gr_unlikeLetters : wordsB P_Gr_unlikeLetters = true := by decide +kernel
set_option maxRecDepth 100000 in
theorem ck_Gr_unlikeLetters : codeB P_Gr_unlikeLetters = true := by decide +kernel
set_option maxRecDepth 100000 in
theorem wk_Gr_groupBegins : wordsB P_Gr_groupBegins = true := by decide +kernel
set_option maxRecDepth 100000 in
theorem ck_Gr_groupBegins : codeB P_Gr_groupBegins = true := by decide +kernel
set_option maxRecDepth 100000 in
theorem wk_Gr_noneBeginsAnother : wordsB P_Gr_noneBeginsAnother = true := by decide +kernel
set_option maxRecDepth 100000 in
theorem ck_Gr_noneBeginsAnother : codeB P_Gr_noneBeginsAnother = true := by decide +kernel
set_option maxRecDepth 100000 in
theorem wk_Gr_noneEndsAnother : wordsB P_Gr_noneEndsAnother = true := by decide +kernel
set_option maxRecDepth 100000 in
theorem ck_Gr_noneEndsAnother : codeB P_Gr_noneEndsAnother = true := by decide +kernel
set_option maxRecDepth 100000 in
theorem wk_Gr_overlap : wordsB P_Gr_overlap = true := by decide +kernel
set_option maxRecDepth 100000 in
theorem ck_Gr_overlap : codeB P_Gr_overlap = true := by decide +kernel
set_option maxRecDepth 100000 in
theorem wk_Gr_inByNumber : wordsB P_Gr_inByNumber = true := by decide +kernel
set_option maxRecDepth 100000 in
theorem ck_Gr_inByNumber : codeB P_Gr_inByNumber = true := by decide +kernel
set_option maxRecDepth 100000 in
theorem wk_Re_init : wordsB P_Re_init = true := by decide +kernel
set_option maxRecDepth 100000 in
theorem ck_Re_init : codeB P_Re_init = true := by decide +kernel
set_option maxRecDepth 100000 in
theorem wk_Re_isKind : wordsB P_Re_isKind = true := by decide +kernel
set_option maxRecDepth 100000 in
theorem ck_Re_isKind : codeB P_Re_isKind = true := by decide +kernel
set_option maxRecDepth 100000 in
theorem wk_Re_prefers : wordsB P_Re_prefers = true := by decide +kernel
set_option maxRecDepth 100000 in
theorem ck_Re_prefers : codeB P_Re_prefers = true := by decide +kernel
set_option maxRecDepth 100000 in
theorem wk_Re_choose : wordsB P_Re_choose = true := by decide +kernel
set_option maxRecDepth 100000 in
theorem ck_Re_choose : codeB P_Re_choose = true := by decide +kernel
set_option maxRecDepth 100000 in
theorem wk_Re_countTaken : wordsB P_Re_countTaken = true := by decide +kernel
set_option maxRecDepth 100000 in
theorem ck_Re_countTaken : codeB P_Re_countTaken = true := by decide +kernel
set_option maxRecDepth 100000 in
theorem wk_Re_takenAt : wordsB P_Re_takenAt = true := by decide +kernel
set_option maxRecDepth 100000 in
theorem ck_Re_takenAt : codeB P_Re_takenAt = true := by decide +kernel
set_option maxRecDepth 100000 in
theorem wk_Re_findFool : wordsB P_Re_findFool = true := by decide +kernel
set_option maxRecDepth 100000 in
theorem ck_Re_findFool : codeB P_Re_findFool = true := by decide +kernel
set_option maxRecDepth 100000 in
theorem wk_Re_startTrial : wordsB P_Re_startTrial = true := by decide +kernel
set_option maxRecDepth 100000 in
theorem ck_Re_startTrial : codeB P_Re_startTrial = true := by decide +kernel
set_option maxRecDepth 100000 in
theorem wk_Re_coverRest : wordsB P_Re_coverRest = true := by decide +kernel
set_option maxRecDepth 100000 in
theorem ck_Re_coverRest : codeB P_Re_coverRest = true := by decide +kernel
set_option maxRecDepth 100000 in
theorem wk_Re_coverWith : wordsB P_Re_coverWith = true := by decide +kernel
set_option maxRecDepth 100000 in
theorem ck_Re_coverWith : codeB P_Re_coverWith = true := by decide +kernel
set_option maxRecDepth 100000 in
theorem wk_Re_keepBetter : wordsB P_Re_keepBetter = true := by decide +kernel
set_option maxRecDepth 100000 in
theorem ck_Re_keepBetter : codeB P_Re_keepBetter = true := by decide +kernel
set_option maxRecDepth 100000 in
theorem wk_Re_trialIsEarlier : wordsB P_Re_trialIsEarlier = true := by decide +kernel
set_option maxRecDepth 100000 in
theorem ck_Re_trialIsEarlier : codeB P_Re_trialIsEarlier = true := by decide +kernel
set_option maxRecDepth 100000 in
theorem wk_Re_copyTo : wordsB P_Re_copyTo = true := by decide +kernel
set_option maxRecDepth 100000 in
theorem ck_Re_copyTo : codeB P_Re_copyTo = true := by decide +kernel
set_option maxRecDepth 100000 in
theorem wk_Sp_init : wordsB P_Sp_init = true := by decide +kernel
set_option maxRecDepth 100000 in
theorem ck_Sp_init : codeB P_Sp_init = true := by decide +kernel
set_option maxRecDepth 100000 in
theorem wk_Sp_ask : wordsB P_Sp_ask = true := by decide +kernel
set_option maxRecDepth 100000 in
theorem ck_Sp_ask : codeB P_Sp_ask = true := by decide +kernel
set_option maxRecDepth 100000 in
theorem wk_Sp_search : wordsB P_Sp_search = true := by decide +kernel
set_option maxRecDepth 100000 in
theorem ck_Sp_search : codeB P_Sp_search = true := by decide +kernel
set_option maxRecDepth 100000 in
theorem wk_Sp_shortestOf : wordsB P_Sp_shortestOf = true := by decide +kernel
set_option maxRecDepth 100000 in
theorem ck_Sp_shortestOf : codeB P_Sp_shortestOf = true := by decide +kernel
set_option maxRecDepth 100000 in
theorem wk_Sp_goOn : wordsB P_Sp_goOn = true := by decide +kernel
set_option maxRecDepth 100000 in
theorem ck_Sp_goOn : codeB P_Sp_goOn = true := by decide +kernel
set_option maxRecDepth 100000 in
theorem wk_Sp_countNew : wordsB P_Sp_countNew = true := by decide +kernel
set_option maxRecDepth 100000 in
theorem ck_Sp_countNew : codeB P_Sp_countNew = true := by decide +kernel
set_option maxRecDepth 100000 in
theorem wk_Sp_copyTo : wordsB P_Sp_copyTo = true := by decide +kernel
set_option maxRecDepth 100000 in
theorem ck_Sp_copyTo : codeB P_Sp_copyTo = true := by decide +kernel
set_option maxRecDepth 100000 in
theorem wk_Ta_init : wordsB P_Ta_init = true := by decide +kernel
set_option maxRecDepth 100000 in
theorem ck_Ta_init : codeB P_Ta_init = true := by decide +kernel
set_option maxRecDepth 100000 in
theorem wk_Ta_build : wordsB P_Ta_build = true := by decide +kernel
set_option maxRecDepth 100000 in
theorem ck_Ta_build : codeB P_Ta_build = true := by decide +kernel
set_option maxRecDepth 100000 in
theorem wk_Ta_addFirstRound : wordsB P_Ta_addFirstRound = true := by decide +kernel
set_option maxRecDepth 100000 in
theorem ck_Ta_addFirstRound : codeB P_Ta_addFirstRound = true := by decide +kernel
set_option maxRecDepth 100000 in
theorem wk_Ta_addNextRound : wordsB P_Ta_addNextRound = true := by decide +kernel
set_option maxRecDepth 100000 in
theorem ck_Ta_addNextRound : codeB P_Ta_addNextRound = true := by decide +kernel
set_option maxRecDepth 100000 in
theorem wk_Ta_add : wordsB P_Ta_add = true := by decide +kernel
set_option maxRecDepth 100000 in
theorem ck_Ta_add : codeB P_Ta_add = true := by decide +kernel
set_option maxRecDepth 100000 in
theorem wk_Ta_find : wordsB P_Ta_find = true := by decide +kernel
set_option maxRecDepth 100000 in
theorem ck_Ta_find : codeB P_Ta_find = true := by decide +kernel
set_option maxRecDepth 100000 in
theorem wk_Ta_sortAsInDictionary : wordsB P_Ta_sortAsInDictionary = true := by decide +kernel
set_option maxRecDepth 100000 in
theorem ck_Ta_sortAsInDictionary : codeB P_Ta_sortAsInDictionary = true := by decide +kernel
end
section
/-! the program is what the Statement has, further -/
set_option maxRecDepth 100000 in
theorem wk_Ta_seekDoubt : wordsB P_Ta_seekDoubt = true := by decide +kernel
set_option maxRecDepth 100000 in
theorem ck_Ta_seekDoubt : codeB P_Ta_seekDoubt = true := by decide +kernel
set_option maxRecDepth 100000 in
theorem wk_Ta_sizeOf : wordsB P_Ta_sizeOf = true := by decide +kernel
set_option maxRecDepth 100000 in
theorem ck_Ta_sizeOf : codeB P_Ta_sizeOf = true := by decide +kernel
set_option maxRecDepth 100000 in
theorem wk_Ta_indexOf : wordsB P_Ta_indexOf = true := by decide +kernel
set_option maxRecDepth 100000 in
theorem ck_Ta_indexOf : codeB P_Ta_indexOf = true := by decide +kernel
set_option maxRecDepth 100000 in
theorem wk_Ta_lookAhead : wordsB P_Ta_lookAhead = true := by decide +kernel
set_option maxRecDepth 100000 in
theorem ck_Ta_lookAhead : codeB P_Ta_lookAhead = true := by decide +kernel
set_option maxRecDepth 100000 in
theorem wk_Ta_inCommon : wordsB P_Ta_inCommon = true := by decide +kernel
set_option maxRecDepth 100000 in
theorem ck_Ta_inCommon : codeB P_Ta_inCommon = true := by decide +kernel
set_option maxRecDepth 100000 in
theorem wk_Ta_prepareSteps : wordsB P_Ta_prepareSteps = true := by decide +kernel
set_option maxRecDepth 100000 in
theorem ck_Ta_prepareSteps : codeB P_Ta_prepareSteps = true := by decide +kernel
set_option maxRecDepth 100000 in
theorem wk_Ta_deepen : wordsB P_Ta_deepen = true := by decide +kernel
set_option maxRecDepth 100000 in
theorem ck_Ta_deepen : codeB P_Ta_deepen = true := by decide +kernel
set_option maxRecDepth 100000 in
theorem wk_Te_init : wordsB P_Te_init = true := by decide +kernel
set_option maxRecDepth 100000 in
theorem ck_Te_init : codeB P_Te_init = true := by decide +kernel
set_option maxRecDepth 100000 in
theorem wk_Te_tell : wordsB P_Te_tell = true := by decide +kernel
set_option maxRecDepth 100000 in
theorem ck_Te_tell : codeB P_Te_tell = true := by decide +kernel
set_option maxRecDepth 100000 in
theorem wk_Te_rowStop : wordsB P_Te_rowStop = true := by decide +kernel
set_option maxRecDepth 100000 in
theorem ck_Te_rowStop : codeB P_Te_rowStop = true := by decide +kernel
set_option maxRecDepth 100000 in
theorem wk_Te_rowCode : wordsB P_Te_rowCode = true := by decide +kernel
set_option maxRecDepth 100000 in
theorem ck_Te_rowCode : codeB P_Te_rowCode = true := by decide +kernel
set_option maxRecDepth 100000 in
theorem wk_Te_takeRow : wordsB P_Te_takeRow = true := by decide +kernel
set_option maxRecDepth 100000 in
theorem ck_Te_takeRow : codeB P_Te_takeRow = true := by decide +kernel
set_option maxRecDepth 100000 in
theorem wk_Te_takeLine : wordsB P_Te_takeLine = true := by decide +kernel
set_option maxRecDepth 100000 in
theorem ck_Te_takeLine : codeB P_Te_takeLine = true := by decide +kernel
set_option maxRecDepth 100000 in
theorem wk_Te_takeName : wordsB P_Te_takeName = true := by decide +kernel
set_option maxRecDepth 100000 in
theorem ck_Te_takeName : codeB P_Te_takeName = true := by decide +kernel
set_option maxRecDepth 100000 in
theorem wk_Te_takeGroup : wordsB P_Te_takeGroup = true := by decide +kernel
set_option maxRecDepth 100000 in
theorem ck_Te_takeGroup : codeB P_Te_takeGroup = true := by decide +kernel
set_option maxRecDepth 100000 in
theorem wk_Te_takeSign : wordsB P_Te_takeSign = true := by decide +kernel
set_option maxRecDepth 100000 in
theorem ck_Te_takeSign : codeB P_Te_takeSign = true := by decide +kernel
set_option maxRecDepth 100000 in
theorem wk_Tr_init : wordsB P_Tr_init = true := by decide +kernel
set_option maxRecDepth 100000 in
theorem ck_Tr_init : codeB P_Tr_init = true := by decide +kernel
set_option maxRecDepth 100000 in
theorem wk_Tr_build : wordsB P_Tr_build = true := by decide +kernel
set_option maxRecDepth 100000 in
theorem ck_Tr_build : codeB P_Tr_build = true := by decide +kernel
set_option maxRecDepth 100000 in
theorem wk_Tr_plant : wordsB P_Tr_plant = true := by decide +kernel
set_option maxRecDepth 100000 in
theorem ck_Tr_plant : codeB P_Tr_plant = true := by decide +kernel
set_option maxRecDepth 100000 in
theorem wk_Tr_linkSuffixes : wordsB P_Tr_linkSuffixes = true := by decide +kernel
set_option maxRecDepth 100000 in
theorem ck_Tr_linkSuffixes : codeB P_Tr_linkSuffixes = true := by decide +kernel
set_option maxRecDepth 100000 in
theorem wk_Tr_listBySign : wordsB P_Tr_listBySign = true := by decide +kernel
set_option maxRecDepth 100000 in
theorem ck_Tr_listBySign : codeB P_Tr_listBySign = true := by decide +kernel
set_option maxRecDepth 100000 in
theorem wk_Tr_isUsed : wordsB P_Tr_isUsed = true := by decide +kernel
set_option maxRecDepth 100000 in
theorem ck_Tr_isUsed : codeB P_Tr_isUsed = true := by decide +kernel
set_option maxRecDepth 100000 in
theorem wk_Tr_next : wordsB P_Tr_next = true := by decide +kernel
set_option maxRecDepth 100000 in
theorem ck_Tr_next : codeB P_Tr_next = true := by decide +kernel
set_option maxRecDepth 100000 in
theorem wk_Tr_back : wordsB P_Tr_back = true := by decide +kernel
set_option maxRecDepth 100000 in
theorem ck_Tr_back : codeB P_Tr_back = true := by decide +kernel
set_option maxRecDepth 100000 in
theorem wk_Tw_init : wordsB P_Tw_init = true := by decide +kernel
set_option maxRecDepth 100000 in
theorem ck_Tw_init : codeB P_Tw_init = true := by decide +kernel
set_option maxRecDepth 100000 in
theorem wk_Tw_find : wordsB P_Tw_find = true := by decide +kernel
set_option maxRecDepth 100000 in
theorem ck_Tw_find : codeB P_Tw_find = true := by decide +kernel
set_option maxRecDepth 100000 in
theorem wk_Tw_goOn : wordsB P_Tw_goOn = true := by decide +kernel
set_option maxRecDepth 100000 in
theorem ck_Tw_goOn : codeB P_Tw_goOn = true := by decide +kernel
set_option maxRecDepth 100000 in
theorem wk_Tw_step : wordsB P_Tw_step = true := by decide +kernel
set_option maxRecDepth 100000 in
theorem ck_Tw_step : codeB P_Tw_step = true := by decide +kernel
set_option maxRecDepth 100000 in
theorem wk_Tw_push : wordsB P_Tw_push = true := by decide +kernel
set_option maxRecDepth 100000 in
theorem ck_Tw_push : codeB P_Tw_push = true := by decide +kernel
set_option maxRecDepth 100000 in
theorem wk_Tw_copyTo : wordsB P_Tw_copyTo = true := by decide +kernel
set_option maxRecDepth 100000 in
theorem ck_Tw_copyTo : codeB P_Tw_copyTo = true := by decide +kernel
set_option maxRecDepth 100000 in
theorem wk_Wo_init : wordsB P_Wo_init = true := by decide +kernel
set_option maxRecDepth 100000 in
theorem ck_Wo_init : codeB P_Wo_init = true := by decide +kernel
set_option maxRecDepth 100000 in
theorem wk_Wo_clear : wordsB P_Wo_clear = true := by decide +kernel
set_option maxRecDepth 100000 in
theorem ck_Wo_clear : codeB P_Wo_clear = true := by decide +kernel
set_option maxRecDepth 100000 in
theorem wk_Wo_add : wordsB P_Wo_add = true := by decide +kernel
set_option maxRecDepth 100000 in
theorem ck_Wo_add : codeB P_Wo_add = true := by decide +kernel
set_option maxRecDepth 100000 in
theorem wk_Wo_addRow : wordsB P_Wo_addRow = true := by decide +kernel
set_option maxRecDepth 100000 in
theorem ck_Wo_addRow : codeB P_Wo_addRow = true := by decide +kernel
set_option maxRecDepth 100000 in
theorem wk_Wo_standing : wordsB P_Wo_standing = true := by decide +kernel
set_option maxRecDepth 100000 in
theorem ck_Wo_standing : codeB P_Wo_standing = true := by decide +kernel
set_option maxRecDepth 100000 in
theorem wk_Wo_fits : wordsB P_Wo_fits = true := by decide +kernel
set_option maxRecDepth 100000 in
theorem ck_Wo_fits : codeB P_Wo_fits = true := by decide +kernel
set_option maxRecDepth 100000 in
theorem wk_Wo_countWays : wordsB P_Wo_countWays = true := by decide +kernel
set_option maxRecDepth 100000 in
theorem ck_Wo_countWays : codeB P_Wo_countWays = true := by decide +kernel
set_option maxRecDepth 100000 in
theorem wk_Wo_sumWithoutWrap : wordsB P_Wo_sumWithoutWrap = true := by decide +kernel
set_option maxRecDepth 100000 in
theorem ck_Wo_sumWithoutWrap : codeB P_Wo_sumWithoutWrap = true := by decide +kernel
set_option maxRecDepth 100000 in
theorem wk_Wo_groupOfReading : wordsB P_Wo_groupOfReading = true := by decide +kernel
set_option maxRecDepth 100000 in
theorem ck_Wo_groupOfReading : codeB P_Wo_groupOfReading = true := by decide +kernel
set_option maxRecDepth 100000 in
theorem wk_Wo_groupToward : wordsB P_Wo_groupToward = true := by decide +kernel
set_option maxRecDepth 100000 in
theorem ck_Wo_groupToward : codeB P_Wo_groupToward = true := by decide +kernel
set_option maxRecDepth 100000 in
theorem wk_Wo_unlikeSoundRows : wordsB P_Wo_unlikeSoundRows = true := by decide +kernel
set_option maxRecDepth 100000 in
theorem ck_Wo_unlikeSoundRows : codeB P_Wo_unlikeSoundRows = true := by decide +kernel
set_option maxRecDepth 100000 in
theorem wk_Wo_longestBeginning : wordsB P_Wo_longestBeginning = true := by decide +kernel
set_option maxRecDepth 100000 in
theorem ck_Wo_longestBeginning : codeB P_Wo_longestBeginning = true := by decide +kernel
set_option maxRecDepth 100000 in
theorem wk_Ow_init : wordsB P_Ow_init = true := by decide +kernel
set_option maxRecDepth 100000 in
theorem ck_Ow_init : codeB P_Ow_init = true := by decide +kernel
set_option maxRecDepth 100000 in
theorem wk_Ow_feed : wordsB P_Ow_feed = true := by decide +kernel
set_option maxRecDepth 100000 in
theorem ck_Ow_feed : codeB P_Ow_feed = true := by decide +kernel
set_option maxRecDepth 100000 in
theorem wk_Ow_end : wordsB P_Ow_end = true := by decide +kernel
set_option maxRecDepth 100000 in
theorem ck_Ow_end : codeB P_Ow_end = true := by decide +kernel
set_option maxRecDepth 100000 in
theorem wk_Ow_table : wordsB P_Ow_table = true := by decide +kernel
set_option maxRecDepth 100000 in
theorem ck_Ow_table : codeB P_Ow_table = true := by decide +kernel
set_option maxRecDepth 100000 in
theorem wk_Ow_fault : wordsB P_Ow_fault = true := by decide +kernel
set_option maxRecDepth 100000 in
theorem ck_Ow_fault : codeB P_Ow_fault = true := by decide +kernel
set_option maxRecDepth 100000 in
theorem wk_Ow_group : wordsB P_Ow_group = true := by decide +kernel
set_option maxRecDepth 100000 in
theorem ck_Ow_group : codeB P_Ow_group = true := by decide +kernel
set_option maxRecDepth 100000 in
theorem wk_Ow_about : wordsB P_Ow_about = true := by decide +kernel
set_option maxRecDepth 100000 in
theorem ck_Ow_about : codeB P_Ow_about = true := by decide +kernel
set_option maxRecDepth 100000 in
theorem wk_Ow_meets : wordsB P_Ow_meets = true := by decide +kernel
set_option maxRecDepth 100000 in
theorem ck_Ow_meets : codeB P_Ow_meets = true := by decide +kernel
set_option maxRecDepth 100000 in
theorem wk_Ow_parts : wordsB P_Ow_parts = true := by decide +kernel
set_option maxRecDepth 100000 in
theorem ck_Ow_parts : codeB P_Ow_parts = true := by decide +kernel
set_option maxRecDepth 100000 in
theorem wk_Ow_tails : wordsB P_Ow_tails = true := by decide +kernel
set_option maxRecDepth 100000 in
theorem ck_Ow_tails : codeB P_Ow_tails = true := by decide +kernel
set_option maxRecDepth 100000 in
theorem wk_Ow_tail : wordsB P_Ow_tail = true := by decide +kernel
set_option maxRecDepth 100000 in
theorem ck_Ow_tail : codeB P_Ow_tail = true := by decide +kernel
set_option maxRecDepth 100000 in
theorem wk_Ow_doubt : wordsB P_Ow_doubt = true := by decide +kernel
set_option maxRecDepth 100000 in
theorem ck_Ow_doubt : codeB P_Ow_doubt = true := by decide +kernel
set_option maxRecDepth 100000 in
theorem wk_Ow_witness : wordsB P_Ow_witness = true := by decide +kernel
set_option maxRecDepth 100000 in
theorem ck_Ow_witness : codeB P_Ow_witness = true := by decide +kernel
set_option maxRecDepth 100000 in
theorem wk_Ow_look : wordsB P_Ow_look = true := by decide +kernel
set_option maxRecDepth 100000 in
theorem ck_Ow_look : codeB P_Ow_look = true := by decide +kernel
set_option maxRecDepth 100000 in
theorem wk_Ow_share : wordsB P_Ow_share = true := by decide +kernel
set_option maxRecDepth 100000 in
theorem ck_Ow_share : codeB P_Ow_share = true := by decide +kernel
set_option maxRecDepth 100000 in
theorem wk_Ow_word : wordsB P_Ow_word = true := by decide +kernel
set_option maxRecDepth 100000 in
theorem ck_Ow_word : codeB P_Ow_word = true := by decide +kernel
set_option maxRecDepth 100000 in
theorem wk_Ow_letter : wordsB P_Ow_letter = true := by decide +kernel
set_option maxRecDepth 100000 in
theorem ck_Ow_letter : codeB P_Ow_letter = true := by decide +kernel
set_option maxRecDepth 100000 in
theorem wk_Ow_readings : wordsB P_Ow_readings = true := by decide +kernel
set_option maxRecDepth 100000 in
theorem ck_Ow_readings : codeB P_Ow_readings = true := by decide +kernel
set_option maxRecDepth 100000 in
theorem wk_Ow_reading : wordsB P_Ow_reading = true := by decide +kernel
set_option maxRecDepth 100000 in
theorem ck_Ow_reading : codeB P_Ow_reading = true := by decide +kernel
set_option maxRecDepth 100000 in
theorem wk_Ow_sounds : wordsB P_Ow_sounds = true := by decide +kernel
set_option maxRecDepth 100000 in
theorem ck_Ow_sounds : codeB P_Ow_sounds = true := by decide +kernel
set_option maxRecDepth 100000 in
theorem wk_Ow_reads : wordsB P_Ow_reads = true := by decide +kernel
set_option maxRecDepth 100000 in
theorem ck_Ow_reads : codeB P_Ow_reads = true := by decide +kernel
set_option maxRecDepth 100000 in
theorem wk_Ow_took : wordsB P_Ow_took = true := by decide +kernel
set_option maxRecDepth 100000 in
theorem ck_Ow_took : codeB P_Ow_took = true := by decide +kernel
set_option maxRecDepth 100000 in
theorem wk_Ow_fool : wordsB P_Ow_fool = true := by decide +kernel
set_option maxRecDepth 100000 in
theorem ck_Ow_fool : codeB P_Ow_fool = true := by decide +kernel
set_option maxRecDepth 100000 in
theorem wk_Ow_goes : wordsB P_Ow_goes = true := by decide +kernel
set_option maxRecDepth 100000 in
theorem ck_Ow_goes : codeB P_Ow_goes = true := by decide +kernel
set_option maxRecDepth 100000 in
theorem wk_Ow_spell : wordsB P_Ow_spell = true := by decide +kernel
set_option maxRecDepth 100000 in
theorem ck_Ow_spell : codeB P_Ow_spell = true := by decide +kernel
set_option maxRecDepth 100000 in
theorem wk_Ow_drawn : wordsB P_Ow_drawn = true := by decide +kernel
set_option maxRecDepth 100000 in
theorem ck_Ow_drawn : codeB P_Ow_drawn = true := by decide +kernel
set_option maxRecDepth 100000 in
theorem wk_Ow_words : wordsB P_Ow_words = true := by decide +kernel
set_option maxRecDepth 100000 in
theorem ck_Ow_words : codeB P_Ow_words = true := by decide +kernel
set_option maxRecDepth 100000 in
theorem wk_Ow_nth : wordsB P_Ow_nth = true := by decide +kernel
set_option maxRecDepth 100000 in
theorem ck_Ow_nth : codeB P_Ow_nth = true := by decide +kernel
set_option maxRecDepth 100000 in
theorem wk_Ow_place : wordsB P_Ow_place = true := by decide +kernel
set_option maxRecDepth 100000 in
theorem ck_Ow_place : codeB P_Ow_place = true := by decide +kernel
set_option maxRecDepth 100000 in
theorem wk_Ow_borders : wordsB P_Ow_borders = true := by decide +kernel
set_option maxRecDepth 100000 in
theorem ck_Ow_borders : codeB P_Ow_borders = true := by decide +kernel
set_option maxRecDepth 100000 in
theorem wk_Ow_border : wordsB P_Ow_border = true := by decide +kernel
set_option maxRecDepth 100000 in
theorem ck_Ow_border : codeB P_Ow_border = true := by decide +kernel
set_option maxRecDepth 100000 in
theorem wk_Ow_cure : wordsB P_Ow_cure = true := by decide +kernel
set_option maxRecDepth 100000 in
theorem ck_Ow_cure : codeB P_Ow_cure = true := by decide +kernel
set_option maxRecDepth 100000 in
theorem wk_Ow_mend : wordsB P_Ow_mend = true := by decide +kernel
set_option maxRecDepth 100000 in
theorem ck_Ow_mend : codeB P_Ow_mend = true := by decide +kernel
set_option maxRecDepth 100000 in
theorem wk_Ow_out : wordsB P_Ow_out = true := by decide +kernel
set_option maxRecDepth 100000 in
theorem ck_Ow_out : codeB P_Ow_out = true := by decide +kernel
set_option maxRecDepth 100000 in
theorem wk_Ow_undo : wordsB P_Ow_undo = true := by decide +kernel
set_option maxRecDepth 100000 in
theorem ck_Ow_undo : codeB P_Ow_undo = true := by decide +kernel
set_option maxRecDepth 100000 in
theorem wk_Ow_freshTree : wordsB P_Ow_freshTree = true := by decide +kernel
set_option maxRecDepth 100000 in
theorem ck_Ow_freshTree : codeB P_Ow_freshTree = true := by decide +kernel
set_option maxRecDepth 100000 in
theorem wk_Ow_freshTails : wordsB P_Ow_freshTails = true := by decide +kernel
set_option maxRecDepth 100000 in
theorem ck_Ow_freshTails : codeB P_Ow_freshTails = true := by decide +kernel
set_option maxRecDepth 100000 in
theorem wk_Ow_freshCensus : wordsB P_Ow_freshCensus = true := by decide +kernel
set_option maxRecDepth 100000 in
theorem ck_Ow_freshCensus : codeB P_Ow_freshCensus = true := by decide +kernel
set_option maxRecDepth 100000 in
theorem wk_Ow_freshBorders : wordsB P_Ow_freshBorders = true := by decide +kernel
set_option maxRecDepth 100000 in
theorem ck_Ow_freshBorders : codeB P_Ow_freshBorders = true := by decide +kernel
set_option maxRecDepth 100000 in
theorem wk_Ow_theReader : wordsB P_Ow_theReader = true := by decide +kernel
set_option maxRecDepth 100000 in
theorem ck_Ow_theReader : codeB P_Ow_theReader = true := by decide +kernel
set_option maxRecDepth 100000 in
theorem wk_Ow_theCures : wordsB P_Ow_theCures = true := by decide +kernel
set_option maxRecDepth 100000 in
theorem ck_Ow_theCures : codeB P_Ow_theCures = true := by decide +kernel
set_option maxRecDepth 100000 in
theorem wk_Ow_put : wordsB P_Ow_put = true := by decide +kernel
set_option maxRecDepth 100000 in
theorem ck_Ow_put : codeB P_Ow_put = true := by decide +kernel
set_option maxRecDepth 100000 in
theorem wk_Ow_power : wordsB P_Ow_power = true := by decide +kernel
set_option maxRecDepth 100000 in
theorem ck_Ow_power : codeB P_Ow_power = true := by decide +kernel
set_option maxRecDepth 100000 in
theorem wk_Ow_commonDivisor : wordsB P_Ow_commonDivisor = true := by decide +kernel
set_option maxRecDepth 100000 in
theorem ck_Ow_commonDivisor : codeB P_Ow_commonDivisor = true := by decide +kernel
set_option maxRecDepth 100000 in
theorem wk_Ow_begins : wordsB P_Ow_begins = true := by decide +kernel
set_option maxRecDepth 100000 in
theorem ck_Ow_begins : codeB P_Ow_begins = true := by decide +kernel
set_option maxRecDepth 100000 in
theorem wk_Ow_ends : wordsB P_Ow_ends = true := by decide +kernel
set_option maxRecDepth 100000 in
theorem ck_Ow_ends : codeB P_Ow_ends = true := by decide +kernel
set_option maxRecDepth 100000 in
theorem wk_Ow_lastOf : wordsB P_Ow_lastOf = true := by decide +kernel
set_option maxRecDepth 100000 in
theorem ck_Ow_lastOf : codeB P_Ow_lastOf = true := by decide +kernel
set_option maxRecDepth 100000 in
theorem wk_Ow_signOf : wordsB P_Ow_signOf = true := by decide +kernel
set_option maxRecDepth 100000 in
theorem ck_Ow_signOf : codeB P_Ow_signOf = true := by decide +kernel
set_option maxRecDepth 100000 in
theorem wk_Ow_shown : wordsB P_Ow_shown = true := by decide +kernel
set_option maxRecDepth 100000 in
theorem ck_Ow_shown : codeB P_Ow_shown = true := by decide +kernel
set_option maxRecDepth 100000 in
theorem wk_Ow_flushLeft : wordsB P_Ow_flushLeft = true := by decide +kernel
set_option maxRecDepth 100000 in
theorem ck_Ow_flushLeft : codeB P_Ow_flushLeft = true := by decide +kernel
set_option maxRecDepth 100000 in
theorem wk_Ow_commonLetters : wordsB P_Ow_commonLetters = true := by decide +kernel
set_option maxRecDepth 100000 in
theorem ck_Ow_commonLetters : codeB P_Ow_commonLetters = true := by decide +kernel
set_option maxRecDepth 100000 in
theorem wk_Md_init : wordsB P_Md_init = true := by decide +kernel
set_option maxRecDepth 100000 in
theorem ck_Md_init : codeB P_Md_init = true := by decide +kernel
set_option maxRecDepth 100000 in
theorem wk_Md_in : wordsB P_Md_in = true := by decide +kernel
set_option maxRecDepth 100000 in
theorem ck_Md_in : codeB P_Md_in = true := by decide +kernel
set_option maxRecDepth 100000 in
theorem wk_Md_isOf : wordsB P_Md_isOf = true := by decide +kernel
set_option maxRecDepth 100000 in
theorem ck_Md_isOf : codeB P_Md_isOf = true := by decide +kernel
set_option maxRecDepth 100000 in
theorem wk_Md_lesser : wordsB P_Md_lesser = true := by decide +kernel
set_option maxRecDepth 100000 in
theorem ck_Md_lesser : codeB P_Md_lesser = true := by decide +kernel
set_option maxRecDepth 100000 in
theorem wk_Md_many : wordsB P_Md_many = true := by decide +kernel
set_option maxRecDepth 100000 in
theorem ck_Md_many : codeB P_Md_many = true := by decide +kernel
set_option maxRecDepth 100000 in
theorem wk_Md_isGroup : wordsB P_Md_isGroup = true := by decide +kernel
set_option maxRecDepth 100000 in
theorem ck_Md_isGroup : codeB P_Md_isGroup = true := by decide +kernel
set_option maxRecDepth 100000 in
theorem wk_Md_letterAt : wordsB P_Md_letterAt = true := by decide +kernel
set_option maxRecDepth 100000 in
theorem ck_Md_letterAt : codeB P_Md_letterAt = true := by decide +kernel
set_option maxRecDepth 100000 in
theorem wk_Md_alike : wordsB P_Md_alike = true := by decide +kernel
set_option maxRecDepth 100000 in
theorem ck_Md_alike : codeB P_Md_alike = true := by decide +kernel
set_option maxRecDepth 100000 in
theorem wk_Md_four : wordsB P_Md_four = true := by decide +kernel
set_option maxRecDepth 100000 in
theorem ck_Md_four : codeB P_Md_four = true := by decide +kernel
set_option maxRecDepth 100000 in
theorem wk_Md_feed : wordsB P_Md_feed = true := by decide +kernel
set_option maxRecDepth 100000 in
theorem ck_Md_feed : codeB P_Md_feed = true := by decide +kernel
set_option maxRecDepth 100000 in
theorem wk_Md_end : wordsB P_Md_end = true := by decide +kernel
set_option maxRecDepth 100000 in
theorem ck_Md_end : codeB P_Md_end = true := by decide +kernel
set_option maxRecDepth 100000 in
theorem wk_Md_byteAt : wordsB P_Md_byteAt = true := by decide +kernel
set_option maxRecDepth 100000 in
theorem ck_Md_byteAt : codeB P_Md_byteAt = true := by decide +kernel
set_option maxRecDepth 100000 in
theorem wk_Md_isSmall : wordsB P_Md_isSmall = true := by decide +kernel
set_option maxRecDepth 100000 in
theorem ck_Md_isSmall : codeB P_Md_isSmall = true := by decide +kernel
set_option maxRecDepth 100000 in
theorem wk_Md_next : wordsB P_Md_next = true := by decide +kernel
set_option maxRecDepth 100000 in
theorem ck_Md_next : codeB P_Md_next = true := by decide +kernel
set_option maxRecDepth 100000 in
theorem wk_Md_isGood : wordsB P_Md_isGood = true := by decide +kernel
set_option maxRecDepth 100000 in
theorem ck_Md_isGood : codeB P_Md_isGood = true := by decide +kernel
set_option maxRecDepth 100000 in
theorem wk_Md_fails : wordsB P_Md_fails = true := by decide +kernel
set_option maxRecDepth 100000 in
theorem ck_Md_fails : codeB P_Md_fails = true := by decide +kernel
set_option maxRecDepth 100000 in
theorem wk_Md_goOn : wordsB P_Md_goOn = true := by decide +kernel
set_option maxRecDepth 100000 in
theorem ck_Md_goOn : codeB P_Md_goOn = true := by decide +kernel
set_option maxRecDepth 100000 in
theorem wk_Md_isSign : wordsB P_Md_isSign = true := by decide +kernel
set_option maxRecDepth 100000 in
theorem ck_Md_isSign : codeB P_Md_isSign = true := by decide +kernel
set_option maxRecDepth 100000 in
theorem wk_Md_packed : wordsB P_Md_packed = true := by decide +kernel
set_option maxRecDepth 100000 in
theorem ck_Md_packed : codeB P_Md_packed = true := by decide +kernel
set_option maxRecDepth 100000 in
theorem wk_Md_isShort : wordsB P_Md_isShort = true := by decide +kernel
set_option maxRecDepth 100000 in
theorem ck_Md_isShort : codeB P_Md_isShort = true := by decide +kernel
set_option maxRecDepth 100000 in
theorem wk_Md_isSound : wordsB P_Md_isSound = true := by decide +kernel
set_option maxRecDepth 100000 in
theorem ck_Md_isSound : codeB P_Md_isSound = true := by decide +kernel
set_option maxRecDepth 100000 in
theorem wk_Md_readName : wordsB P_Md_readName = true := by decide +kernel
set_option maxRecDepth 100000 in
theorem ck_Md_readName : codeB P_Md_readName = true := by decide +kernel
end
section
/-! the program is what the Statement has, further -/
set_option maxRecDepth 100000 in
theorem wk_Md_isTold : wordsB P_Md_isTold = true := by decide +kernel
set_option maxRecDepth 100000 in
theorem ck_Md_isTold : codeB P_Md_isTold = true := by decide +kernel
set_option maxRecDepth 100000 in
theorem wk_Md_readGroup : wordsB P_Md_readGroup = true := by decide +kernel
set_option maxRecDepth 100000 in
theorem ck_Md_readGroup : codeB P_Md_readGroup = true := by decide +kernel
set_option maxRecDepth 100000 in
theorem wk_Md_mustBe : wordsB P_Md_mustBe = true := by decide +kernel
set_option maxRecDepth 100000 in
theorem ck_Md_mustBe : codeB P_Md_mustBe = true := by decide +kernel
set_option maxRecDepth 100000 in
theorem wk_Md_readLine : wordsB P_Md_readLine = true := by decide +kernel
set_option maxRecDepth 100000 in
theorem ck_Md_readLine : codeB P_Md_readLine = true := by decide +kernel
set_option maxRecDepth 100000 in
theorem wk_Md_table : wordsB P_Md_table = true := by decide +kernel
set_option maxRecDepth 100000 in
theorem ck_Md_table : codeB P_Md_table = true := by decide +kernel
set_option maxRecDepth 100000 in
theorem wk_Md_fault : wordsB P_Md_fault = true := by decide +kernel
set_option maxRecDepth 100000 in
theorem ck_Md_fault : codeB P_Md_fault = true := by decide +kernel
set_option maxRecDepth 100000 in
theorem wk_Md_another : wordsB P_Md_another = true := by decide +kernel
set_option maxRecDepth 100000 in
theorem ck_Md_another : codeB P_Md_another = true := by decide +kernel
set_option maxRecDepth 100000 in
theorem wk_Md_lettersThere : wordsB P_Md_lettersThere = true := by decide +kernel
set_option maxRecDepth 100000 in
theorem ck_Md_lettersThere : codeB P_Md_lettersThere = true := by decide +kernel
set_option maxRecDepth 100000 in
theorem wk_Md_unlike : wordsB P_Md_unlike = true := by decide +kernel
set_option maxRecDepth 100000 in
theorem ck_Md_unlike : codeB P_Md_unlike = true := by decide +kernel
set_option maxRecDepth 100000 in
theorem wk_Md_begins : wordsB P_Md_begins = true := by decide +kernel
set_option maxRecDepth 100000 in
theorem ck_Md_begins : codeB P_Md_begins = true := by decide +kernel
set_option maxRecDepth 100000 in
theorem wk_Md_ends : wordsB P_Md_ends = true := by decide +kernel
set_option maxRecDepth 100000 in
theorem ck_Md_ends : codeB P_Md_ends = true := by decide +kernel
set_option maxRecDepth 100000 in
theorem wk_Md_isFree : wordsB P_Md_isFree = true := by decide +kernel
set_option maxRecDepth 100000 in
theorem ck_Md_isFree : codeB P_Md_isFree = true := by decide +kernel
set_option maxRecDepth 100000 in
theorem wk_Md_group : wordsB P_Md_group = true := by decide +kernel
set_option maxRecDepth 100000 in
theorem ck_Md_group : codeB P_Md_group = true := by decide +kernel
set_option maxRecDepth 100000 in
theorem wk_Md_about : wordsB P_Md_about = true := by decide +kernel
set_option maxRecDepth 100000 in
theorem ck_Md_about : codeB P_Md_about = true := by decide +kernel
set_option maxRecDepth 100000 in
theorem wk_Md_meets : wordsB P_Md_meets = true := by decide +kernel
set_option maxRecDepth 100000 in
theorem ck_Md_meets : codeB P_Md_meets = true := by decide +kernel
set_option maxRecDepth 100000 in
theorem wk_Md_tailSize : wordsB P_Md_tailSize = true := by decide +kernel
set_option maxRecDepth 100000 in
theorem ck_Md_tailSize : codeB P_Md_tailSize = true := by decide +kernel
set_option maxRecDepth 100000 in
theorem wk_Md_tailLetter : wordsB P_Md_tailLetter = true := by decide +kernel
set_option maxRecDepth 100000 in
theorem ck_Md_tailLetter : codeB P_Md_tailLetter = true := by decide +kernel
set_option maxRecDepth 100000 in
theorem wk_Md_against : wordsB P_Md_against = true := by decide +kernel
set_option maxRecDepth 100000 in
theorem ck_Md_against : codeB P_Md_against = true := by decide +kernel
set_option maxRecDepth 100000 in
theorem wk_Md_layEnds : wordsB P_Md_layEnds = true := by decide +kernel
set_option maxRecDepth 100000 in
theorem ck_Md_layEnds : codeB P_Md_layEnds = true := by decide +kernel
set_option maxRecDepth 100000 in
theorem wk_Md_leftOf : wordsB P_Md_leftOf = true := by decide +kernel
set_option maxRecDepth 100000 in
theorem ck_Md_leftOf : codeB P_Md_leftOf = true := by decide +kernel
set_option maxRecDepth 100000 in
theorem wk_Md_layTails : wordsB P_Md_layTails = true := by decide +kernel
set_option maxRecDepth 100000 in
theorem ck_Md_layTails : codeB P_Md_layTails = true := by decide +kernel
set_option maxRecDepth 100000 in
theorem wk_Md_goesOn : wordsB P_Md_goesOn = true := by decide +kernel
set_option maxRecDepth 100000 in
theorem ck_Md_goesOn : codeB P_Md_goesOn = true := by decide +kernel
set_option maxRecDepth 100000 in
theorem wk_Md_parts : wordsB P_Md_parts = true := by decide +kernel
set_option maxRecDepth 100000 in
theorem ck_Md_parts : codeB P_Md_parts = true := by decide +kernel
set_option maxRecDepth 100000 in
theorem wk_Md_tails : wordsB P_Md_tails = true := by decide +kernel
set_option maxRecDepth 100000 in
theorem ck_Md_tails : codeB P_Md_tails = true := by decide +kernel
set_option maxRecDepth 100000 in
theorem wk_Md_tail : wordsB P_Md_tail = true := by decide +kernel
set_option maxRecDepth 100000 in
theorem ck_Md_tail : codeB P_Md_tail = true := by decide +kernel
set_option maxRecDepth 100000 in
theorem wk_Md_doubt : wordsB P_Md_doubt = true := by decide +kernel
set_option maxRecDepth 100000 in
theorem ck_Md_doubt : codeB P_Md_doubt = true := by decide +kernel
set_option maxRecDepth 100000 in
theorem wk_Md_tries : wordsB P_Md_tries = true := by decide +kernel
set_option maxRecDepth 100000 in
theorem ck_Md_tries : codeB P_Md_tries = true := by decide +kernel
set_option maxRecDepth 100000 in
theorem wk_Md_isBefore : wordsB P_Md_isBefore = true := by decide +kernel
set_option maxRecDepth 100000 in
theorem ck_Md_isBefore : codeB P_Md_isBefore = true := by decide +kernel
set_option maxRecDepth 100000 in
theorem wk_Md_takes : wordsB P_Md_takes = true := by decide +kernel
set_option maxRecDepth 100000 in
theorem ck_Md_takes : codeB P_Md_takes = true := by decide +kernel
set_option maxRecDepth 100000 in
theorem wk_Md_layBest : wordsB P_Md_layBest = true := by decide +kernel
set_option maxRecDepth 100000 in
theorem ck_Md_layBest : codeB P_Md_layBest = true := by decide +kernel
set_option maxRecDepth 100000 in
theorem wk_Md_takesWord : wordsB P_Md_takesWord = true := by decide +kernel
set_option maxRecDepth 100000 in
theorem ck_Md_takesWord : codeB P_Md_takesWord = true := by decide +kernel
set_option maxRecDepth 100000 in
theorem wk_Md_witness : wordsB P_Md_witness = true := by decide +kernel
set_option maxRecDepth 100000 in
theorem ck_Md_witness : codeB P_Md_witness = true := by decide +kernel
set_option maxRecDepth 100000 in
theorem wk_Md_look : wordsB P_Md_look = true := by decide +kernel
set_option maxRecDepth 100000 in
theorem ck_Md_look : codeB P_Md_look = true := by decide +kernel
set_option maxRecDepth 100000 in
theorem wk_Md_common : wordsB P_Md_common = true := by decide +kernel
set_option maxRecDepth 100000 in
theorem ck_Md_common : codeB P_Md_common = true := by decide +kernel
set_option maxRecDepth 100000 in
theorem wk_Md_share : wordsB P_Md_share = true := by decide +kernel
set_option maxRecDepth 100000 in
theorem ck_Md_share : codeB P_Md_share = true := by decide +kernel
set_option maxRecDepth 100000 in
theorem wk_Md_stands : wordsB P_Md_stands = true := by decide +kernel
set_option maxRecDepth 100000 in
theorem ck_Md_stands : codeB P_Md_stands = true := by decide +kernel
set_option maxRecDepth 100000 in
theorem wk_Md_layWays : wordsB P_Md_layWays = true := by decide +kernel
set_option maxRecDepth 100000 in
theorem ck_Md_layWays : codeB P_Md_layWays = true := by decide +kernel
set_option maxRecDepth 100000 in
theorem wk_Md_word : wordsB P_Md_word = true := by decide +kernel
set_option maxRecDepth 100000 in
theorem ck_Md_word : codeB P_Md_word = true := by decide +kernel
set_option maxRecDepth 100000 in
theorem wk_Md_letter : wordsB P_Md_letter = true := by decide +kernel
set_option maxRecDepth 100000 in
theorem ck_Md_letter : codeB P_Md_letter = true := by decide +kernel
set_option maxRecDepth 100000 in
theorem wk_Md_readings : wordsB P_Md_readings = true := by decide +kernel
set_option maxRecDepth 100000 in
theorem ck_Md_readings : codeB P_Md_readings = true := by decide +kernel
set_option maxRecDepth 100000 in
theorem wk_Md_goesBy : wordsB P_Md_goesBy = true := by decide +kernel
set_option maxRecDepth 100000 in
theorem ck_Md_goesBy : codeB P_Md_goesBy = true := by decide +kernel
set_option maxRecDepth 100000 in
theorem wk_Md_reading : wordsB P_Md_reading = true := by decide +kernel
set_option maxRecDepth 100000 in
theorem ck_Md_reading : codeB P_Md_reading = true := by decide +kernel
set_option maxRecDepth 100000 in
theorem wk_Md_sounds : wordsB P_Md_sounds = true := by decide +kernel
set_option maxRecDepth 100000 in
theorem ck_Md_sounds : codeB P_Md_sounds = true := by decide +kernel
set_option maxRecDepth 100000 in
theorem wk_Md_takenAt : wordsB P_Md_takenAt = true := by decide +kernel
set_option maxRecDepth 100000 in
theorem ck_Md_takenAt : codeB P_Md_takenAt = true := by decide +kernel
set_option maxRecDepth 100000 in
theorem wk_Md_reads : wordsB P_Md_reads = true := by decide +kernel
set_option maxRecDepth 100000 in
theorem ck_Md_reads : codeB P_Md_reads = true := by decide +kernel
set_option maxRecDepth 100000 in
theorem wk_Md_took : wordsB P_Md_took = true := by decide +kernel
set_option maxRecDepth 100000 in
theorem ck_Md_took : codeB P_Md_took = true := by decide +kernel
set_option maxRecDepth 100000 in
theorem wk_Md_layCover : wordsB P_Md_layCover = true := by decide +kernel
set_option maxRecDepth 100000 in
theorem ck_Md_layCover : codeB P_Md_layCover = true := by decide +kernel
set_option maxRecDepth 100000 in
theorem wk_Md_coversBy : wordsB P_Md_coversBy = true := by decide +kernel
set_option maxRecDepth 100000 in
theorem ck_Md_coversBy : codeB P_Md_coversBy = true := by decide +kernel
set_option maxRecDepth 100000 in
theorem wk_Md_takesLeast : wordsB P_Md_takesLeast = true := by decide +kernel
set_option maxRecDepth 100000 in
theorem ck_Md_takesLeast : codeB P_Md_takesLeast = true := by decide +kernel
set_option maxRecDepth 100000 in
theorem wk_Md_foolsBy : wordsB P_Md_foolsBy = true := by decide +kernel
set_option maxRecDepth 100000 in
theorem ck_Md_foolsBy : codeB P_Md_foolsBy = true := by decide +kernel
set_option maxRecDepth 100000 in
theorem wk_Md_fool : wordsB P_Md_fool = true := by decide +kernel
set_option maxRecDepth 100000 in
theorem ck_Md_fool : codeB P_Md_fool = true := by decide +kernel
set_option maxRecDepth 100000 in
theorem wk_Md_goes : wordsB P_Md_goes = true := by decide +kernel
set_option maxRecDepth 100000 in
theorem ck_Md_goes : codeB P_Md_goes = true := by decide +kernel
set_option maxRecDepth 100000 in
theorem wk_Md_isSpelling : wordsB P_Md_isSpelling = true := by decide +kernel
set_option maxRecDepth 100000 in
theorem ck_Md_isSpelling : codeB P_Md_isSpelling = true := by decide +kernel
set_option maxRecDepth 100000 in
theorem wk_Md_ofSound : wordsB P_Md_ofSound = true := by decide +kernel
set_option maxRecDepth 100000 in
theorem ck_Md_ofSound : codeB P_Md_ofSound = true := by decide +kernel
set_option maxRecDepth 100000 in
theorem wk_Md_spell : wordsB P_Md_spell = true := by decide +kernel
set_option maxRecDepth 100000 in
theorem ck_Md_spell : codeB P_Md_spell = true := by decide +kernel
set_option maxRecDepth 100000 in
theorem wk_Md_drawn : wordsB P_Md_drawn = true := by decide +kernel
set_option maxRecDepth 100000 in
theorem ck_Md_drawn : codeB P_Md_drawn = true := by decide +kernel
set_option maxRecDepth 100000 in
theorem wk_Md_layNodes : wordsB P_Md_layNodes = true := by decide +kernel
set_option maxRecDepth 100000 in
theorem ck_Md_layNodes : codeB P_Md_layNodes = true := by decide +kernel
set_option maxRecDepth 100000 in
theorem wk_Md_often : wordsB P_Md_often = true := by decide +kernel
set_option maxRecDepth 100000 in
theorem ck_Md_often : codeB P_Md_often = true := by decide +kernel
set_option maxRecDepth 100000 in
theorem wk_Md_oftenAt : wordsB P_Md_oftenAt = true := by decide +kernel
set_option maxRecDepth 100000 in
theorem ck_Md_oftenAt : codeB P_Md_oftenAt = true := by decide +kernel
set_option maxRecDepth 100000 in
theorem wk_Md_adds : wordsB P_Md_adds = true := by decide +kernel
set_option maxRecDepth 100000 in
theorem ck_Md_adds : codeB P_Md_adds = true := by decide +kernel
set_option maxRecDepth 100000 in
theorem wk_Md_steps : wordsB P_Md_steps = true := by decide +kernel
set_option maxRecDepth 100000 in
theorem ck_Md_steps : codeB P_Md_steps = true := by decide +kernel
set_option maxRecDepth 100000 in
theorem wk_Md_empties : wordsB P_Md_empties = true := by decide +kernel
set_option maxRecDepth 100000 in
theorem ck_Md_empties : codeB P_Md_empties = true := by decide +kernel
set_option maxRecDepth 100000 in
theorem wk_Md_isThere : wordsB P_Md_isThere = true := by decide +kernel
set_option maxRecDepth 100000 in
theorem ck_Md_isThere : codeB P_Md_isThere = true := by decide +kernel
end
section
/-! the program is what the Statement has, further -/
set_option maxRecDepth 100000 in
theorem wk_Md_counts : wordsB P_Md_counts = true := by decide +kernel
set_option maxRecDepth 100000 in
theorem ck_Md_counts : codeB P_Md_counts = true := by decide +kernel
set_option maxRecDepth 100000 in
theorem wk_Md_countFrom : wordsB P_Md_countFrom = true := by decide +kernel
set_option maxRecDepth 100000 in
theorem ck_Md_countFrom : codeB P_Md_countFrom = true := by decide +kernel
set_option maxRecDepth 100000 in
theorem wk_Md_startsAnew : wordsB P_Md_startsAnew = true := by decide +kernel
set_option maxRecDepth 100000 in
theorem ck_Md_startsAnew : codeB P_Md_startsAnew = true := by decide +kernel
set_option maxRecDepth 100000 in
theorem wk_Md_words : wordsB P_Md_words = true := by decide +kernel
set_option maxRecDepth 100000 in
theorem ck_Md_words : codeB P_Md_words = true := by decide +kernel
set_option maxRecDepth 100000 in
theorem wk_Md_behindBy : wordsB P_Md_behindBy = true := by decide +kernel
set_option maxRecDepth 100000 in
theorem ck_Md_behindBy : codeB P_Md_behindBy = true := by decide +kernel
set_option maxRecDepth 100000 in
theorem wk_Md_goesThere : wordsB P_Md_goesThere = true := by decide +kernel
set_option maxRecDepth 100000 in
theorem ck_Md_goesThere : codeB P_Md_goesThere = true := by decide +kernel
set_option maxRecDepth 100000 in
theorem wk_Md_nth : wordsB P_Md_nth = true := by decide +kernel
set_option maxRecDepth 100000 in
theorem ck_Md_nth : codeB P_Md_nth = true := by decide +kernel
set_option maxRecDepth 100000 in
theorem wk_Md_place : wordsB P_Md_place = true := by decide +kernel
set_option maxRecDepth 100000 in
theorem ck_Md_place : codeB P_Md_place = true := by decide +kernel
set_option maxRecDepth 100000 in
theorem wk_Md_unpack : wordsB P_Md_unpack = true := by decide +kernel
set_option maxRecDepth 100000 in
theorem ck_Md_unpack : codeB P_Md_unpack = true := by decide +kernel
set_option maxRecDepth 100000 in
theorem wk_Md_meetsEnd : wordsB P_Md_meetsEnd = true := by decide +kernel
set_option maxRecDepth 100000 in
theorem ck_Md_meetsEnd : codeB P_Md_meetsEnd = true := by decide +kernel
set_option maxRecDepth 100000 in
theorem wk_Md_layEndsOf : wordsB P_Md_layEndsOf = true := by decide +kernel
set_option maxRecDepth 100000 in
theorem ck_Md_layEndsOf : codeB P_Md_layEndsOf = true := by decide +kernel
set_option maxRecDepth 100000 in
theorem wk_Md_isWithin : wordsB P_Md_isWithin = true := by decide +kernel
set_option maxRecDepth 100000 in
theorem ck_Md_isWithin : codeB P_Md_isWithin = true := by decide +kernel
set_option maxRecDepth 100000 in
theorem wk_Md_layBorders : wordsB P_Md_layBorders = true := by decide +kernel
set_option maxRecDepth 100000 in
theorem ck_Md_layBorders : codeB P_Md_layBorders = true := by decide +kernel
set_option maxRecDepth 100000 in
theorem wk_Md_puts : wordsB P_Md_puts = true := by decide +kernel
set_option maxRecDepth 100000 in
theorem ck_Md_puts : codeB P_Md_puts = true := by decide +kernel
set_option maxRecDepth 100000 in
theorem wk_Md_borders : wordsB P_Md_borders = true := by decide +kernel
set_option maxRecDepth 100000 in
theorem ck_Md_borders : codeB P_Md_borders = true := by decide +kernel
set_option maxRecDepth 100000 in
theorem wk_Md_border : wordsB P_Md_border = true := by decide +kernel
set_option maxRecDepth 100000 in
theorem ck_Md_border : codeB P_Md_border = true := by decide +kernel
set_option maxRecDepth 100000 in
theorem wk_Md_comesIn : wordsB P_Md_comesIn = true := by decide +kernel
set_option maxRecDepth 100000 in
theorem ck_Md_comesIn : codeB P_Md_comesIn = true := by decide +kernel
set_option maxRecDepth 100000 in
theorem wk_Md_partsNow : wordsB P_Md_partsNow = true := by decide +kernel
set_option maxRecDepth 100000 in
theorem ck_Md_partsNow : codeB P_Md_partsNow = true := by decide +kernel
set_option maxRecDepth 100000 in
theorem wk_Md_marks : wordsB P_Md_marks = true := by decide +kernel
set_option maxRecDepth 100000 in
theorem ck_Md_marks : codeB P_Md_marks = true := by decide +kernel
set_option maxRecDepth 100000 in
theorem wk_Md_unmarks : wordsB P_Md_unmarks = true := by decide +kernel
set_option maxRecDepth 100000 in
theorem ck_Md_unmarks : codeB P_Md_unmarks = true := by decide +kernel
set_option maxRecDepth 100000 in
theorem wk_Md_does : wordsB P_Md_does = true := by decide +kernel
set_option maxRecDepth 100000 in
theorem ck_Md_does : codeB P_Md_does = true := by decide +kernel
set_option maxRecDepth 100000 in
theorem wk_Md_isCure : wordsB P_Md_isCure = true := by decide +kernel
set_option maxRecDepth 100000 in
theorem ck_Md_isCure : codeB P_Md_isCure = true := by decide +kernel
set_option maxRecDepth 100000 in
theorem wk_Md_cureOf : wordsB P_Md_cureOf = true := by decide +kernel
set_option maxRecDepth 100000 in
theorem ck_Md_cureOf : codeB P_Md_cureOf = true := by decide +kernel
set_option maxRecDepth 100000 in
theorem wk_Md_cure : wordsB P_Md_cure = true := by decide +kernel
set_option maxRecDepth 100000 in
theorem ck_Md_cure : codeB P_Md_cure = true := by decide +kernel
set_option maxRecDepth 100000 in
theorem wk_Md_keep : wordsB P_Md_keep = true := by decide +kernel
set_option maxRecDepth 100000 in
theorem ck_Md_keep : codeB P_Md_keep = true := by decide +kernel
set_option maxRecDepth 100000 in
theorem wk_Md_mend : wordsB P_Md_mend = true := by decide +kernel
set_option maxRecDepth 100000 in
theorem ck_Md_mend : codeB P_Md_mend = true := by decide +kernel
set_option maxRecDepth 100000 in
theorem wk_Md_out : wordsB P_Md_out = true := by decide +kernel
set_option maxRecDepth 100000 in
theorem ck_Md_out : codeB P_Md_out = true := by decide +kernel
set_option maxRecDepth 100000 in
theorem wk_Md_undo : wordsB P_Md_undo = true := by decide +kernel
set_option maxRecDepth 100000 in
theorem ck_Md_undo : codeB P_Md_undo = true := by decide +kernel
set_option maxRecDepth 100000 in
theorem wk_Ji_bitCount : wordsB P_Ji_bitCount = true := by decide +kernel
set_option maxRecDepth 100000 in
theorem ck_Ji_bitCount : codeB P_Ji_bitCount = true := by decide +kernel
set_option maxRecDepth 100000 in
theorem wk_Ja_rangeCheck : wordsB P_Ja_rangeCheck = true := by decide +kernel
set_option maxRecDepth 100000 in
theorem ck_Ja_rangeCheck : codeB P_Ja_rangeCheck = true := by decide +kernel
set_option maxRecDepth 100000 in
theorem wk_Ja_fillI : wordsB P_Ja_fillI = true := by decide +kernel
set_option maxRecDepth 100000 in
theorem ck_Ja_fillI : codeB P_Ja_fillI = true := by decide +kernel
set_option maxRecDepth 100000 in
theorem wk_Ja_fillZ : wordsB P_Ja_fillZ = true := by decide +kernel
set_option maxRecDepth 100000 in
theorem ck_Ja_fillZ : codeB P_Ja_fillZ = true := by decide +kernel
set_option maxRecDepth 100000 in
theorem wk_Ja_fillZr : wordsB P_Ja_fillZr = true := by decide +kernel
set_option maxRecDepth 100000 in
theorem ck_Ja_fillZr : codeB P_Ja_fillZr = true := by decide +kernel
set_option maxRecDepth 100000 in
theorem wk_Ja_copyB : wordsB P_Ja_copyB = true := by decide +kernel
set_option maxRecDepth 100000 in
theorem ck_Ja_copyB : codeB P_Ja_copyB = true := by decide +kernel
set_option maxRecDepth 100000 in
theorem wk_Ja_copyI : wordsB P_Ja_copyI = true := by decide +kernel
set_option maxRecDepth 100000 in
theorem ck_Ja_copyI : codeB P_Ja_copyI = true := by decide +kernel
end
section
/-! the law checks, by stretches -/
def codeBr (M : PM) (a n : Nat) : Bool := (((m_code M).drop a).take n).zipIdx.all (fun q => chkI mOf mlT mlN M (a + q.2) q.1)
set_option maxRecDepth 100000 in
theorem lk_0 : codeBr P_Lw_law 0 120 = true := by decide +kernel
set_option maxRecDepth 100000 in
theorem lk_120 : codeBr P_Lw_law 120 120 = true := by decide +kernel
set_option maxRecDepth 100000 in
theorem lk_240 : codeBr P_Lw_law 240 120 = true := by decide +kernel
set_option maxRecDepth 100000 in
theorem lk_360 : codeBr P_Lw_law 360 120 = true := by decide +kernel
end
section
/-! the law checks, by stretches -/
set_option maxRecDepth 100000 in
theorem lk_480 : codeBr P_Lw_law 480 120 = true := by decide +kernel
set_option maxRecDepth 100000 in
theorem lk_600 : codeBr P_Lw_law 600 120 = true := by decide +kernel
set_option maxRecDepth 100000 in
theorem lk_720 : codeBr P_Lw_law 720 120 = true := by decide +kernel
end
section
/-! the law checks, by stretches -/
set_option maxRecDepth 100000 in
theorem lk_840 : codeBr P_Lw_law 840 120 = true := by decide +kernel
set_option maxRecDepth 100000 in
theorem lk_960 : codeBr P_Lw_law 960 120 = true := by decide +kernel
set_option maxRecDepth 100000 in
theorem lk_1080 : codeBr P_Lw_law 1080 120 = true := by decide +kernel
end
section
/-! the whole program checks -/
def QM (M : PM) : Prop := codeB M = true ∧ wordsB M = true
theorem mT_0_ok : ∀ M ∈ mT_0, QM M := fmc (P := QM) ⟨ck_Bo_init, wk_Bo_init⟩ <| fmc (P := QM) ⟨ck_Bo_build, wk_Bo_build⟩ <| fmc (P := QM) ⟨ck_Bo_clear, wk_Bo_clear⟩ <| fmc (P := QM) ⟨ck_Bo_put, wk_Bo_put⟩ <| fmc (P := QM) ⟨ck_Bo_has, wk_Bo_has⟩ <| fmc (P := QM) ⟨ck_Bo_isEmpty, wk_Bo_isEmpty⟩ <| fmc (P := QM) ⟨ck_Bo_lengthen, wk_Bo_lengthen⟩ <| fmc (P := QM) ⟨ck_Bo_putAhead, wk_Bo_putAhead⟩ <| fmc (P := QM) ⟨ck_Bo_keep, wk_Bo_keep⟩ <| fmc (P := QM) ⟨ck_Bo_sort, wk_Bo_sort⟩ <| fmc (P := QM) ⟨ck_Bo_findStarts, wk_Bo_findStarts⟩ <| fmc (P := QM) ⟨ck_Bo_sizeOf, wk_Bo_sizeOf⟩ <| fmc (P := QM) ⟨ck_Bo_indexOf, wk_Bo_indexOf⟩ <| fmc (P := QM) ⟨ck_Bo_codeAt, wk_Bo_codeAt⟩ <| fmc (P := QM) ⟨ck_Ce_init, wk_Ce_init⟩ <| fmc (P := QM) ⟨ck_Ce_build, wk_Ce_build⟩ <| fmc (P := QM) ⟨ck_Ce_keyBehind, wk_Ce_keyBehind⟩ <| fmc (P := QM) ⟨ck_Ce_stateOf, wk_Ce_stateOf⟩ <| fmc (P := QM) ⟨ck_Ce_growStates, wk_Ce_growStates⟩ <| fmc (P := QM) ⟨ck_Ce_growSlots, wk_Ce_growSlots⟩ <| fmc (P := QM) ⟨ck_Ce_addEdge, wk_Ce_addEdge⟩ <| fmc (P := QM) ⟨ck_Ce_countFrom, wk_Ce_countFrom⟩ <| fmc (P := QM) ⟨ck_Ce_amount, wk_Ce_amount⟩ <| fmc (P := QM) ⟨ck_Ce_bringTo, wk_Ce_bringTo⟩ <| fmc (P := QM) ⟨ck_Ce_rankOf, wk_Ce_rankOf⟩ <| fmc (P := QM) ⟨ck_Cu_init, wk_Cu_init⟩ <| fmc (P := QM) ⟨ck_Cu_fewest, wk_Cu_fewest⟩ <| fmc (P := QM) ⟨ck_Cu_findChoosable, wk_Cu_findChoosable⟩ <| fmc (P := QM) ⟨ck_Cu_searchOfSize, wk_Cu_searchOfSize⟩ <| fmc (P := QM) ⟨ck_Cu_chosenMask, wk_Cu_chosenMask⟩ <| fmc (P := QM) ⟨ck_Cu_chooseNext, wk_Cu_chooseNext⟩ <| fmc (P := QM) ⟨ck_Cu_isRefuted, wk_Cu_isRefuted⟩ <| fmn
theorem mT_1_ok : ∀ M ∈ mT_1, QM M := fmc (P := QM) ⟨ck_Cu_heals, wk_Cu_heals⟩ <| fmc (P := QM) ⟨ck_Gr_init, wk_Gr_init⟩ <| fmc (P := QM) ⟨ck_Gr_has, wk_Gr_has⟩ <| fmc (P := QM) ⟨ck_Gr_isIn, wk_Gr_isIn⟩ <| fmc (P := QM) ⟨ck_Gr_takeTold, wk_Gr_takeTold⟩ <| fmc (P := QM) ⟨ck_Gr_copyFrom, wk_Gr_copyFrom⟩ <| fmc (P := QM) ⟨ck_Gr_act, wk_Gr_act⟩ <| fmc (P := QM) ⟨ck_Gr_takeBackAct, wk_Gr_takeBackAct⟩ <| fmc (P := QM) ⟨ck_Gr_change, wk_Gr_change⟩ <| fmc (P := QM) ⟨ck_Gr_unmark, wk_Gr_unmark⟩ <| fmc (P := QM) ⟨ck_Gr_unlikeLetters, wk_Gr_unlikeLetters⟩ <| fmc (P := QM) ⟨ck_Gr_groupBegins, wk_Gr_groupBegins⟩ <| fmc (P := QM) ⟨ck_Gr_noneBeginsAnother, wk_Gr_noneBeginsAnother⟩ <| fmc (P := QM) ⟨ck_Gr_noneEndsAnother, wk_Gr_noneEndsAnother⟩ <| fmc (P := QM) ⟨ck_Gr_overlap, wk_Gr_overlap⟩ <| fmc (P := QM) ⟨ck_Gr_inByNumber, wk_Gr_inByNumber⟩ <| fmc (P := QM) ⟨ck_Re_init, wk_Re_init⟩ <| fmc (P := QM) ⟨ck_Re_isKind, wk_Re_isKind⟩ <| fmc (P := QM) ⟨ck_Re_prefers, wk_Re_prefers⟩ <| fmc (P := QM) ⟨ck_Re_choose, wk_Re_choose⟩ <| fmc (P := QM) ⟨ck_Re_countTaken, wk_Re_countTaken⟩ <| fmc (P := QM) ⟨ck_Re_takenAt, wk_Re_takenAt⟩ <| fmc (P := QM) ⟨ck_Re_findFool, wk_Re_findFool⟩ <| fmc (P := QM) ⟨ck_Re_startTrial, wk_Re_startTrial⟩ <| fmc (P := QM) ⟨ck_Re_coverRest, wk_Re_coverRest⟩ <| fmc (P := QM) ⟨ck_Re_coverWith, wk_Re_coverWith⟩ <| fmc (P := QM) ⟨ck_Re_keepBetter, wk_Re_keepBetter⟩ <| fmc (P := QM) ⟨ck_Re_trialIsEarlier, wk_Re_trialIsEarlier⟩ <| fmc (P := QM) ⟨ck_Re_copyTo, wk_Re_copyTo⟩ <| fmc (P := QM) ⟨ck_Sp_init, wk_Sp_init⟩ <| fmc (P := QM) ⟨ck_Sp_ask, wk_Sp_ask⟩ <| fmc (P := QM) ⟨ck_Sp_search, wk_Sp_search⟩ <| fmn
theorem mT_2_ok : ∀ M ∈ mT_2, QM M := fmc (P := QM) ⟨ck_Sp_shortestOf, wk_Sp_shortestOf⟩ <| fmc (P := QM) ⟨ck_Sp_goOn, wk_Sp_goOn⟩ <| fmc (P := QM) ⟨ck_Sp_countNew, wk_Sp_countNew⟩ <| fmc (P := QM) ⟨ck_Sp_copyTo, wk_Sp_copyTo⟩ <| fmc (P := QM) ⟨ck_Ta_init, wk_Ta_init⟩ <| fmc (P := QM) ⟨ck_Ta_build, wk_Ta_build⟩ <| fmc (P := QM) ⟨ck_Ta_addFirstRound, wk_Ta_addFirstRound⟩ <| fmc (P := QM) ⟨ck_Ta_addNextRound, wk_Ta_addNextRound⟩ <| fmc (P := QM) ⟨ck_Ta_add, wk_Ta_add⟩ <| fmc (P := QM) ⟨ck_Ta_find, wk_Ta_find⟩ <| fmc (P := QM) ⟨ck_Ta_sortAsInDictionary, wk_Ta_sortAsInDictionary⟩ <| fmc (P := QM) ⟨ck_Ta_seekDoubt, wk_Ta_seekDoubt⟩ <| fmc (P := QM) ⟨ck_Ta_sizeOf, wk_Ta_sizeOf⟩ <| fmc (P := QM) ⟨ck_Ta_indexOf, wk_Ta_indexOf⟩ <| fmc (P := QM) ⟨ck_Ta_lookAhead, wk_Ta_lookAhead⟩ <| fmc (P := QM) ⟨ck_Ta_inCommon, wk_Ta_inCommon⟩ <| fmc (P := QM) ⟨ck_Ta_prepareSteps, wk_Ta_prepareSteps⟩ <| fmc (P := QM) ⟨ck_Ta_deepen, wk_Ta_deepen⟩ <| fmc (P := QM) ⟨ck_Te_init, wk_Te_init⟩ <| fmc (P := QM) ⟨ck_Te_tell, wk_Te_tell⟩ <| fmc (P := QM) ⟨ck_Te_rowStop, wk_Te_rowStop⟩ <| fmc (P := QM) ⟨ck_Te_rowCode, wk_Te_rowCode⟩ <| fmc (P := QM) ⟨ck_Te_takeRow, wk_Te_takeRow⟩ <| fmc (P := QM) ⟨ck_Te_takeLine, wk_Te_takeLine⟩ <| fmc (P := QM) ⟨ck_Te_takeName, wk_Te_takeName⟩ <| fmc (P := QM) ⟨ck_Te_takeGroup, wk_Te_takeGroup⟩ <| fmc (P := QM) ⟨ck_Te_takeSign, wk_Te_takeSign⟩ <| fmc (P := QM) ⟨ck_Tr_init, wk_Tr_init⟩ <| fmc (P := QM) ⟨ck_Tr_build, wk_Tr_build⟩ <| fmc (P := QM) ⟨ck_Tr_plant, wk_Tr_plant⟩ <| fmc (P := QM) ⟨ck_Tr_linkSuffixes, wk_Tr_linkSuffixes⟩ <| fmc (P := QM) ⟨ck_Tr_listBySign, wk_Tr_listBySign⟩ <| fmn
theorem mT_3_ok : ∀ M ∈ mT_3, QM M := fmc (P := QM) ⟨ck_Tr_isUsed, wk_Tr_isUsed⟩ <| fmc (P := QM) ⟨ck_Tr_next, wk_Tr_next⟩ <| fmc (P := QM) ⟨ck_Tr_back, wk_Tr_back⟩ <| fmc (P := QM) ⟨ck_Tw_init, wk_Tw_init⟩ <| fmc (P := QM) ⟨ck_Tw_find, wk_Tw_find⟩ <| fmc (P := QM) ⟨ck_Tw_goOn, wk_Tw_goOn⟩ <| fmc (P := QM) ⟨ck_Tw_step, wk_Tw_step⟩ <| fmc (P := QM) ⟨ck_Tw_push, wk_Tw_push⟩ <| fmc (P := QM) ⟨ck_Tw_copyTo, wk_Tw_copyTo⟩ <| fmc (P := QM) ⟨ck_Wo_init, wk_Wo_init⟩ <| fmc (P := QM) ⟨ck_Wo_clear, wk_Wo_clear⟩ <| fmc (P := QM) ⟨ck_Wo_add, wk_Wo_add⟩ <| fmc (P := QM) ⟨ck_Wo_addRow, wk_Wo_addRow⟩ <| fmc (P := QM) ⟨ck_Wo_standing, wk_Wo_standing⟩ <| fmc (P := QM) ⟨ck_Wo_fits, wk_Wo_fits⟩ <| fmc (P := QM) ⟨ck_Wo_countWays, wk_Wo_countWays⟩ <| fmc (P := QM) ⟨ck_Wo_sumWithoutWrap, wk_Wo_sumWithoutWrap⟩ <| fmc (P := QM) ⟨ck_Wo_groupOfReading, wk_Wo_groupOfReading⟩ <| fmc (P := QM) ⟨ck_Wo_groupToward, wk_Wo_groupToward⟩ <| fmc (P := QM) ⟨ck_Wo_unlikeSoundRows, wk_Wo_unlikeSoundRows⟩ <| fmc (P := QM) ⟨ck_Wo_longestBeginning, wk_Wo_longestBeginning⟩ <| fmc (P := QM) ⟨ck_Ow_init, wk_Ow_init⟩ <| fmc (P := QM) ⟨ck_Ow_feed, wk_Ow_feed⟩ <| fmc (P := QM) ⟨ck_Ow_end, wk_Ow_end⟩ <| fmc (P := QM) ⟨ck_Ow_table, wk_Ow_table⟩ <| fmc (P := QM) ⟨ck_Ow_fault, wk_Ow_fault⟩ <| fmc (P := QM) ⟨ck_Ow_group, wk_Ow_group⟩ <| fmc (P := QM) ⟨ck_Ow_about, wk_Ow_about⟩ <| fmc (P := QM) ⟨ck_Ow_meets, wk_Ow_meets⟩ <| fmc (P := QM) ⟨ck_Ow_parts, wk_Ow_parts⟩ <| fmc (P := QM) ⟨ck_Ow_tails, wk_Ow_tails⟩ <| fmc (P := QM) ⟨ck_Ow_tail, wk_Ow_tail⟩ <| fmn
theorem mT_4_ok : ∀ M ∈ mT_4, QM M := fmc (P := QM) ⟨ck_Ow_doubt, wk_Ow_doubt⟩ <| fmc (P := QM) ⟨ck_Ow_witness, wk_Ow_witness⟩ <| fmc (P := QM) ⟨ck_Ow_look, wk_Ow_look⟩ <| fmc (P := QM) ⟨ck_Ow_share, wk_Ow_share⟩ <| fmc (P := QM) ⟨ck_Ow_word, wk_Ow_word⟩ <| fmc (P := QM) ⟨ck_Ow_letter, wk_Ow_letter⟩ <| fmc (P := QM) ⟨ck_Ow_readings, wk_Ow_readings⟩ <| fmc (P := QM) ⟨ck_Ow_reading, wk_Ow_reading⟩ <| fmc (P := QM) ⟨ck_Ow_sounds, wk_Ow_sounds⟩ <| fmc (P := QM) ⟨ck_Ow_reads, wk_Ow_reads⟩ <| fmc (P := QM) ⟨ck_Ow_took, wk_Ow_took⟩ <| fmc (P := QM) ⟨ck_Ow_fool, wk_Ow_fool⟩ <| fmc (P := QM) ⟨ck_Ow_goes, wk_Ow_goes⟩ <| fmc (P := QM) ⟨ck_Ow_spell, wk_Ow_spell⟩ <| fmc (P := QM) ⟨ck_Ow_drawn, wk_Ow_drawn⟩ <| fmc (P := QM) ⟨ck_Ow_words, wk_Ow_words⟩ <| fmc (P := QM) ⟨ck_Ow_nth, wk_Ow_nth⟩ <| fmc (P := QM) ⟨ck_Ow_place, wk_Ow_place⟩ <| fmc (P := QM) ⟨ck_Ow_borders, wk_Ow_borders⟩ <| fmc (P := QM) ⟨ck_Ow_border, wk_Ow_border⟩ <| fmc (P := QM) ⟨ck_Ow_cure, wk_Ow_cure⟩ <| fmc (P := QM) ⟨ck_Ow_mend, wk_Ow_mend⟩ <| fmc (P := QM) ⟨ck_Ow_out, wk_Ow_out⟩ <| fmc (P := QM) ⟨ck_Ow_undo, wk_Ow_undo⟩ <| fmc (P := QM) ⟨ck_Ow_freshTree, wk_Ow_freshTree⟩ <| fmc (P := QM) ⟨ck_Ow_freshTails, wk_Ow_freshTails⟩ <| fmc (P := QM) ⟨ck_Ow_freshCensus, wk_Ow_freshCensus⟩ <| fmc (P := QM) ⟨ck_Ow_freshBorders, wk_Ow_freshBorders⟩ <| fmc (P := QM) ⟨ck_Ow_theReader, wk_Ow_theReader⟩ <| fmc (P := QM) ⟨ck_Ow_theCures, wk_Ow_theCures⟩ <| fmc (P := QM) ⟨ck_Ow_put, wk_Ow_put⟩ <| fmc (P := QM) ⟨ck_Ow_power, wk_Ow_power⟩ <| fmn
theorem mT_5_ok : ∀ M ∈ mT_5, QM M := fmc (P := QM) ⟨ck_Ow_commonDivisor, wk_Ow_commonDivisor⟩ <| fmc (P := QM) ⟨ck_Ow_begins, wk_Ow_begins⟩ <| fmc (P := QM) ⟨ck_Ow_ends, wk_Ow_ends⟩ <| fmc (P := QM) ⟨ck_Ow_lastOf, wk_Ow_lastOf⟩ <| fmc (P := QM) ⟨ck_Ow_signOf, wk_Ow_signOf⟩ <| fmc (P := QM) ⟨ck_Ow_shown, wk_Ow_shown⟩ <| fmc (P := QM) ⟨ck_Ow_flushLeft, wk_Ow_flushLeft⟩ <| fmc (P := QM) ⟨ck_Ow_commonLetters, wk_Ow_commonLetters⟩ <| fmc (P := QM) ⟨ck_Md_init, wk_Md_init⟩ <| fmc (P := QM) ⟨ck_Md_in, wk_Md_in⟩ <| fmc (P := QM) ⟨ck_Md_isOf, wk_Md_isOf⟩ <| fmc (P := QM) ⟨ck_Md_lesser, wk_Md_lesser⟩ <| fmc (P := QM) ⟨ck_Md_many, wk_Md_many⟩ <| fmc (P := QM) ⟨ck_Md_isGroup, wk_Md_isGroup⟩ <| fmc (P := QM) ⟨ck_Md_letterAt, wk_Md_letterAt⟩ <| fmc (P := QM) ⟨ck_Md_alike, wk_Md_alike⟩ <| fmc (P := QM) ⟨ck_Md_four, wk_Md_four⟩ <| fmc (P := QM) ⟨ck_Md_feed, wk_Md_feed⟩ <| fmc (P := QM) ⟨ck_Md_end, wk_Md_end⟩ <| fmc (P := QM) ⟨ck_Md_byteAt, wk_Md_byteAt⟩ <| fmc (P := QM) ⟨ck_Md_isSmall, wk_Md_isSmall⟩ <| fmc (P := QM) ⟨ck_Md_next, wk_Md_next⟩ <| fmc (P := QM) ⟨ck_Md_isGood, wk_Md_isGood⟩ <| fmc (P := QM) ⟨ck_Md_fails, wk_Md_fails⟩ <| fmc (P := QM) ⟨ck_Md_goOn, wk_Md_goOn⟩ <| fmc (P := QM) ⟨ck_Md_isSign, wk_Md_isSign⟩ <| fmc (P := QM) ⟨ck_Md_packed, wk_Md_packed⟩ <| fmc (P := QM) ⟨ck_Md_isShort, wk_Md_isShort⟩ <| fmc (P := QM) ⟨ck_Md_isSound, wk_Md_isSound⟩ <| fmc (P := QM) ⟨ck_Md_readName, wk_Md_readName⟩ <| fmc (P := QM) ⟨ck_Md_isTold, wk_Md_isTold⟩ <| fmc (P := QM) ⟨ck_Md_readGroup, wk_Md_readGroup⟩ <| fmn
theorem mT_6_ok : ∀ M ∈ mT_6, QM M := fmc (P := QM) ⟨ck_Md_mustBe, wk_Md_mustBe⟩ <| fmc (P := QM) ⟨ck_Md_readLine, wk_Md_readLine⟩ <| fmc (P := QM) ⟨ck_Md_table, wk_Md_table⟩ <| fmc (P := QM) ⟨ck_Md_fault, wk_Md_fault⟩ <| fmc (P := QM) ⟨ck_Md_another, wk_Md_another⟩ <| fmc (P := QM) ⟨ck_Md_lettersThere, wk_Md_lettersThere⟩ <| fmc (P := QM) ⟨ck_Md_unlike, wk_Md_unlike⟩ <| fmc (P := QM) ⟨ck_Md_begins, wk_Md_begins⟩ <| fmc (P := QM) ⟨ck_Md_ends, wk_Md_ends⟩ <| fmc (P := QM) ⟨ck_Md_isFree, wk_Md_isFree⟩ <| fmc (P := QM) ⟨ck_Md_group, wk_Md_group⟩ <| fmc (P := QM) ⟨ck_Md_about, wk_Md_about⟩ <| fmc (P := QM) ⟨ck_Md_meets, wk_Md_meets⟩ <| fmc (P := QM) ⟨ck_Md_tailSize, wk_Md_tailSize⟩ <| fmc (P := QM) ⟨ck_Md_tailLetter, wk_Md_tailLetter⟩ <| fmc (P := QM) ⟨ck_Md_against, wk_Md_against⟩ <| fmc (P := QM) ⟨ck_Md_layEnds, wk_Md_layEnds⟩ <| fmc (P := QM) ⟨ck_Md_leftOf, wk_Md_leftOf⟩ <| fmc (P := QM) ⟨ck_Md_layTails, wk_Md_layTails⟩ <| fmc (P := QM) ⟨ck_Md_goesOn, wk_Md_goesOn⟩ <| fmc (P := QM) ⟨ck_Md_parts, wk_Md_parts⟩ <| fmc (P := QM) ⟨ck_Md_tails, wk_Md_tails⟩ <| fmc (P := QM) ⟨ck_Md_tail, wk_Md_tail⟩ <| fmc (P := QM) ⟨ck_Md_doubt, wk_Md_doubt⟩ <| fmc (P := QM) ⟨ck_Md_tries, wk_Md_tries⟩ <| fmc (P := QM) ⟨ck_Md_isBefore, wk_Md_isBefore⟩ <| fmc (P := QM) ⟨ck_Md_takes, wk_Md_takes⟩ <| fmc (P := QM) ⟨ck_Md_layBest, wk_Md_layBest⟩ <| fmc (P := QM) ⟨ck_Md_takesWord, wk_Md_takesWord⟩ <| fmc (P := QM) ⟨ck_Md_witness, wk_Md_witness⟩ <| fmc (P := QM) ⟨ck_Md_look, wk_Md_look⟩ <| fmc (P := QM) ⟨ck_Md_common, wk_Md_common⟩ <| fmn
theorem mT_7_ok : ∀ M ∈ mT_7, QM M := fmc (P := QM) ⟨ck_Md_share, wk_Md_share⟩ <| fmc (P := QM) ⟨ck_Md_stands, wk_Md_stands⟩ <| fmc (P := QM) ⟨ck_Md_layWays, wk_Md_layWays⟩ <| fmc (P := QM) ⟨ck_Md_word, wk_Md_word⟩ <| fmc (P := QM) ⟨ck_Md_letter, wk_Md_letter⟩ <| fmc (P := QM) ⟨ck_Md_readings, wk_Md_readings⟩ <| fmc (P := QM) ⟨ck_Md_goesBy, wk_Md_goesBy⟩ <| fmc (P := QM) ⟨ck_Md_reading, wk_Md_reading⟩ <| fmc (P := QM) ⟨ck_Md_sounds, wk_Md_sounds⟩ <| fmc (P := QM) ⟨ck_Md_takenAt, wk_Md_takenAt⟩ <| fmc (P := QM) ⟨ck_Md_reads, wk_Md_reads⟩ <| fmc (P := QM) ⟨ck_Md_took, wk_Md_took⟩ <| fmc (P := QM) ⟨ck_Md_layCover, wk_Md_layCover⟩ <| fmc (P := QM) ⟨ck_Md_coversBy, wk_Md_coversBy⟩ <| fmc (P := QM) ⟨ck_Md_takesLeast, wk_Md_takesLeast⟩ <| fmc (P := QM) ⟨ck_Md_foolsBy, wk_Md_foolsBy⟩ <| fmc (P := QM) ⟨ck_Md_fool, wk_Md_fool⟩ <| fmc (P := QM) ⟨ck_Md_goes, wk_Md_goes⟩ <| fmc (P := QM) ⟨ck_Md_isSpelling, wk_Md_isSpelling⟩ <| fmc (P := QM) ⟨ck_Md_ofSound, wk_Md_ofSound⟩ <| fmc (P := QM) ⟨ck_Md_spell, wk_Md_spell⟩ <| fmc (P := QM) ⟨ck_Md_drawn, wk_Md_drawn⟩ <| fmc (P := QM) ⟨ck_Md_layNodes, wk_Md_layNodes⟩ <| fmc (P := QM) ⟨ck_Md_often, wk_Md_often⟩ <| fmc (P := QM) ⟨ck_Md_oftenAt, wk_Md_oftenAt⟩ <| fmc (P := QM) ⟨ck_Md_adds, wk_Md_adds⟩ <| fmc (P := QM) ⟨ck_Md_steps, wk_Md_steps⟩ <| fmc (P := QM) ⟨ck_Md_empties, wk_Md_empties⟩ <| fmc (P := QM) ⟨ck_Md_isThere, wk_Md_isThere⟩ <| fmc (P := QM) ⟨ck_Md_counts, wk_Md_counts⟩ <| fmc (P := QM) ⟨ck_Md_countFrom, wk_Md_countFrom⟩ <| fmc (P := QM) ⟨ck_Md_startsAnew, wk_Md_startsAnew⟩ <| fmn
theorem mT_8_ok : ∀ M ∈ mT_8, QM M := fmc (P := QM) ⟨ck_Md_words, wk_Md_words⟩ <| fmc (P := QM) ⟨ck_Md_behindBy, wk_Md_behindBy⟩ <| fmc (P := QM) ⟨ck_Md_goesThere, wk_Md_goesThere⟩ <| fmc (P := QM) ⟨ck_Md_nth, wk_Md_nth⟩ <| fmc (P := QM) ⟨ck_Md_place, wk_Md_place⟩ <| fmc (P := QM) ⟨ck_Md_unpack, wk_Md_unpack⟩ <| fmc (P := QM) ⟨ck_Md_meetsEnd, wk_Md_meetsEnd⟩ <| fmc (P := QM) ⟨ck_Md_layEndsOf, wk_Md_layEndsOf⟩ <| fmc (P := QM) ⟨ck_Md_isWithin, wk_Md_isWithin⟩ <| fmc (P := QM) ⟨ck_Md_layBorders, wk_Md_layBorders⟩ <| fmc (P := QM) ⟨ck_Md_puts, wk_Md_puts⟩ <| fmc (P := QM) ⟨ck_Md_borders, wk_Md_borders⟩ <| fmc (P := QM) ⟨ck_Md_border, wk_Md_border⟩ <| fmc (P := QM) ⟨ck_Md_comesIn, wk_Md_comesIn⟩ <| fmc (P := QM) ⟨ck_Md_partsNow, wk_Md_partsNow⟩ <| fmc (P := QM) ⟨ck_Md_marks, wk_Md_marks⟩ <| fmc (P := QM) ⟨ck_Md_unmarks, wk_Md_unmarks⟩ <| fmc (P := QM) ⟨ck_Md_does, wk_Md_does⟩ <| fmc (P := QM) ⟨ck_Md_isCure, wk_Md_isCure⟩ <| fmc (P := QM) ⟨ck_Md_cureOf, wk_Md_cureOf⟩ <| fmc (P := QM) ⟨ck_Md_cure, wk_Md_cure⟩ <| fmc (P := QM) ⟨ck_Md_keep, wk_Md_keep⟩ <| fmc (P := QM) ⟨ck_Md_mend, wk_Md_mend⟩ <| fmc (P := QM) ⟨ck_Md_out, wk_Md_out⟩ <| fmc (P := QM) ⟨ck_Md_undo, wk_Md_undo⟩ <| fmc (P := QM) ⟨ck_Ji_bitCount, wk_Ji_bitCount⟩ <| fmc (P := QM) ⟨ck_Ja_rangeCheck, wk_Ja_rangeCheck⟩ <| fmc (P := QM) ⟨ck_Ja_fillI, wk_Ja_fillI⟩ <| fmc (P := QM) ⟨ck_Ja_fillZ, wk_Ja_fillZ⟩ <| fmc (P := QM) ⟨ck_Ja_fillZr, wk_Ja_fillZr⟩ <| fmc (P := QM) ⟨ck_Ja_copyB, wk_Ja_copyB⟩ <| fmc (P := QM) ⟨ck_Ja_copyI, wk_Ja_copyI⟩ <| fmn
theorem mTs_ok : ∀ L ∈ mTs, ∀ M ∈ L, QM M := fmc mT_0_ok <| fmc mT_1_ok <| fmc mT_2_ok <| fmc mT_3_ok <| fmc mT_4_ok <| fmc mT_5_ok <| fmc mT_6_ok <| fmc mT_7_ok <| fmc mT_8_ok <| fmn
theorem mOf_ok (id : Nat) (h : m_code (mOf id) ≠ []) : QM (mOf id) := by
  unfold mOf at h ⊢
  simp only [List.getD_eq_getElem?_getD] at h ⊢
  cases hL : mTs[id / 32]? with
  | none =>
    rw [hL] at h
    exact absurd rfl h
  | some L =>
    rw [hL] at h
    simp only [Option.getD_some] at h ⊢
    cases hM : L[id % 32]? with
    | none =>
      rw [hM] at h
      exact absurd rfl h
    | some M => exact mTs_ok L (List.mem_of_getElem? hL) M (List.mem_of_getElem? hM)
def pT : List Nat := [193, 380, 384, 388, 392, 400, 403, 406, 411, 415, 419, 423, 441, 445, 457, 458, 461, 464, 472, 474, 485, 499, 502, 514, 518, 576, 582, 587, 591, 598, 602, 607, 615, 623, 624, 628, 669, 729, 732, 736, 741, 745, 749, 753, 761, 762, 766, 774, 789, 797, 805, 809, 814, 819, 822, 825, 830, 834, 842, 847, 852, 856, 864, 865, 869, 878, 885, 915, 919, 922, 930, 940, 945, 949, 954, 958, 959, 972, 980, 983, 987, 1027, 1031, 1036, 1052, 1053, 1057, 1064, 1068, 1117, 1118, 1123, 1127, 1139, 1145, 1151, 1155, 1163, 1172, 1182, 1190, 1194, 1228, 1232, 1235, 1239, 1243, 1246, 1249, 1253, 1254, 1258, 1266, 1274, 1280, 1284, 1339, 1344, 1348, 1352, 1356, 1370, 1374, 1382, 1383, 1387, 1395, 1401, 1641, 1645, 1649, 1653, 1656, 1660, 1664, 1668, 1671, 1675, 1679, 1683, 1687, 1692, 1696, 1700, 1704, 1708, 1712, 1716, 1720, 1724, 1728, 1732, 1736, 1740, 1743, 1747, 1751, 1755, 1759, 1763, 1767, 1771, 1775, 1778, 1782, 1786, 1790, 1794, 1798, 1802, 1806, 1810, 1814, 1818, 1822, 1826, 1830, 1834, 1838, 1842, 1846, 1850, 1855, 1858, 1862, 1866, 1870, 1874, 1878, 1882, 1886, 1891, 1895, 1899, 1903, 1907, 1911, 1915, 1919, 1923, 1927, 1931, 1935, 1939, 1944, 1947, 1951, 1955, 1959, 1963, 1967, 1975, 1979, 1983, 1987, 1991, 1995, 1999, 2003, 2007, 2011, 2015, 2019, 2023, 2027, 2031, 2035, 2039, 2043, 2047, 2051, 2055, 2059, 2063, 2067, 2071, 2075, 2079, 2083, 2087]
def pN : List Nat := [201, 272, 313, 396, 430, 437, 449, 453, 468, 473, 481, 489, 492, 496, 506, 513, 524, 572, 580, 581, 586, 595, 606, 611, 619, 634, 675, 725, 735, 740, 757, 770, 778, 779, 780, 784, 785, 793, 801, 829, 838, 846, 851, 860, 873, 882, 891, 911, 918, 926, 934, 938, 939, 944, 964, 965, 966, 970, 971, 976, 993, 1019, 1023, 1030, 1040, 1041, 1043, 1047, 1048, 1059, 1063, 1074, 1113, 1144, 1148, 1149, 1167, 1176, 1180, 1181, 1186, 1200, 1224, 1262, 1270, 1275, 1290, 1295, 1297, 1335, 1343, 1360, 1364, 1369, 1378, 1391]
def mlB (L : List (Nat × Nat × Nat)) (ps : List Nat) : Bool := (L.zip ps).all (fun z => inB z.2 (.methodLink (cN z.1.1) z.1.2.1 (m_y (mOf z.1.2.2))))
def mnB (L : List (Nat × Nat × Nat)) (ps : List Nat) : Bool := (L.zip ps).all (fun z => decide (lw_tbl[z.2]? = some (.methodLinkNest (cN z.1.1) z.1.2.1 (m_y (mOf z.1.2.2)) "OneWaySpell")))
set_option maxRecDepth 100000 in
theorem mlT_bb : mlB mlT pT = true := by decide +kernel
set_option maxRecDepth 100000 in
theorem mlN_bb : mnB mlN pN = true := by decide +kernel
theorem zip_mem {α β : Type} {L : List α} {ps : List β} (h : L.length = ps.length) {q : α} (hq : q ∈ L) : ∃ i, (q, i) ∈ L.zip ps := by
  obtain ⟨k, hk⟩ := List.getElem?_of_mem hq
  have hl : k < L.length := (List.getElem?_eq_some_iff.mp hk).1
  have h2 : ps[k]? = some ps[k] := List.getElem?_eq_getElem (by omega)
  exact ⟨ps[k], List.mem_of_getElem? (i := k) (by rw [List.getElem?_zip_eq_some]; exact ⟨hk, h2⟩)⟩
theorem tok : TOK mOf mlT mlN := by
  refine ⟨fun id h => ?_, fun q hq => ?_, fun q hq => ?_⟩
  · obtain ⟨h1, h2⟩ := mOf_ok id h
    exact ⟨wordsB_ok h2, codeB_ok h1⟩
  · obtain ⟨i, hi⟩ := zip_mem (ps := pT) (by decide +kernel) hq
    exact inB_ok (List.all_eq_true.mp mlT_bb _ hi)
  · obtain ⟨i, hi⟩ := zip_mem (ps := pN) (by decide +kernel) hq
    exact nt_in i (of_decide_eq_true (List.all_eq_true.mp mlN_bb _ hi)) rfl
theorem codeBr_ok {M : PM} {a n pc : Nat} {i : PI} (h : codeBr M a n = true) (h1 : a ≤ pc) (h2 : pc < a + n) (hi : (m_code M)[pc]? = some i) : chkI mOf mlT mlN M pc i = true := by
  have h3 : (((m_code M).drop a).take n)[pc - a]? = some i := by
    rw [List.getElem?_take, if_pos (by omega), List.getElem?_drop, show a + (pc - a) = pc by omega]
    exact hi
  have h4 := List.all_eq_true.mp h (i, pc - a) (List.mem_zipIdx_iff_getElem?.mpr h3)
  rw [show a + (i, pc - a).2 = pc by show a + (pc - a) = pc; omega] at h4
  exact h4
set_option maxRecDepth 100000 in
theorem law_len : (m_code P_Lw_law).length ≤ 1200 := by decide +kernel
theorem law_code : codeOK mOf mlT mlN P_Lw_law := fun pc i hi => by
  have hl : pc < 1200 := Nat.lt_of_lt_of_le (List.getElem?_eq_some_iff.mp hi).1 law_len
  by_cases c0 : pc < 120
  · exact codeBr_ok lk_0 (by omega) (by omega) hi
  by_cases c120 : pc < 240
  · exact codeBr_ok lk_120 (by omega) (by omega) hi
  by_cases c240 : pc < 360
  · exact codeBr_ok lk_240 (by omega) (by omega) hi
  by_cases c360 : pc < 480
  · exact codeBr_ok lk_360 (by omega) (by omega) hi
  by_cases c480 : pc < 600
  · exact codeBr_ok lk_480 (by omega) (by omega) hi
  by_cases c600 : pc < 720
  · exact codeBr_ok lk_600 (by omega) (by omega) hi
  by_cases c720 : pc < 840
  · exact codeBr_ok lk_720 (by omega) (by omega) hi
  by_cases c840 : pc < 960
  · exact codeBr_ok lk_840 (by omega) (by omega) hi
  by_cases c960 : pc < 1080
  · exact codeBr_ok lk_960 (by omega) (by omega) hi
  exact codeBr_ok lk_1080 (by omega) (by omega) hi
end
section
/-! THE CLAIM OUT OF ONE WALK OF THE LAW'S BODY. Your part is whole_start (and what it stands on); all else here is the same for every law, but numbers. -/
def R_law : String := "OneWaySpellLaw"
def lw_P (b : Addr) (xs : List Int32) (args : Array Value) (s : State) : Prop := args = #[.ref b] ∧ s.IntsAt b xs ∧ xs.length ≤ 3072 ∧ (Jvm.Cond.and given_1 narrow_1).before args s = true
def lw_Q (_ : Array Value) (s : State) (o : Outcome) (t : State) : Prop := o = .returned (some (.int 1)) ∧ Framed s o t [] 600000 7302250
def lw_Z (below : List Frame) (a : Array Value) (s : State) : State → Prop := fun t => ∃ o, t.status = .running ∧ Ended t below o ∧ lw_Q a s o t
/-- the law's own end, with 1 on the stack, nothing written that was there before, its room as the claim has it -/
theorem lw_ret {p : Program} {l : Launch} {e : Env} {s : State} {m : MethodId} {below : List Frame} {meth : Method} {c : Code} {b : Nat} (hx : p.tables.exec = Jvm.exec) (hb : c.code = code) (hr : meth.sig.returnType = ret) (hlocks : meth.locks = false) {pc : Nat} {H : Heap} {ls : Array Slot} (hdg : decode code pc = .ok (.ireturn, 1)) : W p l e room_1 s m #[Value.ref b] below meth c H [] 600000 7302250 (lw_Z below #[Value.ref b] s) (F0 m pc ls [.int 1]) := by
  intro T hT X
  obtain ⟨fs, hret, hrun, hended, hW, hframe⟩ := X.leave (v := some (.int 1)) (hlocks := hlocks) (fun h => by rw [hr] at h; cases h)
  have hmeth' : T.vm.method? m = some meth := X.method'
  refine ⟨T.setFrames fs, ?_, .returned (some (.int 1)), hrun, hended, rfl, ⟨_, rfl⟩, hW, hframe⟩
  jvm_step X.here [X.here.top, hx, hb, hdg, hmeth', hr, ret, narrow_b1]
  (try refine ⟨rfl, ?_⟩); (try refine ⟨rfl, ?_⟩)
  first | (intro acts; rw [hret _ acts rfl rfl rfl]) | rw [hret _ _ rfl rfl rfl]
  exact Steps.refl _
/-- what holds at the law's entry: the machine, the code, the tables' words (any of lw_tbl by 'hts w (by decide +kernel)'), the script of L ints xs at the cell b, what the Statement gives of the start (any of its parts by flat_of_before) -/
def lw_At (p : Program) (s : State) (m : MethodId) (meth : Method) (c : Code) (b L : Nat) (xs : Nat → Int32) : Prop :=
  p.tables.exec = Jvm.exec ∧ c.code = code ∧ meth.sig.returnType = ret ∧ c.maxLocals = 4 ∧ s.vm.findClass R_law = some m.cls ∧ (∀ w ∈ lw_tbl, w.before #[Value.ref b] s = true) ∧ va_X b L xs s s.heap ∧ b < s.heap.size ∧ meth.locks = false ∧ (Jvm.Cond.and given_1 narrow_1).before #[Value.ref b] s = true
/-- the pure machine's start -/
def ph0 (L : Nat) (xs : Nat → Int32) : PH := (fun _ => none, fun _ _ => 0, fun _ _ => 0, fun _ _ => none, 0, 0, L, xs)
/-- WHAT IS LEFT: on every script the law's run in the pure machine ends with 1, within the room -/
def LawRuns : Prop := ∀ (L : Nat) (xs : Nat → Int32), L ≤ 3072 → ∃ (n d : Nat) (h : PH), d ≤ 100 ∧ h_ct h ≤ 600000 ∧ h_sl h ≤ 7302250 ∧ px_exec mOf (px_run mOf d n) P_Lw_law n 0 [.retAddr 1, .retAddr 0, .retAddr 0, .retAddr 0] [] (ph0 L xs) = some (some (.int 1), h)
theorem arr_of {s : State} {args : Array Value} {ty : FieldType} (h : (Cond.arrayClass ty).before args s = true) : ∃ cA : ClassId, s.vm.findClass ("[" ++ ty.toString) = some cA ∧ ArrOfT s cA ty := by
  obtain ⟨cA, kA, comp, hfind, hk, hkind⟩ := Cond.arrayClass_spec h
  exact ⟨cA, hfind, fun n z => ⟨fun k h => (by cases h), kA, hk, comp, hkind⟩⟩
theorem whole_of (hlaw : LawRuns) {p : Program} {e : Env} {s : State} {m : MethodId} {below : List Frame} {meth : Method} {c : Code} (l : Launch) {b L : Nat} {xs : Nat → Int32} (hL : L ≤ 3072) (C0 : lw_At p s m meth c b L xs) : W p l e room_1 s m #[Value.ref b] below meth c s.heap [] 0 0 (lw_Z below #[Value.ref b] s) (entryFrame m ([Value.ref b] : List Value).toArray 4) := by
  obtain ⟨hx, hb, hr, hml, hown, hts, hX, hbl, hlocks, hgv⟩ := id C0
  have htg : ∀ w ∈ gt, w.before #[Value.ref b] s = true := fun w hw => hts w (List.mem_filter.mp hw).1
  have hcl : ∀ k : Nat, ∃ z : ClassId × (Nat → Nat), ∀ q : vw_C, cls[k]? = some q → u_Kn s q.1 q.2.1 q.2.2 z.1 z.2 := fun k => by
    cases hk : cls[k]? with
    | none => exact ⟨(m.cls, fun _ => 0), fun q hq => by cases hq⟩
    | some q =>
      obtain ⟨C, T, N⟩ := q
      obtain ⟨o1, -, -, -, o5, -⟩ := cls_ok k C T N hk
      obtain ⟨cC, iS, hKn⟩ := u_known htg o1 (htg _ o5)
      exact ⟨(cC, iS), fun q hq => by cases hq; exact hKn⟩
  obtain ⟨f, hf⟩ := Classical.axiomOfChoice hcl
  obtain ⟨cI, i1, i2⟩ := arr_of (htg (.arrayClass .int) (gt_in 269 (by decide +kernel) rfl))
  obtain ⟨cB, b1, b2⟩ := arr_of (htg (.arrayClass .byte) (gt_in 267 (by decide +kernel) rfl))
  obtain ⟨cZ, z1, z2⟩ := arr_of (htg (.arrayClass .boolean) (gt_in 339 (by decide +kernel) rfl))
  obtain ⟨cJ, j1, j2⟩ := arr_of (htg (.arrayClass .long) (gt_in 268 (by decide +kernel) rfl))
  obtain ⟨G, hG⟩ : ∃ G : Gx, G = (s.heap.size, b, L, xs, (fun k => (f k).1, fun k => (f k).2), fun ty => match ty with
    | .int => cI
    | .byte => cB
    | .boolean => cZ
    | _ => cJ) := ⟨_, rfl⟩
  have hKs : Ks G s := by
    rw [hG]
    refine ⟨⟨fun k q hq => hf k q hq, fun k q hq => ?_⟩, fun w hw => ?_⟩
    · match k, hq with
      | 0, hq => cases hq; exact ⟨i2, i1⟩
      | 1, hq => cases hq; exact ⟨b2, b1⟩
      | 2, hq => cases hq; exact ⟨z2, z1⟩
      | 3, hq => cases hq; exact ⟨j2, j1⟩
      | k + 4, hq => simp [tys] at hq
    · obtain ⟨h1, h2⟩ := List.mem_filter.mp hw
      have h3 := hts w h1
      cases w with
      | fieldLinkNest a i b n d x => exact va_Nw.of rfl h3
      | methodLinkNest a i x y => exact va_Nw.of rfl h3
      | _ => cases h2
  have hG1 : G.1 = s.heap.size := by rw [hG]
  have F : Fx G p s m #[Value.ref b] meth c room_1 (m_o P_Lw_law) (m_ini P_Lw_law) (m_b P_Lw_law) (m_L P_Lw_law) := by
    refine ⟨hx, hb, hml, hown, htg, hKs, (fun h => by cases h), Nat.le_of_ble_eq_true rfl, Nat.le_of_ble_eq_true rfl, Nat.le_of_eq hG1, fun _ => ?_⟩
    rw [hG]
    exact ⟨hX, hbl, Nat.not_le.mpr hbl⟩
  obtain ⟨n, d, h, hd, hct, hsl, hrun⟩ := hlaw L xs hL
  have hl := lv_entry ([.ref b]) (n := 4) (Nat.le_of_ble_eq_true rfl)
  rw [lg_entry_eq]
  generalize (lg_sl ([.ref b]) ++ List.replicate (4 - (lg_sl ([.ref b])).length) Slot.unset).toArray = ls at hl ⊢
  have hLV : LV G ls (m_L P_Lw_law) [.retAddr 1, .retAddr 0, .retAddr 0, .retAddr 0] := by
    refine ⟨lv_mono hl fun q hq => ?_, rfl⟩
    obtain ⟨v, g1, g2, g3⟩ := mem_lvs.mp hq
    obtain ⟨j, w⟩ := q
    dsimp only at g1 g2 g3
    match j, g1, g2 with
    | 0, g1, g2 => cases g1; rw [g3, hG]; exact List.mem_cons_self
    | 1, g1, g2 => cases g1; cases g2
    | 2, g1, g2 => cases g1; cases g2
    | 3, g1, g2 => cases g1; cases g2
    | j + 4, g1, g2 => simp at g1
  have hWh : Wh G (ph0 L xs) s.heap := by
    refine ⟨hG1.symm, by rw [hG]; rfl, fun c q hq => by cases hq⟩
  have hcE : h_ct (ph0 L xs) = 0 := rfl
  have hsE : h_sl (ph0 L xs) = 0 := rfl
  refine exec_sound tok law_code (call := px_run mOf d n) (d := d) (run_sound tok G l n d) F ⟨Nat.le_trans (Nat.add_le_add_right hd 2) (Nat.le_of_ble_eq_true rfl), Nat.le_trans (Nat.add_le_add_left (Nat.mul_le_mul_left 100 (Nat.add_le_add_right hd 1)) 60) (Nat.le_of_ble_eq_true rfl)⟩ (rE := (some (.int 1), h)) (CE := h_ct h) (SE := h_sl h) hct hsl ?_ n 0 _ [] (ph0 L xs) s.heap [] 0 0 ls hrun hWh va_S.rf hLV (by show 0 + (h_ct h - 0) = h_ct h; omega) (by show 0 + (h_sl h - 0) = h_sl h; omega)
  intro H' locs' rls' pc' hW' hS' hret
  obtain ⟨hd, -⟩ := hret
  refine va_forget (fun q hq => by rw [← hG1]; exact hS'.2.2 q hq) ?_
  refine W.widen hct hsl ?_
  exact lw_ret hx hb hr hlocks hd
end
section
/-! weakest starts: a run of the pure machine from a state, with what must hold at its end -/
abbrev PQ : Type := Option Value → PH → Prop
theorem exec_le {call call' : PCall} {M : PM} (hc : ∀ id a h r, call id a h = some r → call' id a h = some r) : ∀ (n n' pc : Nat) (ls st : List Value) (h : PH) (r : Option Value × PH), n ≤ n' → px_exec mOf call M n pc ls st h = some r → px_exec mOf call' M n' pc ls st h = some r := by
  intro n
  induction n with
  | zero => intro n' pc ls st h r _ he; cases he
  | succ n ih =>
    intro n' pc ls st h r hn he
    obtain ⟨n1, rfl⟩ : ∃ n1, n' = n1 + 1 := ⟨n' - 1, by omega⟩
    unfold px_exec at he ⊢
    cases hi : (m_code M)[pc]? with
    | none => rw [hi] at he; cases he
    | some i =>
      rw [hi] at he
      dsimp only at he ⊢
      by_cases hlt : i.1 < 100
      · rw [if_pos hlt] at he ⊢
        cases hq : HS[i.1]? with
        | none => rw [hq] at he; cases he
        | some q =>
          rw [hq] at he
          dsimp only at he ⊢
          cases hr : q.2 i pc ls st h with
          | none => rw [hr] at he; cases he
          | some r1 =>
            rw [hr] at he
            dsimp only at he ⊢
            by_cases hle : h_leB h r1.2.2.2 = true
            · rw [if_pos hle] at he ⊢
              exact ih _ _ _ _ _ _ (by omega) he
            · rw [if_neg hle] at he; cases he
      · rw [if_neg hlt] at he ⊢
        by_cases h110 : i.1 = 110
        · rw [if_pos h110] at he ⊢
          split at he
          next hcond =>
            rw [if_pos hcond]
            cases hr : call (p_b i) (st.take (p_c i)).reverse h with
            | none => rw [hr] at he; cases he
            | some r1 =>
              rw [hr] at he
              rw [hc _ _ _ _ hr]
              dsimp only at he ⊢
              by_cases hle : h_leB h r1.2 = true
              · rw [if_pos hle] at he ⊢
                exact ih _ _ _ _ _ _ (by omega) he
              · rw [if_neg hle] at he; cases he
          · cases he
        · rw [if_neg h110] at he ⊢
          exact he
theorem run_le {n n' : Nat} (hn : n ≤ n') : ∀ (d id : Nat) (a : List Value) (h : PH) (r : Option Value × PH), px_run mOf d n id a h = some r → px_run mOf d n' id a h = some r := by
  intro d
  induction d with
  | zero => intro id a h r he; cases he
  | succ d ih =>
    intro id a h r he
    unfold px_run at he ⊢
    split at he
    · cases he
    next hc =>
      rw [if_neg hc]
      exact exec_le ih _ _ _ _ _ _ _ hn he
def wpx (d : Nat) (M : PM) (pc : Nat) (ls st : List Value) (h : PH) (Q : PQ) : Prop := ∃ (n : Nat) (r : Option Value × PH), px_exec mOf (px_run mOf d n) M n pc ls st h = some r ∧ Q r.1 r.2
def wpm (d id : Nat) (args : List Value) (h : PH) (Q : PQ) : Prop := ∃ (n : Nat) (r : Option Value × PH), px_run mOf d n id args h = some r ∧ Q r.1 r.2
theorem wpm.mono {d id : Nat} {args : List Value} {h : PH} {Q Q' : PQ} (w : wpm d id args h Q) (hq : ∀ r h', Q r h' → Q' r h') : wpm d id args h Q' := by
  obtain ⟨n, r, h1, h2⟩ := w
  exact ⟨n, r, h1, hq _ _ h2⟩
theorem wpx.mono {d : Nat} {M : PM} {pc : Nat} {ls st : List Value} {h : PH} {Q Q' : PQ} (w : wpx d M pc ls st h Q) (hq : ∀ r h', Q r h' → Q' r h') : wpx d M pc ls st h Q' := by
  obtain ⟨n, r, h1, h2⟩ := w
  exact ⟨n, r, h1, hq _ _ h2⟩
theorem wpx_step {d : Nat} {M : PM} {pc : Nat} {ls st : List Value} {h : PH} {Q : PQ} {i : PI} {q : PChk × PSem} {r : PS} (hi : (m_code M)[pc]? = some i) (hlt : i.1 < 100) (hq : HS[i.1]? = some q) (hs : q.2 i pc ls st h = some r) (hle : h_leB h r.2.2.2 = true) (k : wpx d M r.1 r.2.1 r.2.2.1 r.2.2.2 Q) : wpx d M pc ls st h Q := by
  obtain ⟨n, x, h1, h2⟩ := k
  refine ⟨n + 1, x, ?_, h2⟩
  unfold px_exec
  rw [hi]
  dsimp only
  rw [if_pos hlt, hq]
  dsimp only
  rw [hs]
  dsimp only
  rw [if_pos hle]
  exact exec_le (run_le (Nat.le_succ n) d) _ _ _ _ _ _ _ (Nat.le_refl n) h1
theorem leB_refl (h : PH) : h_leB h h = true := decide_eq_true ⟨Nat.le_refl _, Nat.le_refl _⟩
/-- a step that leaves the heap -/
theorem wpx_st {d : Nat} {M : PM} {pc : Nat} {ls st : List Value} {h : PH} {Q : PQ} {i : PI} {q : PChk × PSem} {pc' : Nat} {ls' st' : List Value} (hi : (m_code M)[pc]? = some i) (hlt : i.1 < 100) (hq : HS[i.1]? = some q) (hs : q.2 i pc ls st h = some (pc', ls', st', h)) (k : wpx d M pc' ls' st' h Q) : wpx d M pc ls st h Q :=
  wpx_step hi hlt hq hs (leB_refl h) k
theorem wpx_call {d : Nat} {M : PM} {pc : Nat} {ls st : List Value} {h : PH} {Q : PQ} {i : PI} (hi : (m_code M)[pc]? = some i) (h110 : i.1 = 110) {as rest : List Value} (h1 : p_c i ≤ st.length) (has : (st.take (p_c i)).reverse = as) (hrest : st.drop (p_c i) = rest) (h4 : rest.length ≤ 4) (hrv : recvOK (m_kd (mOf (p_b i))) (m_o (mOf (p_b i))) h as = true)
    (k : wpm d (p_b i) as h (fun r h' => h_leB h h' = true ∧ wpx d M (pc + 3) ls (r.toList ++ rest) h' Q)) : wpx d M pc ls st h Q := by
  obtain ⟨n, r, g1, g2, n2, x, g3, g4⟩ := k
  subst has
  subst hrest
  refine ⟨max n n2 + 1, x, ?_, g4⟩
  unfold px_exec
  rw [hi]
  dsimp only
  rw [if_neg (by omega), if_pos h110, if_pos ⟨h1, h4, hrv⟩, run_le (Nat.le_trans (Nat.le_max_left n n2) (Nat.le_succ _)) d _ _ _ _ g1]
  dsimp only
  rw [if_pos g2]
  exact exec_le (run_le (Nat.le_trans (Nat.le_max_right n n2) (Nat.le_succ _)) d) _ _ _ _ _ _ _ (Nat.le_max_right n n2) g3
theorem run_mono {n d id : Nat} {a : List Value} {h : PH} {r : Option Value × PH} (he : px_run mOf d n id a h = some r) : h_leB h r.2 = true := by
  cases d with
  | zero => cases he
  | succ d =>
    unfold px_run at he
    split at he
    · cases he
    · exact decide_eq_true (px_mono _ _ _ _ _ _ _ _ _ he)
theorem wpx_call' {d : Nat} {M : PM} {pc : Nat} {ls st : List Value} {h : PH} {Q : PQ} {i : PI} (hi : (m_code M)[pc]? = some i) (h110 : i.1 = 110) {as rest : List Value} (h1 : p_c i ≤ st.length) (has : (st.take (p_c i)).reverse = as) (hrest : st.drop (p_c i) = rest) (h4 : rest.length ≤ 4) (hrv : recvOK (m_kd (mOf (p_b i))) (m_o (mOf (p_b i))) h as = true)
    (k : wpm d (p_b i) as h (fun r h' => wpx d M (pc + 3) ls (r.toList ++ rest) h' Q)) : wpx d M pc ls st h Q := by
  refine wpx_call hi h110 h1 has hrest h4 hrv ?_
  obtain ⟨n, r, g1, g2⟩ := k
  exact ⟨n, r, g1, run_mono g1, g2⟩
theorem wpm_in {d id : Nat} {args : List Value} {h : PH} {Q : PQ} (M : PM) (hM : mOf id = M) (h13 : m_o M ≠ 13) (hl : ¬ m_L M < (args.flatMap ent1).length) (k : wpx d M 0 (ents (m_L M) args) [] h Q) : wpm (d + 1) id args h Q := by
  obtain ⟨n, r, h1, h2⟩ := k
  refine ⟨n, r, ?_, h2⟩
  unfold px_run
  rw [hM, if_neg (fun q => q.elim h13 hl)]
  exact h1
theorem wpx_ret {d : Nat} {M : PM} {pc : Nat} {ls st : List Value} {h : PH} {Q : PQ} {i : PI} {r : Option Value} (hi : (m_code M)[pc]? = some i) (h1 : ¬ i.1 < 100) (h2 : ¬ i.1 = 110) (he : px_ret M i st h = some (r, h)) (hq : Q r h) : wpx d M pc ls st h Q := by
  refine ⟨1, (r, h), ?_, hq⟩
  unfold px_exec
  rw [hi]
  dsimp only
  rw [if_neg h1, if_neg h2]
  exact he
/-- branches -/
theorem wpx_if {d : Nat} {M : PM} {pc : Nat} {ls st : List Value} {h : PH} {Q : PQ} {i : PI} {q : PChk × PSem} {c : Prop} [Decidable c] {t f : Nat} {st' : List Value} (hi : (m_code M)[pc]? = some i) (hlt : i.1 < 100) (hq : HS[i.1]? = some q) (hs : q.2 i pc ls st h = some (if c then t else f, ls, st', h)) (kt : c → wpx d M t ls st' h Q) (kf : ¬ c → wpx d M f ls st' h Q) : wpx d M pc ls st h Q := by
  by_cases hc : c
  · rw [if_pos hc] at hs
    exact wpx_st hi hlt hq hs (kt hc)
  · rw [if_neg hc] at hs
    exact wpx_st hi hlt hq hs (kf hc)
/-- the heap -/
theorem h_i_wi (h : PH) (c k : Nat) (v : Int32) (c' k' : Nat) : h_i (w_i h c k v) c' k' = if c' = c ∧ k' = k then v else h_i h c' k' := by
  simp only [h_i, w_i, up2]
  by_cases h1 : c' = c <;> by_cases h2 : k' = k <;> simp [h1, h2]
theorem h_l_wl (h : PH) (c k : Nat) (v : Int64) (c' k' : Nat) : h_l (w_l h c k v) c' k' = if c' = c ∧ k' = k then v else h_l h c' k' := by
  simp only [h_l, w_l, up2]
  by_cases h1 : c' = c <;> by_cases h2 : k' = k <;> simp [h1, h2]
theorem h_r_wr (h : PH) (c k : Nat) (v : Option Nat) (c' k' : Nat) : h_r (w_r h c k v) c' k' = if c' = c ∧ k' = k then v else h_r h c' k' := by
  simp only [h_r, w_r, up2]
  by_cases h1 : c' = c <;> by_cases h2 : k' = k <;> simp [h1, h2]
section STH
variable {d : Nat} {M : PM} {pc pc' : Nat} {ls st : List Value} {h : PH} {Q : PQ}
theorem st_iaload {a n : Nat} {x : Int32} (hi : (m_code M)[pc]? = some (58, 1, 0, 0, 0, 0)) (hs : h_sh h a = some (1, n)) (hin : vp_in x n) (hp : pc + 1 = pc') (k : wpx d M pc' ls (.int (h_i h a x.toNatClampNeg) :: st) h Q) : wpx d M pc ls (.int x :: .ref a :: st) h Q := by
  subst hp
  exact wpx_st (q := (c_iaload, s_iaload)) hi (Nat.le_of_ble_eq_true rfl) rfl (by simp only [s_iaload, hs]; rw [if_neg hin]) k
theorem st_laload {a n : Nat} {x : Int32} (hi : (m_code M)[pc]? = some (59, 1, 0, 0, 0, 0)) (hs : h_sh h a = some (4, n)) (hin : vp_in x n) (hp : pc + 1 = pc') (k : wpx d M pc' ls (.long (h_l h a x.toNatClampNeg) :: st) h Q) : wpx d M pc ls (.int x :: .ref a :: st) h Q := by
  subst hp
  exact wpx_st (q := (c_laload, s_laload)) hi (Nat.le_of_ble_eq_true rfl) rfl (by simp only [s_laload, hs]; rw [if_neg hin]) k
theorem st_baload {a n : Nat} {x : Int32} (hi : (m_code M)[pc]? = some (60, 1, 0, 0, 0, 0)) (hs : h_sh h a = some (2, n) ∨ h_sh h a = some (3, n)) (hin : vp_in x n) (hp : pc + 1 = pc') (k : wpx d M pc' ls (.int (h_i h a x.toNatClampNeg) :: st) h Q) : wpx d M pc ls (.int x :: .ref a :: st) h Q := by
  subst hp
  exact wpx_st (q := (c_baload, s_baload)) hi (Nat.le_of_ble_eq_true rfl) rfl (by rcases hs with hs | hs <;> (simp only [s_baload, hs]; rw [if_neg hin])) k
theorem st_alen {a n kd : Nat} (hi : (m_code M)[pc]? = some (61, 1, 0, 0, 0, 0)) (hs : h_sh h a = some (kd, n)) (hk : kd = 1 ∨ kd = 2 ∨ kd = 3 ∨ kd = 4) (hp : pc + 1 = pc') (k : wpx d M pc' ls (.int (Int32.ofNat n) :: st) h Q) : wpx d M pc ls (.ref a :: st) h Q := by
  subst hp
  exact wpx_st (q := (c_alen, s_alen)) hi (Nat.le_of_ble_eq_true rfl) rfl (by rcases hk with rfl | rfl | rfl | rfl <;> simp only [s_alen, hs]) k
theorem st_iastore {a n : Nat} {v x : Int32} (hi : (m_code M)[pc]? = some (62, 1, 0, 0, 0, 0)) (hs : h_sh h a = some (1, n)) (hin : vp_in x n) (hp : pc + 1 = pc') (k : wpx d M pc' ls st (w_i h a x.toNatClampNeg v) Q) : wpx d M pc ls (.int v :: .int x :: .ref a :: st) h Q := by
  subst hp
  exact wpx_step (q := (c_iastore, s_iastore)) (r := (pc + 1, ls, st, w_i h a x.toNatClampNeg v)) hi (Nat.le_of_ble_eq_true rfl) rfl (by simp only [s_iastore, hs]; rw [if_neg hin]) (leB_refl h) k
theorem st_lastore {a n : Nat} {v : Int64} {x : Int32} (hi : (m_code M)[pc]? = some (63, 1, 0, 0, 0, 0)) (hs : h_sh h a = some (4, n)) (hin : vp_in x n) (hp : pc + 1 = pc') (k : wpx d M pc' ls st (w_l h a x.toNatClampNeg v) Q) : wpx d M pc ls (.long v :: .int x :: .ref a :: st) h Q := by
  subst hp
  exact wpx_step (q := (c_lastore, s_lastore)) (r := (pc + 1, ls, st, w_l h a x.toNatClampNeg v)) hi (Nat.le_of_ble_eq_true rfl) rfl (by simp only [s_lastore, hs]; rw [if_neg hin]) (leB_refl h) k
theorem st_bastore {a n : Nat} {v x : Int32} (hi : (m_code M)[pc]? = some (64, 1, 0, 0, 0, 0)) (hs : h_sh h a = some (2, n)) (hin : vp_in x n) (hp : pc + 1 = pc') (k : wpx d M pc' ls st (w_i h a x.toNatClampNeg v.toInt8.toInt32) Q) : wpx d M pc ls (.int v :: .int x :: .ref a :: st) h Q := by
  subst hp
  exact wpx_step (q := (c_bastore, s_bastore)) (r := (pc + 1, ls, st, w_i h a x.toNatClampNeg v.toInt8.toInt32)) hi (Nat.le_of_ble_eq_true rfl) rfl (by simp only [s_bastore, hs]; rw [if_neg hin]) (leB_refl h) k
theorem st_zastore {a n : Nat} {v x : Int32} (hi : (m_code M)[pc]? = some (64, 1, 0, 0, 0, 0)) (hs : h_sh h a = some (3, n)) (hin : vp_in x n) (hp : pc + 1 = pc') (k : wpx d M pc' ls st (w_i h a x.toNatClampNeg (v &&& 1)) Q) : wpx d M pc ls (.int v :: .int x :: .ref a :: st) h Q := by
  subst hp
  exact wpx_step (q := (c_bastore, s_bastore)) (r := (pc + 1, ls, st, w_i h a x.toNatClampNeg (v &&& 1))) hi (Nat.le_of_ble_eq_true rfl) rfl (by simp only [s_bastore, hs]; rw [if_neg hin]) (leB_refl h) k
theorem st_getfi {a j ci kf : Nat} {op : Nat} (hop : op = 65 ∨ op = 66) (hi : (m_code M)[pc]? = some (op, 3, 0, j, ci, kf)) (hs : h_sh h a = some (0, ci)) (hk : fkd (fty ci kf) = 0) (hp : pc + 3 = pc') (k : wpx d M pc' ls (.int (h_i h a kf) :: st) h Q) : wpx d M pc ls (.ref a :: st) h Q := by
  subst hp
  have e : s_getf (op, 3, 0, j, ci, kf) pc ls (.ref a :: st) h = some (pc + 3, ls, .int (h_i h a kf) :: st, h) := by
    show (if h_sh h a = some (0, ci) then _ else _) = _
    rw [if_pos hs, show pval h ci a kf = .int (h_i h a kf) by simp only [pval, hk]]
  rcases hop with rfl | rfl
  · exact wpx_st (q := (c_getf, s_getf)) hi (Nat.le_of_ble_eq_true rfl) rfl e k
  · exact wpx_st (q := (c_getfN, s_getf)) hi (Nat.le_of_ble_eq_true rfl) rfl e k
theorem st_getfl {a j ci kf : Nat} {op : Nat} (hop : op = 65 ∨ op = 66) (hi : (m_code M)[pc]? = some (op, 3, 0, j, ci, kf)) (hs : h_sh h a = some (0, ci)) (hk : fkd (fty ci kf) = 1) (hp : pc + 3 = pc') (k : wpx d M pc' ls (.long (h_l h a kf) :: st) h Q) : wpx d M pc ls (.ref a :: st) h Q := by
  subst hp
  have e : s_getf (op, 3, 0, j, ci, kf) pc ls (.ref a :: st) h = some (pc + 3, ls, .long (h_l h a kf) :: st, h) := by
    show (if h_sh h a = some (0, ci) then _ else _) = _
    rw [if_pos hs, show pval h ci a kf = .long (h_l h a kf) by simp only [pval, hk]]
  rcases hop with rfl | rfl
  · exact wpx_st (q := (c_getf, s_getf)) hi (Nat.le_of_ble_eq_true rfl) rfl e k
  · exact wpx_st (q := (c_getfN, s_getf)) hi (Nat.le_of_ble_eq_true rfl) rfl e k
theorem st_getfr {a j ci kf : Nat} {x : Option Nat} {op : Nat} (hop : op = 65 ∨ op = 66) (hi : (m_code M)[pc]? = some (op, 3, 0, j, ci, kf)) (hs : h_sh h a = some (0, ci)) (hk : fkd (fty ci kf) = 2) (hx : h_r h a kf = x) (hp : pc + 3 = pc') (k : wpx d M pc' ls (va_rf x :: st) h Q) : wpx d M pc ls (.ref a :: st) h Q := by
  subst hp
  have e : s_getf (op, 3, 0, j, ci, kf) pc ls (.ref a :: st) h = some (pc + 3, ls, va_rf x :: st, h) := by
    show (if h_sh h a = some (0, ci) then _ else _) = _
    rw [if_pos hs, show pval h ci a kf = va_rf x by simp only [pval, hk, hx]]
  rcases hop with rfl | rfl
  · exact wpx_st (q := (c_getf, s_getf)) hi (Nat.le_of_ble_eq_true rfl) rfl e k
  · exact wpx_st (q := (c_getfN, s_getf)) hi (Nat.le_of_ble_eq_true rfl) rfl e k
theorem st_putf {a j ci kf : Nat} {v : Value} {h' : PH} {op : Nat} (hop : op = 67 ∨ op = 68 ∨ op = 69) (hi : (m_code M)[pc]? = some (op, 3, 0, j, ci, kf)) (hs : h_sh h a = some (0, ci)) (hn : narrow (fty ci kf) v = v) (hf : fits (fty ci kf) v = true) (hp : putv h ci a kf v = some h') (hp : pc + 3 = pc') (k : wpx d M pc' ls st h' Q) : wpx d M pc ls (v :: .ref a :: st) h Q := by
  subst hp
  have e : s_putf (op, 3, 0, j, ci, kf) pc ls (v :: .ref a :: st) h = some (pc + 3, ls, st, h') := by
    show (if _ ∧ _ ∧ _ then _ else _) = _
    rw [if_pos ⟨hs, hn, hf⟩]
    show (putv h ci a kf v).map _ = _
    rw [hp]
    rfl
  have hle : h_leB h h' = true := by
    obtain ⟨-, -, -, e1, e2, -⟩ := putv_spec ((0, 0, 0, fun _ => 0, (fun _ => 0, fun _ _ => 0), fun _ => 0) : Gx) hp hn hf
    exact decide_eq_true ⟨Nat.le_of_eq e1.symm, Nat.le_of_eq e2.symm⟩
  rcases hop with rfl | rfl | rfl
  · exact wpx_step (q := (c_putf, s_putf)) (r := (pc + 3, ls, st, h')) hi (Nat.le_of_ble_eq_true rfl) rfl e hle k
  · exact wpx_step (q := (c_putfN, s_putf)) (r := (pc + 3, ls, st, h')) hi (Nat.le_of_ble_eq_true rfl) rfl e hle k
  · exact wpx_step (q := (c_putfF, s_putf)) (r := (pc + 3, ls, st, h')) hi (Nat.le_of_ble_eq_true rfl) rfl e hle k
theorem st_nonnull {x : Option Nat} {t : Nat} (hi : (m_code M)[pc]? = some (57, 3, 0, t, 0, 0)) (k1 : ∀ a, x = some a → wpx d M t ls st h Q) (hp : pc + 3 = pc') (k2 : x = none → wpx d M pc' ls st h Q) : wpx d M pc ls (va_rf x :: st) h Q := by
  subst hp
  cases x with
  | none => exact wpx_st (q := (c_nonnull, s_nonnull)) (pc' := pc + 3) (ls' := ls) (st' := st) hi (Nat.le_of_ble_eq_true rfl) rfl rfl (k2 rfl)
  | some a => exact wpx_st (q := (c_nonnull, s_nonnull)) (pc' := t) (ls' := ls) (st' := st) hi (Nat.le_of_ble_eq_true rfl) rfl rfl (k1 a rfl)
theorem leB_new (h : PH) (q : Nat × Nat) (n : Nat) : h_leB h (h_new h q n) = true := decide_eq_true ⟨Nat.le_succ _, Nat.le_add_right _ _⟩
theorem st_new {ci pl : Nat} (hi : (m_code M)[pc]? = some (70, 3, 0, pl, ci, 0)) (hp : pc + 3 = pc') (k : wpx d M pc' ls (.ref (h_ct h) :: st) (h_new h (0, ci) (fN ci)) Q) : wpx d M pc ls st h Q := by
  subst hp
  exact wpx_step (q := (c_new, s_new)) (r := (pc + 3, ls, .ref (h_ct h) :: st, h_new h (0, ci) (fN ci))) hi (Nat.le_of_ble_eq_true rfl) rfl rfl (leB_new _ _ _) k
theorem st_newI {x : Int32} (hi : (m_code M)[pc]? = some (71, 2, 0, 0, 0, 0)) (hx : ¬ (x < 0 ∨ 60000000 < x.toNatClampNeg)) (hp : pc + 2 = pc') (k : wpx d M pc' ls (.ref (h_ct h) :: st) (h_new h (1, x.toNatClampNeg) x.toNatClampNeg) Q) : wpx d M pc ls (.int x :: st) h Q := by
  subst hp
  exact wpx_step (q := (c_newI, s_newI)) (r := (pc + 2, ls, .ref (h_ct h) :: st, h_new h (1, x.toNatClampNeg) x.toNatClampNeg)) hi (Nat.le_of_ble_eq_true rfl) rfl (if_neg hx) (leB_new _ _ _) k
theorem st_newB {x : Int32} (hi : (m_code M)[pc]? = some (72, 2, 0, 0, 0, 0)) (hx : ¬ (x < 0 ∨ 60000000 < x.toNatClampNeg)) (hp : pc + 2 = pc') (k : wpx d M pc' ls (.ref (h_ct h) :: st) (h_new h (2, x.toNatClampNeg) x.toNatClampNeg) Q) : wpx d M pc ls (.int x :: st) h Q := by
  subst hp
  exact wpx_step (q := (c_newB, s_newB)) (r := (pc + 2, ls, .ref (h_ct h) :: st, h_new h (2, x.toNatClampNeg) x.toNatClampNeg)) hi (Nat.le_of_ble_eq_true rfl) rfl (if_neg hx) (leB_new _ _ _) k
theorem st_newZ {x : Int32} (hi : (m_code M)[pc]? = some (73, 2, 0, 0, 0, 0)) (hx : ¬ (x < 0 ∨ 60000000 < x.toNatClampNeg)) (hp : pc + 2 = pc') (k : wpx d M pc' ls (.ref (h_ct h) :: st) (h_new h (3, x.toNatClampNeg) x.toNatClampNeg) Q) : wpx d M pc ls (.int x :: st) h Q := by
  subst hp
  exact wpx_step (q := (c_newZ, s_newZ)) (r := (pc + 2, ls, .ref (h_ct h) :: st, h_new h (3, x.toNatClampNeg) x.toNatClampNeg)) hi (Nat.le_of_ble_eq_true rfl) rfl (if_neg hx) (leB_new _ _ _) k
theorem st_newL {x : Int32} (hi : (m_code M)[pc]? = some (74, 2, 0, 0, 0, 0)) (hx : ¬ (x < 0 ∨ 60000000 < x.toNatClampNeg)) (hp : pc + 2 = pc') (k : wpx d M pc' ls (.ref (h_ct h) :: st) (h_new h (4, x.toNatClampNeg) x.toNatClampNeg) Q) : wpx d M pc ls (.int x :: st) h Q := by
  subst hp
  exact wpx_step (q := (c_newL, s_newL)) (r := (pc + 2, ls, .ref (h_ct h) :: st, h_new h (4, x.toNatClampNeg) x.toNatClampNeg)) hi (Nat.le_of_ble_eq_true rfl) rfl (if_neg hx) (leB_new _ _ _) k
theorem st_idiv {x y : Int32} (hi : (m_code M)[pc]? = some (10, 1, 0, 0, 0, 0)) (hy : ¬ y = 0) (hp : pc + 1 = pc') (k : wpx d M pc' ls (.int (x / y) :: st) h Q) : wpx d M pc ls (.int y :: .int x :: st) h Q := by
  subst hp
  exact wpx_st (q := (c_idiv, s_idiv)) hi (Nat.le_of_ble_eq_true rfl) rfl (if_neg hy) k
theorem st_irem {x y : Int32} (hi : (m_code M)[pc]? = some (11, 1, 0, 0, 0, 0)) (hy : ¬ y = 0) (hp : pc + 1 = pc') (k : wpx d M pc' ls (.int (x - x / y * y) :: st) h Q) : wpx d M pc ls (.int y :: .int x :: st) h Q := by
  subst hp
  exact wpx_st (q := (c_irem, s_irem)) hi (Nat.le_of_ble_eq_true rfl) rfl (if_neg hy) k
theorem st_ldiv {x y : Int64} (hi : (m_code M)[pc]? = some (18, 1, 0, 0, 0, 0)) (hy : ¬ y = 0) (hp : pc + 1 = pc') (k : wpx d M pc' ls (.long (x / y) :: st) h Q) : wpx d M pc ls (.long y :: .long x :: st) h Q := by
  subst hp
  exact wpx_st (q := (c_ldiv, s_ldiv)) hi (Nat.le_of_ble_eq_true rfl) rfl (if_neg hy) k
theorem st_lrem {x y : Int64} (hi : (m_code M)[pc]? = some (19, 1, 0, 0, 0, 0)) (hy : ¬ y = 0) (hp : pc + 1 = pc') (k : wpx d M pc' ls (.long (x - x / y * y) :: st) h Q) : wpx d M pc ls (.long y :: .long x :: st) h Q := by
  subst hp
  exact wpx_st (q := (c_lrem, s_lrem)) hi (Nat.le_of_ble_eq_true rfl) rfl (if_neg hy) k
theorem st_sload {x : Int32} {b : Nat} (hi : (m_code M)[pc]? = some (75, 1, 0, 0, 0, 0)) (hx : vp_in x (h_sc h).1) (hp : pc + 1 = pc') (k : wpx d M pc' ls (.int ((h_sc h).2 x.toNatClampNeg) :: st) h Q) : wpx d M pc ls (.int x :: .retAddr b :: st) h Q := by
  subst hp
  exact wpx_st (q := (c_sload, s_sload)) hi (Nat.le_of_ble_eq_true rfl) rfl (if_neg hx) k
end STH

/-! steps without the heap -/
section STN
variable {d : Nat} {M : PM} {pc pc' : Nat} {ls ls' st : List Value} {h : PH} {Q : PQ}
theorem st_iadd {x y : Int32} (hi : (m_code M)[pc]? = some (1, 1, 0, 0, 0, 0)) (hp : pc + 1 = pc') (k : wpx d M pc' ls (.int (x + y) :: st) h Q) : wpx d M pc ls (.int y :: .int x :: st) h Q := by
  subst hp
  exact wpx_st (q := (c_iadd, s_iadd)) hi (Nat.le_of_ble_eq_true rfl) rfl rfl k
theorem st_isub {x y : Int32} (hi : (m_code M)[pc]? = some (2, 1, 0, 0, 0, 0)) (hp : pc + 1 = pc') (k : wpx d M pc' ls (.int (x - y) :: st) h Q) : wpx d M pc ls (.int y :: .int x :: st) h Q := by
  subst hp
  exact wpx_st (q := (c_isub, s_isub)) hi (Nat.le_of_ble_eq_true rfl) rfl rfl k
theorem st_imul {x y : Int32} (hi : (m_code M)[pc]? = some (3, 1, 0, 0, 0, 0)) (hp : pc + 1 = pc') (k : wpx d M pc' ls (.int (x * y) :: st) h Q) : wpx d M pc ls (.int y :: .int x :: st) h Q := by
  subst hp
  exact wpx_st (q := (c_imul, s_imul)) hi (Nat.le_of_ble_eq_true rfl) rfl rfl k
theorem st_iand {x y : Int32} (hi : (m_code M)[pc]? = some (4, 1, 0, 0, 0, 0)) (hp : pc + 1 = pc') (k : wpx d M pc' ls (.int (x &&& y) :: st) h Q) : wpx d M pc ls (.int y :: .int x :: st) h Q := by
  subst hp
  exact wpx_st (q := (c_iand, s_iand)) hi (Nat.le_of_ble_eq_true rfl) rfl rfl k
theorem st_ior {x y : Int32} (hi : (m_code M)[pc]? = some (5, 1, 0, 0, 0, 0)) (hp : pc + 1 = pc') (k : wpx d M pc' ls (.int (x ||| y) :: st) h Q) : wpx d M pc ls (.int y :: .int x :: st) h Q := by
  subst hp
  exact wpx_st (q := (c_ior, s_ior)) hi (Nat.le_of_ble_eq_true rfl) rfl rfl k
theorem st_ixor {x y : Int32} (hi : (m_code M)[pc]? = some (6, 1, 0, 0, 0, 0)) (hp : pc + 1 = pc') (k : wpx d M pc' ls (.int (x ^^^ y) :: st) h Q) : wpx d M pc ls (.int y :: .int x :: st) h Q := by
  subst hp
  exact wpx_st (q := (c_ixor, s_ixor)) hi (Nat.le_of_ble_eq_true rfl) rfl rfl k
theorem st_ishl {x y : Int32} (hi : (m_code M)[pc]? = some (7, 1, 0, 0, 0, 0)) (hp : pc + 1 = pc') (k : wpx d M pc' ls (.int (x <<< (y &&& 31)) :: st) h Q) : wpx d M pc ls (.int y :: .int x :: st) h Q := by
  subst hp
  exact wpx_st (q := (c_ishl, s_ishl)) hi (Nat.le_of_ble_eq_true rfl) rfl rfl k
theorem st_ishr {x y : Int32} (hi : (m_code M)[pc]? = some (8, 1, 0, 0, 0, 0)) (hp : pc + 1 = pc') (k : wpx d M pc' ls (.int (x >>> (y &&& 31)) :: st) h Q) : wpx d M pc ls (.int y :: .int x :: st) h Q := by
  subst hp
  exact wpx_st (q := (c_ishr, s_ishr)) hi (Nat.le_of_ble_eq_true rfl) rfl rfl k
theorem st_iushr {x y : Int32} (hi : (m_code M)[pc]? = some (9, 1, 0, 0, 0, 0)) (hp : pc + 1 = pc') (k : wpx d M pc' ls (.int ((x.toUInt32 >>> (y.toUInt32 &&& Int32.toUInt32 31)).toInt32) :: st) h Q) : wpx d M pc ls (.int y :: .int x :: st) h Q := by
  subst hp
  exact wpx_st (q := (c_iushr, s_iushr)) hi (Nat.le_of_ble_eq_true rfl) rfl rfl k
theorem st_ladd {x y : Int64} (hi : (m_code M)[pc]? = some (12, 1, 0, 0, 0, 0)) (hp : pc + 1 = pc') (k : wpx d M pc' ls (.long (x + y) :: st) h Q) : wpx d M pc ls (.long y :: .long x :: st) h Q := by
  subst hp
  exact wpx_st (q := (c_ladd, s_ladd)) hi (Nat.le_of_ble_eq_true rfl) rfl rfl k
theorem st_lsub {x y : Int64} (hi : (m_code M)[pc]? = some (13, 1, 0, 0, 0, 0)) (hp : pc + 1 = pc') (k : wpx d M pc' ls (.long (x - y) :: st) h Q) : wpx d M pc ls (.long y :: .long x :: st) h Q := by
  subst hp
  exact wpx_st (q := (c_lsub, s_lsub)) hi (Nat.le_of_ble_eq_true rfl) rfl rfl k
theorem st_lmul {x y : Int64} (hi : (m_code M)[pc]? = some (14, 1, 0, 0, 0, 0)) (hp : pc + 1 = pc') (k : wpx d M pc' ls (.long (x * y) :: st) h Q) : wpx d M pc ls (.long y :: .long x :: st) h Q := by
  subst hp
  exact wpx_st (q := (c_lmul, s_lmul)) hi (Nat.le_of_ble_eq_true rfl) rfl rfl k
theorem st_land {x y : Int64} (hi : (m_code M)[pc]? = some (15, 1, 0, 0, 0, 0)) (hp : pc + 1 = pc') (k : wpx d M pc' ls (.long (x &&& y) :: st) h Q) : wpx d M pc ls (.long y :: .long x :: st) h Q := by
  subst hp
  exact wpx_st (q := (c_land, s_land)) hi (Nat.le_of_ble_eq_true rfl) rfl rfl k
theorem st_lor {x y : Int64} (hi : (m_code M)[pc]? = some (16, 1, 0, 0, 0, 0)) (hp : pc + 1 = pc') (k : wpx d M pc' ls (.long (x ||| y) :: st) h Q) : wpx d M pc ls (.long y :: .long x :: st) h Q := by
  subst hp
  exact wpx_st (q := (c_lor, s_lor)) hi (Nat.le_of_ble_eq_true rfl) rfl rfl k
theorem st_lxor {x y : Int64} (hi : (m_code M)[pc]? = some (17, 1, 0, 0, 0, 0)) (hp : pc + 1 = pc') (k : wpx d M pc' ls (.long (x ^^^ y) :: st) h Q) : wpx d M pc ls (.long y :: .long x :: st) h Q := by
  subst hp
  exact wpx_st (q := (c_lxor, s_lxor)) hi (Nat.le_of_ble_eq_true rfl) rfl rfl k
theorem st_lshl {x : Int64} {y : Int32} (hi : (m_code M)[pc]? = some (20, 1, 0, 0, 0, 0)) (hp : pc + 1 = pc') (k : wpx d M pc' ls (.long (x <<< (y.toInt64 &&& 63)) :: st) h Q) : wpx d M pc ls (.int y :: .long x :: st) h Q := by
  subst hp
  exact wpx_st (q := (c_lshl, s_lshl)) hi (Nat.le_of_ble_eq_true rfl) rfl rfl k
theorem st_lushr {x : Int64} {y : Int32} (hi : (m_code M)[pc]? = some (21, 1, 0, 0, 0, 0)) (hp : pc + 1 = pc') (k : wpx d M pc' ls (.long ((x.toUInt64 >>> (y.toInt64.toUInt64 &&& Int64.toUInt64 63)).toInt64) :: st) h Q) : wpx d M pc ls (.int y :: .long x :: st) h Q := by
  subst hp
  exact wpx_st (q := (c_lushr, s_lushr)) hi (Nat.le_of_ble_eq_true rfl) rfl rfl k
theorem st_lcmp {x y : Int64} (hi : (m_code M)[pc]? = some (22, 1, 0, 0, 0, 0)) (hp : pc + 1 = pc') (k : wpx d M pc' ls (.int (lg_cmp x y) :: st) h Q) : wpx d M pc ls (.long y :: .long x :: st) h Q := by
  subst hp
  exact wpx_st (q := (c_lcmp, s_lcmp)) hi (Nat.le_of_ble_eq_true rfl) rfl rfl k
theorem st_ineg {x : Int32} (hi : (m_code M)[pc]? = some (23, 1, 0, 0, 0, 0)) (hp : pc + 1 = pc') (k : wpx d M pc' ls (.int (-x) :: st) h Q) : wpx d M pc ls (.int x :: st) h Q := by
  subst hp
  exact wpx_st (q := (c_ineg, s_ineg)) hi (Nat.le_of_ble_eq_true rfl) rfl rfl k
theorem st_i2l {x : Int32} (hi : (m_code M)[pc]? = some (24, 1, 0, 0, 0, 0)) (hp : pc + 1 = pc') (k : wpx d M pc' ls (.long x.toInt64 :: st) h Q) : wpx d M pc ls (.int x :: st) h Q := by
  subst hp
  exact wpx_st (q := (c_i2l, s_i2l)) hi (Nat.le_of_ble_eq_true rfl) rfl rfl k
theorem st_l2i {x : Int64} (hi : (m_code M)[pc]? = some (25, 1, 0, 0, 0, 0)) (hp : pc + 1 = pc') (k : wpx d M pc' ls (.int x.toInt32 :: st) h Q) : wpx d M pc ls (.long x :: st) h Q := by
  subst hp
  exact wpx_st (q := (c_l2i, s_l2i)) hi (Nat.le_of_ble_eq_true rfl) rfl rfl k
theorem st_i2b {x : Int32} (hi : (m_code M)[pc]? = some (26, 1, 0, 0, 0, 0)) (hp : pc + 1 = pc') (k : wpx d M pc' ls (.int x.toInt8.toInt32 :: st) h Q) : wpx d M pc ls (.int x :: st) h Q := by
  subst hp
  exact wpx_st (q := (c_i2b, s_i2b)) hi (Nat.le_of_ble_eq_true rfl) rfl rfl k
theorem st_dup {v : Value} (hi : (m_code M)[pc]? = some (27, 1, 0, 0, 0, 0)) (hp : pc + 1 = pc') (hv : v.category = 1) (k : wpx d M pc' ls (v :: v :: st) h Q) : wpx d M pc ls (v :: st) h Q := by
  subst hp
  exact wpx_st (q := (c_dup, s_dup)) hi (Nat.le_of_ble_eq_true rfl) rfl (if_neg (fun q => q hv)) k
theorem st_pop {v : Value} (hi : (m_code M)[pc]? = some (28, 1, 0, 0, 0, 0)) (hp : pc + 1 = pc') (hv : v.category = 1) (k : wpx d M pc' ls (st) h Q) : wpx d M pc ls (v :: st) h Q := by
  subst hp
  exact wpx_st (q := (c_pop, s_pop)) hi (Nat.le_of_ble_eq_true rfl) rfl (if_neg (fun q => q hv)) k
theorem st_pop2 {v : Value} (hi : (m_code M)[pc]? = some (29, 1, 0, 0, 0, 0)) (hp : pc + 1 = pc') (hv : v.category = 2) (k : wpx d M pc' ls (st) h Q) : wpx d M pc ls (v :: st) h Q := by
  subst hp
  exact wpx_st (q := (c_pop2, s_pop2)) hi (Nat.le_of_ble_eq_true rfl) rfl (if_neg (fun q => q hv)) k
theorem st_dup22 {v : Value} (hi : (m_code M)[pc]? = some (30, 1, 0, 0, 0, 0)) (hp : pc + 1 = pc') (hv : v.category = 2) (k : wpx d M pc' ls (v :: v :: st) h Q) : wpx d M pc ls (v :: st) h Q := by
  subst hp
  exact wpx_st (q := (c_dup22, s_dup22)) hi (Nat.le_of_ble_eq_true rfl) rfl (if_neg (fun q => q hv)) k
theorem st_dup211 {v w : Value} (hi : (m_code M)[pc]? = some (31, 1, 0, 0, 0, 0)) (hp : pc + 1 = pc') (hv : v.category = 1 ∧ w.category = 1) (k : wpx d M pc' ls (v :: w :: v :: w :: st) h Q) : wpx d M pc ls (v :: w :: st) h Q := by
  subst hp
  exact wpx_st (q := (c_dup211, s_dup211)) hi (Nat.le_of_ble_eq_true rfl) rfl (if_neg (fun q => q hv)) k
theorem st_ipush {ln : Nat} {a : Int} {v : Int32} (hi : (m_code M)[pc]? = some (32, ln, a, 0, 0, 0)) (hp : pc + ln = pc') (hv : Int32.ofInt a = v) (k : wpx d M pc' ls (.int v :: st) h Q) : wpx d M pc ls st h Q := by
  subst hp; subst hv
  exact wpx_st (q := (c_ipush, s_ipush)) hi (Nat.le_of_ble_eq_true rfl) rfl rfl k
theorem st_lpush {ln : Nat} {a : Int} {v : Int64} (hi : (m_code M)[pc]? = some (33, ln, a, 0, 0, 0)) (hp : pc + ln = pc') (hv : Int64.ofInt a = v) (k : wpx d M pc' ls (.long v :: st) h Q) : wpx d M pc ls st h Q := by
  subst hp; subst hv
  exact wpx_st (q := (c_lpush, s_lpush)) hi (Nat.le_of_ble_eq_true rfl) rfl rfl k
theorem st_ldc {ln pl : Nat} {a : Int} {v : Int32} (hi : (m_code M)[pc]? = some (34, ln, a, pl, 0, 0)) (hp : pc + ln = pc') (hv : Int32.ofInt a = v) (k : wpx d M pc' ls (.int v :: st) h Q) : wpx d M pc ls st h Q := by
  subst hp; subst hv
  exact wpx_st (q := (c_ldc, s_ldc)) hi (Nat.le_of_ble_eq_true rfl) rfl rfl k
theorem st_ldc2 {ln pl : Nat} {a : Int} {v : Int64} (hi : (m_code M)[pc]? = some (35, ln, a, pl, 0, 0)) (hp : pc + ln = pc') (hv : Int64.ofInt a = v) (k : wpx d M pc' ls (.long v :: st) h Q) : wpx d M pc ls st h Q := by
  subst hp; subst hv
  exact wpx_st (q := (c_ldc2, s_ldc2)) hi (Nat.le_of_ble_eq_true rfl) rfl rfl k
theorem st_iload {ln j : Nat} {x : Int32} (hi : (m_code M)[pc]? = some (36, ln, 0, j, 0, 0)) (hp : pc + ln = pc') (hl : ls[j]? = some (.int x)) (k : wpx d M pc' ls (.int x :: st) h Q) : wpx d M pc ls st h Q := by
  subst hp
  exact wpx_st (q := (c_iload, s_iload)) hi (Nat.le_of_ble_eq_true rfl) rfl (by simp only [s_iload, hl]) k
theorem st_aload {ln j : Nat} {x : Nat} (hi : (m_code M)[pc]? = some (37, ln, 0, j, 0, 0)) (hp : pc + ln = pc') (hl : ls[j]? = some (.ref x)) (k : wpx d M pc' ls (.ref x :: st) h Q) : wpx d M pc ls st h Q := by
  subst hp
  exact wpx_st (q := (c_aload, s_aload)) hi (Nat.le_of_ble_eq_true rfl) rfl (by simp only [s_aload, hl]) k
theorem st_lload {ln j : Nat} {x : Int64} (hi : (m_code M)[pc]? = some (38, ln, 0, j, 0, 0)) (hp : pc + ln = pc') (hl : ls[j]? = some (.long x)) (hm : ls[j + 1]? = some (.retAddr 2)) (k : wpx d M pc' ls (.long x :: st) h Q) : wpx d M pc ls st h Q := by
  subst hp
  exact wpx_st (q := (c_lload, s_lload)) hi (Nat.le_of_ble_eq_true rfl) rfl (by simp only [s_lload, hl]; rw [if_pos (by simp only [okv, hm]; rfl)]) k
theorem st_aloadS {ln j : Nat} (hi : (m_code M)[pc]? = some (39, ln, 0, j, 0, 0)) (hp : pc + ln = pc') (hl : ls[j]? = some (.retAddr 1)) (k : wpx d M pc' ls (.retAddr 1 :: st) h Q) : wpx d M pc ls st h Q := by
  subst hp
  exact wpx_st (q := (c_aloadS, s_aloadS)) hi (Nat.le_of_ble_eq_true rfl) rfl (by simp only [s_aloadS, hl]; rfl) k
theorem st_istore {ln j : Nat} {x : Int32} (hi : (m_code M)[pc]? = some (40, ln, 0, j, 0, 0)) (hp : pc + ln = pc') (hj : j < ls.length) (hl : ls.set j (.int x) = ls') (k : wpx d M pc' ls' st h Q) : wpx d M pc ls (.int x :: st) h Q := by
  subst hp; subst hl
  exact wpx_st (q := (c_istore, s_istore)) hi (Nat.le_of_ble_eq_true rfl) rfl (if_pos hj) k
theorem st_astore {ln j : Nat} {x : Nat} (hi : (m_code M)[pc]? = some (41, ln, 0, j, 0, 0)) (hp : pc + ln = pc') (hj : j < ls.length) (hl : ls.set j (.ref x) = ls') (k : wpx d M pc' ls' st h Q) : wpx d M pc ls (.ref x :: st) h Q := by
  subst hp; subst hl
  exact wpx_st (q := (c_astore, s_astore)) hi (Nat.le_of_ble_eq_true rfl) rfl (if_pos hj) k
theorem st_lstore {ln j : Nat} {x : Int64} (hi : (m_code M)[pc]? = some (42, ln, 0, j, 0, 0)) (hp : pc + ln = pc') (hj : j + 1 < ls.length) (hl : (ls.set j (.long x)).set (j + 1) (.retAddr 2) = ls') (k : wpx d M pc' ls' st h Q) : wpx d M pc ls (.long x :: st) h Q := by
  subst hp; subst hl
  exact wpx_st (q := (c_lstore, s_lstore)) hi (Nat.le_of_ble_eq_true rfl) rfl (if_pos hj) k
theorem st_iinc {j : Nat} {a : Int} {x v : Int32} (hi : (m_code M)[pc]? = some (43, 3, a, j, 0, 0)) (hp : pc + 3 = pc') (hx : ls[j]? = some (.int x)) (hv : Int32.ofInt a = v) (hl : ls.set j (.int (x + v)) = ls') (k : wpx d M pc' ls' st h Q) : wpx d M pc ls st h Q := by
  subst hp; subst hl; subst hv
  exact wpx_st (q := (c_iinc, s_iinc)) hi (Nat.le_of_ble_eq_true rfl) rfl (by simp only [s_iinc, hx]) k
theorem st_if_eq {x : Int32} {t : Nat} (hi : (m_code M)[pc]? = some (44, 3, 0, t, 0, 0)) (hp : pc + 3 = pc') (kt : x = 0 → wpx d M t ls st h Q) (kf : ¬ x = 0 → wpx d M pc' ls st h Q) : wpx d M pc ls (.int x :: st) h Q := by
  subst hp
  exact wpx_if (c := x = 0) (q := (c_if_eq, s_if_eq)) hi (Nat.le_of_ble_eq_true rfl) rfl rfl kt kf
theorem st_icmp_eq {x y : Int32} {t : Nat} (hi : (m_code M)[pc]? = some (45, 3, 0, t, 0, 0)) (hp : pc + 3 = pc') (kt : x = y → wpx d M t ls st h Q) (kf : ¬ x = y → wpx d M pc' ls st h Q) : wpx d M pc ls (.int y :: .int x :: st) h Q := by
  subst hp
  exact wpx_if (c := x = y) (q := (c_icmp_eq, s_icmp_eq)) hi (Nat.le_of_ble_eq_true rfl) rfl rfl kt kf
theorem st_if_ne {x : Int32} {t : Nat} (hi : (m_code M)[pc]? = some (46, 3, 0, t, 0, 0)) (hp : pc + 3 = pc') (kt : ¬ x = 0 → wpx d M t ls st h Q) (kf : x = 0 → wpx d M pc' ls st h Q) : wpx d M pc ls (.int x :: st) h Q := by
  subst hp
  exact wpx_if (c := x = 0) (q := (c_if_ne, s_if_ne)) hi (Nat.le_of_ble_eq_true rfl) rfl rfl kf kt
theorem st_icmp_ne {x y : Int32} {t : Nat} (hi : (m_code M)[pc]? = some (47, 3, 0, t, 0, 0)) (hp : pc + 3 = pc') (kt : ¬ x = y → wpx d M t ls st h Q) (kf : x = y → wpx d M pc' ls st h Q) : wpx d M pc ls (.int y :: .int x :: st) h Q := by
  subst hp
  exact wpx_if (c := x = y) (q := (c_icmp_ne, s_icmp_ne)) hi (Nat.le_of_ble_eq_true rfl) rfl rfl kf kt
theorem st_if_lt {x : Int32} {t : Nat} (hi : (m_code M)[pc]? = some (48, 3, 0, t, 0, 0)) (hp : pc + 3 = pc') (kt : x < 0 → wpx d M t ls st h Q) (kf : ¬ x < 0 → wpx d M pc' ls st h Q) : wpx d M pc ls (.int x :: st) h Q := by
  subst hp
  exact wpx_if (c := x < 0) (q := (c_if_lt, s_if_lt)) hi (Nat.le_of_ble_eq_true rfl) rfl rfl kt kf
theorem st_icmp_lt {x y : Int32} {t : Nat} (hi : (m_code M)[pc]? = some (49, 3, 0, t, 0, 0)) (hp : pc + 3 = pc') (kt : x < y → wpx d M t ls st h Q) (kf : ¬ x < y → wpx d M pc' ls st h Q) : wpx d M pc ls (.int y :: .int x :: st) h Q := by
  subst hp
  exact wpx_if (c := x < y) (q := (c_icmp_lt, s_icmp_lt)) hi (Nat.le_of_ble_eq_true rfl) rfl rfl kt kf
theorem st_if_ge {x : Int32} {t : Nat} (hi : (m_code M)[pc]? = some (50, 3, 0, t, 0, 0)) (hp : pc + 3 = pc') (kt : 0 ≤ x → wpx d M t ls st h Q) (kf : ¬ 0 ≤ x → wpx d M pc' ls st h Q) : wpx d M pc ls (.int x :: st) h Q := by
  subst hp
  exact wpx_if (c := 0 ≤ x) (q := (c_if_ge, s_if_ge)) hi (Nat.le_of_ble_eq_true rfl) rfl rfl kt kf
theorem st_icmp_ge {x y : Int32} {t : Nat} (hi : (m_code M)[pc]? = some (51, 3, 0, t, 0, 0)) (hp : pc + 3 = pc') (kt : y ≤ x → wpx d M t ls st h Q) (kf : ¬ y ≤ x → wpx d M pc' ls st h Q) : wpx d M pc ls (.int y :: .int x :: st) h Q := by
  subst hp
  exact wpx_if (c := y ≤ x) (q := (c_icmp_ge, s_icmp_ge)) hi (Nat.le_of_ble_eq_true rfl) rfl rfl kt kf
theorem st_if_gt {x : Int32} {t : Nat} (hi : (m_code M)[pc]? = some (52, 3, 0, t, 0, 0)) (hp : pc + 3 = pc') (kt : 0 < x → wpx d M t ls st h Q) (kf : ¬ 0 < x → wpx d M pc' ls st h Q) : wpx d M pc ls (.int x :: st) h Q := by
  subst hp
  exact wpx_if (c := 0 < x) (q := (c_if_gt, s_if_gt)) hi (Nat.le_of_ble_eq_true rfl) rfl rfl kt kf
theorem st_icmp_gt {x y : Int32} {t : Nat} (hi : (m_code M)[pc]? = some (53, 3, 0, t, 0, 0)) (hp : pc + 3 = pc') (kt : y < x → wpx d M t ls st h Q) (kf : ¬ y < x → wpx d M pc' ls st h Q) : wpx d M pc ls (.int y :: .int x :: st) h Q := by
  subst hp
  exact wpx_if (c := y < x) (q := (c_icmp_gt, s_icmp_gt)) hi (Nat.le_of_ble_eq_true rfl) rfl rfl kt kf
theorem st_if_le {x : Int32} {t : Nat} (hi : (m_code M)[pc]? = some (54, 3, 0, t, 0, 0)) (hp : pc + 3 = pc') (kt : x ≤ 0 → wpx d M t ls st h Q) (kf : ¬ x ≤ 0 → wpx d M pc' ls st h Q) : wpx d M pc ls (.int x :: st) h Q := by
  subst hp
  exact wpx_if (c := x ≤ 0) (q := (c_if_le, s_if_le)) hi (Nat.le_of_ble_eq_true rfl) rfl rfl kt kf
theorem st_icmp_le {x y : Int32} {t : Nat} (hi : (m_code M)[pc]? = some (55, 3, 0, t, 0, 0)) (hp : pc + 3 = pc') (kt : x ≤ y → wpx d M t ls st h Q) (kf : ¬ x ≤ y → wpx d M pc' ls st h Q) : wpx d M pc ls (.int y :: .int x :: st) h Q := by
  subst hp
  exact wpx_if (c := x ≤ y) (q := (c_icmp_le, s_icmp_le)) hi (Nat.le_of_ble_eq_true rfl) rfl rfl kt kf
theorem st_goto {t : Nat} (hi : (m_code M)[pc]? = some (56, 3, 0, t, 0, 0)) (k : wpx d M t ls st h Q) : wpx d M pc ls st h Q := wpx_st (q := (c_goto, s_goto)) hi (Nat.le_of_ble_eq_true rfl) rfl rfl k
theorem st_oinit {a pl : Nat} (hi : (m_code M)[pc]? = some (78, 3, 0, pl, 0, 0)) (hp : pc + 3 = pc') (hr : st.length ≤ 4) (k : wpx d M pc' ls st h Q) : wpx d M pc ls (.ref a :: st) h Q := by
  subst hp
  exact wpx_st (q := (c_oinit, s_oinit)) hi (Nat.le_of_ble_eq_true rfl) rfl (if_pos hr) k
theorem st_slen {b : Nat} (hi : (m_code M)[pc]? = some (76, 1, 0, 0, 0, 0)) (hp : pc + 1 = pc') (k : wpx d M pc' ls (.int (Int32.ofNat (h_sc h).1) :: st) h Q) : wpx d M pc ls (.retAddr b :: st) h Q := by
  subst hp
  exact wpx_st (q := (c_slen, s_slen)) hi (Nat.le_of_ble_eq_true rfl) rfl rfl k
theorem st_mmax {x y : Int32} {pl : Nat} (hi : (m_code M)[pc]? = some (82, 3, 0, pl, 0, 0)) (hp : pc + 3 = pc') (hr : st.length ≤ 4) (k : wpx d M pc' ls (.int (if x < y then y else x) :: st) h Q) : wpx d M pc ls (.int y :: .int x :: st) h Q := by
  subst hp
  exact wpx_st (q := (c_mmax, s_mmax)) hi (Nat.le_of_ble_eq_true rfl) rfl (if_pos hr) k
theorem st_mmin {x y : Int32} {pl : Nat} (hi : (m_code M)[pc]? = some (83, 3, 0, pl, 0, 0)) (hp : pc + 3 = pc') (hr : st.length ≤ 4) (k : wpx d M pc' ls (.int (if y < x then y else x) :: st) h Q) : wpx d M pc ls (.int y :: .int x :: st) h Q := by
  subst hp
  exact wpx_st (q := (c_mmin, s_mmin)) hi (Nat.le_of_ble_eq_true rfl) rfl (if_pos hr) k
theorem st_switch {x : Int32} {ln j df : Nat} {lo : Int} {tg : List Nat} (hi : (m_code M)[pc]? = some (77, ln, 0, j, 0, 0)) (hw : swT[j]? = some (lo, tg, df)) (kd : x.toInt < lo ∨ lo + (tg.length : Int) ≤ x.toInt → wpx d M df ls st h Q) (k : ∀ t, ¬ (x.toInt < lo ∨ lo + (tg.length : Int) ≤ x.toInt) → tg[(x.toInt - lo).toNat]? = some t → wpx d M t ls st h Q) : wpx d M pc ls (.int x :: st) h Q := by
  by_cases hc : x.toInt < lo ∨ lo + (tg.length : Int) ≤ x.toInt
  · exact wpx_st (q := (c_switch, s_switch)) (pc' := df) (ls' := ls) (st' := st) hi (Nat.le_of_ble_eq_true rfl) rfl (by simp only [s_switch, hw]; rw [if_pos hc]) (kd hc)
  · cases ht : tg[(x.toInt - lo).toNat]? with
    | none =>
      exfalso
      have := List.getElem?_eq_none_iff.mp ht
      omega
    | some t => exact wpx_st (q := (c_switch, s_switch)) (pc' := t) (ls' := ls) (st' := st) hi (Nat.le_of_ble_eq_true rfl) rfl (by simp only [s_switch, hw]; rw [if_neg hc, ht]; rfl) (k t hc ht)
theorem st_copyI {a a0 n0 n1 pl : Nat} {n dp sp : Int32} (hi : (m_code M)[pc]? = some (79, 3, 0, pl, 0, 0)) (hp : pc + 3 = pc') (hr : st.length ≤ 4) (hs0 : h_sh h a0 = some (1, n0)) (hs1 : h_sh h a = some (1, n1)) (hc : (¬ sp < 0) ∧ (¬ dp < 0) ∧ (¬ n < 0) ∧ sp.toNatClampNeg + n.toNatClampNeg ≤ n0 ∧ dp.toNatClampNeg + n.toNatClampNeg ≤ n1) (k : wpx d M pc' ls st (w_ri h a (va_cpy (h_i h a0) (h_i h a) sp.toNatClampNeg dp.toNatClampNeg n.toNatClampNeg)) Q) : wpx d M pc ls (.int n :: .int dp :: .ref a :: .int sp :: .ref a0 :: st) h Q := by
  subst hp
  exact wpx_step (q := (c_copyI, s_copyI)) (r := (pc + 3, ls, st, w_ri h a (va_cpy (h_i h a0) (h_i h a) sp.toNatClampNeg dp.toNatClampNeg n.toNatClampNeg))) hi (Nat.le_of_ble_eq_true rfl) rfl (by simp only [s_copyI, hs0, hs1]; rw [if_pos ⟨hr, hc⟩]) (leB_refl h) k
theorem st_copyL {a a0 n0 n1 pl : Nat} {n dp sp : Int32} (hi : (m_code M)[pc]? = some (81, 3, 0, pl, 0, 0)) (hp : pc + 3 = pc') (hr : st.length ≤ 4) (hs0 : h_sh h a0 = some (4, n0)) (hs1 : h_sh h a = some (4, n1)) (hc : (¬ sp < 0) ∧ (¬ dp < 0) ∧ (¬ n < 0) ∧ sp.toNatClampNeg + n.toNatClampNeg ≤ n0 ∧ dp.toNatClampNeg + n.toNatClampNeg ≤ n1) (k : wpx d M pc' ls st (w_rl h a (va_cpy (h_l h a0) (h_l h a) sp.toNatClampNeg dp.toNatClampNeg n.toNatClampNeg)) Q) : wpx d M pc ls (.int n :: .int dp :: .ref a :: .int sp :: .ref a0 :: st) h Q := by
  subst hp
  exact wpx_step (q := (c_copyL, s_copyL)) (r := (pc + 3, ls, st, w_rl h a (va_cpy (h_l h a0) (h_l h a) sp.toNatClampNeg dp.toNatClampNeg n.toNatClampNeg))) hi (Nat.le_of_ble_eq_true rfl) rfl (by simp only [s_copyL, hs0, hs1]; rw [if_pos ⟨hr, hc⟩]) (leB_refl h) k
theorem st_copyB {a a0 n0 n1 pl : Nat} {n dp sp : Int32} (hi : (m_code M)[pc]? = some (80, 3, 0, pl, 0, 0)) (hp : pc + 3 = pc') (hr : st.length ≤ 4) (hs0 : h_sh h a0 = some (2, n0)) (hs1 : h_sh h a = some (2, n1)) (hc : (¬ sp < 0) ∧ (¬ dp < 0) ∧ (¬ n < 0) ∧ sp.toNatClampNeg + n.toNatClampNeg ≤ n0 ∧ dp.toNatClampNeg + n.toNatClampNeg ≤ n1 ∧ (List.range n.toNatClampNeg).all (fun j => fits .byte (.int (h_i h a0 (sp.toNatClampNeg + j)))) = true) (k : wpx d M pc' ls st (w_ri h a (va_cpy (h_i h a0) (h_i h a) sp.toNatClampNeg dp.toNatClampNeg n.toNatClampNeg)) Q) : wpx d M pc ls (.int n :: .int dp :: .ref a :: .int sp :: .ref a0 :: st) h Q := by
  subst hp
  exact wpx_step (q := (c_copyB, s_copyB)) (r := (pc + 3, ls, st, w_ri h a (va_cpy (h_i h a0) (h_i h a) sp.toNatClampNeg dp.toNatClampNeg n.toNatClampNeg))) hi (Nat.le_of_ble_eq_true rfl) rfl (by simp only [s_copyB, hs0, hs1]; rw [if_pos ⟨hr, hc⟩]) (leB_refl h) k
theorem st_ireturn {v : Int32} {ty : FieldType} (hi : (m_code M)[pc]? = some (100, 1, 0, 0, 0, 0)) (hr : m_ret M = some ty) (hn : narrow ty (.int v) = .int v) (k : Q (some (.int v)) h) : wpx d M pc ls [.int v] h Q :=
  wpx_ret hi (by decide) (by decide) (by show (match m_ret M with | some ty => _ | none => _) = _; rw [hr]; exact if_pos hn) k
theorem st_lreturn {v : Int64} (hi : (m_code M)[pc]? = some (101, 1, 0, 0, 0, 0)) (k : Q (some (.long v)) h) : wpx d M pc ls [.long v] h Q := wpx_ret hi (by decide) (by decide) rfl k
theorem st_areturn {v : Nat} (hi : (m_code M)[pc]? = some (102, 1, 0, 0, 0, 0)) (k : Q (some (.ref v)) h) : wpx d M pc ls [.ref v] h Q := wpx_ret hi (by decide) (by decide) rfl k
theorem st_return (hi : (m_code M)[pc]? = some (103, 1, 0, 0, 0, 0)) (k : Q none h) : wpx d M pc ls [] h Q := wpx_ret hi (by decide) (by decide) rfl k
theorem st_call {id na j kd o : Nat} {a : Int} {as rest : List Value} (hi : (m_code M)[pc]? = some (110, 3, a, id, na, j)) (hp : pc + 3 = pc') (h1 : na ≤ st.length) (has : (st.take na).reverse = as) (hrest : st.drop na = rest) (h4 : rest.length ≤ 4) (hkd : m_kd (mOf id) = kd) (ho : m_o (mOf id) = o) (hrv : recvOK kd o h as = true) (k : wpm d id as h (fun r h' => wpx d M pc' ls (r.toList ++ rest) h' Q)) : wpx d M pc ls st h Q := by
  subst hp; subst hkd; subst ho
  exact wpx_call' hi rfl h1 has hrest h4 hrv k
end STN
end
section
/-! stretches of methods -/
theorem B_Md_alike_0 {d : Nat} {h : PH} {Q : PQ} {r0 : Nat} {x1 : Int32} {x2 : Int32} {x3 : Int32} {x4 : Int32} {v5 : Value}  (k : wpx d P_Md_alike 3 [.ref r0, .int x1, .int x2, .int x3, .int x4, .int 0] [] h Q) : wpx d P_Md_alike 0 [.ref r0, .int x1, .int x2, .int x3, .int x4, v5] [] h Q := by
  refine st_ipush (pc' := 1) (v := 0) rfl rfl (by decide) ?_
  refine st_istore (pc' := 3) (ls' := [.ref r0, .int x1, .int x2, .int x3, .int x4, .int 0]) rfl rfl (Nat.le_of_ble_eq_true rfl) rfl ?_
  exact k
theorem B_Md_alike_3 {d : Nat} {h : PH} {Q : PQ} {r0 : Nat} {x1 : Int32} {x2 : Int32} {x3 : Int32} {x4 : Int32} {x5 : Int32} {a0 : Nat} {n1 : Nat} (hs0 : h_sh h r0 = some (0, 12)) (hr1 : h_r h r0 2 = some a0) (hs2 : h_sh h a0 = some (1, n1)) (hb3 : vp_in x1 n1) (kt : (h_i h a0 x1.toNatClampNeg) ≤ (x2 + x5) → wpx d P_Md_alike 58 [.ref r0, .int x1, .int x2, .int x3, .int x4, .int x5] [] h Q) (kf : ¬ ((h_i h a0 x1.toNatClampNeg) ≤ (x2 + x5)) → wpx d P_Md_alike 16 [.ref r0, .int x1, .int x2, .int x3, .int x4, .int x5] [] h Q) : wpx d P_Md_alike 3 [.ref r0, .int x1, .int x2, .int x3, .int x4, .int x5] [] h Q := by
  refine st_iload (pc' := 4) rfl rfl rfl ?_
  refine st_iload (pc' := 6) rfl rfl rfl ?_
  refine st_iadd (pc' := 7) rfl rfl ?_
  refine st_aload (pc' := 8) rfl rfl rfl ?_
  refine st_getfr (x := some a0) (Or.inl rfl) rfl hs0 rfl hr1 (pc' := 11) rfl ?_
  refine st_iload (pc' := 12) rfl rfl rfl ?_
  refine st_iaload rfl hs2 hb3 (pc' := 13) rfl ?_
  exact st_icmp_ge (pc' := 16) rfl rfl kt kf
theorem B_Md_alike_16 {d : Nat} {h : PH} {Q : PQ} {r0 : Nat} {x1 : Int32} {x2 : Int32} {x3 : Int32} {x4 : Int32} {x5 : Int32} {a0 : Nat} {n1 : Nat} (hs0 : h_sh h r0 = some (0, 12)) (hr1 : h_r h r0 2 = some a0) (hs2 : h_sh h a0 = some (1, n1)) (hb3 : vp_in x3 n1) (kt : (h_i h a0 x3.toNatClampNeg) ≤ (x4 + x5) → wpx d P_Md_alike 58 [.ref r0, .int x1, .int x2, .int x3, .int x4, .int x5] [] h Q) (kf : ¬ ((h_i h a0 x3.toNatClampNeg) ≤ (x4 + x5)) → wpx d P_Md_alike 30 [.ref r0, .int x1, .int x2, .int x3, .int x4, .int x5] [] h Q) : wpx d P_Md_alike 16 [.ref r0, .int x1, .int x2, .int x3, .int x4, .int x5] [] h Q := by
  refine st_iload (pc' := 18) rfl rfl rfl ?_
  refine st_iload (pc' := 20) rfl rfl rfl ?_
  refine st_iadd (pc' := 21) rfl rfl ?_
  refine st_aload (pc' := 22) rfl rfl rfl ?_
  refine st_getfr (x := some a0) (Or.inl rfl) rfl hs0 rfl hr1 (pc' := 25) rfl ?_
  refine st_iload (pc' := 26) rfl rfl rfl ?_
  refine st_iaload rfl hs2 hb3 (pc' := 27) rfl ?_
  exact st_icmp_ge (pc' := 30) rfl rfl kt kf
theorem B_Md_alike_30 {d : Nat} {h : PH} {Q : PQ} {r0 : Nat} {x1 : Int32} {x2 : Int32} {x3 : Int32} {x4 : Int32} {x5 : Int32} (hs0 : h_sh h r0 = some (0, 12)) (k : wpm d 174 [.ref r0, .int x1, .int (x2 + x5)] h (fun r h' => wpx d P_Md_alike 39 [.ref r0, .int x1, .int x2, .int x3, .int x4, .int x5] (r.toList ++ []) h' Q)) : wpx d P_Md_alike 30 [.ref r0, .int x1, .int x2, .int x3, .int x4, .int x5] [] h Q := by
  refine st_aload (pc' := 31) rfl rfl rfl ?_
  refine st_iload (pc' := 32) rfl rfl rfl ?_
  refine st_iload (pc' := 33) rfl rfl rfl ?_
  refine st_iload (pc' := 35) rfl rfl rfl ?_
  refine st_iadd (pc' := 36) rfl rfl ?_
  exact st_call (pc' := 39) (as := [.ref r0, .int x1, .int (x2 + x5)]) (rest := []) rfl rfl (Nat.le_of_ble_eq_true rfl) rfl rfl (Nat.le_of_ble_eq_true rfl) (kd := 1) (o := 12) rfl rfl (beq_iff_eq.mpr hs0) k
theorem B_Md_alike_39 {d : Nat} {h : PH} {Q : PQ} {r0 : Nat} {x1 : Int32} {x2 : Int32} {x3 : Int32} {x4 : Int32} {x5 : Int32} {s0 : Int32} (hs0 : h_sh h r0 = some (0, 12)) (k : wpm d 174 [.ref r0, .int x3, .int (x4 + x5)] h (fun r h' => wpx d P_Md_alike 49 [.ref r0, .int x1, .int x2, .int x3, .int x4, .int x5] (r.toList ++ [.int s0]) h' Q)) : wpx d P_Md_alike 39 [.ref r0, .int x1, .int x2, .int x3, .int x4, .int x5] [.int s0] h Q := by
  refine st_aload (pc' := 40) rfl rfl rfl ?_
  refine st_iload (pc' := 41) rfl rfl rfl ?_
  refine st_iload (pc' := 43) rfl rfl rfl ?_
  refine st_iload (pc' := 45) rfl rfl rfl ?_
  refine st_iadd (pc' := 46) rfl rfl ?_
  exact st_call (pc' := 49) (as := [.ref r0, .int x3, .int (x4 + x5)]) (rest := [.int s0]) rfl rfl (Nat.le_of_ble_eq_true rfl) rfl rfl (Nat.le_of_ble_eq_true rfl) (kd := 1) (o := 12) rfl rfl (beq_iff_eq.mpr hs0) k
theorem B_Md_alike_49 {d : Nat} {h : PH} {Q : PQ} {r0 : Nat} {x1 : Int32} {x2 : Int32} {x3 : Int32} {x4 : Int32} {x5 : Int32} {s0 : Int32} {s1 : Int32}  (kt : ¬ (s0 = s1) → wpx d P_Md_alike 58 [.ref r0, .int x1, .int x2, .int x3, .int x4, .int x5] [] h Q) (kf : s0 = s1 → wpx d P_Md_alike 52 [.ref r0, .int x1, .int x2, .int x3, .int x4, .int x5] [] h Q) : wpx d P_Md_alike 49 [.ref r0, .int x1, .int x2, .int x3, .int x4, .int x5] [.int s1, .int s0] h Q := by
  exact st_icmp_ne (pc' := 52) rfl rfl kt kf
theorem B_Md_alike_52 {d : Nat} {h : PH} {Q : PQ} {r0 : Nat} {x1 : Int32} {x2 : Int32} {x3 : Int32} {x4 : Int32} {x5 : Int32}  (k : wpx d P_Md_alike 3 [.ref r0, .int x1, .int x2, .int x3, .int x4, .int (x5 + 1)] [] h Q) : wpx d P_Md_alike 52 [.ref r0, .int x1, .int x2, .int x3, .int x4, .int x5] [] h Q := by
  refine st_iinc (pc' := 55) (v := 1) (ls' := [.ref r0, .int x1, .int x2, .int x3, .int x4, .int (x5 + 1)]) rfl rfl rfl (by decide) rfl ?_
  exact st_goto rfl k
theorem B_Md_alike_58 {d : Nat} {h : PH} {Q : PQ} {r0 : Nat} {x1 : Int32} {x2 : Int32} {x3 : Int32} {x4 : Int32} {x5 : Int32}  (k : Q (some (.int x5)) h) : wpx d P_Md_alike 58 [.ref r0, .int x1, .int x2, .int x3, .int x4, .int x5] [] h Q := by
  refine st_iload (pc' := 60) rfl rfl rfl ?_
  exact st_ireturn (ty := .int) rfl rfl rfl k
theorem B_Md_letterAt_0 {d : Nat} {h : PH} {Q : PQ} {r0 : Nat} {x1 : Int32} {x2 : Int32} {a0 : Nat} {n1 : Nat} (hs0 : h_sh h r0 = some (0, 12)) (hr1 : h_r h r0 1 = some a0) (hs2 : h_sh h a0 = some (1, n1)) (hb3 : vp_in (((8 : Int32) * x1) + x2) n1) (k : Q (some (.int (h_i h a0 (((8 : Int32) * x1) + x2).toNatClampNeg))) h) : wpx d P_Md_letterAt 0 [.ref r0, .int x1, .int x2] [] h Q := by
  refine st_aload (pc' := 1) rfl rfl rfl ?_
  refine st_getfr (x := some a0) (Or.inl rfl) rfl hs0 rfl hr1 (pc' := 4) rfl ?_
  refine st_ipush (pc' := 6) (v := 8) rfl rfl (by decide) ?_
  refine st_iload (pc' := 7) rfl rfl rfl ?_
  refine st_imul (pc' := 8) rfl rfl ?_
  refine st_iload (pc' := 9) rfl rfl rfl ?_
  refine st_iadd (pc' := 10) rfl rfl ?_
  refine st_iaload rfl hs2 hb3 (pc' := 11) rfl ?_
  exact st_ireturn (ty := .int) rfl rfl rfl k
theorem B_Gr_change_0 {d : Nat} {h : PH} {Q : PQ} {r0 : Nat} {x1 : Int32} {x2 : Int32} {v3 : Value} (hs0 : h_sh h r0 = some (0, 3)) (kt : ¬ (x1 = (2 : Int32)) → wpx d P_Gr_change 26 [.ref r0, .int x1, .int x2, v3] [] (w_i h r0 6 ((h_i h r0 6) + (1 : Int32))) Q) (kf : x1 = (2 : Int32) → wpx d P_Gr_change 15 [.ref r0, .int x1, .int x2, v3] [] (w_i h r0 6 ((h_i h r0 6) + (1 : Int32))) Q) : wpx d P_Gr_change 0 [.ref r0, .int x1, .int x2, v3] [] h Q := by
  refine st_aload (pc' := 1) rfl rfl rfl ?_
  refine st_dup (pc' := 2) rfl rfl rfl ?_
  refine st_getfi (Or.inl rfl) rfl hs0 rfl (pc' := 5) rfl ?_
  refine st_ipush (pc' := 6) (v := 1) rfl rfl (by decide) ?_
  refine st_iadd (pc' := 7) rfl rfl ?_
  refine st_putf (h' := w_i h r0 6 ((h_i h r0 6) + (1 : Int32))) (Or.inl rfl) rfl hs0 rfl rfl rfl (pc' := 10) rfl ?_
  refine st_iload (pc' := 11) rfl rfl rfl ?_
  refine st_ipush (pc' := 12) (v := 2) rfl rfl (by decide) ?_
  exact st_icmp_ne (pc' := 15) rfl rfl kt kf
theorem B_Gr_change_15 {d : Nat} {h : PH} {Q : PQ} {r0 : Nat} {x1 : Int32} {x2 : Int32} {v3 : Value} (hs0 : h_sh h r0 = some (0, 3)) (k : Q none (w_i h r0 5 ((h_i h r0 5) ^^^ x2))) : wpx d P_Gr_change 15 [.ref r0, .int x1, .int x2, v3] [] h Q := by
  refine st_aload (pc' := 16) rfl rfl rfl ?_
  refine st_dup (pc' := 17) rfl rfl rfl ?_
  refine st_getfi (Or.inl rfl) rfl hs0 rfl (pc' := 20) rfl ?_
  refine st_iload (pc' := 21) rfl rfl rfl ?_
  refine st_ixor (pc' := 22) rfl rfl ?_
  refine st_putf (h' := w_i h r0 5 ((h_i h r0 5) ^^^ x2)) (Or.inl rfl) rfl hs0 rfl rfl rfl (pc' := 25) rfl ?_
  exact st_return rfl k
theorem B_Gr_change_26 {d : Nat} {h : PH} {Q : PQ} {r0 : Nat} {x1 : Int32} {x2 : Int32} {v3 : Value}  (k : wpx d P_Gr_change 28 [.ref r0, .int x1, .int x2, .int 0] [] h Q) : wpx d P_Gr_change 26 [.ref r0, .int x1, .int x2, v3] [] h Q := by
  refine st_ipush (pc' := 27) (v := 0) rfl rfl (by decide) ?_
  refine st_istore (pc' := 28) (ls' := [.ref r0, .int x1, .int x2, .int 0]) rfl rfl (Nat.le_of_ble_eq_true rfl) rfl ?_
  exact k
theorem B_Gr_change_28 {d : Nat} {h : PH} {Q : PQ} {r0 : Nat} {x1 : Int32} {x2 : Int32} {x3 : Int32} (hs0 : h_sh h r0 = some (0, 3)) (kt : (h_i h r0 3) ≤ x3 → wpx d P_Gr_change 117 [.ref r0, .int x1, .int x2, .int x3] [] h Q) (kf : ¬ ((h_i h r0 3) ≤ x3) → wpx d P_Gr_change 36 [.ref r0, .int x1, .int x2, .int x3] [] h Q) : wpx d P_Gr_change 28 [.ref r0, .int x1, .int x2, .int x3] [] h Q := by
  refine st_iload (pc' := 29) rfl rfl rfl ?_
  refine st_aload (pc' := 30) rfl rfl rfl ?_
  refine st_getfi (Or.inl rfl) rfl hs0 rfl (pc' := 33) rfl ?_
  exact st_icmp_ge (pc' := 36) rfl rfl kt kf
theorem B_Gr_change_36 {d : Nat} {h : PH} {Q : PQ} {r0 : Nat} {x1 : Int32} {x2 : Int32} {x3 : Int32}  (kt : ¬ ((((x2.toUInt32 >>> (x3.toUInt32 &&& Int32.toUInt32 31)).toInt32) &&& (1 : Int32)) = (1 : Int32)) → wpx d P_Gr_change 111 [.ref r0, .int x1, .int x2, .int x3] [] h Q) (kf : (((x2.toUInt32 >>> (x3.toUInt32 &&& Int32.toUInt32 31)).toInt32) &&& (1 : Int32)) = (1 : Int32) → wpx d P_Gr_change 45 [.ref r0, .int x1, .int x2, .int x3] [] h Q) : wpx d P_Gr_change 36 [.ref r0, .int x1, .int x2, .int x3] [] h Q := by
  refine st_iload (pc' := 37) rfl rfl rfl ?_
  refine st_iload (pc' := 38) rfl rfl rfl ?_
  refine st_iushr (pc' := 39) rfl rfl ?_
  refine st_ipush (pc' := 40) (v := 1) rfl rfl (by decide) ?_
  refine st_iand (pc' := 41) rfl rfl ?_
  refine st_ipush (pc' := 42) (v := 1) rfl rfl (by decide) ?_
  exact st_icmp_ne (pc' := 45) rfl rfl kt kf
theorem B_Gr_change_45 {d : Nat} {h : PH} {Q : PQ} {r0 : Nat} {x1 : Int32} {x2 : Int32} {x3 : Int32} {a0 : Nat} {n1 : Nat} (hs0 : h_sh h r0 = some (0, 3)) (hr1 : h_r h r0 1 = some a0) (hs2 : h_sh h a0 = some (1, n1)) (hb3 : vp_in x3 n1) (kt : (7 : Int32) ≤ (h_i h a0 x3.toNatClampNeg) → wpx d P_Gr_change 111 [.ref r0, .int x1, .int x2, .int x3] [] h Q) (kf : ¬ ((7 : Int32) ≤ (h_i h a0 x3.toNatClampNeg)) → wpx d P_Gr_change 56 [.ref r0, .int x1, .int x2, .int x3] [] h Q) : wpx d P_Gr_change 45 [.ref r0, .int x1, .int x2, .int x3] [] h Q := by
  refine st_aload (pc' := 46) rfl rfl rfl ?_
  refine st_getfr (x := some a0) (Or.inl rfl) rfl hs0 rfl hr1 (pc' := 49) rfl ?_
  refine st_iload (pc' := 50) rfl rfl rfl ?_
  refine st_iaload rfl hs2 hb3 (pc' := 51) rfl ?_
  refine st_ipush (pc' := 53) (v := 7) rfl rfl (by decide) ?_
  exact st_icmp_ge (pc' := 56) rfl rfl kt kf
theorem B_Gr_change_56 {d : Nat} {h : PH} {Q : PQ} {r0 : Nat} {x1 : Int32} {x2 : Int32} {x3 : Int32} {a0 : Nat} (hs0 : h_sh h r0 = some (0, 3)) (hr1 : h_r h r0 0 = some a0) (kt : ¬ (x1 = (1 : Int32)) → wpx d P_Gr_change 88 [.ref r0, .int x1, .int x2, .int x3] [.int x3, .ref a0] h Q) (kf : x1 = (1 : Int32) → wpx d P_Gr_change 66 [.ref r0, .int x1, .int x2, .int x3] [.int x3, .ref a0] h Q) : wpx d P_Gr_change 56 [.ref r0, .int x1, .int x2, .int x3] [] h Q := by
  refine st_aload (pc' := 57) rfl rfl rfl ?_
  refine st_getfr (x := some a0) (Or.inl rfl) rfl hs0 rfl hr1 (pc' := 60) rfl ?_
  refine st_iload (pc' := 61) rfl rfl rfl ?_
  refine st_iload (pc' := 62) rfl rfl rfl ?_
  refine st_ipush (pc' := 63) (v := 1) rfl rfl (by decide) ?_
  exact st_icmp_ne (pc' := 66) rfl rfl kt kf
theorem B_Gr_change_66 {d : Nat} {h : PH} {Q : PQ} {r0 : Nat} {x1 : Int32} {x2 : Int32} {x3 : Int32} {q0 : Nat} {s1 : Int32} {a0 : Nat} {n1 : Nat} {a2 : Nat} {n3 : Nat} (hs0 : h_sh h r0 = some (0, 3)) (hr1 : h_r h r0 1 = some a0) (hs2 : h_sh h a0 = some (1, n1)) (hb3 : vp_in x3 n1) (hr4 : h_r h r0 0 = some a2) (hs5 : h_sh h a2 = some (4, n3)) (hb6 : vp_in x3 n3) (k : wpx d P_Gr_change 100 [.ref r0, .int x1, .int x2, .int x3] [.long (((27 : Int64) <<< (((5 : Int32) * (h_i h a0 x3.toNatClampNeg)).toInt64 &&& 63)) ||| (h_l h a2 x3.toNatClampNeg)), .int s1, .ref q0] h Q) : wpx d P_Gr_change 66 [.ref r0, .int x1, .int x2, .int x3] [.int s1, .ref q0] h Q := by
  refine st_ldc2 (pc' := 69) (v := 27) rfl rfl (by decide) ?_
  refine st_ipush (pc' := 70) (v := 5) rfl rfl (by decide) ?_
  refine st_aload (pc' := 71) rfl rfl rfl ?_
  refine st_getfr (x := some a0) (Or.inl rfl) rfl hs0 rfl hr1 (pc' := 74) rfl ?_
  refine st_iload (pc' := 75) rfl rfl rfl ?_
  refine st_iaload rfl hs2 hb3 (pc' := 76) rfl ?_
  refine st_imul (pc' := 77) rfl rfl ?_
  refine st_lshl (pc' := 78) rfl rfl ?_
  refine st_aload (pc' := 79) rfl rfl rfl ?_
  refine st_getfr (x := some a2) (Or.inl rfl) rfl hs0 rfl hr4 (pc' := 82) rfl ?_
  refine st_iload (pc' := 83) rfl rfl rfl ?_
  refine st_laload rfl hs5 hb6 (pc' := 84) rfl ?_
  refine st_lor (pc' := 85) rfl rfl ?_
  exact st_goto rfl k
theorem B_Gr_change_88 {d : Nat} {h : PH} {Q : PQ} {r0 : Nat} {x1 : Int32} {x2 : Int32} {x3 : Int32} {q0 : Nat} {s1 : Int32} {a0 : Nat} {n1 : Nat} (hs0 : h_sh h r0 = some (0, 3)) (hr1 : h_r h r0 0 = some a0) (hs2 : h_sh h a0 = some (4, n1)) (hb3 : vp_in x3 n1) (k : wpx d P_Gr_change 100 [.ref r0, .int x1, .int x2, .int x3] [.long (((h_l h a0 x3.toNatClampNeg) <<< ((5 : Int32).toInt64 &&& 63)) ||| (27 : Int64)), .int s1, .ref q0] h Q) : wpx d P_Gr_change 88 [.ref r0, .int x1, .int x2, .int x3] [.int s1, .ref q0] h Q := by
  refine st_aload (pc' := 89) rfl rfl rfl ?_
  refine st_getfr (x := some a0) (Or.inl rfl) rfl hs0 rfl hr1 (pc' := 92) rfl ?_
  refine st_iload (pc' := 93) rfl rfl rfl ?_
  refine st_laload rfl hs2 hb3 (pc' := 94) rfl ?_
  refine st_ipush (pc' := 95) (v := 5) rfl rfl (by decide) ?_
  refine st_lshl (pc' := 96) rfl rfl ?_
  refine st_ldc2 (pc' := 99) (v := 27) rfl rfl (by decide) ?_
  refine st_lor (pc' := 100) rfl rfl ?_
  exact k
theorem B_Gr_change_100 {d : Nat} {h : PH} {Q : PQ} {r0 : Nat} {x1 : Int32} {x2 : Int32} {x3 : Int32} {q0 : Nat} {s1 : Int32} {t2 : Int64} {n0 : Nat} {a1 : Nat} {n2 : Nat} (hs0 : h_sh h q0 = some (4, n0)) (hb1 : vp_in s1 n0) (hs2 : h_sh h r0 = some (0, 3)) (hr3 : h_r h r0 1 = some a1) (hs4 : h_sh h a1 = some (1, n2)) (hb5 : vp_in x3 n2) (k : wpx d P_Gr_change 111 [.ref r0, .int x1, .int x2, .int x3] [] (w_i (w_l h q0 s1.toNatClampNeg t2) a1 x3.toNatClampNeg ((h_i (w_l h q0 s1.toNatClampNeg t2) a1 x3.toNatClampNeg) + (1 : Int32))) Q) : wpx d P_Gr_change 100 [.ref r0, .int x1, .int x2, .int x3] [.long t2, .int s1, .ref q0] h Q := by
  refine st_lastore rfl hs0 hb1 (pc' := 101) rfl ?_
  refine st_aload (pc' := 102) rfl rfl rfl ?_
  refine st_getfr (x := some a1) (Or.inl rfl) rfl hs2 rfl hr3 (pc' := 105) rfl ?_
  refine st_iload (pc' := 106) rfl rfl rfl ?_
  refine st_dup211 (pc' := 107) rfl rfl ⟨rfl, rfl⟩ ?_
  refine st_iaload rfl hs4 hb5 (pc' := 108) rfl ?_
  refine st_ipush (pc' := 109) (v := 1) rfl rfl (by decide) ?_
  refine st_iadd (pc' := 110) rfl rfl ?_
  refine st_iastore rfl hs4 hb5 (pc' := 111) rfl ?_
  exact k
theorem B_Gr_change_111 {d : Nat} {h : PH} {Q : PQ} {r0 : Nat} {x1 : Int32} {x2 : Int32} {x3 : Int32}  (k : wpx d P_Gr_change 28 [.ref r0, .int x1, .int x2, .int (x3 + 1)] [] h Q) : wpx d P_Gr_change 111 [.ref r0, .int x1, .int x2, .int x3] [] h Q := by
  refine st_iinc (pc' := 114) (v := 1) (ls' := [.ref r0, .int x1, .int x2, .int (x3 + 1)]) rfl rfl rfl (by decide) rfl ?_
  exact st_goto rfl k
theorem B_Gr_change_117 {d : Nat} {h : PH} {Q : PQ} {r0 : Nat} {x1 : Int32} {x2 : Int32} {x3 : Int32}  (k : Q none h) : wpx d P_Gr_change 117 [.ref r0, .int x1, .int x2, .int x3] [] h Q := by
  exact st_return rfl k
theorem B_Ow_freshTails_0 {d : Nat} {h : PH} {Q : PQ} {r0 : Nat} (hs0 : h_sh h r0 = some (0, 11)) (kt : ∀ a, h_r h r0 6 = some a → wpx d P_Ow_freshTails 18 [.ref r0] [] h Q) (kf : h_r h r0 6 = none → wpx d P_Ow_freshTails 7 [.ref r0] [] h Q) : wpx d P_Ow_freshTails 0 [.ref r0] [] h Q := by
  refine st_aload (pc' := 1) rfl rfl rfl ?_
  refine st_getfr (x := h_r h r0 6) (Or.inl rfl) rfl hs0 rfl rfl (pc' := 4) rfl ?_
  exact st_nonnull rfl kt (pc' := 7) rfl kf
theorem B_Ow_freshTails_7 {d : Nat} {h : PH} {Q : PQ} {r0 : Nat}  (k : wpm d 68 [.ref (h_ct h)] (h_new h (0, 6) (fN 6)) (fun r h' => wpx d P_Ow_freshTails 15 [.ref r0] (r.toList ++ [.ref (h_ct h), .ref r0]) h' Q)) : wpx d P_Ow_freshTails 7 [.ref r0] [] h Q := by
  refine st_aload (pc' := 8) rfl rfl rfl ?_
  refine st_new rfl (pc' := 11) rfl ?_
  refine st_dup (pc' := 12) rfl rfl rfl ?_
  exact st_call (pc' := 15) (as := [.ref (h_ct h)]) (rest := [.ref (h_ct h), .ref r0]) rfl rfl (Nat.le_of_ble_eq_true rfl) rfl rfl (Nat.le_of_ble_eq_true rfl) (kd := 2) (o := 6) rfl rfl rfl k
theorem B_Ow_freshTails_15 {d : Nat} {h : PH} {Q : PQ} {r0 : Nat} {q0 : Nat} {q1 : Nat} (hs0 : h_sh h q0 = some (0, 11)) (k : wpx d P_Ow_freshTails 18 [.ref r0] [] (w_r h q0 6 (some q1)) Q) : wpx d P_Ow_freshTails 15 [.ref r0] [.ref q1, .ref q0] h Q := by
  refine st_putf (h' := w_r h q0 6 (some q1)) (Or.inl rfl) rfl hs0 rfl rfl rfl (pc' := 18) rfl ?_
  exact k
theorem B_Ow_freshTails_18 {d : Nat} {h : PH} {Q : PQ} {r0 : Nat} {a0 : Nat} {a1 : Nat} (hs0 : h_sh h r0 = some (0, 11)) (hr1 : h_r h r0 6 = some a0) (hs2 : h_sh h a0 = some (0, 6)) (hr3 : h_r h r0 2 = some a1) (hs4 : h_sh h a1 = some (0, 3)) (kt : (h_i h a0 8) = (h_i h a1 6) → wpx d P_Ow_freshTails 47 [.ref r0] [] h Q) (kf : ¬ ((h_i h a0 8) = (h_i h a1 6)) → wpx d P_Ow_freshTails 35 [.ref r0] [] h Q) : wpx d P_Ow_freshTails 18 [.ref r0] [] h Q := by
  refine st_aload (pc' := 19) rfl rfl rfl ?_
  refine st_getfr (x := some a0) (Or.inl rfl) rfl hs0 rfl hr1 (pc' := 22) rfl ?_
  refine st_getfi (Or.inr rfl) rfl hs2 rfl (pc' := 25) rfl ?_
  refine st_aload (pc' := 26) rfl rfl rfl ?_
  refine st_getfr (x := some a1) (Or.inl rfl) rfl hs0 rfl hr3 (pc' := 29) rfl ?_
  refine st_getfi (Or.inr rfl) rfl hs4 rfl (pc' := 32) rfl ?_
  exact st_icmp_eq (pc' := 35) rfl rfl kt kf
theorem B_Ow_freshTails_35 {d : Nat} {h : PH} {Q : PQ} {r0 : Nat} {a0 : Nat} {a1 : Nat} (hs0 : h_sh h r0 = some (0, 11)) (hr1 : h_r h r0 6 = some a0) (hr2 : h_r h r0 2 = some a1) (hs3 : h_sh h a0 = some (0, 6)) (k : wpm d 69 [.ref a0, .ref a1, .int 0] h (fun r h' => wpx d P_Ow_freshTails 47 [.ref r0] (r.toList ++ []) h' Q)) : wpx d P_Ow_freshTails 35 [.ref r0] [] h Q := by
  refine st_aload (pc' := 36) rfl rfl rfl ?_
  refine st_getfr (x := some a0) (Or.inl rfl) rfl hs0 rfl hr1 (pc' := 39) rfl ?_
  refine st_aload (pc' := 40) rfl rfl rfl ?_
  refine st_getfr (x := some a1) (Or.inl rfl) rfl hs0 rfl hr2 (pc' := 43) rfl ?_
  refine st_ipush (pc' := 44) (v := 0) rfl rfl (by decide) ?_
  exact st_call (pc' := 47) (as := [.ref a0, .ref a1, .int 0]) (rest := []) rfl rfl (Nat.le_of_ble_eq_true rfl) rfl rfl (Nat.le_of_ble_eq_true rfl) (kd := 1) (o := 6) rfl rfl (beq_iff_eq.mpr hs3) k
theorem B_Ow_freshTails_47 {d : Nat} {h : PH} {Q : PQ} {r0 : Nat} {a0 : Nat} (hs0 : h_sh h r0 = some (0, 11)) (hr1 : h_r h r0 6 = some a0) (k : Q (some (.ref a0)) h) : wpx d P_Ow_freshTails 47 [.ref r0] [] h Q := by
  refine st_aload (pc' := 48) rfl rfl rfl ?_
  refine st_getfr (x := some a0) (Or.inl rfl) rfl hs0 rfl hr1 (pc' := 51) rfl ?_
  exact st_areturn rfl k
end
