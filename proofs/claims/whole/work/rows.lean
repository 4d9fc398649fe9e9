section
-- ===== PART A: goes FIRST, ahead of the names: the tables' words, and 'selects' of the private methods out of them =====
/-- a private method of a class that the tables say can be made, by its rows of tables_1 -/
def lw_okq (q : MethodName × Nat) : Prop := (q.1.cls ≠ "java/lang/invoke/MethodHandle" ∧ q.1.cls ≠ "java/lang/invoke/VarHandle") ∧ Cond.instantiable q.1.cls q.2 ∈ tables_1 ∧ Cond.privateMethod q.1 ∈ tables_1 ∧ Cond.instanceMethod q.1 ∈ tables_1
theorem lw_p0 : lw_okq (⟨"OneWaySpell", "put", "(I)V"⟩, 13) := ⟨⟨by decide +kernel, by decide +kernel⟩, List.mem_of_getElem? (i := 19) (by decide +kernel), List.mem_of_getElem? (i := 212) (by decide +kernel), List.mem_of_getElem? (i := 213) (by decide +kernel)⟩
theorem lw_p1 : lw_okq (⟨"OneWaySpell$Teller", "tell", "([BI)V"⟩, 9) := ⟨⟨by decide +kernel, by decide +kernel⟩, List.mem_of_getElem? (i := 98) (by decide +kernel), List.mem_of_getElem? (i := 224) (by decide +kernel), List.mem_of_getElem? (i := 225) (by decide +kernel)⟩
theorem lw_p2 : lw_okq (⟨"OneWaySpell$Teller", "takeRow", "(JI)V"⟩, 9) := ⟨⟨by decide +kernel, by decide +kernel⟩, List.mem_of_getElem? (i := 98) (by decide +kernel), List.mem_of_getElem? (i := 234) (by decide +kernel), List.mem_of_getElem? (i := 235) (by decide +kernel)⟩
theorem lw_p3 : lw_okq (⟨"OneWaySpell$Teller", "takeLine", "(Z)V"⟩, 9) := ⟨⟨by decide +kernel, by decide +kernel⟩, List.mem_of_getElem? (i := 98) (by decide +kernel), List.mem_of_getElem? (i := 239) (by decide +kernel), List.mem_of_getElem? (i := 240) (by decide +kernel)⟩
theorem lw_p4 : lw_okq (⟨"OneWaySpell$Teller", "takeName", "(JZ)V"⟩, 9) := ⟨⟨by decide +kernel, by decide +kernel⟩, List.mem_of_getElem? (i := 98) (by decide +kernel), List.mem_of_getElem? (i := 243) (by decide +kernel), List.mem_of_getElem? (i := 244) (by decide +kernel)⟩
theorem lw_p5 : lw_okq (⟨"OneWaySpell$Teller", "takeGroup", "(JI)V"⟩, 9) := ⟨⟨by decide +kernel, by decide +kernel⟩, List.mem_of_getElem? (i := 98) (by decide +kernel), List.mem_of_getElem? (i := 247) (by decide +kernel), List.mem_of_getElem? (i := 248) (by decide +kernel)⟩
theorem lw_p6 : lw_okq (⟨"OneWaySpell$Teller", "takeSign", "(I)V"⟩, 9) := ⟨⟨by decide +kernel, by decide +kernel⟩, List.mem_of_getElem? (i := 98) (by decide +kernel), List.mem_of_getElem? (i := 251) (by decide +kernel), List.mem_of_getElem? (i := 252) (by decide +kernel)⟩
theorem lw_p7 : lw_okq (⟨"OneWaySpell$Groups", "takeTold", "(LOneWaySpell$Teller;)V"⟩, 10) := ⟨⟨by decide +kernel, by decide +kernel⟩, List.mem_of_getElem? (i := 27) (by decide +kernel), List.mem_of_getElem? (i := 258) (by decide +kernel), List.mem_of_getElem? (i := 259) (by decide +kernel)⟩
theorem lw_p8 : lw_okq (⟨"OneWaySpell$Word", "clear", "()V"⟩, 5) := ⟨⟨by decide +kernel, by decide +kernel⟩, List.mem_of_getElem? (i := 139) (by decide +kernel), List.mem_of_getElem? (i := 265) (by decide +kernel), List.mem_of_getElem? (i := 266) (by decide +kernel)⟩
theorem lw_p9 : lw_okq (⟨"OneWaySpell$Groups", "has", "(I)Z"⟩, 10) := ⟨⟨by decide +kernel, by decide +kernel⟩, List.mem_of_getElem? (i := 27) (by decide +kernel), List.mem_of_getElem? (i := 277) (by decide +kernel), List.mem_of_getElem? (i := 278) (by decide +kernel)⟩
theorem lw_p10 : lw_okq (⟨"OneWaySpell$Groups", "isIn", "(I)Z"⟩, 10) := ⟨⟨by decide +kernel, by decide +kernel⟩, List.mem_of_getElem? (i := 27) (by decide +kernel), List.mem_of_getElem? (i := 281) (by decide +kernel), List.mem_of_getElem? (i := 282) (by decide +kernel)⟩
theorem lw_p11 : lw_okq (⟨"OneWaySpell$Groups", "unlikeLetters", "()I"⟩, 10) := ⟨⟨by decide +kernel, by decide +kernel⟩, List.mem_of_getElem? (i := 27) (by decide +kernel), List.mem_of_getElem? (i := 296) (by decide +kernel), List.mem_of_getElem? (i := 297) (by decide +kernel)⟩
theorem lw_p12 : lw_okq (⟨"OneWaySpell$Groups", "noneBeginsAnother", "()Z"⟩, 10) := ⟨⟨by decide +kernel, by decide +kernel⟩, List.mem_of_getElem? (i := 27) (by decide +kernel), List.mem_of_getElem? (i := 309) (by decide +kernel), List.mem_of_getElem? (i := 310) (by decide +kernel)⟩
theorem lw_p13 : lw_okq (⟨"OneWaySpell$Groups", "groupBegins", "(II)Z"⟩, 10) := ⟨⟨by decide +kernel, by decide +kernel⟩, List.mem_of_getElem? (i := 27) (by decide +kernel), List.mem_of_getElem? (i := 313) (by decide +kernel), List.mem_of_getElem? (i := 314) (by decide +kernel)⟩
theorem lw_p14 : lw_okq (⟨"OneWaySpell$Groups", "noneEndsAnother", "()Z"⟩, 10) := ⟨⟨by decide +kernel, by decide +kernel⟩, List.mem_of_getElem? (i := 27) (by decide +kernel), List.mem_of_getElem? (i := 320) (by decide +kernel), List.mem_of_getElem? (i := 321) (by decide +kernel)⟩
theorem lw_p15 : lw_okq (⟨"OneWaySpell$Groups", "overlap", "(II)I"⟩, 10) := ⟨⟨by decide +kernel, by decide +kernel⟩, List.mem_of_getElem? (i := 27) (by decide +kernel), List.mem_of_getElem? (i := 334) (by decide +kernel), List.mem_of_getElem? (i := 335) (by decide +kernel)⟩
def lw_privs_1 : List (MethodName × Nat) := [(⟨"OneWaySpell", "put", "(I)V"⟩, 13), (⟨"OneWaySpell$Teller", "tell", "([BI)V"⟩, 9), (⟨"OneWaySpell$Teller", "takeRow", "(JI)V"⟩, 9), (⟨"OneWaySpell$Teller", "takeLine", "(Z)V"⟩, 9), (⟨"OneWaySpell$Teller", "takeName", "(JZ)V"⟩, 9), (⟨"OneWaySpell$Teller", "takeGroup", "(JI)V"⟩, 9), (⟨"OneWaySpell$Teller", "takeSign", "(I)V"⟩, 9), (⟨"OneWaySpell$Groups", "takeTold", "(LOneWaySpell$Teller;)V"⟩, 10), (⟨"OneWaySpell$Word", "clear", "()V"⟩, 5), (⟨"OneWaySpell$Groups", "has", "(I)Z"⟩, 10), (⟨"OneWaySpell$Groups", "isIn", "(I)Z"⟩, 10), (⟨"OneWaySpell$Groups", "unlikeLetters", "()I"⟩, 10), (⟨"OneWaySpell$Groups", "noneBeginsAnother", "()Z"⟩, 10), (⟨"OneWaySpell$Groups", "groupBegins", "(II)Z"⟩, 10), (⟨"OneWaySpell$Groups", "noneEndsAnother", "()Z"⟩, 10), (⟨"OneWaySpell$Groups", "overlap", "(II)I"⟩, 10)]
theorem lw_r1 : ∀ q ∈ lw_privs_1, lw_okq q := List.forall_mem_cons.mpr ⟨lw_p0, List.forall_mem_cons.mpr ⟨lw_p1, List.forall_mem_cons.mpr ⟨lw_p2, List.forall_mem_cons.mpr ⟨lw_p3, List.forall_mem_cons.mpr ⟨lw_p4, List.forall_mem_cons.mpr ⟨lw_p5, List.forall_mem_cons.mpr ⟨lw_p6, List.forall_mem_cons.mpr ⟨lw_p7, List.forall_mem_cons.mpr ⟨lw_p8, List.forall_mem_cons.mpr ⟨lw_p9, List.forall_mem_cons.mpr ⟨lw_p10, List.forall_mem_cons.mpr ⟨lw_p11, List.forall_mem_cons.mpr ⟨lw_p12, List.forall_mem_cons.mpr ⟨lw_p13, List.forall_mem_cons.mpr ⟨lw_p14, List.forall_mem_cons.mpr ⟨lw_p15, fun _ h => absurd h List.not_mem_nil⟩⟩⟩⟩⟩⟩⟩⟩⟩⟩⟩⟩⟩⟩⟩⟩
theorem lw_p16 : lw_okq (⟨"OneWaySpell", "freshTails", "()LOneWaySpell$Tails;"⟩, 13) := ⟨⟨by decide +kernel, by decide +kernel⟩, List.mem_of_getElem? (i := 19) (by decide +kernel), List.mem_of_getElem? (i := 346) (by decide +kernel), List.mem_of_getElem? (i := 347) (by decide +kernel)⟩
theorem lw_p17 : lw_okq (⟨"OneWaySpell$Tails", "build", "(LOneWaySpell$Groups;Z)V"⟩, 12) := ⟨⟨by decide +kernel, by decide +kernel⟩, List.mem_of_getElem? (i := 350) (by decide +kernel), List.mem_of_getElem? (i := 400) (by decide +kernel), List.mem_of_getElem? (i := 401) (by decide +kernel)⟩
theorem lw_p18 : lw_okq (⟨"OneWaySpell$Tails", "addFirstRound", "(LOneWaySpell$Groups;)V"⟩, 12) := ⟨⟨by decide +kernel, by decide +kernel⟩, List.mem_of_getElem? (i := 350) (by decide +kernel), List.mem_of_getElem? (i := 404) (by decide +kernel), List.mem_of_getElem? (i := 405) (by decide +kernel)⟩
theorem lw_p19 : lw_okq (⟨"OneWaySpell$Tails", "add", "(JII)V"⟩, 12) := ⟨⟨by decide +kernel, by decide +kernel⟩, List.mem_of_getElem? (i := 350) (by decide +kernel), List.mem_of_getElem? (i := 410) (by decide +kernel), List.mem_of_getElem? (i := 411) (by decide +kernel)⟩
theorem lw_p20 : lw_okq (⟨"OneWaySpell$Tails", "find", "(J)I"⟩, 12) := ⟨⟨by decide +kernel, by decide +kernel⟩, List.mem_of_getElem? (i := 350) (by decide +kernel), List.mem_of_getElem? (i := 415) (by decide +kernel), List.mem_of_getElem? (i := 416) (by decide +kernel)⟩
theorem lw_p21 : lw_okq (⟨"OneWaySpell$Tails", "sortAsInDictionary", "(II)V"⟩, 12) := ⟨⟨by decide +kernel, by decide +kernel⟩, List.mem_of_getElem? (i := 350) (by decide +kernel), List.mem_of_getElem? (i := 419) (by decide +kernel), List.mem_of_getElem? (i := 420) (by decide +kernel)⟩
theorem lw_p22 : lw_okq (⟨"OneWaySpell$Tails", "seekDoubt", "(LOneWaySpell$Groups;I)V"⟩, 12) := ⟨⟨by decide +kernel, by decide +kernel⟩, List.mem_of_getElem? (i := 350) (by decide +kernel), List.mem_of_getElem? (i := 426) (by decide +kernel), List.mem_of_getElem? (i := 427) (by decide +kernel)⟩
theorem lw_p23 : lw_okq (⟨"OneWaySpell$Tails", "addNextRound", "(LOneWaySpell$Groups;II)V"⟩, 12) := ⟨⟨by decide +kernel, by decide +kernel⟩, List.mem_of_getElem? (i := 350) (by decide +kernel), List.mem_of_getElem? (i := 430) (by decide +kernel), List.mem_of_getElem? (i := 431) (by decide +kernel)⟩
theorem lw_p24 : lw_okq (⟨"OneWaySpell$Tails", "sizeOf", "(I)I"⟩, 12) := ⟨⟨by decide +kernel, by decide +kernel⟩, List.mem_of_getElem? (i := 350) (by decide +kernel), List.mem_of_getElem? (i := 439) (by decide +kernel), List.mem_of_getElem? (i := 440) (by decide +kernel)⟩
theorem lw_p25 : lw_okq (⟨"OneWaySpell$Tails", "indexOf", "(II)I"⟩, 12) := ⟨⟨by decide +kernel, by decide +kernel⟩, List.mem_of_getElem? (i := 350) (by decide +kernel), List.mem_of_getElem? (i := 447) (by decide +kernel), List.mem_of_getElem? (i := 448) (by decide +kernel)⟩
theorem lw_p26 : lw_okq (⟨"OneWaySpell", "freshTree", "()LOneWaySpell$Tree;"⟩, 13) := ⟨⟨by decide +kernel, by decide +kernel⟩, List.mem_of_getElem? (i := 19) (by decide +kernel), List.mem_of_getElem? (i := 497) (by decide +kernel), List.mem_of_getElem? (i := 498) (by decide +kernel)⟩
theorem lw_p27 : lw_okq (⟨"OneWaySpell$Tree", "build", "(LOneWaySpell$Groups;)V"⟩, 11) := ⟨⟨by decide +kernel, by decide +kernel⟩, List.mem_of_getElem? (i := 501) (by decide +kernel), List.mem_of_getElem? (i := 553) (by decide +kernel), List.mem_of_getElem? (i := 554) (by decide +kernel)⟩
theorem lw_p28 : lw_okq (⟨"OneWaySpell$Tree", "plant", "(JI)V"⟩, 11) := ⟨⟨by decide +kernel, by decide +kernel⟩, List.mem_of_getElem? (i := 501) (by decide +kernel), List.mem_of_getElem? (i := 564) (by decide +kernel), List.mem_of_getElem? (i := 565) (by decide +kernel)⟩
theorem lw_p29 : lw_okq (⟨"OneWaySpell$Tree", "linkSuffixes", "(I)V"⟩, 11) := ⟨⟨by decide +kernel, by decide +kernel⟩, List.mem_of_getElem? (i := 501) (by decide +kernel), List.mem_of_getElem? (i := 569) (by decide +kernel), List.mem_of_getElem? (i := 570) (by decide +kernel)⟩
theorem lw_p30 : lw_okq (⟨"OneWaySpell$Tree", "back", "(II)I"⟩, 11) := ⟨⟨by decide +kernel, by decide +kernel⟩, List.mem_of_getElem? (i := 501) (by decide +kernel), List.mem_of_getElem? (i := 573) (by decide +kernel), List.mem_of_getElem? (i := 574) (by decide +kernel)⟩
theorem lw_p31 : lw_okq (⟨"OneWaySpell$Tree", "next", "(II)I"⟩, 11) := ⟨⟨by decide +kernel, by decide +kernel⟩, List.mem_of_getElem? (i := 501) (by decide +kernel), List.mem_of_getElem? (i := 577) (by decide +kernel), List.mem_of_getElem? (i := 578) (by decide +kernel)⟩
def lw_privs_2 : List (MethodName × Nat) := [(⟨"OneWaySpell", "freshTails", "()LOneWaySpell$Tails;"⟩, 13), (⟨"OneWaySpell$Tails", "build", "(LOneWaySpell$Groups;Z)V"⟩, 12), (⟨"OneWaySpell$Tails", "addFirstRound", "(LOneWaySpell$Groups;)V"⟩, 12), (⟨"OneWaySpell$Tails", "add", "(JII)V"⟩, 12), (⟨"OneWaySpell$Tails", "find", "(J)I"⟩, 12), (⟨"OneWaySpell$Tails", "sortAsInDictionary", "(II)V"⟩, 12), (⟨"OneWaySpell$Tails", "seekDoubt", "(LOneWaySpell$Groups;I)V"⟩, 12), (⟨"OneWaySpell$Tails", "addNextRound", "(LOneWaySpell$Groups;II)V"⟩, 12), (⟨"OneWaySpell$Tails", "sizeOf", "(I)I"⟩, 12), (⟨"OneWaySpell$Tails", "indexOf", "(II)I"⟩, 12), (⟨"OneWaySpell", "freshTree", "()LOneWaySpell$Tree;"⟩, 13), (⟨"OneWaySpell$Tree", "build", "(LOneWaySpell$Groups;)V"⟩, 11), (⟨"OneWaySpell$Tree", "plant", "(JI)V"⟩, 11), (⟨"OneWaySpell$Tree", "linkSuffixes", "(I)V"⟩, 11), (⟨"OneWaySpell$Tree", "back", "(II)I"⟩, 11), (⟨"OneWaySpell$Tree", "next", "(II)I"⟩, 11)]
theorem lw_r2 : ∀ q ∈ lw_privs_2, lw_okq q := List.forall_mem_cons.mpr ⟨lw_p16, List.forall_mem_cons.mpr ⟨lw_p17, List.forall_mem_cons.mpr ⟨lw_p18, List.forall_mem_cons.mpr ⟨lw_p19, List.forall_mem_cons.mpr ⟨lw_p20, List.forall_mem_cons.mpr ⟨lw_p21, List.forall_mem_cons.mpr ⟨lw_p22, List.forall_mem_cons.mpr ⟨lw_p23, List.forall_mem_cons.mpr ⟨lw_p24, List.forall_mem_cons.mpr ⟨lw_p25, List.forall_mem_cons.mpr ⟨lw_p26, List.forall_mem_cons.mpr ⟨lw_p27, List.forall_mem_cons.mpr ⟨lw_p28, List.forall_mem_cons.mpr ⟨lw_p29, List.forall_mem_cons.mpr ⟨lw_p30, List.forall_mem_cons.mpr ⟨lw_p31, fun _ h => absurd h List.not_mem_nil⟩⟩⟩⟩⟩⟩⟩⟩⟩⟩⟩⟩⟩⟩⟩⟩
theorem lw_p32 : lw_okq (⟨"OneWaySpell$Tree", "listBySign", "()V"⟩, 11) := ⟨⟨by decide +kernel, by decide +kernel⟩, List.mem_of_getElem? (i := 501) (by decide +kernel), List.mem_of_getElem? (i := 581) (by decide +kernel), List.mem_of_getElem? (i := 582) (by decide +kernel)⟩
theorem lw_p33 : lw_okq (⟨"OneWaySpell$Twins", "find", "(LOneWaySpell$Tree;)Z"⟩, 10) := ⟨⟨by decide +kernel, by decide +kernel⟩, List.mem_of_getElem? (i := 460) (by decide +kernel), List.mem_of_getElem? (i := 585) (by decide +kernel), List.mem_of_getElem? (i := 586) (by decide +kernel)⟩
theorem lw_p34 : lw_okq (⟨"OneWaySpell$Twins", "push", "(IIII)V"⟩, 10) := ⟨⟨by decide +kernel, by decide +kernel⟩, List.mem_of_getElem? (i := 460) (by decide +kernel), List.mem_of_getElem? (i := 590) (by decide +kernel), List.mem_of_getElem? (i := 591) (by decide +kernel)⟩
theorem lw_p35 : lw_okq (⟨"OneWaySpell$Twins", "goOn", "(LOneWaySpell$Tree;II)Z"⟩, 10) := ⟨⟨by decide +kernel, by decide +kernel⟩, List.mem_of_getElem? (i := 460) (by decide +kernel), List.mem_of_getElem? (i := 594) (by decide +kernel), List.mem_of_getElem? (i := 595) (by decide +kernel)⟩
theorem lw_p36 : lw_okq (⟨"OneWaySpell$Tree", "isUsed", "(I)Z"⟩, 11) := ⟨⟨by decide +kernel, by decide +kernel⟩, List.mem_of_getElem? (i := 501) (by decide +kernel), List.mem_of_getElem? (i := 598) (by decide +kernel), List.mem_of_getElem? (i := 599) (by decide +kernel)⟩
theorem lw_p37 : lw_okq (⟨"OneWaySpell$Twins", "step", "(LOneWaySpell$Tree;II)Z"⟩, 10) := ⟨⟨by decide +kernel, by decide +kernel⟩, List.mem_of_getElem? (i := 460) (by decide +kernel), List.mem_of_getElem? (i := 602) (by decide +kernel), List.mem_of_getElem? (i := 603) (by decide +kernel)⟩
theorem lw_p38 : lw_okq (⟨"OneWaySpell$Twins", "copyTo", "(LOneWaySpell$Word;)V"⟩, 10) := ⟨⟨by decide +kernel, by decide +kernel⟩, List.mem_of_getElem? (i := 460) (by decide +kernel), List.mem_of_getElem? (i := 608) (by decide +kernel), List.mem_of_getElem? (i := 609) (by decide +kernel)⟩
theorem lw_p39 : lw_okq (⟨"OneWaySpell$Word", "add", "(I)V"⟩, 5) := ⟨⟨by decide +kernel, by decide +kernel⟩, List.mem_of_getElem? (i := 139) (by decide +kernel), List.mem_of_getElem? (i := 613) (by decide +kernel), List.mem_of_getElem? (i := 614) (by decide +kernel)⟩
theorem lw_p40 : lw_okq (⟨"OneWaySpell$Tails", "lookAhead", "(LOneWaySpell$Groups;)I"⟩, 12) := ⟨⟨by decide +kernel, by decide +kernel⟩, List.mem_of_getElem? (i := 350) (by decide +kernel), List.mem_of_getElem? (i := 621) (by decide +kernel), List.mem_of_getElem? (i := 622) (by decide +kernel)⟩
theorem lw_p41 : lw_okq (⟨"OneWaySpell$Tails", "prepareSteps", "(LOneWaySpell$Groups;)V"⟩, 12) := ⟨⟨by decide +kernel, by decide +kernel⟩, List.mem_of_getElem? (i := 350) (by decide +kernel), List.mem_of_getElem? (i := 625) (by decide +kernel), List.mem_of_getElem? (i := 626) (by decide +kernel)⟩
theorem lw_p42 : lw_okq (⟨"OneWaySpell$Tails", "deepen", "(I)Z"⟩, 12) := ⟨⟨by decide +kernel, by decide +kernel⟩, List.mem_of_getElem? (i := 350) (by decide +kernel), List.mem_of_getElem? (i := 633) (by decide +kernel), List.mem_of_getElem? (i := 634) (by decide +kernel)⟩
theorem lw_p43 : lw_okq (⟨"OneWaySpell$Tails", "inCommon", "(LOneWaySpell$Groups;II)I"⟩, 12) := ⟨⟨by decide +kernel, by decide +kernel⟩, List.mem_of_getElem? (i := 350) (by decide +kernel), List.mem_of_getElem? (i := 637) (by decide +kernel), List.mem_of_getElem? (i := 638) (by decide +kernel)⟩
theorem lw_p44 : lw_okq (⟨"OneWaySpell$Word", "countWays", "(LOneWaySpell$Groups;)V"⟩, 5) := ⟨⟨by decide +kernel, by decide +kernel⟩, List.mem_of_getElem? (i := 139) (by decide +kernel), List.mem_of_getElem? (i := 666) (by decide +kernel), List.mem_of_getElem? (i := 667) (by decide +kernel)⟩
theorem lw_p45 : lw_okq (⟨"OneWaySpell$Word", "fits", "(LOneWaySpell$Groups;II)Z"⟩, 5) := ⟨⟨by decide +kernel, by decide +kernel⟩, List.mem_of_getElem? (i := 139) (by decide +kernel), List.mem_of_getElem? (i := 670) (by decide +kernel), List.mem_of_getElem? (i := 671) (by decide +kernel)⟩
theorem lw_p46 : lw_okq (⟨"OneWaySpell$Word", "standing", "(JII)I"⟩, 5) := ⟨⟨by decide +kernel, by decide +kernel⟩, List.mem_of_getElem? (i := 139) (by decide +kernel), List.mem_of_getElem? (i := 675) (by decide +kernel), List.mem_of_getElem? (i := 676) (by decide +kernel)⟩
theorem lw_p47 : lw_okq (⟨"OneWaySpell$Word", "groupOfReading", "(LOneWaySpell$Groups;II)I"⟩, 5) := ⟨⟨by decide +kernel, by decide +kernel⟩, List.mem_of_getElem? (i := 139) (by decide +kernel), List.mem_of_getElem? (i := 688) (by decide +kernel), List.mem_of_getElem? (i := 689) (by decide +kernel)⟩
def lw_privs_3 : List (MethodName × Nat) := [(⟨"OneWaySpell$Tree", "listBySign", "()V"⟩, 11), (⟨"OneWaySpell$Twins", "find", "(LOneWaySpell$Tree;)Z"⟩, 10), (⟨"OneWaySpell$Twins", "push", "(IIII)V"⟩, 10), (⟨"OneWaySpell$Twins", "goOn", "(LOneWaySpell$Tree;II)Z"⟩, 10), (⟨"OneWaySpell$Tree", "isUsed", "(I)Z"⟩, 11), (⟨"OneWaySpell$Twins", "step", "(LOneWaySpell$Tree;II)Z"⟩, 10), (⟨"OneWaySpell$Twins", "copyTo", "(LOneWaySpell$Word;)V"⟩, 10), (⟨"OneWaySpell$Word", "add", "(I)V"⟩, 5), (⟨"OneWaySpell$Tails", "lookAhead", "(LOneWaySpell$Groups;)I"⟩, 12), (⟨"OneWaySpell$Tails", "prepareSteps", "(LOneWaySpell$Groups;)V"⟩, 12), (⟨"OneWaySpell$Tails", "deepen", "(I)Z"⟩, 12), (⟨"OneWaySpell$Tails", "inCommon", "(LOneWaySpell$Groups;II)I"⟩, 12), (⟨"OneWaySpell$Word", "countWays", "(LOneWaySpell$Groups;)V"⟩, 5), (⟨"OneWaySpell$Word", "fits", "(LOneWaySpell$Groups;II)Z"⟩, 5), (⟨"OneWaySpell$Word", "standing", "(JII)I"⟩, 5), (⟨"OneWaySpell$Word", "groupOfReading", "(LOneWaySpell$Groups;II)I"⟩, 5)]
theorem lw_r3 : ∀ q ∈ lw_privs_3, lw_okq q := List.forall_mem_cons.mpr ⟨lw_p32, List.forall_mem_cons.mpr ⟨lw_p33, List.forall_mem_cons.mpr ⟨lw_p34, List.forall_mem_cons.mpr ⟨lw_p35, List.forall_mem_cons.mpr ⟨lw_p36, List.forall_mem_cons.mpr ⟨lw_p37, List.forall_mem_cons.mpr ⟨lw_p38, List.forall_mem_cons.mpr ⟨lw_p39, List.forall_mem_cons.mpr ⟨lw_p40, List.forall_mem_cons.mpr ⟨lw_p41, List.forall_mem_cons.mpr ⟨lw_p42, List.forall_mem_cons.mpr ⟨lw_p43, List.forall_mem_cons.mpr ⟨lw_p44, List.forall_mem_cons.mpr ⟨lw_p45, List.forall_mem_cons.mpr ⟨lw_p46, List.forall_mem_cons.mpr ⟨lw_p47, fun _ h => absurd h List.not_mem_nil⟩⟩⟩⟩⟩⟩⟩⟩⟩⟩⟩⟩⟩⟩⟩⟩
theorem lw_p48 : lw_okq (⟨"OneWaySpell$Word", "groupToward", "(LOneWaySpell$Groups;I)I"⟩, 5) := ⟨⟨by decide +kernel, by decide +kernel⟩, List.mem_of_getElem? (i := 139) (by decide +kernel), List.mem_of_getElem? (i := 693) (by decide +kernel), List.mem_of_getElem? (i := 694) (by decide +kernel)⟩
theorem lw_p49 : lw_okq (⟨"OneWaySpell$Word", "unlikeSoundRows", "(LOneWaySpell$Groups;)I"⟩, 5) := ⟨⟨by decide +kernel, by decide +kernel⟩, List.mem_of_getElem? (i := 139) (by decide +kernel), List.mem_of_getElem? (i := 701) (by decide +kernel), List.mem_of_getElem? (i := 702) (by decide +kernel)⟩
theorem lw_p50 : lw_okq (⟨"OneWaySpell", "theReader", "()LOneWaySpell$Reader;"⟩, 13) := ⟨⟨by decide +kernel, by decide +kernel⟩, List.mem_of_getElem? (i := 19) (by decide +kernel), List.mem_of_getElem? (i := 713) (by decide +kernel), List.mem_of_getElem? (i := 714) (by decide +kernel)⟩
theorem lw_p51 : lw_okq (⟨"OneWaySpell$Reader", "countTaken", "(LOneWaySpell$Word;LOneWaySpell$Groups;I)I"⟩, 5) := ⟨⟨by decide +kernel, by decide +kernel⟩, List.mem_of_getElem? (i := 717) (by decide +kernel), List.mem_of_getElem? (i := 739) (by decide +kernel), List.mem_of_getElem? (i := 740) (by decide +kernel)⟩
theorem lw_p52 : lw_okq (⟨"OneWaySpell$Reader", "takenAt", "(LOneWaySpell$Word;LOneWaySpell$Groups;II)I"⟩, 5) := ⟨⟨by decide +kernel, by decide +kernel⟩, List.mem_of_getElem? (i := 717) (by decide +kernel), List.mem_of_getElem? (i := 754) (by decide +kernel), List.mem_of_getElem? (i := 755) (by decide +kernel)⟩
theorem lw_p53 : lw_okq (⟨"OneWaySpell$Reader", "findFool", "(LOneWaySpell$Groups;I)Z"⟩, 5) := ⟨⟨by decide +kernel, by decide +kernel⟩, List.mem_of_getElem? (i := 717) (by decide +kernel), List.mem_of_getElem? (i := 762) (by decide +kernel), List.mem_of_getElem? (i := 763) (by decide +kernel)⟩
theorem lw_p54 : lw_okq (⟨"OneWaySpell$Reader", "startTrial", "(LOneWaySpell$Groups;I)V"⟩, 5) := ⟨⟨by decide +kernel, by decide +kernel⟩, List.mem_of_getElem? (i := 717) (by decide +kernel), List.mem_of_getElem? (i := 768) (by decide +kernel), List.mem_of_getElem? (i := 769) (by decide +kernel)⟩
theorem lw_p55 : lw_okq (⟨"OneWaySpell$Reader", "keepBetter", "()V"⟩, 5) := ⟨⟨by decide +kernel, by decide +kernel⟩, List.mem_of_getElem? (i := 717) (by decide +kernel), List.mem_of_getElem? (i := 773) (by decide +kernel), List.mem_of_getElem? (i := 774) (by decide +kernel)⟩
theorem lw_p56 : lw_okq (⟨"OneWaySpell$Reader", "trialIsEarlier", "()Z"⟩, 5) := ⟨⟨by decide +kernel, by decide +kernel⟩, List.mem_of_getElem? (i := 717) (by decide +kernel), List.mem_of_getElem? (i := 777) (by decide +kernel), List.mem_of_getElem? (i := 778) (by decide +kernel)⟩
theorem lw_p57 : lw_okq (⟨"OneWaySpell$Reader", "coverRest", "(LOneWaySpell$Groups;II)V"⟩, 5) := ⟨⟨by decide +kernel, by decide +kernel⟩, List.mem_of_getElem? (i := 717) (by decide +kernel), List.mem_of_getElem? (i := 782) (by decide +kernel), List.mem_of_getElem? (i := 783) (by decide +kernel)⟩
theorem lw_p58 : lw_okq (⟨"OneWaySpell$Reader", "coverWith", "(LOneWaySpell$Groups;III)V"⟩, 5) := ⟨⟨by decide +kernel, by decide +kernel⟩, List.mem_of_getElem? (i := 717) (by decide +kernel), List.mem_of_getElem? (i := 787) (by decide +kernel), List.mem_of_getElem? (i := 788) (by decide +kernel)⟩
theorem lw_p59 : lw_okq (⟨"OneWaySpell$Reader", "copyTo", "(LOneWaySpell$Word;)V"⟩, 5) := ⟨⟨by decide +kernel, by decide +kernel⟩, List.mem_of_getElem? (i := 717) (by decide +kernel), List.mem_of_getElem? (i := 794) (by decide +kernel), List.mem_of_getElem? (i := 795) (by decide +kernel)⟩
theorem lw_p60 : lw_okq (⟨"OneWaySpell$Word", "longestBeginning", "(LOneWaySpell$Groups;)I"⟩, 5) := ⟨⟨by decide +kernel, by decide +kernel⟩, List.mem_of_getElem? (i := 139) (by decide +kernel), List.mem_of_getElem? (i := 804) (by decide +kernel), List.mem_of_getElem? (i := 805) (by decide +kernel)⟩
theorem lw_p61 : lw_okq (⟨"OneWaySpell$Speller", "ask", "(LOneWaySpell$Groups;IIII)Z"⟩, 7) := ⟨⟨by decide +kernel, by decide +kernel⟩, List.mem_of_getElem? (i := 819) (by decide +kernel), List.mem_of_getElem? (i := 847) (by decide +kernel), List.mem_of_getElem? (i := 848) (by decide +kernel)⟩
theorem lw_p62 : lw_okq (⟨"OneWaySpell$Speller", "search", "(LOneWaySpell$Groups;)Z"⟩, 7) := ⟨⟨by decide +kernel, by decide +kernel⟩, List.mem_of_getElem? (i := 819) (by decide +kernel), List.mem_of_getElem? (i := 851) (by decide +kernel), List.mem_of_getElem? (i := 852) (by decide +kernel)⟩
theorem lw_p63 : lw_okq (⟨"OneWaySpell$Speller", "goOn", "(LOneWaySpell$Groups;IIJ)V"⟩, 7) := ⟨⟨by decide +kernel, by decide +kernel⟩, List.mem_of_getElem? (i := 819) (by decide +kernel), List.mem_of_getElem? (i := 859) (by decide +kernel), List.mem_of_getElem? (i := 860) (by decide +kernel)⟩
def lw_privs_4 : List (MethodName × Nat) := [(⟨"OneWaySpell$Word", "groupToward", "(LOneWaySpell$Groups;I)I"⟩, 5), (⟨"OneWaySpell$Word", "unlikeSoundRows", "(LOneWaySpell$Groups;)I"⟩, 5), (⟨"OneWaySpell", "theReader", "()LOneWaySpell$Reader;"⟩, 13), (⟨"OneWaySpell$Reader", "countTaken", "(LOneWaySpell$Word;LOneWaySpell$Groups;I)I"⟩, 5), (⟨"OneWaySpell$Reader", "takenAt", "(LOneWaySpell$Word;LOneWaySpell$Groups;II)I"⟩, 5), (⟨"OneWaySpell$Reader", "findFool", "(LOneWaySpell$Groups;I)Z"⟩, 5), (⟨"OneWaySpell$Reader", "startTrial", "(LOneWaySpell$Groups;I)V"⟩, 5), (⟨"OneWaySpell$Reader", "keepBetter", "()V"⟩, 5), (⟨"OneWaySpell$Reader", "trialIsEarlier", "()Z"⟩, 5), (⟨"OneWaySpell$Reader", "coverRest", "(LOneWaySpell$Groups;II)V"⟩, 5), (⟨"OneWaySpell$Reader", "coverWith", "(LOneWaySpell$Groups;III)V"⟩, 5), (⟨"OneWaySpell$Reader", "copyTo", "(LOneWaySpell$Word;)V"⟩, 5), (⟨"OneWaySpell$Word", "longestBeginning", "(LOneWaySpell$Groups;)I"⟩, 5), (⟨"OneWaySpell$Speller", "ask", "(LOneWaySpell$Groups;IIII)Z"⟩, 7), (⟨"OneWaySpell$Speller", "search", "(LOneWaySpell$Groups;)Z"⟩, 7), (⟨"OneWaySpell$Speller", "goOn", "(LOneWaySpell$Groups;IIJ)V"⟩, 7)]
theorem lw_r4 : ∀ q ∈ lw_privs_4, lw_okq q := List.forall_mem_cons.mpr ⟨lw_p48, List.forall_mem_cons.mpr ⟨lw_p49, List.forall_mem_cons.mpr ⟨lw_p50, List.forall_mem_cons.mpr ⟨lw_p51, List.forall_mem_cons.mpr ⟨lw_p52, List.forall_mem_cons.mpr ⟨lw_p53, List.forall_mem_cons.mpr ⟨lw_p54, List.forall_mem_cons.mpr ⟨lw_p55, List.forall_mem_cons.mpr ⟨lw_p56, List.forall_mem_cons.mpr ⟨lw_p57, List.forall_mem_cons.mpr ⟨lw_p58, List.forall_mem_cons.mpr ⟨lw_p59, List.forall_mem_cons.mpr ⟨lw_p60, List.forall_mem_cons.mpr ⟨lw_p61, List.forall_mem_cons.mpr ⟨lw_p62, List.forall_mem_cons.mpr ⟨lw_p63, fun _ h => absurd h List.not_mem_nil⟩⟩⟩⟩⟩⟩⟩⟩⟩⟩⟩⟩⟩⟩⟩⟩
theorem lw_p64 : lw_okq (⟨"OneWaySpell$Speller", "countNew", "(LOneWaySpell$Groups;IIJ)J"⟩, 7) := ⟨⟨by decide +kernel, by decide +kernel⟩, List.mem_of_getElem? (i := 819) (by decide +kernel), List.mem_of_getElem? (i := 864) (by decide +kernel), List.mem_of_getElem? (i := 865) (by decide +kernel)⟩
theorem lw_p65 : lw_okq (⟨"OneWaySpell$Speller", "copyTo", "(LOneWaySpell$Groups;LOneWaySpell$Word;)V"⟩, 7) := ⟨⟨by decide +kernel, by decide +kernel⟩, List.mem_of_getElem? (i := 819) (by decide +kernel), List.mem_of_getElem? (i := 871) (by decide +kernel), List.mem_of_getElem? (i := 872) (by decide +kernel)⟩
theorem lw_p66 : lw_okq (⟨"OneWaySpell$Word", "addRow", "(JI)V"⟩, 5) := ⟨⟨by decide +kernel, by decide +kernel⟩, List.mem_of_getElem? (i := 139) (by decide +kernel), List.mem_of_getElem? (i := 876) (by decide +kernel), List.mem_of_getElem? (i := 877) (by decide +kernel)⟩
theorem lw_p67 : lw_okq (⟨"OneWaySpell$Groups", "inByNumber", "(I)I"⟩, 10) := ⟨⟨by decide +kernel, by decide +kernel⟩, List.mem_of_getElem? (i := 27) (by decide +kernel), List.mem_of_getElem? (i := 887) (by decide +kernel), List.mem_of_getElem? (i := 888) (by decide +kernel)⟩
theorem lw_p68 : lw_okq (⟨"OneWaySpell", "freshCensus", "()LOneWaySpell$Census;"⟩, 13) := ⟨⟨by decide +kernel, by decide +kernel⟩, List.mem_of_getElem? (i := 19) (by decide +kernel), List.mem_of_getElem? (i := 896) (by decide +kernel), List.mem_of_getElem? (i := 897) (by decide +kernel)⟩
theorem lw_p69 : lw_okq (⟨"OneWaySpell$Census", "build", "(LOneWaySpell$Tree;I)V"⟩, 11) := ⟨⟨by decide +kernel, by decide +kernel⟩, List.mem_of_getElem? (i := 900) (by decide +kernel), List.mem_of_getElem? (i := 941) (by decide +kernel), List.mem_of_getElem? (i := 942) (by decide +kernel)⟩
theorem lw_p70 : lw_okq (⟨"OneWaySpell$Census", "stateOf", "(II)I"⟩, 11) := ⟨⟨by decide +kernel, by decide +kernel⟩, List.mem_of_getElem? (i := 900) (by decide +kernel), List.mem_of_getElem? (i := 946) (by decide +kernel), List.mem_of_getElem? (i := 947) (by decide +kernel)⟩
theorem lw_p71 : lw_okq (⟨"OneWaySpell$Census", "growStates", "()V"⟩, 11) := ⟨⟨by decide +kernel, by decide +kernel⟩, List.mem_of_getElem? (i := 900) (by decide +kernel), List.mem_of_getElem? (i := 951) (by decide +kernel), List.mem_of_getElem? (i := 952) (by decide +kernel)⟩
theorem lw_p72 : lw_okq (⟨"OneWaySpell$Census", "growSlots", "()V"⟩, 11) := ⟨⟨by decide +kernel, by decide +kernel⟩, List.mem_of_getElem? (i := 900) (by decide +kernel), List.mem_of_getElem? (i := 967) (by decide +kernel), List.mem_of_getElem? (i := 968) (by decide +kernel)⟩
theorem lw_p73 : lw_okq (⟨"OneWaySpell$Census", "addEdge", "(II)V"⟩, 11) := ⟨⟨by decide +kernel, by decide +kernel⟩, List.mem_of_getElem? (i := 900) (by decide +kernel), List.mem_of_getElem? (i := 979) (by decide +kernel), List.mem_of_getElem? (i := 980) (by decide +kernel)⟩
theorem lw_p74 : lw_okq (⟨"OneWaySpell$Census", "countFrom", "(II)V"⟩, 11) := ⟨⟨by decide +kernel, by decide +kernel⟩, List.mem_of_getElem? (i := 900) (by decide +kernel), List.mem_of_getElem? (i := 991) (by decide +kernel), List.mem_of_getElem? (i := 992) (by decide +kernel)⟩
theorem lw_p75 : lw_okq (⟨"OneWaySpell$Census", "amount", "(II)J"⟩, 11) := ⟨⟨by decide +kernel, by decide +kernel⟩, List.mem_of_getElem? (i := 900) (by decide +kernel), List.mem_of_getElem? (i := 995) (by decide +kernel), List.mem_of_getElem? (i := 996) (by decide +kernel)⟩
theorem lw_p76 : lw_okq (⟨"OneWaySpell$Census", "bringTo", "(LOneWaySpell$Word;IJ)Z"⟩, 11) := ⟨⟨by decide +kernel, by decide +kernel⟩, List.mem_of_getElem? (i := 900) (by decide +kernel), List.mem_of_getElem? (i := 1004) (by decide +kernel), List.mem_of_getElem? (i := 1005) (by decide +kernel)⟩
theorem lw_p77 : lw_okq (⟨"OneWaySpell$Census", "rankOf", "(LOneWaySpell$Word;)J"⟩, 11) := ⟨⟨by decide +kernel, by decide +kernel⟩, List.mem_of_getElem? (i := 900) (by decide +kernel), List.mem_of_getElem? (i := 1014) (by decide +kernel), List.mem_of_getElem? (i := 1015) (by decide +kernel)⟩
theorem lw_p78 : lw_okq (⟨"OneWaySpell", "freshBorders", "()LOneWaySpell$Borders;"⟩, 13) := ⟨⟨by decide +kernel, by decide +kernel⟩, List.mem_of_getElem? (i := 19) (by decide +kernel), List.mem_of_getElem? (i := 1022) (by decide +kernel), List.mem_of_getElem? (i := 1023) (by decide +kernel)⟩
theorem lw_p79 : lw_okq (⟨"OneWaySpell$Borders", "build", "(LOneWaySpell$Tree;I)V"⟩, 6) := ⟨⟨by decide +kernel, by decide +kernel⟩, List.mem_of_getElem? (i := 1026) (by decide +kernel), List.mem_of_getElem? (i := 1052) (by decide +kernel), List.mem_of_getElem? (i := 1053) (by decide +kernel)⟩
def lw_privs_5 : List (MethodName × Nat) := [(⟨"OneWaySpell$Speller", "countNew", "(LOneWaySpell$Groups;IIJ)J"⟩, 7), (⟨"OneWaySpell$Speller", "copyTo", "(LOneWaySpell$Groups;LOneWaySpell$Word;)V"⟩, 7), (⟨"OneWaySpell$Word", "addRow", "(JI)V"⟩, 5), (⟨"OneWaySpell$Groups", "inByNumber", "(I)I"⟩, 10), (⟨"OneWaySpell", "freshCensus", "()LOneWaySpell$Census;"⟩, 13), (⟨"OneWaySpell$Census", "build", "(LOneWaySpell$Tree;I)V"⟩, 11), (⟨"OneWaySpell$Census", "stateOf", "(II)I"⟩, 11), (⟨"OneWaySpell$Census", "growStates", "()V"⟩, 11), (⟨"OneWaySpell$Census", "growSlots", "()V"⟩, 11), (⟨"OneWaySpell$Census", "addEdge", "(II)V"⟩, 11), (⟨"OneWaySpell$Census", "countFrom", "(II)V"⟩, 11), (⟨"OneWaySpell$Census", "amount", "(II)J"⟩, 11), (⟨"OneWaySpell$Census", "bringTo", "(LOneWaySpell$Word;IJ)Z"⟩, 11), (⟨"OneWaySpell$Census", "rankOf", "(LOneWaySpell$Word;)J"⟩, 11), (⟨"OneWaySpell", "freshBorders", "()LOneWaySpell$Borders;"⟩, 13), (⟨"OneWaySpell$Borders", "build", "(LOneWaySpell$Tree;I)V"⟩, 6)]
theorem lw_r5 : ∀ q ∈ lw_privs_5, lw_okq q := List.forall_mem_cons.mpr ⟨lw_p64, List.forall_mem_cons.mpr ⟨lw_p65, List.forall_mem_cons.mpr ⟨lw_p66, List.forall_mem_cons.mpr ⟨lw_p67, List.forall_mem_cons.mpr ⟨lw_p68, List.forall_mem_cons.mpr ⟨lw_p69, List.forall_mem_cons.mpr ⟨lw_p70, List.forall_mem_cons.mpr ⟨lw_p71, List.forall_mem_cons.mpr ⟨lw_p72, List.forall_mem_cons.mpr ⟨lw_p73, List.forall_mem_cons.mpr ⟨lw_p74, List.forall_mem_cons.mpr ⟨lw_p75, List.forall_mem_cons.mpr ⟨lw_p76, List.forall_mem_cons.mpr ⟨lw_p77, List.forall_mem_cons.mpr ⟨lw_p78, List.forall_mem_cons.mpr ⟨lw_p79, fun _ h => absurd h List.not_mem_nil⟩⟩⟩⟩⟩⟩⟩⟩⟩⟩⟩⟩⟩⟩⟩⟩
theorem lw_p80 : lw_okq (⟨"OneWaySpell$Borders", "clear", "(I)V"⟩, 6) := ⟨⟨by decide +kernel, by decide +kernel⟩, List.mem_of_getElem? (i := 1026) (by decide +kernel), List.mem_of_getElem? (i := 1056) (by decide +kernel), List.mem_of_getElem? (i := 1057) (by decide +kernel)⟩
theorem lw_p81 : lw_okq (⟨"OneWaySpell$Borders", "lengthen", "(LOneWaySpell$Tree;II)V"⟩, 6) := ⟨⟨by decide +kernel, by decide +kernel⟩, List.mem_of_getElem? (i := 1026) (by decide +kernel), List.mem_of_getElem? (i := 1063) (by decide +kernel), List.mem_of_getElem? (i := 1064) (by decide +kernel)⟩
theorem lw_p82 : lw_okq (⟨"OneWaySpell$Borders", "putAhead", "(LOneWaySpell$Tree;II)V"⟩, 6) := ⟨⟨by decide +kernel, by decide +kernel⟩, List.mem_of_getElem? (i := 1026) (by decide +kernel), List.mem_of_getElem? (i := 1067) (by decide +kernel), List.mem_of_getElem? (i := 1068) (by decide +kernel)⟩
theorem lw_p83 : lw_okq (⟨"OneWaySpell$Borders", "keep", "(I)V"⟩, 6) := ⟨⟨by decide +kernel, by decide +kernel⟩, List.mem_of_getElem? (i := 1026) (by decide +kernel), List.mem_of_getElem? (i := 1077) (by decide +kernel), List.mem_of_getElem? (i := 1078) (by decide +kernel)⟩
theorem lw_p84 : lw_okq (⟨"OneWaySpell$Borders", "sort", "()V"⟩, 6) := ⟨⟨by decide +kernel, by decide +kernel⟩, List.mem_of_getElem? (i := 1026) (by decide +kernel), List.mem_of_getElem? (i := 1082) (by decide +kernel), List.mem_of_getElem? (i := 1083) (by decide +kernel)⟩
theorem lw_p85 : lw_okq (⟨"OneWaySpell$Borders", "findStarts", "()V"⟩, 6) := ⟨⟨by decide +kernel, by decide +kernel⟩, List.mem_of_getElem? (i := 1026) (by decide +kernel), List.mem_of_getElem? (i := 1086) (by decide +kernel), List.mem_of_getElem? (i := 1087) (by decide +kernel)⟩
theorem lw_p86 : lw_okq (⟨"OneWaySpell$Borders", "sizeOf", "(I)I"⟩, 6) := ⟨⟨by decide +kernel, by decide +kernel⟩, List.mem_of_getElem? (i := 1026) (by decide +kernel), List.mem_of_getElem? (i := 1090) (by decide +kernel), List.mem_of_getElem? (i := 1091) (by decide +kernel)⟩
theorem lw_p87 : lw_okq (⟨"OneWaySpell$Borders", "indexOf", "(II)I"⟩, 6) := ⟨⟨by decide +kernel, by decide +kernel⟩, List.mem_of_getElem? (i := 1026) (by decide +kernel), List.mem_of_getElem? (i := 1098) (by decide +kernel), List.mem_of_getElem? (i := 1099) (by decide +kernel)⟩
theorem lw_p88 : lw_okq (⟨"OneWaySpell$Borders", "codeAt", "(I)J"⟩, 6) := ⟨⟨by decide +kernel, by decide +kernel⟩, List.mem_of_getElem? (i := 1026) (by decide +kernel), List.mem_of_getElem? (i := 1103) (by decide +kernel), List.mem_of_getElem? (i := 1104) (by decide +kernel)⟩
theorem lw_p89 : lw_okq (⟨"OneWaySpell", "theCures", "()LOneWaySpell$Cures;"⟩, 13) := ⟨⟨by decide +kernel, by decide +kernel⟩, List.mem_of_getElem? (i := 19) (by decide +kernel), List.mem_of_getElem? (i := 1112) (by decide +kernel), List.mem_of_getElem? (i := 1113) (by decide +kernel)⟩
theorem lw_p90 : lw_okq (⟨"OneWaySpell$Cures", "fewest", "(LOneWaySpell$Groups;I)I"⟩, 12) := ⟨⟨by decide +kernel, by decide +kernel⟩, List.mem_of_getElem? (i := 1116) (by decide +kernel), List.mem_of_getElem? (i := 1163) (by decide +kernel), List.mem_of_getElem? (i := 1164) (by decide +kernel)⟩
theorem lw_p91 : lw_okq (⟨"OneWaySpell$Cures", "findChoosable", "(LOneWaySpell$Groups;)V"⟩, 12) := ⟨⟨by decide +kernel, by decide +kernel⟩, List.mem_of_getElem? (i := 1116) (by decide +kernel), List.mem_of_getElem? (i := 1167) (by decide +kernel), List.mem_of_getElem? (i := 1168) (by decide +kernel)⟩
theorem lw_p92 : lw_okq (⟨"OneWaySpell$Cures", "searchOfSize", "(LOneWaySpell$Groups;II)I"⟩, 12) := ⟨⟨by decide +kernel, by decide +kernel⟩, List.mem_of_getElem? (i := 1116) (by decide +kernel), List.mem_of_getElem? (i := 1172) (by decide +kernel), List.mem_of_getElem? (i := 1173) (by decide +kernel)⟩
theorem lw_p93 : lw_okq (⟨"OneWaySpell$Cures", "chosenMask", "(I)I"⟩, 12) := ⟨⟨by decide +kernel, by decide +kernel⟩, List.mem_of_getElem? (i := 1116) (by decide +kernel), List.mem_of_getElem? (i := 1176) (by decide +kernel), List.mem_of_getElem? (i := 1177) (by decide +kernel)⟩
theorem lw_p94 : lw_okq (⟨"OneWaySpell$Cures", "isRefuted", "(I)Z"⟩, 12) := ⟨⟨by decide +kernel, by decide +kernel⟩, List.mem_of_getElem? (i := 1116) (by decide +kernel), List.mem_of_getElem? (i := 1180) (by decide +kernel), List.mem_of_getElem? (i := 1181) (by decide +kernel)⟩
theorem lw_p95 : lw_okq (⟨"OneWaySpell$Cures", "heals", "(LOneWaySpell$Groups;II)Z"⟩, 12) := ⟨⟨by decide +kernel, by decide +kernel⟩, List.mem_of_getElem? (i := 1116) (by decide +kernel), List.mem_of_getElem? (i := 1184) (by decide +kernel), List.mem_of_getElem? (i := 1185) (by decide +kernel)⟩
def lw_privs_6 : List (MethodName × Nat) := [(⟨"OneWaySpell$Borders", "clear", "(I)V"⟩, 6), (⟨"OneWaySpell$Borders", "lengthen", "(LOneWaySpell$Tree;II)V"⟩, 6), (⟨"OneWaySpell$Borders", "putAhead", "(LOneWaySpell$Tree;II)V"⟩, 6), (⟨"OneWaySpell$Borders", "keep", "(I)V"⟩, 6), (⟨"OneWaySpell$Borders", "sort", "()V"⟩, 6), (⟨"OneWaySpell$Borders", "findStarts", "()V"⟩, 6), (⟨"OneWaySpell$Borders", "sizeOf", "(I)I"⟩, 6), (⟨"OneWaySpell$Borders", "indexOf", "(II)I"⟩, 6), (⟨"OneWaySpell$Borders", "codeAt", "(I)J"⟩, 6), (⟨"OneWaySpell", "theCures", "()LOneWaySpell$Cures;"⟩, 13), (⟨"OneWaySpell$Cures", "fewest", "(LOneWaySpell$Groups;I)I"⟩, 12), (⟨"OneWaySpell$Cures", "findChoosable", "(LOneWaySpell$Groups;)V"⟩, 12), (⟨"OneWaySpell$Cures", "searchOfSize", "(LOneWaySpell$Groups;II)I"⟩, 12), (⟨"OneWaySpell$Cures", "chosenMask", "(I)I"⟩, 12), (⟨"OneWaySpell$Cures", "isRefuted", "(I)Z"⟩, 12), (⟨"OneWaySpell$Cures", "heals", "(LOneWaySpell$Groups;II)Z"⟩, 12)]
theorem lw_r6 : ∀ q ∈ lw_privs_6, lw_okq q := List.forall_mem_cons.mpr ⟨lw_p80, List.forall_mem_cons.mpr ⟨lw_p81, List.forall_mem_cons.mpr ⟨lw_p82, List.forall_mem_cons.mpr ⟨lw_p83, List.forall_mem_cons.mpr ⟨lw_p84, List.forall_mem_cons.mpr ⟨lw_p85, List.forall_mem_cons.mpr ⟨lw_p86, List.forall_mem_cons.mpr ⟨lw_p87, List.forall_mem_cons.mpr ⟨lw_p88, List.forall_mem_cons.mpr ⟨lw_p89, List.forall_mem_cons.mpr ⟨lw_p90, List.forall_mem_cons.mpr ⟨lw_p91, List.forall_mem_cons.mpr ⟨lw_p92, List.forall_mem_cons.mpr ⟨lw_p93, List.forall_mem_cons.mpr ⟨lw_p94, List.forall_mem_cons.mpr ⟨lw_p95, fun _ h => absurd h List.not_mem_nil⟩⟩⟩⟩⟩⟩⟩⟩⟩⟩⟩⟩⟩⟩⟩⟩
theorem lw_p96 : lw_okq (⟨"OneWaySpell$Groups", "copyFrom", "(LOneWaySpell$Groups;)V"⟩, 10) := ⟨⟨by decide +kernel, by decide +kernel⟩, List.mem_of_getElem? (i := 27) (by decide +kernel), List.mem_of_getElem? (i := 1188) (by decide +kernel), List.mem_of_getElem? (i := 1189) (by decide +kernel)⟩
theorem lw_p97 : lw_okq (⟨"OneWaySpell$Groups", "change", "(II)V"⟩, 10) := ⟨⟨by decide +kernel, by decide +kernel⟩, List.mem_of_getElem? (i := 27) (by decide +kernel), List.mem_of_getElem? (i := 1192) (by decide +kernel), List.mem_of_getElem? (i := 1193) (by decide +kernel)⟩
theorem lw_p98 : lw_okq (⟨"OneWaySpell$Cures", "chooseNext", "(I)Z"⟩, 12) := ⟨⟨by decide +kernel, by decide +kernel⟩, List.mem_of_getElem? (i := 1116) (by decide +kernel), List.mem_of_getElem? (i := 1198) (by decide +kernel), List.mem_of_getElem? (i := 1199) (by decide +kernel)⟩
theorem lw_p99 : lw_okq (⟨"OneWaySpell$Groups", "act", "(II)V"⟩, 10) := ⟨⟨by decide +kernel, by decide +kernel⟩, List.mem_of_getElem? (i := 27) (by decide +kernel), List.mem_of_getElem? (i := 1206) (by decide +kernel), List.mem_of_getElem? (i := 1207) (by decide +kernel)⟩
theorem lw_p100 : lw_okq (⟨"OneWaySpell$Groups", "takeBackAct", "()Z"⟩, 10) := ⟨⟨by decide +kernel, by decide +kernel⟩, List.mem_of_getElem? (i := 27) (by decide +kernel), List.mem_of_getElem? (i := 1219) (by decide +kernel), List.mem_of_getElem? (i := 1220) (by decide +kernel)⟩
theorem lw_p101 : lw_okq (⟨"OneWaySpell$Groups", "unmark", "(II)V"⟩, 10) := ⟨⟨by decide +kernel, by decide +kernel⟩, List.mem_of_getElem? (i := 27) (by decide +kernel), List.mem_of_getElem? (i := 1223) (by decide +kernel), List.mem_of_getElem? (i := 1224) (by decide +kernel)⟩
theorem lw_p102 : lw_okq (⟨"OneWaySpellModel", "four", "(I)V"⟩, 77) := ⟨⟨by decide +kernel, by decide +kernel⟩, List.mem_of_getElem? (i := 1227) (by decide +kernel), List.mem_of_getElem? (i := 1473) (by decide +kernel), List.mem_of_getElem? (i := 1474) (by decide +kernel)⟩
theorem lw_p103 : lw_okq (⟨"OneWaySpellModel", "next", "()V"⟩, 77) := ⟨⟨by decide +kernel, by decide +kernel⟩, List.mem_of_getElem? (i := 1227) (by decide +kernel), List.mem_of_getElem? (i := 1488) (by decide +kernel), List.mem_of_getElem? (i := 1489) (by decide +kernel)⟩
theorem lw_p104 : lw_okq (⟨"OneWaySpellModel", "byteAt", "(I)I"⟩, 77) := ⟨⟨by decide +kernel, by decide +kernel⟩, List.mem_of_getElem? (i := 1227) (by decide +kernel), List.mem_of_getElem? (i := 1492) (by decide +kernel), List.mem_of_getElem? (i := 1493) (by decide +kernel)⟩
theorem lw_p105 : lw_okq (⟨"OneWaySpellModel", "isGood", "()Z"⟩, 77) := ⟨⟨by decide +kernel, by decide +kernel⟩, List.mem_of_getElem? (i := 1227) (by decide +kernel), List.mem_of_getElem? (i := 1499) (by decide +kernel), List.mem_of_getElem? (i := 1500) (by decide +kernel)⟩
theorem lw_p106 : lw_okq (⟨"OneWaySpellModel", "readLine", "()V"⟩, 77) := ⟨⟨by decide +kernel, by decide +kernel⟩, List.mem_of_getElem? (i := 1227) (by decide +kernel), List.mem_of_getElem? (i := 1503) (by decide +kernel), List.mem_of_getElem? (i := 1504) (by decide +kernel)⟩
theorem lw_p107 : lw_okq (⟨"OneWaySpellModel", "isSound", "()Z"⟩, 77) := ⟨⟨by decide +kernel, by decide +kernel⟩, List.mem_of_getElem? (i := 1227) (by decide +kernel), List.mem_of_getElem? (i := 1507) (by decide +kernel), List.mem_of_getElem? (i := 1508) (by decide +kernel)⟩
theorem lw_p108 : lw_okq (⟨"OneWaySpellModel", "isShort", "()Z"⟩, 77) := ⟨⟨by decide +kernel, by decide +kernel⟩, List.mem_of_getElem? (i := 1227) (by decide +kernel), List.mem_of_getElem? (i := 1511) (by decide +kernel), List.mem_of_getElem? (i := 1512) (by decide +kernel)⟩
theorem lw_p109 : lw_okq (⟨"OneWaySpellModel", "packed", "()I"⟩, 77) := ⟨⟨by decide +kernel, by decide +kernel⟩, List.mem_of_getElem? (i := 1227) (by decide +kernel), List.mem_of_getElem? (i := 1515) (by decide +kernel), List.mem_of_getElem? (i := 1516) (by decide +kernel)⟩
theorem lw_p110 : lw_okq (⟨"OneWaySpellModel", "fails", "(I)V"⟩, 77) := ⟨⟨by decide +kernel, by decide +kernel⟩, List.mem_of_getElem? (i := 1227) (by decide +kernel), List.mem_of_getElem? (i := 1520) (by decide +kernel), List.mem_of_getElem? (i := 1521) (by decide +kernel)⟩
theorem lw_p111 : lw_okq (⟨"OneWaySpellModel", "goOn", "()V"⟩, 77) := ⟨⟨by decide +kernel, by decide +kernel⟩, List.mem_of_getElem? (i := 1227) (by decide +kernel), List.mem_of_getElem? (i := 1524) (by decide +kernel), List.mem_of_getElem? (i := 1525) (by decide +kernel)⟩
def lw_privs_7 : List (MethodName × Nat) := [(⟨"OneWaySpell$Groups", "copyFrom", "(LOneWaySpell$Groups;)V"⟩, 10), (⟨"OneWaySpell$Groups", "change", "(II)V"⟩, 10), (⟨"OneWaySpell$Cures", "chooseNext", "(I)Z"⟩, 12), (⟨"OneWaySpell$Groups", "act", "(II)V"⟩, 10), (⟨"OneWaySpell$Groups", "takeBackAct", "()Z"⟩, 10), (⟨"OneWaySpell$Groups", "unmark", "(II)V"⟩, 10), (⟨"OneWaySpellModel", "four", "(I)V"⟩, 77), (⟨"OneWaySpellModel", "next", "()V"⟩, 77), (⟨"OneWaySpellModel", "byteAt", "(I)I"⟩, 77), (⟨"OneWaySpellModel", "isGood", "()Z"⟩, 77), (⟨"OneWaySpellModel", "readLine", "()V"⟩, 77), (⟨"OneWaySpellModel", "isSound", "()Z"⟩, 77), (⟨"OneWaySpellModel", "isShort", "()Z"⟩, 77), (⟨"OneWaySpellModel", "packed", "()I"⟩, 77), (⟨"OneWaySpellModel", "fails", "(I)V"⟩, 77), (⟨"OneWaySpellModel", "goOn", "()V"⟩, 77)]
theorem lw_r7 : ∀ q ∈ lw_privs_7, lw_okq q := List.forall_mem_cons.mpr ⟨lw_p96, List.forall_mem_cons.mpr ⟨lw_p97, List.forall_mem_cons.mpr ⟨lw_p98, List.forall_mem_cons.mpr ⟨lw_p99, List.forall_mem_cons.mpr ⟨lw_p100, List.forall_mem_cons.mpr ⟨lw_p101, List.forall_mem_cons.mpr ⟨lw_p102, List.forall_mem_cons.mpr ⟨lw_p103, List.forall_mem_cons.mpr ⟨lw_p104, List.forall_mem_cons.mpr ⟨lw_p105, List.forall_mem_cons.mpr ⟨lw_p106, List.forall_mem_cons.mpr ⟨lw_p107, List.forall_mem_cons.mpr ⟨lw_p108, List.forall_mem_cons.mpr ⟨lw_p109, List.forall_mem_cons.mpr ⟨lw_p110, List.forall_mem_cons.mpr ⟨lw_p111, fun _ h => absurd h List.not_mem_nil⟩⟩⟩⟩⟩⟩⟩⟩⟩⟩⟩⟩⟩⟩⟩⟩
theorem lw_p112 : lw_okq (⟨"OneWaySpellModel", "readName", "()V"⟩, 77) := ⟨⟨by decide +kernel, by decide +kernel⟩, List.mem_of_getElem? (i := 1227) (by decide +kernel), List.mem_of_getElem? (i := 1528) (by decide +kernel), List.mem_of_getElem? (i := 1529) (by decide +kernel)⟩
theorem lw_p113 : lw_okq (⟨"OneWaySpellModel", "mustBe", "(I)V"⟩, 77) := ⟨⟨by decide +kernel, by decide +kernel⟩, List.mem_of_getElem? (i := 1227) (by decide +kernel), List.mem_of_getElem? (i := 1532) (by decide +kernel), List.mem_of_getElem? (i := 1533) (by decide +kernel)⟩
theorem lw_p114 : lw_okq (⟨"OneWaySpellModel", "isSign", "(I)Z"⟩, 77) := ⟨⟨by decide +kernel, by decide +kernel⟩, List.mem_of_getElem? (i := 1227) (by decide +kernel), List.mem_of_getElem? (i := 1536) (by decide +kernel), List.mem_of_getElem? (i := 1537) (by decide +kernel)⟩
theorem lw_p115 : lw_okq (⟨"OneWaySpellModel", "readGroup", "()V"⟩, 77) := ⟨⟨by decide +kernel, by decide +kernel⟩, List.mem_of_getElem? (i := 1227) (by decide +kernel), List.mem_of_getElem? (i := 1540) (by decide +kernel), List.mem_of_getElem? (i := 1541) (by decide +kernel)⟩
theorem lw_p116 : lw_okq (⟨"OneWaySpellModel", "isTold", "(I)Z"⟩, 77) := ⟨⟨by decide +kernel, by decide +kernel⟩, List.mem_of_getElem? (i := 1227) (by decide +kernel), List.mem_of_getElem? (i := 1544) (by decide +kernel), List.mem_of_getElem? (i := 1545) (by decide +kernel)⟩
theorem lw_p117 : lw_okq (⟨"OneWaySpellModel", "another", "()V"⟩, 77) := ⟨⟨by decide +kernel, by decide +kernel⟩, List.mem_of_getElem? (i := 1227) (by decide +kernel), List.mem_of_getElem? (i := 1548) (by decide +kernel), List.mem_of_getElem? (i := 1549) (by decide +kernel)⟩
theorem lw_p118 : lw_okq (⟨"OneWaySpellModel", "isGroup", "(I)Z"⟩, 77) := ⟨⟨by decide +kernel, by decide +kernel⟩, List.mem_of_getElem? (i := 1227) (by decide +kernel), List.mem_of_getElem? (i := 1560) (by decide +kernel), List.mem_of_getElem? (i := 1561) (by decide +kernel)⟩
theorem lw_p119 : lw_okq (⟨"OneWaySpellModel", "letterAt", "(II)I"⟩, 77) := ⟨⟨by decide +kernel, by decide +kernel⟩, List.mem_of_getElem? (i := 1227) (by decide +kernel), List.mem_of_getElem? (i := 1564) (by decide +kernel), List.mem_of_getElem? (i := 1565) (by decide +kernel)⟩
theorem lw_p120 : lw_okq (⟨"OneWaySpellModel", "unlike", "()I"⟩, 77) := ⟨⟨by decide +kernel, by decide +kernel⟩, List.mem_of_getElem? (i := 1227) (by decide +kernel), List.mem_of_getElem? (i := 1575) (by decide +kernel), List.mem_of_getElem? (i := 1576) (by decide +kernel)⟩
theorem lw_p121 : lw_okq (⟨"OneWaySpellModel", "lettersThere", "()I"⟩, 77) := ⟨⟨by decide +kernel, by decide +kernel⟩, List.mem_of_getElem? (i := 1227) (by decide +kernel), List.mem_of_getElem? (i := 1579) (by decide +kernel), List.mem_of_getElem? (i := 1580) (by decide +kernel)⟩
theorem lw_p122 : lw_okq (⟨"OneWaySpellModel", "isFree", "(Z)Z"⟩, 77) := ⟨⟨by decide +kernel, by decide +kernel⟩, List.mem_of_getElem? (i := 1227) (by decide +kernel), List.mem_of_getElem? (i := 1583) (by decide +kernel), List.mem_of_getElem? (i := 1584) (by decide +kernel)⟩
theorem lw_p123 : lw_okq (⟨"OneWaySpellModel", "begins", "(II)Z"⟩, 77) := ⟨⟨by decide +kernel, by decide +kernel⟩, List.mem_of_getElem? (i := 1227) (by decide +kernel), List.mem_of_getElem? (i := 1587) (by decide +kernel), List.mem_of_getElem? (i := 1588) (by decide +kernel)⟩
theorem lw_p124 : lw_okq (⟨"OneWaySpellModel", "alike", "(IIII)I"⟩, 77) := ⟨⟨by decide +kernel, by decide +kernel⟩, List.mem_of_getElem? (i := 1227) (by decide +kernel), List.mem_of_getElem? (i := 1591) (by decide +kernel), List.mem_of_getElem? (i := 1592) (by decide +kernel)⟩
theorem lw_p125 : lw_okq (⟨"OneWaySpellModel", "ends", "(II)Z"⟩, 77) := ⟨⟨by decide +kernel, by decide +kernel⟩, List.mem_of_getElem? (i := 1227) (by decide +kernel), List.mem_of_getElem? (i := 1595) (by decide +kernel), List.mem_of_getElem? (i := 1596) (by decide +kernel)⟩
theorem lw_p126 : lw_okq (⟨"OneWaySpellModel", "layTails", "()V"⟩, 77) := ⟨⟨by decide +kernel, by decide +kernel⟩, List.mem_of_getElem? (i := 1227) (by decide +kernel), List.mem_of_getElem? (i := 1610) (by decide +kernel), List.mem_of_getElem? (i := 1611) (by decide +kernel)⟩
theorem lw_p127 : lw_okq (⟨"OneWaySpellModel", "layEnds", "()V"⟩, 77) := ⟨⟨by decide +kernel, by decide +kernel⟩, List.mem_of_getElem? (i := 1227) (by decide +kernel), List.mem_of_getElem? (i := 1614) (by decide +kernel), List.mem_of_getElem? (i := 1615) (by decide +kernel)⟩
def lw_privs_8 : List (MethodName × Nat) := [(⟨"OneWaySpellModel", "readName", "()V"⟩, 77), (⟨"OneWaySpellModel", "mustBe", "(I)V"⟩, 77), (⟨"OneWaySpellModel", "isSign", "(I)Z"⟩, 77), (⟨"OneWaySpellModel", "readGroup", "()V"⟩, 77), (⟨"OneWaySpellModel", "isTold", "(I)Z"⟩, 77), (⟨"OneWaySpellModel", "another", "()V"⟩, 77), (⟨"OneWaySpellModel", "isGroup", "(I)Z"⟩, 77), (⟨"OneWaySpellModel", "letterAt", "(II)I"⟩, 77), (⟨"OneWaySpellModel", "unlike", "()I"⟩, 77), (⟨"OneWaySpellModel", "lettersThere", "()I"⟩, 77), (⟨"OneWaySpellModel", "isFree", "(Z)Z"⟩, 77), (⟨"OneWaySpellModel", "begins", "(II)Z"⟩, 77), (⟨"OneWaySpellModel", "alike", "(IIII)I"⟩, 77), (⟨"OneWaySpellModel", "ends", "(II)Z"⟩, 77), (⟨"OneWaySpellModel", "layTails", "()V"⟩, 77), (⟨"OneWaySpellModel", "layEnds", "()V"⟩, 77)]
theorem lw_r8 : ∀ q ∈ lw_privs_8, lw_okq q := List.forall_mem_cons.mpr ⟨lw_p112, List.forall_mem_cons.mpr ⟨lw_p113, List.forall_mem_cons.mpr ⟨lw_p114, List.forall_mem_cons.mpr ⟨lw_p115, List.forall_mem_cons.mpr ⟨lw_p116, List.forall_mem_cons.mpr ⟨lw_p117, List.forall_mem_cons.mpr ⟨lw_p118, List.forall_mem_cons.mpr ⟨lw_p119, List.forall_mem_cons.mpr ⟨lw_p120, List.forall_mem_cons.mpr ⟨lw_p121, List.forall_mem_cons.mpr ⟨lw_p122, List.forall_mem_cons.mpr ⟨lw_p123, List.forall_mem_cons.mpr ⟨lw_p124, List.forall_mem_cons.mpr ⟨lw_p125, List.forall_mem_cons.mpr ⟨lw_p126, List.forall_mem_cons.mpr ⟨lw_p127, fun _ h => absurd h List.not_mem_nil⟩⟩⟩⟩⟩⟩⟩⟩⟩⟩⟩⟩⟩⟩⟩⟩
theorem lw_p128 : lw_okq (⟨"OneWaySpellModel", "against", "(III)I"⟩, 77) := ⟨⟨by decide +kernel, by decide +kernel⟩, List.mem_of_getElem? (i := 1227) (by decide +kernel), List.mem_of_getElem? (i := 1618) (by decide +kernel), List.mem_of_getElem? (i := 1619) (by decide +kernel)⟩
theorem lw_p129 : lw_okq (⟨"OneWaySpellModel", "tailSize", "(I)I"⟩, 77) := ⟨⟨by decide +kernel, by decide +kernel⟩, List.mem_of_getElem? (i := 1227) (by decide +kernel), List.mem_of_getElem? (i := 1622) (by decide +kernel), List.mem_of_getElem? (i := 1623) (by decide +kernel)⟩
theorem lw_p130 : lw_okq (⟨"OneWaySpellModel", "tailLetter", "(II)I"⟩, 77) := ⟨⟨by decide +kernel, by decide +kernel⟩, List.mem_of_getElem? (i := 1227) (by decide +kernel), List.mem_of_getElem? (i := 1626) (by decide +kernel), List.mem_of_getElem? (i := 1627) (by decide +kernel)⟩
theorem lw_p131 : lw_okq (⟨"OneWaySpellModel", "leftOf", "(II)I"⟩, 77) := ⟨⟨by decide +kernel, by decide +kernel⟩, List.mem_of_getElem? (i := 1227) (by decide +kernel), List.mem_of_getElem? (i := 1630) (by decide +kernel), List.mem_of_getElem? (i := 1631) (by decide +kernel)⟩
theorem lw_p132 : lw_okq (⟨"OneWaySpellModel", "goesOn", "(I)V"⟩, 77) := ⟨⟨by decide +kernel, by decide +kernel⟩, List.mem_of_getElem? (i := 1227) (by decide +kernel), List.mem_of_getElem? (i := 1634) (by decide +kernel), List.mem_of_getElem? (i := 1635) (by decide +kernel)⟩
theorem lw_p133 : lw_okq (⟨"OneWaySpellModel", "layBest", "()V"⟩, 77) := ⟨⟨by decide +kernel, by decide +kernel⟩, List.mem_of_getElem? (i := 1227) (by decide +kernel), List.mem_of_getElem? (i := 1654) (by decide +kernel), List.mem_of_getElem? (i := 1655) (by decide +kernel)⟩
theorem lw_p134 : lw_okq (⟨"OneWaySpellModel", "tries", "(II)V"⟩, 77) := ⟨⟨by decide +kernel, by decide +kernel⟩, List.mem_of_getElem? (i := 1227) (by decide +kernel), List.mem_of_getElem? (i := 1658) (by decide +kernel), List.mem_of_getElem? (i := 1659) (by decide +kernel)⟩
theorem lw_p135 : lw_okq (⟨"OneWaySpellModel", "takes", "(I)Z"⟩, 77) := ⟨⟨by decide +kernel, by decide +kernel⟩, List.mem_of_getElem? (i := 1227) (by decide +kernel), List.mem_of_getElem? (i := 1662) (by decide +kernel), List.mem_of_getElem? (i := 1663) (by decide +kernel)⟩
theorem lw_p136 : lw_okq (⟨"OneWaySpellModel", "isBefore", "([III)Z"⟩, 77) := ⟨⟨by decide +kernel, by decide +kernel⟩, List.mem_of_getElem? (i := 1227) (by decide +kernel), List.mem_of_getElem? (i := 1666) (by decide +kernel), List.mem_of_getElem? (i := 1667) (by decide +kernel)⟩
theorem lw_p137 : lw_okq (⟨"OneWaySpellModel", "takesWord", "([III)V"⟩, 77) := ⟨⟨by decide +kernel, by decide +kernel⟩, List.mem_of_getElem? (i := 1227) (by decide +kernel), List.mem_of_getElem? (i := 1670) (by decide +kernel), List.mem_of_getElem? (i := 1671) (by decide +kernel)⟩
theorem lw_p138 : lw_okq (⟨"OneWaySpellModel", "layWays", "([II)V"⟩, 77) := ⟨⟨by decide +kernel, by decide +kernel⟩, List.mem_of_getElem? (i := 1227) (by decide +kernel), List.mem_of_getElem? (i := 1698) (by decide +kernel), List.mem_of_getElem? (i := 1699) (by decide +kernel)⟩
theorem lw_p139 : lw_okq (⟨"OneWaySpellModel", "stands", "(I[III)Z"⟩, 77) := ⟨⟨by decide +kernel, by decide +kernel⟩, List.mem_of_getElem? (i := 1227) (by decide +kernel), List.mem_of_getElem? (i := 1702) (by decide +kernel), List.mem_of_getElem? (i := 1703) (by decide +kernel)⟩
theorem lw_p140 : lw_okq (⟨"OneWaySpellModel", "goesBy", "(J)J"⟩, 77) := ⟨⟨by decide +kernel, by decide +kernel⟩, List.mem_of_getElem? (i := 1227) (by decide +kernel), List.mem_of_getElem? (i := 1710) (by decide +kernel), List.mem_of_getElem? (i := 1711) (by decide +kernel)⟩
theorem lw_p141 : lw_okq (⟨"OneWaySpellModel", "takenAt", "(II)I"⟩, 77) := ⟨⟨by decide +kernel, by decide +kernel⟩, List.mem_of_getElem? (i := 1227) (by decide +kernel), List.mem_of_getElem? (i := 1723) (by decide +kernel), List.mem_of_getElem? (i := 1724) (by decide +kernel)⟩
theorem lw_p142 : lw_okq (⟨"OneWaySpellModel", "layCover", "()V"⟩, 77) := ⟨⟨by decide +kernel, by decide +kernel⟩, List.mem_of_getElem? (i := 1227) (by decide +kernel), List.mem_of_getElem? (i := 1735) (by decide +kernel), List.mem_of_getElem? (i := 1736) (by decide +kernel)⟩
theorem lw_p143 : lw_okq (⟨"OneWaySpellModel", "coversBy", "(II)V"⟩, 77) := ⟨⟨by decide +kernel, by decide +kernel⟩, List.mem_of_getElem? (i := 1227) (by decide +kernel), List.mem_of_getElem? (i := 1739) (by decide +kernel), List.mem_of_getElem? (i := 1740) (by decide +kernel)⟩
def lw_privs_9 : List (MethodName × Nat) := [(⟨"OneWaySpellModel", "against", "(III)I"⟩, 77), (⟨"OneWaySpellModel", "tailSize", "(I)I"⟩, 77), (⟨"OneWaySpellModel", "tailLetter", "(II)I"⟩, 77), (⟨"OneWaySpellModel", "leftOf", "(II)I"⟩, 77), (⟨"OneWaySpellModel", "goesOn", "(I)V"⟩, 77), (⟨"OneWaySpellModel", "layBest", "()V"⟩, 77), (⟨"OneWaySpellModel", "tries", "(II)V"⟩, 77), (⟨"OneWaySpellModel", "takes", "(I)Z"⟩, 77), (⟨"OneWaySpellModel", "isBefore", "([III)Z"⟩, 77), (⟨"OneWaySpellModel", "takesWord", "([III)V"⟩, 77), (⟨"OneWaySpellModel", "layWays", "([II)V"⟩, 77), (⟨"OneWaySpellModel", "stands", "(I[III)Z"⟩, 77), (⟨"OneWaySpellModel", "goesBy", "(J)J"⟩, 77), (⟨"OneWaySpellModel", "takenAt", "(II)I"⟩, 77), (⟨"OneWaySpellModel", "layCover", "()V"⟩, 77), (⟨"OneWaySpellModel", "coversBy", "(II)V"⟩, 77)]
theorem lw_r9 : ∀ q ∈ lw_privs_9, lw_okq q := List.forall_mem_cons.mpr ⟨lw_p128, List.forall_mem_cons.mpr ⟨lw_p129, List.forall_mem_cons.mpr ⟨lw_p130, List.forall_mem_cons.mpr ⟨lw_p131, List.forall_mem_cons.mpr ⟨lw_p132, List.forall_mem_cons.mpr ⟨lw_p133, List.forall_mem_cons.mpr ⟨lw_p134, List.forall_mem_cons.mpr ⟨lw_p135, List.forall_mem_cons.mpr ⟨lw_p136, List.forall_mem_cons.mpr ⟨lw_p137, List.forall_mem_cons.mpr ⟨lw_p138, List.forall_mem_cons.mpr ⟨lw_p139, List.forall_mem_cons.mpr ⟨lw_p140, List.forall_mem_cons.mpr ⟨lw_p141, List.forall_mem_cons.mpr ⟨lw_p142, List.forall_mem_cons.mpr ⟨lw_p143, fun _ h => absurd h List.not_mem_nil⟩⟩⟩⟩⟩⟩⟩⟩⟩⟩⟩⟩⟩⟩⟩⟩
theorem lw_p144 : lw_okq (⟨"OneWaySpellModel", "foolsBy", "(III)V"⟩, 77) := ⟨⟨by decide +kernel, by decide +kernel⟩, List.mem_of_getElem? (i := 1227) (by decide +kernel), List.mem_of_getElem? (i := 1743) (by decide +kernel), List.mem_of_getElem? (i := 1744) (by decide +kernel)⟩
theorem lw_p145 : lw_okq (⟨"OneWaySpellModel", "takesLeast", "()V"⟩, 77) := ⟨⟨by decide +kernel, by decide +kernel⟩, List.mem_of_getElem? (i := 1227) (by decide +kernel), List.mem_of_getElem? (i := 1747) (by decide +kernel), List.mem_of_getElem? (i := 1748) (by decide +kernel)⟩
theorem lw_p146 : lw_okq (⟨"OneWaySpellModel", "ofSound", "(II)I"⟩, 77) := ⟨⟨by decide +kernel, by decide +kernel⟩, List.mem_of_getElem? (i := 1227) (by decide +kernel), List.mem_of_getElem? (i := 1759) (by decide +kernel), List.mem_of_getElem? (i := 1760) (by decide +kernel)⟩
theorem lw_p147 : lw_okq (⟨"OneWaySpellModel", "isSpelling", "(I)Z"⟩, 77) := ⟨⟨by decide +kernel, by decide +kernel⟩, List.mem_of_getElem? (i := 1227) (by decide +kernel), List.mem_of_getElem? (i := 1763) (by decide +kernel), List.mem_of_getElem? (i := 1764) (by decide +kernel)⟩
theorem lw_p148 : lw_okq (⟨"OneWaySpellModel", "startsAnew", "()V"⟩, 77) := ⟨⟨by decide +kernel, by decide +kernel⟩, List.mem_of_getElem? (i := 1227) (by decide +kernel), List.mem_of_getElem? (i := 1779) (by decide +kernel), List.mem_of_getElem? (i := 1780) (by decide +kernel)⟩
theorem lw_p149 : lw_okq (⟨"OneWaySpellModel", "layNodes", "()V"⟩, 77) := ⟨⟨by decide +kernel, by decide +kernel⟩, List.mem_of_getElem? (i := 1227) (by decide +kernel), List.mem_of_getElem? (i := 1783) (by decide +kernel), List.mem_of_getElem? (i := 1784) (by decide +kernel)⟩
theorem lw_p150 : lw_okq (⟨"OneWaySpellModel", "countFrom", "(I)V"⟩, 77) := ⟨⟨by decide +kernel, by decide +kernel⟩, List.mem_of_getElem? (i := 1227) (by decide +kernel), List.mem_of_getElem? (i := 1787) (by decide +kernel), List.mem_of_getElem? (i := 1788) (by decide +kernel)⟩
theorem lw_p151 : lw_okq (⟨"OneWaySpellModel", "empties", "(I)V"⟩, 77) := ⟨⟨by decide +kernel, by decide +kernel⟩, List.mem_of_getElem? (i := 1227) (by decide +kernel), List.mem_of_getElem? (i := 1791) (by decide +kernel), List.mem_of_getElem? (i := 1792) (by decide +kernel)⟩
theorem lw_p152 : lw_okq (⟨"OneWaySpellModel", "counts", "(IJ)V"⟩, 77) := ⟨⟨by decide +kernel, by decide +kernel⟩, List.mem_of_getElem? (i := 1227) (by decide +kernel), List.mem_of_getElem? (i := 1795) (by decide +kernel), List.mem_of_getElem? (i := 1796) (by decide +kernel)⟩
theorem lw_p153 : lw_okq (⟨"OneWaySpellModel", "isThere", "(I)Z"⟩, 77) := ⟨⟨by decide +kernel, by decide +kernel⟩, List.mem_of_getElem? (i := 1227) (by decide +kernel), List.mem_of_getElem? (i := 1803) (by decide +kernel), List.mem_of_getElem? (i := 1804) (by decide +kernel)⟩
theorem lw_p154 : lw_okq (⟨"OneWaySpellModel", "steps", "(I)Z"⟩, 77) := ⟨⟨by decide +kernel, by decide +kernel⟩, List.mem_of_getElem? (i := 1227) (by decide +kernel), List.mem_of_getElem? (i := 1807) (by decide +kernel), List.mem_of_getElem? (i := 1808) (by decide +kernel)⟩
theorem lw_p155 : lw_okq (⟨"OneWaySpellModel", "oftenAt", "([JI)I"⟩, 77) := ⟨⟨by decide +kernel, by decide +kernel⟩, List.mem_of_getElem? (i := 1227) (by decide +kernel), List.mem_of_getElem? (i := 1811) (by decide +kernel), List.mem_of_getElem? (i := 1812) (by decide +kernel)⟩
theorem lw_p156 : lw_okq (⟨"OneWaySpellModel", "adds", "(II)V"⟩, 77) := ⟨⟨by decide +kernel, by decide +kernel⟩, List.mem_of_getElem? (i := 1227) (by decide +kernel), List.mem_of_getElem? (i := 1819) (by decide +kernel), List.mem_of_getElem? (i := 1820) (by decide +kernel)⟩
theorem lw_p157 : lw_okq (⟨"OneWaySpellModel", "behindBy", "(II)J"⟩, 77) := ⟨⟨by decide +kernel, by decide +kernel⟩, List.mem_of_getElem? (i := 1227) (by decide +kernel), List.mem_of_getElem? (i := 1827) (by decide +kernel), List.mem_of_getElem? (i := 1828) (by decide +kernel)⟩
theorem lw_p158 : lw_okq (⟨"OneWaySpellModel", "goesThere", "()V"⟩, 77) := ⟨⟨by decide +kernel, by decide +kernel⟩, List.mem_of_getElem? (i := 1227) (by decide +kernel), List.mem_of_getElem? (i := 1831) (by decide +kernel), List.mem_of_getElem? (i := 1832) (by decide +kernel)⟩
theorem lw_p159 : lw_okq (⟨"OneWaySpellModel", "layBorders", "(I)V"⟩, 77) := ⟨⟨by decide +kernel, by decide +kernel⟩, List.mem_of_getElem? (i := 1227) (by decide +kernel), List.mem_of_getElem? (i := 1843) (by decide +kernel), List.mem_of_getElem? (i := 1844) (by decide +kernel)⟩
def lw_privs_10 : List (MethodName × Nat) := [(⟨"OneWaySpellModel", "foolsBy", "(III)V"⟩, 77), (⟨"OneWaySpellModel", "takesLeast", "()V"⟩, 77), (⟨"OneWaySpellModel", "ofSound", "(II)I"⟩, 77), (⟨"OneWaySpellModel", "isSpelling", "(I)Z"⟩, 77), (⟨"OneWaySpellModel", "startsAnew", "()V"⟩, 77), (⟨"OneWaySpellModel", "layNodes", "()V"⟩, 77), (⟨"OneWaySpellModel", "countFrom", "(I)V"⟩, 77), (⟨"OneWaySpellModel", "empties", "(I)V"⟩, 77), (⟨"OneWaySpellModel", "counts", "(IJ)V"⟩, 77), (⟨"OneWaySpellModel", "isThere", "(I)Z"⟩, 77), (⟨"OneWaySpellModel", "steps", "(I)Z"⟩, 77), (⟨"OneWaySpellModel", "oftenAt", "([JI)I"⟩, 77), (⟨"OneWaySpellModel", "adds", "(II)V"⟩, 77), (⟨"OneWaySpellModel", "behindBy", "(II)J"⟩, 77), (⟨"OneWaySpellModel", "goesThere", "()V"⟩, 77), (⟨"OneWaySpellModel", "layBorders", "(I)V"⟩, 77)]
theorem lw_r10 : ∀ q ∈ lw_privs_10, lw_okq q := List.forall_mem_cons.mpr ⟨lw_p144, List.forall_mem_cons.mpr ⟨lw_p145, List.forall_mem_cons.mpr ⟨lw_p146, List.forall_mem_cons.mpr ⟨lw_p147, List.forall_mem_cons.mpr ⟨lw_p148, List.forall_mem_cons.mpr ⟨lw_p149, List.forall_mem_cons.mpr ⟨lw_p150, List.forall_mem_cons.mpr ⟨lw_p151, List.forall_mem_cons.mpr ⟨lw_p152, List.forall_mem_cons.mpr ⟨lw_p153, List.forall_mem_cons.mpr ⟨lw_p154, List.forall_mem_cons.mpr ⟨lw_p155, List.forall_mem_cons.mpr ⟨lw_p156, List.forall_mem_cons.mpr ⟨lw_p157, List.forall_mem_cons.mpr ⟨lw_p158, List.forall_mem_cons.mpr ⟨lw_p159, fun _ h => absurd h List.not_mem_nil⟩⟩⟩⟩⟩⟩⟩⟩⟩⟩⟩⟩⟩⟩⟩⟩
theorem lw_p160 : lw_okq (⟨"OneWaySpellModel", "unpack", "(II)V"⟩, 77) := ⟨⟨by decide +kernel, by decide +kernel⟩, List.mem_of_getElem? (i := 1227) (by decide +kernel), List.mem_of_getElem? (i := 1847) (by decide +kernel), List.mem_of_getElem? (i := 1848) (by decide +kernel)⟩
theorem lw_p161 : lw_okq (⟨"OneWaySpellModel", "layEndsOf", "(I)V"⟩, 77) := ⟨⟨by decide +kernel, by decide +kernel⟩, List.mem_of_getElem? (i := 1227) (by decide +kernel), List.mem_of_getElem? (i := 1851) (by decide +kernel), List.mem_of_getElem? (i := 1852) (by decide +kernel)⟩
theorem lw_p162 : lw_okq (⟨"OneWaySpellModel", "meetsEnd", "(III)Z"⟩, 77) := ⟨⟨by decide +kernel, by decide +kernel⟩, List.mem_of_getElem? (i := 1227) (by decide +kernel), List.mem_of_getElem? (i := 1855) (by decide +kernel), List.mem_of_getElem? (i := 1856) (by decide +kernel)⟩
theorem lw_p163 : lw_okq (⟨"OneWaySpellModel", "isWithin", "(I)Z"⟩, 77) := ⟨⟨by decide +kernel, by decide +kernel⟩, List.mem_of_getElem? (i := 1227) (by decide +kernel), List.mem_of_getElem? (i := 1859) (by decide +kernel), List.mem_of_getElem? (i := 1860) (by decide +kernel)⟩
theorem lw_p164 : lw_okq (⟨"OneWaySpellModel", "puts", "(IIZ)V"⟩, 77) := ⟨⟨by decide +kernel, by decide +kernel⟩, List.mem_of_getElem? (i := 1227) (by decide +kernel), List.mem_of_getElem? (i := 1863) (by decide +kernel), List.mem_of_getElem? (i := 1864) (by decide +kernel)⟩
theorem lw_p165 : lw_okq (⟨"OneWaySpellModel", "cureOf", "(I)I"⟩, 77) := ⟨⟨by decide +kernel, by decide +kernel⟩, List.mem_of_getElem? (i := 1227) (by decide +kernel), List.mem_of_getElem? (i := 1875) (by decide +kernel), List.mem_of_getElem? (i := 1876) (by decide +kernel)⟩
theorem lw_p166 : lw_okq (⟨"OneWaySpellModel", "isCure", "(II)Z"⟩, 77) := ⟨⟨by decide +kernel, by decide +kernel⟩, List.mem_of_getElem? (i := 1227) (by decide +kernel), List.mem_of_getElem? (i := 1879) (by decide +kernel), List.mem_of_getElem? (i := 1880) (by decide +kernel)⟩
theorem lw_p167 : lw_okq (⟨"OneWaySpellModel", "does", "(II)V"⟩, 77) := ⟨⟨by decide +kernel, by decide +kernel⟩, List.mem_of_getElem? (i := 1227) (by decide +kernel), List.mem_of_getElem? (i := 1883) (by decide +kernel), List.mem_of_getElem? (i := 1884) (by decide +kernel)⟩
theorem lw_p168 : lw_okq (⟨"OneWaySpellModel", "marks", "(IZ)V"⟩, 77) := ⟨⟨by decide +kernel, by decide +kernel⟩, List.mem_of_getElem? (i := 1227) (by decide +kernel), List.mem_of_getElem? (i := 1887) (by decide +kernel), List.mem_of_getElem? (i := 1888) (by decide +kernel)⟩
theorem lw_p169 : lw_okq (⟨"OneWaySpellModel", "partsNow", "()Z"⟩, 77) := ⟨⟨by decide +kernel, by decide +kernel⟩, List.mem_of_getElem? (i := 1227) (by decide +kernel), List.mem_of_getElem? (i := 1891) (by decide +kernel), List.mem_of_getElem? (i := 1892) (by decide +kernel)⟩
theorem lw_p170 : lw_okq (⟨"OneWaySpellModel", "comesIn", "(II)Z"⟩, 77) := ⟨⟨by decide +kernel, by decide +kernel⟩, List.mem_of_getElem? (i := 1227) (by decide +kernel), List.mem_of_getElem? (i := 1895) (by decide +kernel), List.mem_of_getElem? (i := 1896) (by decide +kernel)⟩
theorem lw_p171 : lw_okq (⟨"OneWaySpellModel", "unmarks", "(IZ)V"⟩, 77) := ⟨⟨by decide +kernel, by decide +kernel⟩, List.mem_of_getElem? (i := 1227) (by decide +kernel), List.mem_of_getElem? (i := 1899) (by decide +kernel), List.mem_of_getElem? (i := 1900) (by decide +kernel)⟩
theorem lw_p172 : lw_okq (⟨"OneWaySpellModel", "keep", "()V"⟩, 77) := ⟨⟨by decide +kernel, by decide +kernel⟩, List.mem_of_getElem? (i := 1227) (by decide +kernel), List.mem_of_getElem? (i := 1907) (by decide +kernel), List.mem_of_getElem? (i := 1908) (by decide +kernel)⟩
def lw_privs_11 : List (MethodName × Nat) := [(⟨"OneWaySpellModel", "unpack", "(II)V"⟩, 77), (⟨"OneWaySpellModel", "layEndsOf", "(I)V"⟩, 77), (⟨"OneWaySpellModel", "meetsEnd", "(III)Z"⟩, 77), (⟨"OneWaySpellModel", "isWithin", "(I)Z"⟩, 77), (⟨"OneWaySpellModel", "puts", "(IIZ)V"⟩, 77), (⟨"OneWaySpellModel", "cureOf", "(I)I"⟩, 77), (⟨"OneWaySpellModel", "isCure", "(II)Z"⟩, 77), (⟨"OneWaySpellModel", "does", "(II)V"⟩, 77), (⟨"OneWaySpellModel", "marks", "(IZ)V"⟩, 77), (⟨"OneWaySpellModel", "partsNow", "()Z"⟩, 77), (⟨"OneWaySpellModel", "comesIn", "(II)Z"⟩, 77), (⟨"OneWaySpellModel", "unmarks", "(IZ)V"⟩, 77), (⟨"OneWaySpellModel", "keep", "()V"⟩, 77)]
theorem lw_r11 : ∀ q ∈ lw_privs_11, lw_okq q := List.forall_mem_cons.mpr ⟨lw_p160, List.forall_mem_cons.mpr ⟨lw_p161, List.forall_mem_cons.mpr ⟨lw_p162, List.forall_mem_cons.mpr ⟨lw_p163, List.forall_mem_cons.mpr ⟨lw_p164, List.forall_mem_cons.mpr ⟨lw_p165, List.forall_mem_cons.mpr ⟨lw_p166, List.forall_mem_cons.mpr ⟨lw_p167, List.forall_mem_cons.mpr ⟨lw_p168, List.forall_mem_cons.mpr ⟨lw_p169, List.forall_mem_cons.mpr ⟨lw_p170, List.forall_mem_cons.mpr ⟨lw_p171, List.forall_mem_cons.mpr ⟨lw_p172, fun _ h => absurd h List.not_mem_nil⟩⟩⟩⟩⟩⟩⟩⟩⟩⟩⟩⟩⟩
def lw_privs : List (MethodName × Nat) := lw_privs_1 ++ (lw_privs_2 ++ (lw_privs_3 ++ (lw_privs_4 ++ (lw_privs_5 ++ (lw_privs_6 ++ (lw_privs_7 ++ (lw_privs_8 ++ (lw_privs_9 ++ (lw_privs_10 ++ (lw_privs_11))))))))))
def lw_tbl : List Cond := k2_sels lw_privs ++ tables_1
theorem lw_privs_ok : ∀ q ∈ lw_privs, lw_okq q := by
  show ∀ q ∈ lw_privs_1 ++ (lw_privs_2 ++ (lw_privs_3 ++ (lw_privs_4 ++ (lw_privs_5 ++ (lw_privs_6 ++ (lw_privs_7 ++ (lw_privs_8 ++ (lw_privs_9 ++ (lw_privs_10 ++ (lw_privs_11)))))))))), lw_okq q
  exact List.forall_mem_append.mpr ⟨lw_r1, List.forall_mem_append.mpr ⟨lw_r2, List.forall_mem_append.mpr ⟨lw_r3, List.forall_mem_append.mpr ⟨lw_r4, List.forall_mem_append.mpr ⟨lw_r5, List.forall_mem_append.mpr ⟨lw_r6, List.forall_mem_append.mpr ⟨lw_r7, List.forall_mem_append.mpr ⟨lw_r8, List.forall_mem_append.mpr ⟨lw_r9, List.forall_mem_append.mpr ⟨lw_r10, lw_r11⟩⟩⟩⟩⟩⟩⟩⟩⟩⟩
-- ===== end of PART A; then your names; then what follows =====
end
section
/-! the classes whose objects the worlds hold, their fields; the words of the tables that last -/
def gt : List Cond := lw_tbl.filter goodWord
theorem gt_of {ws : List Cond} (h : GoodIn lw_tbl ws) : ∀ w ∈ ws, w ∈ gt := fun w hw => by
  obtain ⟨h1, h2⟩ := h w hw
  refine List.mem_filter.mpr ⟨h1, ?_⟩
  rcases h2 with h2 | ⟨ty, rfl⟩
  · cases w <;> first | rfl | exact h2
  · rfl
theorem gt_good {w : Cond} (h : w ∈ gt) : (w.onTables && w.keeps) = true ∨ ∃ ty, w = .arrayClass ty := good_of_word (List.mem_filter.mp h).2
theorem gt_in {w : Cond} (i : Nat) (h : lw_tbl[i]? = some w) (hg : goodWord w = true) : w ∈ gt := List.mem_filter.mpr ⟨List.mem_of_getElem? h, hg⟩
theorem gt_ps (ws : List Cond) (ps : List Nat) (hp : ws = ps.filterMap (fun i => lw_tbl[i]?)) (h : ws.all goodWord = true) : ∀ w ∈ ws, w ∈ gt := fun w hw => by
  have h1 := List.all_eq_true.mp h w hw
  rw [hp] at hw
  obtain ⟨i, -, hi⟩ := List.mem_filterMap.mp hw
  exact gt_in i hi h1
def cn0 : String := "OneWaySpell$Borders"
def tf0 : u_T := fun k => match k with
  | 0 => ("OneWaySpell$Borders", "passes", "[J", true)
  | 1 => ("OneWaySpell$Borders", "endsInside", "[J", true)
  | 2 => ("OneWaySpell$Borders", "list", "[I", false)
  | 3 => ("OneWaySpell$Borders", "size", "I", false)
  | 4 => ("OneWaySpell$Borders", "start", "[I", true)
  | _ => ("OneWaySpell$Borders", "stamp", "I", false)
def ft0 : Nat → FieldType := fun k => match k with
  | 0 => .array .long
  | 1 => .array .long
  | 2 => .array .int
  | 3 => .int
  | 4 => .array .int
  | _ => .int
def cn1 : String := "OneWaySpell$Census"
def tf1 : u_T := fun k => match k with
  | 0 => ("OneWaySpell$Census", "key", "[I", false)
  | 1 => ("OneWaySpell$Census", "level", "[I", false)
  | 2 => ("OneWaySpell$Census", "some", "[J", false)
  | 3 => ("OneWaySpell$Census", "once", "[J", false)
  | 4 => ("OneWaySpell$Census", "states", "I", false)
  | 5 => ("OneWaySpell$Census", "slot", "[I", false)
  | 6 => ("OneWaySpell$Census", "firstEdge", "[I", false)
  | 7 => ("OneWaySpell$Census", "edgeSign", "[B", false)
  | 8 => ("OneWaySpell$Census", "edgeTo", "[I", false)
  | 9 => ("OneWaySpell$Census", "edgeCount", "I", false)
  | _ => ("OneWaySpell$Census", "stamp", "I", false)
def ft1 : Nat → FieldType := fun k => match k with
  | 0 => .array .int
  | 1 => .array .int
  | 2 => .array .long
  | 3 => .array .long
  | 4 => .int
  | 5 => .array .int
  | 6 => .array .int
  | 7 => .array .byte
  | 8 => .array .int
  | 9 => .int
  | _ => .int
def cn2 : String := "OneWaySpell$Cures"
def tf2 : u_T := fun k => match k with
  | 0 => ("OneWaySpell$Cures", "trial", "LOneWaySpell$Groups;", true)
  | 1 => ("OneWaySpell$Cures", "tails", "LOneWaySpell$Tails;", true)
  | 2 => ("OneWaySpell$Cures", "answer", "[I", true)
  | 3 => ("OneWaySpell$Cures", "answerStamp", "[I", true)
  | 4 => ("OneWaySpell$Cures", "number", "[I", true)
  | 5 => ("OneWaySpell$Cures", "numbers", "I", false)
  | 6 => ("OneWaySpell$Cures", "choosable", "I", false)
  | 7 => ("OneWaySpell$Cures", "chosen", "[I", true)
  | 8 => ("OneWaySpell$Cures", "clash", "[I", true)
  | 9 => ("OneWaySpell$Cures", "clashChosen", "[I", true)
  | 10 => ("OneWaySpell$Cures", "learnt", "I", false)
  | _ => ("OneWaySpell$Cures", "hopeless", "Z", false)
def ft2 : Nat → FieldType := fun k => match k with
  | 0 => .object "OneWaySpell$Groups"
  | 1 => .object "OneWaySpell$Tails"
  | 2 => .array .int
  | 3 => .array .int
  | 4 => .array .int
  | 5 => .int
  | 6 => .int
  | 7 => .array .int
  | 8 => .array .int
  | 9 => .array .int
  | 10 => .int
  | _ => .boolean
def cn3 : String := "OneWaySpell$Groups"
def tf3 : u_T := fun k => match k with
  | 0 => ("OneWaySpell$Groups", "code", "[J", true)
  | 1 => ("OneWaySpell$Groups", "length", "[I", true)
  | 2 => ("OneWaySpell$Groups", "sound", "[I", true)
  | 3 => ("OneWaySpell$Groups", "count", "I", false)
  | 4 => ("OneWaySpell$Groups", "soundCount", "I", false)
  | 5 => ("OneWaySpell$Groups", "in", "I", false)
  | 6 => ("OneWaySpell$Groups", "stamp", "I", false)
  | 7 => ("OneWaySpell$Groups", "actWay", "[I", true)
  | 8 => ("OneWaySpell$Groups", "actMask", "[I", true)
  | _ => ("OneWaySpell$Groups", "actCount", "I", false)
def ft3 : Nat → FieldType := fun k => match k with
  | 0 => .array .long
  | 1 => .array .int
  | 2 => .array .int
  | 3 => .int
  | 4 => .int
  | 5 => .int
  | 6 => .int
  | 7 => .array .int
  | 8 => .array .int
  | _ => .int
def cn4 : String := "OneWaySpell$Reader"
def tf4 : u_T := fun k => match k with
  | 0 => ("OneWaySpell$Reader", "best", "[B", true)
  | 1 => ("OneWaySpell$Reader", "bestSize", "I", false)
  | 2 => ("OneWaySpell$Reader", "trial", "[B", true)
  | 3 => ("OneWaySpell$Reader", "trialSize", "I", false)
  | _ => ("OneWaySpell$Reader", "covered", "[Z", true)
def ft4 : Nat → FieldType := fun k => match k with
  | 0 => .array .byte
  | 1 => .int
  | 2 => .array .byte
  | 3 => .int
  | _ => .array .boolean
def cn5 : String := "OneWaySpell$Speller"
def tf5 : u_T := fun k => match k with
  | 0 => ("OneWaySpell$Speller", "asked", "[I", true)
  | 1 => ("OneWaySpell$Speller", "askedCount", "I", false)
  | 2 => ("OneWaySpell$Speller", "atLeast", "[I", true)
  | 3 => ("OneWaySpell$Speller", "row", "[I", true)
  | 4 => ("OneWaySpell$Speller", "best", "[I", true)
  | 5 => ("OneWaySpell$Speller", "bestSize", "I", false)
  | _ => ("OneWaySpell$Speller", "ways", "[I", true)
def ft5 : Nat → FieldType := fun k => match k with
  | 0 => .array .int
  | 1 => .int
  | 2 => .array .int
  | 3 => .array .int
  | 4 => .array .int
  | 5 => .int
  | _ => .array .int
def cn6 : String := "OneWaySpell$Tails"
def tf6 : u_T := fun k => match k with
  | 0 => ("OneWaySpell$Tails", "code", "[J", true)
  | 1 => ("OneWaySpell$Tails", "length", "[I", true)
  | 2 => ("OneWaySpell$Tails", "from", "[I", true)
  | 3 => ("OneWaySpell$Tails", "size", "I", false)
  | 4 => ("OneWaySpell$Tails", "start", "[I", true)
  | 5 => ("OneWaySpell$Tails", "rounds", "I", false)
  | 6 => ("OneWaySpell$Tails", "doubtRound", "I", false)
  | 7 => ("OneWaySpell$Tails", "clash", "I", false)
  | 8 => ("OneWaySpell$Tails", "stamp", "I", false)
  | 9 => ("OneWaySpell$Tails", "deep", "[I", true)
  | 10 => ("OneWaySpell$Tails", "gain", "[I", true)
  | _ => ("OneWaySpell$Tails", "leadsTo", "[I", true)
def ft6 : Nat → FieldType := fun k => match k with
  | 0 => .array .long
  | 1 => .array .int
  | 2 => .array .int
  | 3 => .int
  | 4 => .array .int
  | 5 => .int
  | 6 => .int
  | 7 => .int
  | 8 => .int
  | 9 => .array .int
  | 10 => .array .int
  | _ => .array .int
def cn7 : String := "OneWaySpell$Teller"
def tf7 : u_T := fun k => match k with
  | 0 => ("OneWaySpell$Teller", "name", "[J", true)
  | 1 => ("OneWaySpell$Teller", "nameCount", "I", false)
  | 2 => ("OneWaySpell$Teller", "code", "[J", true)
  | 3 => ("OneWaySpell$Teller", "length", "[I", true)
  | 4 => ("OneWaySpell$Teller", "sound", "[I", true)
  | 5 => ("OneWaySpell$Teller", "groupCount", "I", false)
  | 6 => ("OneWaySpell$Teller", "state", "I", false)
  | 7 => ("OneWaySpell$Teller", "wrong", "I", false)
  | _ => ("OneWaySpell$Teller", "wrongAt", "I", false)
def ft7 : Nat → FieldType := fun k => match k with
  | 0 => .array .long
  | 1 => .int
  | 2 => .array .long
  | 3 => .array .int
  | 4 => .array .int
  | 5 => .int
  | 6 => .int
  | 7 => .int
  | _ => .int
def cn8 : String := "OneWaySpell$Tree"
def tf8 : u_T := fun k => match k with
  | 0 => ("OneWaySpell$Tree", "child", "[I", true)
  | 1 => ("OneWaySpell$Tree", "suffix", "[I", true)
  | 2 => ("OneWaySpell$Tree", "depth", "[I", true)
  | 3 => ("OneWaySpell$Tree", "whole", "[Z", true)
  | 4 => ("OneWaySpell$Tree", "inner", "[Z", true)
  | 5 => ("OneWaySpell$Tree", "parent", "[I", true)
  | 6 => ("OneWaySpell$Tree", "lastSign", "[I", true)
  | 7 => ("OneWaySpell$Tree", "bySign", "[I", true)
  | 8 => ("OneWaySpell$Tree", "signStart", "[I", true)
  | 9 => ("OneWaySpell$Tree", "size", "I", false)
  | _ => ("OneWaySpell$Tree", "stamp", "I", false)
def ft8 : Nat → FieldType := fun k => match k with
  | 0 => .array .int
  | 1 => .array .int
  | 2 => .array .int
  | 3 => .array .boolean
  | 4 => .array .boolean
  | 5 => .array .int
  | 6 => .array .int
  | 7 => .array .int
  | 8 => .array .int
  | 9 => .int
  | _ => .int
def cn9 : String := "OneWaySpell$Twins"
def tf9 : u_T := fun k => match k with
  | 0 => ("OneWaySpell$Twins", "met", "[Z", true)
  | 1 => ("OneWaySpell$Twins", "state", "[I", true)
  | 2 => ("OneWaySpell$Twins", "parent", "[I", true)
  | 3 => ("OneWaySpell$Twins", "sign", "[B", true)
  | 4 => ("OneWaySpell$Twins", "beginning", "[I", true)
  | 5 => ("OneWaySpell$Twins", "size", "I", false)
  | 6 => ("OneWaySpell$Twins", "beginnings", "I", false)
  | 7 => ("OneWaySpell$Twins", "last", "I", false)
  | 8 => ("OneWaySpell$Twins", "lastSign", "I", false)
  | _ => ("OneWaySpell$Twins", "found", "[B", true)
def ft9 : Nat → FieldType := fun k => match k with
  | 0 => .array .boolean
  | 1 => .array .int
  | 2 => .array .int
  | 3 => .array .byte
  | 4 => .array .int
  | 5 => .int
  | 6 => .int
  | 7 => .int
  | 8 => .int
  | _ => .array .byte
def cn10 : String := "OneWaySpell$Word"
def tf10 : u_T := fun k => match k with
  | 0 => ("OneWaySpell$Word", "sign", "[B", true)
  | 1 => ("OneWaySpell$Word", "size", "I", false)
  | 2 => ("OneWaySpell$Word", "ways", "[J", true)
  | 3 => ("OneWaySpell$Word", "reached", "[Z", true)
  | _ => ("OneWaySpell$Word", "toPass", "J", false)
def ft10 : Nat → FieldType := fun k => match k with
  | 0 => .array .byte
  | 1 => .int
  | 2 => .array .long
  | 3 => .array .boolean
  | _ => .long
def cn11 : String := "OneWaySpell"
def tf11 : u_T := fun k => match k with
  | 0 => ("OneWaySpell", "tape", "[B", true)
  | 1 => ("OneWaySpell", "taped", "I", false)
  | 2 => ("OneWaySpell", "groups", "LOneWaySpell$Groups;", true)
  | 3 => ("OneWaySpell", "teller", "LOneWaySpell$Teller;", true)
  | 4 => ("OneWaySpell", "theWord", "LOneWaySpell$Word;", true)
  | 5 => ("OneWaySpell", "tree", "LOneWaySpell$Tree;", false)
  | 6 => ("OneWaySpell", "tailRounds", "LOneWaySpell$Tails;", false)
  | 7 => ("OneWaySpell", "twins", "LOneWaySpell$Twins;", false)
  | 8 => ("OneWaySpell", "reader", "LOneWaySpell$Reader;", false)
  | 9 => ("OneWaySpell", "speller", "LOneWaySpell$Speller;", false)
  | 10 => ("OneWaySpell", "census", "LOneWaySpell$Census;", false)
  | 11 => ("OneWaySpell", "edges", "LOneWaySpell$Borders;", false)
  | _ => ("OneWaySpell", "cures", "LOneWaySpell$Cures;", false)
def ft11 : Nat → FieldType := fun k => match k with
  | 0 => .array .byte
  | 1 => .int
  | 2 => .object "OneWaySpell$Groups"
  | 3 => .object "OneWaySpell$Teller"
  | 4 => .object "OneWaySpell$Word"
  | 5 => .object "OneWaySpell$Tree"
  | 6 => .object "OneWaySpell$Tails"
  | 7 => .object "OneWaySpell$Twins"
  | 8 => .object "OneWaySpell$Reader"
  | 9 => .object "OneWaySpell$Speller"
  | 10 => .object "OneWaySpell$Census"
  | 11 => .object "OneWaySpell$Borders"
  | _ => .object "OneWaySpell$Cures"
def cn12 : String := "OneWaySpellModel"
def tf12 : u_T := fun k => match k with
  | 0 => ("OneWaySpellModel", "thrown", "I", false)
  | 1 => ("OneWaySpellModel", "letters", "[I", true)
  | 2 => ("OneWaySpellModel", "size", "[I", true)
  | 3 => ("OneWaySpellModel", "soundOf", "[I", true)
  | 4 => ("OneWaySpellModel", "groups", "I", false)
  | 5 => ("OneWaySpellModel", "soundMany", "I", false)
  | 6 => ("OneWaySpellModel", "there", "I", false)
  | 7 => ("OneWaySpellModel", "tape", "[I", true)
  | 8 => ("OneWaySpellModel", "nameRead", "[I", true)
  | 9 => ("OneWaySpellModel", "lettersRead", "[I", true)
  | 10 => ("OneWaySpellModel", "sizeRead", "[I", true)
  | 11 => ("OneWaySpellModel", "soundRead", "[I", true)
  | 12 => ("OneWaySpellModel", "taped", "I", false)
  | 13 => ("OneWaySpellModel", "length", "I", false)
  | 14 => ("OneWaySpellModel", "at", "I", false)
  | 15 => ("OneWaySpellModel", "behind", "I", false)
  | 16 => ("OneWaySpellModel", "token", "I", false)
  | 17 => ("OneWaySpellModel", "faultKind", "I", false)
  | 18 => ("OneWaySpellModel", "faultPlace", "I", false)
  | 19 => ("OneWaySpellModel", "wrong", "I", false)
  | 20 => ("OneWaySpellModel", "wrongAt", "I", false)
  | 21 => ("OneWaySpellModel", "soundsRead", "I", false)
  | 22 => ("OneWaySpellModel", "groupsRead", "I", false)
  | 23 => ("OneWaySpellModel", "word", "[I", true)
  | 24 => ("OneWaySpellModel", "wordSize", "I", false)
  | 25 => ("OneWaySpellModel", "tailsAre", "Z", false)
  | 26 => ("OneWaySpellModel", "nodesAre", "Z", false)
  | 27 => ("OneWaySpellModel", "tailGroup", "[I", true)
  | 28 => ("OneWaySpellModel", "tailAt", "[I", true)
  | 29 => ("OneWaySpellModel", "roundOf", "[I", true)
  | 30 => ("OneWaySpellModel", "endOf", "[I", true)
  | 31 => ("OneWaySpellModel", "toTail", "[I", true)
  | 32 => ("OneWaySpellModel", "tails", "I", false)
  | 33 => ("OneWaySpellModel", "rounds", "I", false)
  | 34 => ("OneWaySpellModel", "doubtRound", "I", false)
  | 35 => ("OneWaySpellModel", "best", "[I", true)
  | 36 => ("OneWaySpellModel", "bestSize", "[I", true)
  | 37 => ("OneWaySpellModel", "trial", "[I", true)
  | 38 => ("OneWaySpellModel", "trialSize", "I", false)
  | 39 => ("OneWaySpellModel", "more", "[I", true)
  | 40 => ("OneWaySpellModel", "ways", "[J", true)
  | 41 => ("OneWaySpellModel", "readAt", "I", false)
  | 42 => ("OneWaySpellModel", "readGroup", "I", false)
  | 43 => ("OneWaySpellModel", "firstRow", "[I", true)
  | 44 => ("OneWaySpellModel", "cover", "[I", true)
  | 45 => ("OneWaySpellModel", "coverSize", "[I", true)
  | 46 => ("OneWaySpellModel", "least", "[I", true)
  | 47 => ("OneWaySpellModel", "leastSize", "I", false)
  | 48 => ("OneWaySpellModel", "comesTo", "[Z", true)
  | 49 => ("OneWaySpellModel", "told", "[I", true)
  | 50 => ("OneWaySpellModel", "chosen", "[I", true)
  | 51 => ("OneWaySpellModel", "nodeNext", "[I", true)
  | 52 => ("OneWaySpellModel", "nodeEnds", "[Z", true)
  | 53 => ("OneWaySpellModel", "nodes", "I", false)
  | 54 => ("OneWaySpellModel", "keys", "[J", true)
  | 55 => ("OneWaySpellModel", "counts", "[J", true)
  | 56 => ("OneWaySpellModel", "isTaken", "[Z", true)
  | 57 => ("OneWaySpellModel", "taken", "[I", true)
  | 58 => ("OneWaySpellModel", "takenMany", "[I", true)
  | 59 => ("OneWaySpellModel", "from", "[J", true)
  | 60 => ("OneWaySpellModel", "to", "[J", true)
  | 61 => ("OneWaySpellModel", "some", "J", false)
  | 62 => ("OneWaySpellModel", "twice", "J", false)
  | 63 => ("OneWaySpellModel", "here", "[J", true)
  | 64 => ("OneWaySpellModel", "gone", "[J", true)
  | 65 => ("OneWaySpellModel", "open", "[I", true)
  | 66 => ("OneWaySpellModel", "openMany", "[I", true)
  | 67 => ("OneWaySpellModel", "border", "[I", true)
  | 68 => ("OneWaySpellModel", "its", "[I", true)
  | 69 => ("OneWaySpellModel", "isEnd", "[Z", true)
  | 70 => ("OneWaySpellModel", "bordersOf", "I", false)
  | 71 => ("OneWaySpellModel", "borderMany", "I", false)
  | 72 => ("OneWaySpellModel", "line", "[I", true)
  | 73 => ("OneWaySpellModel", "isIn", "[Z", true)
  | 74 => ("OneWaySpellModel", "lineMany", "I", false)
  | 75 => ("OneWaySpellModel", "kept", "[I", true)
  | _ => ("OneWaySpellModel", "acts", "I", false)
def ft12 : Nat → FieldType := fun k => match k with
  | 0 => .int
  | 1 => .array .int
  | 2 => .array .int
  | 3 => .array .int
  | 4 => .int
  | 5 => .int
  | 6 => .int
  | 7 => .array .int
  | 8 => .array .int
  | 9 => .array .int
  | 10 => .array .int
  | 11 => .array .int
  | 12 => .int
  | 13 => .int
  | 14 => .int
  | 15 => .int
  | 16 => .int
  | 17 => .int
  | 18 => .int
  | 19 => .int
  | 20 => .int
  | 21 => .int
  | 22 => .int
  | 23 => .array .int
  | 24 => .int
  | 25 => .boolean
  | 26 => .boolean
  | 27 => .array .int
  | 28 => .array .int
  | 29 => .array .int
  | 30 => .array .int
  | 31 => .array .int
  | 32 => .int
  | 33 => .int
  | 34 => .int
  | 35 => .array .int
  | 36 => .array .int
  | 37 => .array .int
  | 38 => .int
  | 39 => .array .int
  | 40 => .array .long
  | 41 => .int
  | 42 => .int
  | 43 => .array .int
  | 44 => .array .int
  | 45 => .array .int
  | 46 => .array .int
  | 47 => .int
  | 48 => .array .boolean
  | 49 => .array .int
  | 50 => .array .int
  | 51 => .array .int
  | 52 => .array .boolean
  | 53 => .int
  | 54 => .array .long
  | 55 => .array .long
  | 56 => .array .boolean
  | 57 => .array .int
  | 58 => .array .int
  | 59 => .array .long
  | 60 => .array .long
  | 61 => .long
  | 62 => .long
  | 63 => .array .long
  | 64 => .array .long
  | 65 => .array .int
  | 66 => .array .int
  | 67 => .array .int
  | 68 => .array .int
  | 69 => .array .boolean
  | 70 => .int
  | 71 => .int
  | 72 => .array .int
  | 73 => .array .boolean
  | 74 => .int
  | 75 => .array .int
  | _ => .int
abbrev cls : List vw_C := [(cn0, tf0, 6), (cn1, tf1, 11), (cn2, tf2, 12), (cn3, tf3, 10), (cn4, tf4, 5), (cn5, tf5, 7), (cn6, tf6, 12), (cn7, tf7, 9), (cn8, tf8, 11), (cn9, tf9, 10), (cn10, tf10, 5), (cn11, tf11, 13), (cn12, tf12, 77)]
def ftL : List (Nat → FieldType) := [ft0, ft1, ft2, ft3, ft4, ft5, ft6, ft7, ft8, ft9, ft10, ft11, ft12]
def fty (ci : Nat) : Nat → FieldType := ftL.getD ci (fun _ => .int)
def fNL : List Nat := [6, 11, 12, 10, 5, 7, 12, 9, 11, 10, 5, 13, 77]
def fN (ci : Nat) : Nat := fNL.getD ci 0
def clsOK (ci : Nat) (C : String) (T : u_T) (N : Nat) : Prop := (∀ w ∈ u_ws C T N, w ∈ gt) ∧ (∀ k, k < N → parseFieldDescriptor (T k).2.2.1 = some (fty ci k)) ∧ (∀ a, a < N → ∀ b, b < N → a ≠ b → (T a).2.1 ≠ (T b).2.1) ∧ (∀ k, k < N → (T k).1 = C) ∧ Cond.instantiable C N ∈ gt ∧ Cond.initialized C ∈ gt ∧ fN ci = N
set_option maxRecDepth 20000 in
theorem clsOK0 : clsOK 0 cn0 tf0 6 := ⟨gt_ps _ [1211, 1213, 1215, 1217, 1219, 1221] (by decide +kernel) (by decide +kernel), by decide +kernel, by decide +kernel, by decide +kernel, gt_in 1199 (by decide +kernel) (by decide +kernel), gt_in 189 (by decide +kernel) (by decide +kernel), rfl⟩
set_option maxRecDepth 20000 in
theorem clsOK1 : clsOK 1 cn1 tf1 11 := ⟨gt_ps _ [1090, 1092, 1094, 1096, 1098, 1100, 1102, 1104, 1106, 1108, 1110] (by decide +kernel) (by decide +kernel), by decide +kernel, by decide +kernel, by decide +kernel, gt_in 1073 (by decide +kernel) (by decide +kernel), gt_in 188 (by decide +kernel) (by decide +kernel), rfl⟩
set_option maxRecDepth 20000 in
theorem clsOK2 : clsOK 2 cn2 tf2 12 := ⟨gt_ps _ [1310, 1312, 1314, 1316, 1318, 1320, 1322, 1324, 1326, 1328, 1330, 1332] (by decide +kernel) (by decide +kernel), by decide +kernel, by decide +kernel, by decide +kernel, gt_in 1289 (by decide +kernel) (by decide +kernel), gt_in 190 (by decide +kernel) (by decide +kernel), rfl⟩
set_option maxRecDepth 20000 in
theorem clsOK3 : clsOK 3 cn3 tf3 10 := ⟨gt_ps _ [246, 248, 250, 252, 254, 256, 258, 260, 262, 264] (by decide +kernel) (by decide +kernel), by decide +kernel, by decide +kernel, by decide +kernel, gt_in 200 (by decide +kernel) (by decide +kernel), gt_in 175 (by decide +kernel) (by decide +kernel), rfl⟩
set_option maxRecDepth 20000 in
theorem clsOK4 : clsOK 4 cn4 tf4 5 := ⟨gt_ps _ [900, 902, 904, 906, 908] (by decide +kernel) (by decide +kernel), by decide +kernel, by decide +kernel, by decide +kernel, gt_in 890 (by decide +kernel) (by decide +kernel), gt_in 186 (by decide +kernel) (by decide +kernel), rfl⟩
set_option maxRecDepth 20000 in
theorem clsOK5 : clsOK 5 cn5 tf5 7 := ⟨gt_ps _ [1004, 1006, 1008, 1010, 1012, 1014, 1016] (by decide +kernel) (by decide +kernel), by decide +kernel, by decide +kernel, by decide +kernel, gt_in 992 (by decide +kernel) (by decide +kernel), gt_in 187 (by decide +kernel) (by decide +kernel), rfl⟩
set_option maxRecDepth 20000 in
theorem clsOK6 : clsOK 6 cn6 tf6 12 := ⟨gt_ps _ [547, 549, 551, 553, 555, 557, 559, 561, 563, 565, 567, 569] (by decide +kernel) (by decide +kernel), by decide +kernel, by decide +kernel, by decide +kernel, gt_in 523 (by decide +kernel) (by decide +kernel), gt_in 182 (by decide +kernel) (by decide +kernel), rfl⟩
set_option maxRecDepth 20000 in
theorem clsOK7 : clsOK 7 cn7 tf7 9 := ⟨gt_ps _ [292, 294, 296, 298, 300, 302, 304, 306, 308] (by decide +kernel) (by decide +kernel), by decide +kernel, by decide +kernel, by decide +kernel, gt_in 271 (by decide +kernel) (by decide +kernel), gt_in 176 (by decide +kernel) (by decide +kernel), rfl⟩
set_option maxRecDepth 20000 in
theorem clsOK8 : clsOK 8 cn8 tf8 11 := ⟨gt_ps _ [702, 704, 706, 708, 710, 712, 714, 716, 718, 720, 722] (by decide +kernel) (by decide +kernel), by decide +kernel, by decide +kernel, by decide +kernel, gt_in 674 (by decide +kernel) (by decide +kernel), gt_in 184 (by decide +kernel) (by decide +kernel), rfl⟩
set_option maxRecDepth 20000 in
theorem clsOK9 : clsOK 9 cn9 tf9 10 := ⟨gt_ps _ [648, 650, 652, 654, 656, 658, 660, 662, 664, 666] (by decide +kernel) (by decide +kernel), by decide +kernel, by decide +kernel, by decide +kernel, gt_in 633 (by decide +kernel) (by decide +kernel), gt_in 183 (by decide +kernel) (by decide +kernel), rfl⟩
set_option maxRecDepth 20000 in
theorem clsOK10 : clsOK 10 cn10 tf10 5 := ⟨gt_ps _ [328, 330, 332, 334, 336] (by decide +kernel) (by decide +kernel), by decide +kernel, by decide +kernel, by decide +kernel, gt_in 312 (by decide +kernel) (by decide +kernel), gt_in 177 (by decide +kernel) (by decide +kernel), rfl⟩
set_option maxRecDepth 20000 in
theorem clsOK11 : clsOK 11 cn11 tf11 13 := ⟨gt_ps _ [353, 355, 357, 359, 361, 363, 365, 367, 369, 371, 373, 375, 377] (by decide +kernel) (by decide +kernel), by decide +kernel, by decide +kernel, by decide +kernel, gt_in 192 (by decide +kernel) (by decide +kernel), gt_in 174 (by decide +kernel) (by decide +kernel), rfl⟩
set_option maxRecDepth 20000 in
theorem clsOK12 : clsOK 12 cn12 tf12 77 := ⟨gt_ps _ [1486, 1488, 1490, 1492, 1494, 1496, 1498, 1500, 1502, 1504, 1506, 1508, 1510, 1512, 1514, 1516, 1518, 1520, 1522, 1524, 1526, 1528, 1530, 1532, 1534, 1536, 1538, 1540, 1542, 1544, 1546, 1548, 1550, 1552, 1554, 1556, 1558, 1560, 1562, 1564, 1566, 1568, 1570, 1572, 1574, 1576, 1578, 1580, 1582, 1584, 1586, 1588, 1590, 1592, 1594, 1596, 1598, 1600, 1602, 1604, 1606, 1608, 1610, 1612, 1614, 1616, 1618, 1620, 1622, 1624, 1626, 1628, 1630, 1632, 1634, 1636, 1638] (by decide +kernel) (by decide +kernel), by decide +kernel, by decide +kernel, by decide +kernel, gt_in 1400 (by decide +kernel) (by decide +kernel), gt_in 178 (by decide +kernel) (by decide +kernel), rfl⟩
theorem cls_ok : ∀ (ci : Nat) (C : String) (T : u_T) (N : Nat), cls[ci]? = some (C, T, N) → clsOK ci C T N := by
  intro ci C T N h
  match ci, h with
  | 0, h => cases h; exact clsOK0
  | 1, h => cases h; exact clsOK1
  | 2, h => cases h; exact clsOK2
  | 3, h => cases h; exact clsOK3
  | 4, h => cases h; exact clsOK4
  | 5, h => cases h; exact clsOK5
  | 6, h => cases h; exact clsOK6
  | 7, h => cases h; exact clsOK7
  | 8, h => cases h; exact clsOK8
  | 9, h => cases h; exact clsOK9
  | 10, h => cases h; exact clsOK10
  | 11, h => cases h; exact clsOK11
  | 12, h => cases h; exact clsOK12
  | ci + 13, h => simp [cls] at h
end
section
/-! THE PURE MACHINE: its state, its relation to the real one. A reference is the number of a cell, in the order in which cells are made; the cell's real address is base + number. -/
abbrev PI : Type := Nat × Nat × Int × Nat × Nat × Nat
abbrev PH : Type := (Nat → Option (Nat × Nat)) × (Nat → Nat → Int32) × (Nat → Nat → Int64) × (Nat → Nat → Option Nat) × Nat × Nat × Nat × (Nat → Int32)
abbrev p_len (i : PI) : Nat := i.2.1
abbrev p_a (i : PI) : Int := i.2.2.1
abbrev p_b (i : PI) : Nat := i.2.2.2.1
abbrev p_c (i : PI) : Nat := i.2.2.2.2.1
abbrev p_e (i : PI) : Nat := i.2.2.2.2.2
def h_sh (h : PH) : Nat → Option (Nat × Nat) := h.1
def h_i (h : PH) : Nat → Nat → Int32 := h.2.1
def h_l (h : PH) : Nat → Nat → Int64 := h.2.2.1
def h_r (h : PH) : Nat → Nat → Option Nat := h.2.2.2.1
def h_ct (h : PH) : Nat := h.2.2.2.2.1
def h_sl (h : PH) : Nat := h.2.2.2.2.2.1
def h_sc (h : PH) : Nat × (Nat → Int32) := h.2.2.2.2.2.2
def up2 {α : Type} (f : Nat → Nat → α) (c k : Nat) (v : α) : Nat → Nat → α := fun c' k' => if c' = c then (if k' = k then v else f c' k') else f c' k'
def upr {α : Type} (f : Nat → Nat → α) (c : Nat) (g : Nat → α) : Nat → Nat → α := fun c' => if c' = c then g else f c'
def w_i (h : PH) (c k : Nat) (v : Int32) : PH := (h_sh h, up2 (h_i h) c k v, h_l h, h_r h, h_ct h, h_sl h, h_sc h)
def w_l (h : PH) (c k : Nat) (v : Int64) : PH := (h_sh h, h_i h, up2 (h_l h) c k v, h_r h, h_ct h, h_sl h, h_sc h)
def w_r (h : PH) (c k : Nat) (v : Option Nat) : PH := (h_sh h, h_i h, h_l h, up2 (h_r h) c k v, h_ct h, h_sl h, h_sc h)
def w_ri (h : PH) (c : Nat) (g : Nat → Int32) : PH := (h_sh h, upr (h_i h) c g, h_l h, h_r h, h_ct h, h_sl h, h_sc h)
def w_rl (h : PH) (c : Nat) (g : Nat → Int64) : PH := (h_sh h, h_i h, upr (h_l h) c g, h_r h, h_ct h, h_sl h, h_sc h)
def h_new (h : PH) (q : Nat × Nat) (n : Nat) : PH := (fun c => if c = h_ct h then some q else h_sh h c, upr (h_i h) (h_ct h) (fun _ => 0), upr (h_l h) (h_ct h) (fun _ => 0), upr (h_r h) (h_ct h) (fun _ => none), h_ct h + 1, h_sl h + n, h_sc h)
theorem up2_row {α : Type} (f : Nat → Nat → α) (c k : Nat) (v : α) : up2 f c k v c = fun j => if j = k then v else f c j := by funext j; simp [up2]
theorem up2_ne {α : Type} (f : Nat → Nat → α) {c c' : Nat} (k : Nat) (v : α) (h : c' ≠ c) : up2 f c k v c' = f c' := by funext j; simp [up2, h]
theorem upr_row {α : Type} (f : Nat → Nat → α) (c : Nat) (g : Nat → α) : upr f c g c = g := by simp [upr]
theorem upr_ne {α : Type} (f : Nat → Nat → α) {c c' : Nat} (g : Nat → α) (h : c' ≠ c) : upr f c g c' = f c' := by simp [upr, h]
/-- what is fixed of the real machine: base, the script's cell, length and numbers; classes and slots; the arrays' classes -/
abbrev Gx : Type := Nat × Nat × Nat × (Nat → Int32) × va_G × (FieldType → ClassId)
def tr (G : Gx) (v : Value) : Value := match v with
  | .ref c => .ref (G.1 + c)
  | .retAddr _ => .ref G.2.1
  | v => v
theorem tr_int (G : Gx) (x : Int32) : tr G (.int x) = .int x := rfl
theorem tr_long (G : Gx) (x : Int64) : tr G (.long x) = .long x := rfl
theorem tr_ref (G : Gx) (c : Nat) : tr G (.ref c) = .ref (G.1 + c) := rfl
theorem tr_null (G : Gx) : tr G .null = .null := rfl
theorem tr_cat (G : Gx) (v : Value) : (tr G v).category = v.category := by cases v <;> rfl
/-- locals: a long stands in two places, of which the second holds a mark -/
def okv (pls : List Value) (i : Nat) (v : Value) : Bool := match v with
  | .int _ => true
  | .ref _ => true
  | .null => true
  | .long _ => pls[i + 1]? == some (.retAddr 2)
  | .retAddr n => n == 1
  | _ => false
def lvs (G : Gx) (pls : List Value) : List (Nat × Value) := (List.range pls.length).filterMap (fun i => match pls[i]? with
  | some v => if okv pls i v = true then some (i, tr G v) else none
  | none => none)
theorem mem_lvs {G : Gx} {pls : List Value} {q : Nat × Value} : q ∈ lvs G pls ↔ ∃ v, pls[q.1]? = some v ∧ okv pls q.1 v = true ∧ q.2 = tr G v := by
  unfold lvs
  constructor
  · intro h
    obtain ⟨i, hi, h⟩ := List.mem_filterMap.mp h
    cases hv : pls[i]? with
    | none => rw [hv] at h; cases h
    | some v =>
      rw [hv] at h
      dsimp only at h
      by_cases ho : okv pls i v = true
      · rw [if_pos ho] at h
        cases h
        exact ⟨v, hv, ho, rfl⟩
      · rw [if_neg ho] at h
        cases h
  · intro ⟨v, hv, ho, e⟩
    refine List.mem_filterMap.mpr ⟨q.1, List.mem_range.mpr (List.getElem?_eq_some_iff.mp hv).1, ?_⟩
    rw [hv]
    dsimp only
    rw [if_pos ho, ← e]
def LV (G : Gx) (rls : Array Slot) (nL : Nat) (pls : List Value) : Prop := lv_has rls nL (lvs G pls) ∧ pls.length = nL
theorem LV.at {G : Gx} {rls : Array Slot} {nL : Nat} {pls : List Value} (h : LV G rls nL pls) {i : Nat} {v : Value} (hv : pls[i]? = some v) (ho : okv pls i v = true) : rls[i]? = some (.val (tr G v)) :=
  h.1.2.2 (i, tr G v) (mem_lvs.mpr ⟨v, hv, ho, rfl⟩)
theorem lv_mono {ls : Array Slot} {n : Nat} {a b : List (Nat × Value)} (h : lv_has ls n a) (hs : ∀ q ∈ b, q ∈ a) : lv_has ls n b := ⟨h.1, h.2.1, fun q hq => h.2.2 q (hs q hq)⟩
theorem lvs_set1 {G : Gx} {pls : List Value} {i : Nat} {v : Value} (hm : v ≠ .retAddr 2) (q : Nat × Value) (hq : q ∈ lvs G (pls.set i v)) :
    q ∈ (i, tr G v) :: (lvs G pls).filter (fun q => !(q.1 == i) && !(q.1 + 1 == i && q.2.category == 2)) := by
  obtain ⟨j, w⟩ := q
  obtain ⟨u, hu, ho, e⟩ := mem_lvs.mp hq
  dsimp only at hu ho e
  by_cases hj : j = i
  · subst hj
    have hl : j < pls.length := by have := (List.getElem?_eq_some_iff.mp hu).1; simpa using this
    rw [List.getElem?_set_self hl] at hu
    cases hu
    rw [e]
    exact List.mem_cons_self
  · refine List.mem_cons_of_mem _ (List.mem_filter.mpr ⟨?_, ?_⟩)
    · rw [List.getElem?_set_ne (Ne.symm hj)] at hu
      refine mem_lvs.mpr ⟨u, hu, ?_, e⟩
      cases u with
      | long x =>
        simp only [okv, beq_iff_eq] at ho ⊢
        by_cases h2 : i = j + 1
        · subst h2
          by_cases hl : j + 1 < pls.length
          · rw [List.getElem?_set_self hl] at ho
            exact absurd (Option.some.inj ho) hm
          · rw [List.getElem?_eq_none (by simp; omega)] at ho
            cases ho
        · rw [List.getElem?_set_ne h2] at ho
          exact ho
      | _ => first | rfl | exact ho
    · simp only [Bool.and_eq_true, Bool.not_eq_true', beq_eq_false_iff_ne, ne_eq, Bool.and_eq_false_iff]
      refine ⟨hj, ?_⟩
      cases u with
      | long x =>
        left
        intro h2
        simp only [okv, beq_iff_eq] at ho
        subst h2
        by_cases hl : j + 1 < pls.length
        · rw [List.getElem?_set_self hl] at ho
          exact hm (Option.some.inj ho)
        · rw [List.getElem?_eq_none (by simp; omega)] at ho
          cases ho
      | double x => cases ho
      | _ => right; rw [e, tr_cat]; intro h; cases h
theorem lvs_set2 {G : Gx} {pls : List Value} {i : Nat} {x : Int64} (q : Nat × Value) (hq : q ∈ lvs G ((pls.set i (.long x)).set (i + 1) (.retAddr 2))) :
    q ∈ (i, Value.long x) :: (lvs G pls).filter (fun q => !(q.1 == i) && (!(q.1 == i + 1) && !(q.1 + 1 == i && q.2.category == 2))) := by
  obtain ⟨j, w⟩ := q
  obtain ⟨u, hu, ho, e⟩ := mem_lvs.mp hq
  dsimp only at hu ho e
  by_cases hj1 : j = i + 1
  · subst hj1
    have hl : i + 1 < pls.length := by have := (List.getElem?_eq_some_iff.mp hu).1; simpa using this
    rw [List.getElem?_set_self (by simpa using hl)] at hu
    cases hu
    cases ho
  · by_cases hj : j = i
    · subst hj
      have hl : j < pls.length := by have := (List.getElem?_eq_some_iff.mp hu).1; simpa using this
      rw [List.getElem?_set_ne (by omega), List.getElem?_set_self hl] at hu
      cases hu
      rw [e]
      exact List.mem_cons_self
    · have hu' : pls[j]? = some u := by
        rw [List.getElem?_set_ne (by omega), List.getElem?_set_ne (by omega)] at hu
        exact hu
      refine List.mem_cons_of_mem _ (List.mem_filter.mpr ⟨?_, ?_⟩)
      · refine mem_lvs.mpr ⟨u, hu', ?_, e⟩
        cases u with
        | long y =>
          simp only [okv, beq_iff_eq] at ho ⊢
          rw [List.getElem?_set_ne (by omega)] at ho
          by_cases h2 : i = j + 1
          · subst h2
            by_cases hl : j + 1 < pls.length
            · rw [List.getElem?_set_self hl] at ho
              cases ho
            · rw [List.getElem?_eq_none (by simp; omega)] at ho
              cases ho
          · rw [List.getElem?_set_ne h2] at ho
            exact ho
        | _ => first | rfl | exact ho
      · simp only [Bool.and_eq_true, Bool.not_eq_true', beq_eq_false_iff_ne, ne_eq, Bool.and_eq_false_iff]
        refine ⟨hj, hj1, ?_⟩
        cases u with
        | long y =>
          left
          intro h2
          simp only [okv, beq_iff_eq] at ho
          subst h2
          rw [List.getElem?_set_ne (by omega)] at ho
          by_cases hl : j + 1 < pls.length
          · rw [List.getElem?_set_self hl] at ho
            cases ho
          · rw [List.getElem?_eq_none (by simp; omega)] at ho
            cases ho
        | double y => cases ho
        | _ => right; rw [e, tr_cat]; intro h; cases h
/-- heaps -/
def fkd (ty : FieldType) : Nat := match ty with
  | .long => 1
  | .object _ => 2
  | .array _ => 2
  | _ => 0
def fval (G : Gx) (h : PH) (ci c k : Nat) : Value := match fkd (fty ci k) with
  | 0 => .int (h_i h c k)
  | 1 => .long (h_l h c k)
  | _ => va_rf ((h_r h c k).map (G.1 + ·))
def cel (G : Gx) (h : PH) (c : Nat) (q : Nat × Nat) : va_E := match q.1 with
  | 0 => .inr (q.2, (List.range (fN q.2)).map (fval G h q.2 c))
  | 1 => .inl (G.2.2.2.2.2 .int, q.2, .inl (h_i h c))
  | 2 => .inl (G.2.2.2.2.2 .byte, q.2, .inl (h_i h c))
  | 3 => .inl (G.2.2.2.2.2 .boolean, q.2, .inl (h_i h c))
  | _ => .inl (G.2.2.2.2.2 .long, q.2, .inr (.inl (h_l h c)))
def Wh (G : Gx) (h : PH) (H : Heap) : Prop := H.size = G.1 + h_ct h ∧ h_sc h = (G.2.2.1, G.2.2.2.1) ∧ ∀ (c : Nat) (q : Nat × Nat), h_sh h c = some q → c < h_ct h ∧ va_at G.2.2.2.2.1 cls (G.1 + c, cel G h c q) H
def Ax (G : Gx) : Nat → Prop := fun q => G.1 ≤ q
def tys (G : Gx) : List (ClassId × FieldType) := [(G.2.2.2.2.2 .int, .int), (G.2.2.2.2.2 .byte, .byte), (G.2.2.2.2.2 .boolean, .boolean), (G.2.2.2.2.2 .long, .long)]
def isNest (w : Cond) : Bool := match w with
  | .fieldLinkNest .. => true
  | .methodLinkNest .. => true
  | _ => false
def nt : List Cond := lw_tbl.filter isNest
def Ks (G : Gx) (U : State) : Prop := va_K G.2.2.2.2.1 cls (tys G) U ∧ ∀ w ∈ nt, va_Nw w U
theorem Ks.warm {G : Gx} {s U : State} (hW : s.WarmedH U.vm) (h : Ks G s) : Ks G U := by
  refine ⟨va_K.moved hW.alike h.1, fun w hw => ?_⟩
  have h1 := h.2 w hw
  have h2 := (List.mem_filter.mp hw).2
  cases w with
  | fieldLinkNest a i b n d x => exact va_Nw.warmF hW h1
  | methodLinkNest a i x y => exact va_Nw.warmM hW h1
  | _ => cases h2
theorem Ks.calling {G : Gx} {U : State} {g : JFrame} {mk : MethodId} {a : Array Value} (h : Ks G U) : Ks G (U.calling g mk a) := by
  refine ⟨va_K.moved (u := U) (U := U.calling g mk a) (Vm.Alike.refl U.vm) h.1, fun w hw => ?_⟩
  have h1 := h.2 w hw
  have h2 := (List.mem_filter.mp hw).2
  cases w with
  | fieldLinkNest a i b n d x => exact va_Nw.same (u := U) rfl rfl h1
  | methodLinkNest a i x y => exact va_Nw.same (u := U) rfl rfl h1
  | _ => cases h2
def cNL : List String := [cn0, cn1, cn2, cn3, cn4, cn5, cn6, cn7, cn8, cn9, cn10, cn11, cn12, "OneWaySpellLaw", "java/lang/Math", "java/lang/Integer", "java/util/Arrays"]
def cN (o : Nat) : String := cNL.getD o ""
/-- what is fixed in a frame -/
def Fx (G : Gx) (p : Program) (s : State) (m : MethodId) (args : Array Value) (meth : Method) (c : Code) (R : Room) (o : Nat) (ini : Bool) (cc : ByteArray) (nL : Nat) : Prop :=
  p.tables.exec = Jvm.exec ∧ c.code = cc ∧ c.maxLocals = nL ∧ s.vm.findClass (cN o) = some m.cls ∧ (∀ w ∈ gt, w.before args s = true) ∧ Ks G s ∧ (ini = true → meth.name = "<init>") ∧ 1 ≤ R.frames ∧ 60 ≤ R.locals ∧ G.1 ≤ s.heap.size ∧ (o = 13 → va_X G.2.1 G.2.2.1 G.2.2.2.1 s s.heap ∧ G.2.1 < s.heap.size ∧ ¬ Ax G G.2.1)
abbrev PS : Type := Nat × List Value × List Value × PH
abbrev PSem : Type := PI → Nat → List Value → List Value → PH → Option PS
abbrev PChk : Type := Nat → Bool → ByteArray → Nat → PI → Bool
def SoundP (chk : PChk) (sem : PSem) : Prop := ∀ (G : Gx) (p : Program) (l : Launch) (e : Env) (R : Room) (s : State) (m : MethodId) (args : Array Value) (below : List Frame) (meth : Method) (c : Code) (Q : State → Prop) (o : Nat) (ini : Bool) (cc : ByteArray) (nL : Nat) (i : PI) (pc : Nat) (pls pst : List Value) (h : PH) (r : PS) (H : Heap) (locs : List Loc) (cells slots : Nat) (rls : Array Slot),
  Fx G p s m args meth c R o ini cc nL → chk o ini cc pc i = true → sem i pc pls pst h = some r → Wh G h H → va_S (Ax G) s.heap H locs → LV G rls nL pls →
  cells + (h_ct r.2.2.2 - h_ct h) ≤ R.cells → slots + (h_sl r.2.2.2 - h_sl h) ≤ R.slots →
  (∀ (H' : Heap) (locs' : List Loc) (rls' : Array Slot), Wh G r.2.2.2 H' → va_S (Ax G) s.heap H' locs' → LV G rls' nL r.2.1 → W p l e R s m args below meth c H' locs' (cells + (h_ct r.2.2.2 - h_ct h)) (slots + (h_sl r.2.2.2 - h_sl h)) Q (F0 m r.1 rls' (r.2.2.1.map (tr G)))) →
  W p l e R s m args below meth c H locs cells slots Q (F0 m pc rls (pst.map (tr G)))
end
section
/-! the instructions that leave the heap as it is -/
def s_iadd : PSem := fun i pc ls st h => match st with
  | .int y :: .int x :: rest => some (pc + 1, ls, .int (x + y) :: rest, h)
  | _ => none
def c_iadd : PChk := fun _ _ cc pc _ => match decode cc pc with
  | .ok (.iadd, 1) => true
  | _ => false
theorem z_iadd : SoundP c_iadd s_iadd := by
  intro G p l e R s m args below meth c Q o ini cc nL i pc pls pst h r H locs cells slots rls F hc hs hW hS hL _ _ k
  obtain ⟨hx, hb, hml, hown, hts, -⟩ := F
  unfold c_iadd at hc
  split at hc
  next hd =>
    unfold s_iadd at hs
    split at hs
    next y x rest =>
      cases hs
      simp only [Nat.sub_self, Nat.add_zero] at k
      exact lv_iadd hx hb hd (k H locs rls hW hS hL)
    · cases hs
  · cases hc
def s_isub : PSem := fun i pc ls st h => match st with
  | .int y :: .int x :: rest => some (pc + 1, ls, .int (x - y) :: rest, h)
  | _ => none
def c_isub : PChk := fun _ _ cc pc _ => match decode cc pc with
  | .ok (.isub, 1) => true
  | _ => false
theorem z_isub : SoundP c_isub s_isub := by
  intro G p l e R s m args below meth c Q o ini cc nL i pc pls pst h r H locs cells slots rls F hc hs hW hS hL _ _ k
  obtain ⟨hx, hb, hml, hown, hts, -⟩ := F
  unfold c_isub at hc
  split at hc
  next hd =>
    unfold s_isub at hs
    split at hs
    next y x rest =>
      cases hs
      simp only [Nat.sub_self, Nat.add_zero] at k
      exact lv_isub hx hb hd (k H locs rls hW hS hL)
    · cases hs
  · cases hc
def s_imul : PSem := fun i pc ls st h => match st with
  | .int y :: .int x :: rest => some (pc + 1, ls, .int (x * y) :: rest, h)
  | _ => none
def c_imul : PChk := fun _ _ cc pc _ => match decode cc pc with
  | .ok (.imul, 1) => true
  | _ => false
theorem z_imul : SoundP c_imul s_imul := by
  intro G p l e R s m args below meth c Q o ini cc nL i pc pls pst h r H locs cells slots rls F hc hs hW hS hL _ _ k
  obtain ⟨hx, hb, hml, hown, hts, -⟩ := F
  unfold c_imul at hc
  split at hc
  next hd =>
    unfold s_imul at hs
    split at hs
    next y x rest =>
      cases hs
      simp only [Nat.sub_self, Nat.add_zero] at k
      exact lv_imul hx hb hd (k H locs rls hW hS hL)
    · cases hs
  · cases hc
def s_iand : PSem := fun i pc ls st h => match st with
  | .int y :: .int x :: rest => some (pc + 1, ls, .int (x &&& y) :: rest, h)
  | _ => none
def c_iand : PChk := fun _ _ cc pc _ => match decode cc pc with
  | .ok (.iand, 1) => true
  | _ => false
theorem z_iand : SoundP c_iand s_iand := by
  intro G p l e R s m args below meth c Q o ini cc nL i pc pls pst h r H locs cells slots rls F hc hs hW hS hL _ _ k
  obtain ⟨hx, hb, hml, hown, hts, -⟩ := F
  unfold c_iand at hc
  split at hc
  next hd =>
    unfold s_iand at hs
    split at hs
    next y x rest =>
      cases hs
      simp only [Nat.sub_self, Nat.add_zero] at k
      exact lv_iand hx hb hd (k H locs rls hW hS hL)
    · cases hs
  · cases hc
def s_ior : PSem := fun i pc ls st h => match st with
  | .int y :: .int x :: rest => some (pc + 1, ls, .int (x ||| y) :: rest, h)
  | _ => none
def c_ior : PChk := fun _ _ cc pc _ => match decode cc pc with
  | .ok (.ior, 1) => true
  | _ => false
theorem z_ior : SoundP c_ior s_ior := by
  intro G p l e R s m args below meth c Q o ini cc nL i pc pls pst h r H locs cells slots rls F hc hs hW hS hL _ _ k
  obtain ⟨hx, hb, hml, hown, hts, -⟩ := F
  unfold c_ior at hc
  split at hc
  next hd =>
    unfold s_ior at hs
    split at hs
    next y x rest =>
      cases hs
      simp only [Nat.sub_self, Nat.add_zero] at k
      exact lv_ior hx hb hd (k H locs rls hW hS hL)
    · cases hs
  · cases hc
def s_ixor : PSem := fun i pc ls st h => match st with
  | .int y :: .int x :: rest => some (pc + 1, ls, .int (x ^^^ y) :: rest, h)
  | _ => none
def c_ixor : PChk := fun _ _ cc pc _ => match decode cc pc with
  | .ok (.ixor, 1) => true
  | _ => false
theorem z_ixor : SoundP c_ixor s_ixor := by
  intro G p l e R s m args below meth c Q o ini cc nL i pc pls pst h r H locs cells slots rls F hc hs hW hS hL _ _ k
  obtain ⟨hx, hb, hml, hown, hts, -⟩ := F
  unfold c_ixor at hc
  split at hc
  next hd =>
    unfold s_ixor at hs
    split at hs
    next y x rest =>
      cases hs
      simp only [Nat.sub_self, Nat.add_zero] at k
      exact lv_ixor hx hb hd (k H locs rls hW hS hL)
    · cases hs
  · cases hc
def s_ishl : PSem := fun i pc ls st h => match st with
  | .int y :: .int x :: rest => some (pc + 1, ls, .int (x <<< (y &&& 31)) :: rest, h)
  | _ => none
def c_ishl : PChk := fun _ _ cc pc _ => match decode cc pc with
  | .ok (.ishl, 1) => true
  | _ => false
theorem z_ishl : SoundP c_ishl s_ishl := by
  intro G p l e R s m args below meth c Q o ini cc nL i pc pls pst h r H locs cells slots rls F hc hs hW hS hL _ _ k
  obtain ⟨hx, hb, hml, hown, hts, -⟩ := F
  unfold c_ishl at hc
  split at hc
  next hd =>
    unfold s_ishl at hs
    split at hs
    next y x rest =>
      cases hs
      simp only [Nat.sub_self, Nat.add_zero] at k
      exact lv_ishl hx hb hd (k H locs rls hW hS hL)
    · cases hs
  · cases hc
def s_ishr : PSem := fun i pc ls st h => match st with
  | .int y :: .int x :: rest => some (pc + 1, ls, .int (x >>> (y &&& 31)) :: rest, h)
  | _ => none
def c_ishr : PChk := fun _ _ cc pc _ => match decode cc pc with
  | .ok (.ishr, 1) => true
  | _ => false
theorem z_ishr : SoundP c_ishr s_ishr := by
  intro G p l e R s m args below meth c Q o ini cc nL i pc pls pst h r H locs cells slots rls F hc hs hW hS hL _ _ k
  obtain ⟨hx, hb, hml, hown, hts, -⟩ := F
  unfold c_ishr at hc
  split at hc
  next hd =>
    unfold s_ishr at hs
    split at hs
    next y x rest =>
      cases hs
      simp only [Nat.sub_self, Nat.add_zero] at k
      exact lv_ishr hx hb hd (k H locs rls hW hS hL)
    · cases hs
  · cases hc
def s_iushr : PSem := fun i pc ls st h => match st with
  | .int y :: .int x :: rest => some (pc + 1, ls, .int ((x.toUInt32 >>> (y.toUInt32 &&& Int32.toUInt32 31)).toInt32) :: rest, h)
  | _ => none
def c_iushr : PChk := fun _ _ cc pc _ => match decode cc pc with
  | .ok (.iushr, 1) => true
  | _ => false
theorem z_iushr : SoundP c_iushr s_iushr := by
  intro G p l e R s m args below meth c Q o ini cc nL i pc pls pst h r H locs cells slots rls F hc hs hW hS hL _ _ k
  obtain ⟨hx, hb, hml, hown, hts, -⟩ := F
  unfold c_iushr at hc
  split at hc
  next hd =>
    unfold s_iushr at hs
    split at hs
    next y x rest =>
      cases hs
      simp only [Nat.sub_self, Nat.add_zero] at k
      exact lv_iushr hx hb hd rfl (k H locs rls hW hS hL)
    · cases hs
  · cases hc
def s_idiv : PSem := fun i pc ls st h => match st with
  | .int y :: .int x :: rest => if y = 0 then none else some (pc + 1, ls, .int (x / y) :: rest, h)
  | _ => none
def c_idiv : PChk := fun _ _ cc pc _ => match decode cc pc with
  | .ok (.idiv, 1) => true
  | _ => false
theorem z_idiv : SoundP c_idiv s_idiv := by
  intro G p l e R s m args below meth c Q o ini cc nL i pc pls pst h r H locs cells slots rls F hc hs hW hS hL _ _ k
  obtain ⟨hx, hb, hml, hown, hts, -⟩ := F
  unfold c_idiv at hc
  split at hc
  next hd =>
    unfold s_idiv at hs
    split at hs
    next y x rest =>
      split at hs
      · cases hs
      next hne =>
        cases hs
        simp only [Nat.sub_self, Nat.add_zero] at k
        exact lv_idiv hx hb hd hne (k H locs rls hW hS hL)
    · cases hs
  · cases hc
def s_irem : PSem := fun i pc ls st h => match st with
  | .int y :: .int x :: rest => if y = 0 then none else some (pc + 1, ls, .int (x - x / y * y) :: rest, h)
  | _ => none
def c_irem : PChk := fun _ _ cc pc _ => match decode cc pc with
  | .ok (.irem, 1) => true
  | _ => false
theorem z_irem : SoundP c_irem s_irem := by
  intro G p l e R s m args below meth c Q o ini cc nL i pc pls pst h r H locs cells slots rls F hc hs hW hS hL _ _ k
  obtain ⟨hx, hb, hml, hown, hts, -⟩ := F
  unfold c_irem at hc
  split at hc
  next hd =>
    unfold s_irem at hs
    split at hs
    next y x rest =>
      split at hs
      · cases hs
      next hne =>
        cases hs
        simp only [Nat.sub_self, Nat.add_zero] at k
        exact lv_irem hx hb hd hne (k H locs rls hW hS hL)
    · cases hs
  · cases hc
def s_ladd : PSem := fun i pc ls st h => match st with
  | .long y :: .long x :: rest => some (pc + 1, ls, .long (x + y) :: rest, h)
  | _ => none
def c_ladd : PChk := fun _ _ cc pc _ => match decode cc pc with
  | .ok (.ladd, 1) => true
  | _ => false
theorem z_ladd : SoundP c_ladd s_ladd := by
  intro G p l e R s m args below meth c Q o ini cc nL i pc pls pst h r H locs cells slots rls F hc hs hW hS hL _ _ k
  obtain ⟨hx, hb, hml, hown, hts, -⟩ := F
  unfold c_ladd at hc
  split at hc
  next hd =>
    unfold s_ladd at hs
    split at hs
    next y x rest =>
      cases hs
      simp only [Nat.sub_self, Nat.add_zero] at k
      exact lv_ladd hx hb hd (k H locs rls hW hS hL)
    · cases hs
  · cases hc
def s_lsub : PSem := fun i pc ls st h => match st with
  | .long y :: .long x :: rest => some (pc + 1, ls, .long (x - y) :: rest, h)
  | _ => none
def c_lsub : PChk := fun _ _ cc pc _ => match decode cc pc with
  | .ok (.lsub, 1) => true
  | _ => false
theorem z_lsub : SoundP c_lsub s_lsub := by
  intro G p l e R s m args below meth c Q o ini cc nL i pc pls pst h r H locs cells slots rls F hc hs hW hS hL _ _ k
  obtain ⟨hx, hb, hml, hown, hts, -⟩ := F
  unfold c_lsub at hc
  split at hc
  next hd =>
    unfold s_lsub at hs
    split at hs
    next y x rest =>
      cases hs
      simp only [Nat.sub_self, Nat.add_zero] at k
      exact lv_lsub hx hb hd (k H locs rls hW hS hL)
    · cases hs
  · cases hc
def s_lmul : PSem := fun i pc ls st h => match st with
  | .long y :: .long x :: rest => some (pc + 1, ls, .long (x * y) :: rest, h)
  | _ => none
def c_lmul : PChk := fun _ _ cc pc _ => match decode cc pc with
  | .ok (.lmul, 1) => true
  | _ => false
theorem z_lmul : SoundP c_lmul s_lmul := by
  intro G p l e R s m args below meth c Q o ini cc nL i pc pls pst h r H locs cells slots rls F hc hs hW hS hL _ _ k
  obtain ⟨hx, hb, hml, hown, hts, -⟩ := F
  unfold c_lmul at hc
  split at hc
  next hd =>
    unfold s_lmul at hs
    split at hs
    next y x rest =>
      cases hs
      simp only [Nat.sub_self, Nat.add_zero] at k
      exact lv_lmul hx hb hd (k H locs rls hW hS hL)
    · cases hs
  · cases hc
def s_land : PSem := fun i pc ls st h => match st with
  | .long y :: .long x :: rest => some (pc + 1, ls, .long (x &&& y) :: rest, h)
  | _ => none
def c_land : PChk := fun _ _ cc pc _ => match decode cc pc with
  | .ok (.land, 1) => true
  | _ => false
theorem z_land : SoundP c_land s_land := by
  intro G p l e R s m args below meth c Q o ini cc nL i pc pls pst h r H locs cells slots rls F hc hs hW hS hL _ _ k
  obtain ⟨hx, hb, hml, hown, hts, -⟩ := F
  unfold c_land at hc
  split at hc
  next hd =>
    unfold s_land at hs
    split at hs
    next y x rest =>
      cases hs
      simp only [Nat.sub_self, Nat.add_zero] at k
      exact lv_land hx hb hd (k H locs rls hW hS hL)
    · cases hs
  · cases hc
def s_lor : PSem := fun i pc ls st h => match st with
  | .long y :: .long x :: rest => some (pc + 1, ls, .long (x ||| y) :: rest, h)
  | _ => none
def c_lor : PChk := fun _ _ cc pc _ => match decode cc pc with
  | .ok (.lor, 1) => true
  | _ => false
theorem z_lor : SoundP c_lor s_lor := by
  intro G p l e R s m args below meth c Q o ini cc nL i pc pls pst h r H locs cells slots rls F hc hs hW hS hL _ _ k
  obtain ⟨hx, hb, hml, hown, hts, -⟩ := F
  unfold c_lor at hc
  split at hc
  next hd =>
    unfold s_lor at hs
    split at hs
    next y x rest =>
      cases hs
      simp only [Nat.sub_self, Nat.add_zero] at k
      exact lv_lor hx hb hd (k H locs rls hW hS hL)
    · cases hs
  · cases hc
def s_lxor : PSem := fun i pc ls st h => match st with
  | .long y :: .long x :: rest => some (pc + 1, ls, .long (x ^^^ y) :: rest, h)
  | _ => none
def c_lxor : PChk := fun _ _ cc pc _ => match decode cc pc with
  | .ok (.lxor, 1) => true
  | _ => false
theorem z_lxor : SoundP c_lxor s_lxor := by
  intro G p l e R s m args below meth c Q o ini cc nL i pc pls pst h r H locs cells slots rls F hc hs hW hS hL _ _ k
  obtain ⟨hx, hb, hml, hown, hts, -⟩ := F
  unfold c_lxor at hc
  split at hc
  next hd =>
    unfold s_lxor at hs
    split at hs
    next y x rest =>
      cases hs
      simp only [Nat.sub_self, Nat.add_zero] at k
      exact lv_lxor hx hb hd (k H locs rls hW hS hL)
    · cases hs
  · cases hc
def s_ldiv : PSem := fun i pc ls st h => match st with
  | .long y :: .long x :: rest => if y = 0 then none else some (pc + 1, ls, .long (x / y) :: rest, h)
  | _ => none
def c_ldiv : PChk := fun _ _ cc pc _ => match decode cc pc with
  | .ok (.ldiv, 1) => true
  | _ => false
theorem z_ldiv : SoundP c_ldiv s_ldiv := by
  intro G p l e R s m args below meth c Q o ini cc nL i pc pls pst h r H locs cells slots rls F hc hs hW hS hL _ _ k
  obtain ⟨hx, hb, hml, hown, hts, -⟩ := F
  unfold c_ldiv at hc
  split at hc
  next hd =>
    unfold s_ldiv at hs
    split at hs
    next y x rest =>
      split at hs
      · cases hs
      next hne =>
        cases hs
        simp only [Nat.sub_self, Nat.add_zero] at k
        exact lv_ldiv hx hb hd hne (k H locs rls hW hS hL)
    · cases hs
  · cases hc
def s_lrem : PSem := fun i pc ls st h => match st with
  | .long y :: .long x :: rest => if y = 0 then none else some (pc + 1, ls, .long (x - x / y * y) :: rest, h)
  | _ => none
def c_lrem : PChk := fun _ _ cc pc _ => match decode cc pc with
  | .ok (.lrem, 1) => true
  | _ => false
theorem z_lrem : SoundP c_lrem s_lrem := by
  intro G p l e R s m args below meth c Q o ini cc nL i pc pls pst h r H locs cells slots rls F hc hs hW hS hL _ _ k
  obtain ⟨hx, hb, hml, hown, hts, -⟩ := F
  unfold c_lrem at hc
  split at hc
  next hd =>
    unfold s_lrem at hs
    split at hs
    next y x rest =>
      split at hs
      · cases hs
      next hne =>
        cases hs
        simp only [Nat.sub_self, Nat.add_zero] at k
        exact lv_lrem hx hb hd hne (k H locs rls hW hS hL)
    · cases hs
  · cases hc
def s_lshl : PSem := fun i pc ls st h => match st with
  | .int y :: .long x :: rest => some (pc + 1, ls, .long (x <<< (y.toInt64 &&& 63)) :: rest, h)
  | _ => none
def c_lshl : PChk := fun _ _ cc pc _ => match decode cc pc with
  | .ok (.lshl, 1) => true
  | _ => false
theorem z_lshl : SoundP c_lshl s_lshl := by
  intro G p l e R s m args below meth c Q o ini cc nL i pc pls pst h r H locs cells slots rls F hc hs hW hS hL _ _ k
  obtain ⟨hx, hb, hml, hown, hts, -⟩ := F
  unfold c_lshl at hc
  split at hc
  next hd =>
    unfold s_lshl at hs
    split at hs
    next y x rest =>
      cases hs
      simp only [Nat.sub_self, Nat.add_zero] at k
      exact lv_lshl hx hb hd rfl (k H locs rls hW hS hL)
    · cases hs
  · cases hc
def s_lushr : PSem := fun i pc ls st h => match st with
  | .int y :: .long x :: rest => some (pc + 1, ls, .long ((x.toUInt64 >>> (y.toInt64.toUInt64 &&& Int64.toUInt64 63)).toInt64) :: rest, h)
  | _ => none
def c_lushr : PChk := fun _ _ cc pc _ => match decode cc pc with
  | .ok (.lushr, 1) => true
  | _ => false
theorem z_lushr : SoundP c_lushr s_lushr := by
  intro G p l e R s m args below meth c Q o ini cc nL i pc pls pst h r H locs cells slots rls F hc hs hW hS hL _ _ k
  obtain ⟨hx, hb, hml, hown, hts, -⟩ := F
  unfold c_lushr at hc
  split at hc
  next hd =>
    unfold s_lushr at hs
    split at hs
    next y x rest =>
      cases hs
      simp only [Nat.sub_self, Nat.add_zero] at k
      exact lv_lushr hx hb hd rfl (k H locs rls hW hS hL)
    · cases hs
  · cases hc
def s_lcmp : PSem := fun i pc ls st h => match st with
  | .long y :: .long x :: rest => some (pc + 1, ls, .int (lg_cmp x y) :: rest, h)
  | _ => none
def c_lcmp : PChk := fun _ _ cc pc _ => match decode cc pc with
  | .ok (.lcmp, 1) => true
  | _ => false
theorem z_lcmp : SoundP c_lcmp s_lcmp := by
  intro G p l e R s m args below meth c Q o ini cc nL i pc pls pst h r H locs cells slots rls F hc hs hW hS hL _ _ k
  obtain ⟨hx, hb, hml, hown, hts, -⟩ := F
  unfold c_lcmp at hc
  split at hc
  next hd =>
    unfold s_lcmp at hs
    split at hs
    next y x rest =>
      cases hs
      simp only [Nat.sub_self, Nat.add_zero] at k
      exact W.lcmp hx hb hd (k H locs rls hW hS hL)
    · cases hs
  · cases hc
def s_ineg : PSem := fun i pc ls st h => match st with
  | .int x :: rest => some (pc + 1, ls, .int (-x) :: rest, h)
  | _ => none
def c_ineg : PChk := fun _ _ cc pc _ => match decode cc pc with
  | .ok (.ineg, 1) => true
  | _ => false
theorem z_ineg : SoundP c_ineg s_ineg := by
  intro G p l e R s m args below meth c Q o ini cc nL i pc pls pst h r H locs cells slots rls F hc hs hW hS hL _ _ k
  obtain ⟨hx, hb, hml, hown, hts, -⟩ := F
  unfold c_ineg at hc
  split at hc
  next hd =>
    unfold s_ineg at hs
    split at hs
    next x rest =>
      cases hs
      simp only [Nat.sub_self, Nat.add_zero] at k
      exact lv_ineg hx hb hd (k H locs rls hW hS hL)
    · cases hs
  · cases hc
def s_i2l : PSem := fun i pc ls st h => match st with
  | .int x :: rest => some (pc + 1, ls, .long x.toInt64 :: rest, h)
  | _ => none
def c_i2l : PChk := fun _ _ cc pc _ => match decode cc pc with
  | .ok (.i2l, 1) => true
  | _ => false
theorem z_i2l : SoundP c_i2l s_i2l := by
  intro G p l e R s m args below meth c Q o ini cc nL i pc pls pst h r H locs cells slots rls F hc hs hW hS hL _ _ k
  obtain ⟨hx, hb, hml, hown, hts, -⟩ := F
  unfold c_i2l at hc
  split at hc
  next hd =>
    unfold s_i2l at hs
    split at hs
    next x rest =>
      cases hs
      simp only [Nat.sub_self, Nat.add_zero] at k
      exact lv_i2l hx hb hd rfl (k H locs rls hW hS hL)
    · cases hs
  · cases hc
def s_l2i : PSem := fun i pc ls st h => match st with
  | .long x :: rest => some (pc + 1, ls, .int x.toInt32 :: rest, h)
  | _ => none
def c_l2i : PChk := fun _ _ cc pc _ => match decode cc pc with
  | .ok (.l2i, 1) => true
  | _ => false
theorem z_l2i : SoundP c_l2i s_l2i := by
  intro G p l e R s m args below meth c Q o ini cc nL i pc pls pst h r H locs cells slots rls F hc hs hW hS hL _ _ k
  obtain ⟨hx, hb, hml, hown, hts, -⟩ := F
  unfold c_l2i at hc
  split at hc
  next hd =>
    unfold s_l2i at hs
    split at hs
    next x rest =>
      cases hs
      simp only [Nat.sub_self, Nat.add_zero] at k
      exact lv_l2i hx hb hd rfl (k H locs rls hW hS hL)
    · cases hs
  · cases hc
def s_i2b : PSem := fun i pc ls st h => match st with
  | .int x :: rest => some (pc + 1, ls, .int x.toInt8.toInt32 :: rest, h)
  | _ => none
def c_i2b : PChk := fun _ _ cc pc _ => match decode cc pc with
  | .ok (.i2b, 1) => true
  | _ => false
theorem z_i2b : SoundP c_i2b s_i2b := by
  intro G p l e R s m args below meth c Q o ini cc nL i pc pls pst h r H locs cells slots rls F hc hs hW hS hL _ _ k
  obtain ⟨hx, hb, hml, hown, hts, -⟩ := F
  unfold c_i2b at hc
  split at hc
  next hd =>
    unfold s_i2b at hs
    split at hs
    next x rest =>
      cases hs
      simp only [Nat.sub_self, Nat.add_zero] at k
      exact lv_i2b hx hb hd rfl (k H locs rls hW hS hL)
    · cases hs
  · cases hc
def s_dup : PSem := fun i pc ls st h => match st with
  | v :: rest => if ¬ v.category = 1 then none else some (pc + 1, ls, v :: v :: rest, h)
  | _ => none
def c_dup : PChk := fun _ _ cc pc _ => match decode cc pc with
  | .ok (.dup, 1) => true
  | _ => false
theorem z_dup : SoundP c_dup s_dup := by
  intro G p l e R s m args below meth c Q o ini cc nL i pc pls pst h r H locs cells slots rls F hc hs hW hS hL _ _ k
  obtain ⟨hx, hb, hml, hown, hts, -⟩ := F
  unfold c_dup at hc
  split at hc
  next hd =>
    unfold s_dup at hs
    split at hs
    next v rest =>
      split at hs
      · cases hs
      next hne =>
        cases hs
        simp only [Nat.sub_self, Nat.add_zero] at k
        exact lv_dup hx hb hd ((tr_cat G _).trans (Decidable.not_not.mp hne)) (k H locs rls hW hS hL)
    · cases hs
  · cases hc
def s_pop : PSem := fun i pc ls st h => match st with
  | v :: rest => if ¬ v.category = 1 then none else some (pc + 1, ls, rest, h)
  | _ => none
def c_pop : PChk := fun _ _ cc pc _ => match decode cc pc with
  | .ok (.pop, 1) => true
  | _ => false
theorem z_pop : SoundP c_pop s_pop := by
  intro G p l e R s m args below meth c Q o ini cc nL i pc pls pst h r H locs cells slots rls F hc hs hW hS hL _ _ k
  obtain ⟨hx, hb, hml, hown, hts, -⟩ := F
  unfold c_pop at hc
  split at hc
  next hd =>
    unfold s_pop at hs
    split at hs
    next v rest =>
      split at hs
      · cases hs
      next hne =>
        cases hs
        simp only [Nat.sub_self, Nat.add_zero] at k
        exact lv_pop hx hb hd ((tr_cat G _).trans (Decidable.not_not.mp hne)) (k H locs rls hW hS hL)
    · cases hs
  · cases hc
def s_pop2 : PSem := fun i pc ls st h => match st with
  | v :: rest => if ¬ v.category = 2 then none else some (pc + 1, ls, rest, h)
  | _ => none
def c_pop2 : PChk := fun _ _ cc pc _ => match decode cc pc with
  | .ok (.pop2, 1) => true
  | _ => false
theorem z_pop2 : SoundP c_pop2 s_pop2 := by
  intro G p l e R s m args below meth c Q o ini cc nL i pc pls pst h r H locs cells slots rls F hc hs hW hS hL _ _ k
  obtain ⟨hx, hb, hml, hown, hts, -⟩ := F
  unfold c_pop2 at hc
  split at hc
  next hd =>
    unfold s_pop2 at hs
    split at hs
    next v rest =>
      split at hs
      · cases hs
      next hne =>
        cases hs
        simp only [Nat.sub_self, Nat.add_zero] at k
        exact lv_pop2_2 hx hb hd ((tr_cat G _).trans (Decidable.not_not.mp hne)) (k H locs rls hW hS hL)
    · cases hs
  · cases hc
def s_dup22 : PSem := fun i pc ls st h => match st with
  | v :: rest => if ¬ v.category = 2 then none else some (pc + 1, ls, v :: v :: rest, h)
  | _ => none
def c_dup22 : PChk := fun _ _ cc pc _ => match decode cc pc with
  | .ok (.dup2, 1) => true
  | _ => false
theorem z_dup22 : SoundP c_dup22 s_dup22 := by
  intro G p l e R s m args below meth c Q o ini cc nL i pc pls pst h r H locs cells slots rls F hc hs hW hS hL _ _ k
  obtain ⟨hx, hb, hml, hown, hts, -⟩ := F
  unfold c_dup22 at hc
  split at hc
  next hd =>
    unfold s_dup22 at hs
    split at hs
    next v rest =>
      split at hs
      · cases hs
      next hne =>
        cases hs
        simp only [Nat.sub_self, Nat.add_zero] at k
        exact lv_dup2_2 hx hb hd ((tr_cat G _).trans (Decidable.not_not.mp hne)) (k H locs rls hW hS hL)
    · cases hs
  · cases hc
def s_dup211 : PSem := fun i pc ls st h => match st with
  | v :: w :: rest => if ¬ (v.category = 1 ∧ w.category = 1) then none else some (pc + 1, ls, v :: w :: v :: w :: rest, h)
  | _ => none
def c_dup211 : PChk := fun _ _ cc pc _ => match decode cc pc with
  | .ok (.dup2, 1) => true
  | _ => false
theorem z_dup211 : SoundP c_dup211 s_dup211 := by
  intro G p l e R s m args below meth c Q o ini cc nL i pc pls pst h r H locs cells slots rls F hc hs hW hS hL _ _ k
  obtain ⟨hx, hb, hml, hown, hts, -⟩ := F
  unfold c_dup211 at hc
  split at hc
  next hd =>
    unfold s_dup211 at hs
    split at hs
    next v w rest =>
      split at hs
      · cases hs
      next hne =>
        cases hs
        simp only [Nat.sub_self, Nat.add_zero] at k
        exact lv_dup2_11 hx hb hd ((tr_cat G _).trans (Decidable.not_not.mp hne).1) ((tr_cat G _).trans (Decidable.not_not.mp hne).2) (k H locs rls hW hS hL)
    · cases hs
  · cases hc
def s_ipush : PSem := fun i pc ls st h => some (pc + p_len i, ls, .int (Int32.ofInt (p_a i)) :: st, h)
def c_ipush : PChk := fun o _ cc pc i => match decode cc pc with
  | .ok (.iconst n, 1) => p_len i == 1 && (Int32.ofInt n == Int32.ofInt (p_a i))
  | .ok (.bipush n, 2) => p_len i == 2 && ((Int8.ofInt n).toInt32 == Int32.ofInt (p_a i))
  | .ok (.sipush n, 3) => p_len i == 3 && ((Int16.ofInt n).toInt32 == Int32.ofInt (p_a i))
  | _ => false
theorem z_ipush : SoundP c_ipush s_ipush := by
  intro G p l e R s m args below meth c Q o ini cc nL i pc pls pst h r H locs cells slots rls F hc hs hW hS hL _ _ k
  obtain ⟨hx, hb, hml, hown, hts, -⟩ := F
  unfold s_ipush at hs
  cases hs
  simp only [Nat.sub_self, Nat.add_zero] at k
  try dsimp only at k
  unfold c_ipush at hc
  split at hc
  next n hd =>
    simp only [Bool.and_eq_true, beq_iff_eq] at hc
    obtain ⟨hl, hv⟩ := hc
    rw [hl] at k
    exact lv_iconst hx hb hd hv (k H locs rls hW hS hL)
  next n hd =>
    simp only [Bool.and_eq_true, beq_iff_eq] at hc
    obtain ⟨hl, hv⟩ := hc
    rw [hl] at k
    exact lv_bipush hx hb hd hv (k H locs rls hW hS hL)
  next n hd =>
    simp only [Bool.and_eq_true, beq_iff_eq] at hc
    obtain ⟨hl, hv⟩ := hc
    rw [hl] at k
    exact lv_sipush hx hb hd hv (k H locs rls hW hS hL)
  · cases hc
def s_lpush : PSem := fun i pc ls st h => some (pc + p_len i, ls, .long (Int64.ofInt (p_a i)) :: st, h)
def c_lpush : PChk := fun o _ cc pc i => match decode cc pc with
  | .ok (.lconst n, 1) => p_len i == 1 && (Int64.ofNat (n : Nat) == Int64.ofInt (p_a i))
  | _ => false
theorem z_lpush : SoundP c_lpush s_lpush := by
  intro G p l e R s m args below meth c Q o ini cc nL i pc pls pst h r H locs cells slots rls F hc hs hW hS hL _ _ k
  obtain ⟨hx, hb, hml, hown, hts, -⟩ := F
  unfold s_lpush at hs
  cases hs
  simp only [Nat.sub_self, Nat.add_zero] at k
  try dsimp only at k
  unfold c_lpush at hc
  split at hc
  next n hd =>
    simp only [Bool.and_eq_true, beq_iff_eq] at hc
    obtain ⟨hl, hv⟩ := hc
    rw [hl] at k
    exact lv_lconst hx hb hd hv (k H locs rls hW hS hL)
  · cases hc
def s_ldc : PSem := fun i pc ls st h => some (pc + p_len i, ls, .int (Int32.ofInt (p_a i)) :: st, h)
def c_ldc : PChk := fun o _ cc pc i => match decode cc pc with
  | .ok (.ldc n, 2) => p_len i == 2 && decide (lw_tbl[p_b i]? = some (.constant (cN o) n (Int32.ofInt (p_a i)))) && goodWord (.constant (cN o) n (Int32.ofInt (p_a i)))
  | .ok (.ldc_w n, 3) => p_len i == 3 && decide (lw_tbl[p_b i]? = some (.constant (cN o) n (Int32.ofInt (p_a i)))) && goodWord (.constant (cN o) n (Int32.ofInt (p_a i)))
  | _ => false
theorem z_ldc : SoundP c_ldc s_ldc := by
  intro G p l e R s m args below meth c Q o ini cc nL i pc pls pst h r H locs cells slots rls F hc hs hW hS hL _ _ k
  obtain ⟨hx, hb, hml, hown, hts, -⟩ := F
  unfold s_ldc at hs
  cases hs
  simp only [Nat.sub_self, Nat.add_zero] at k
  try dsimp only at k
  unfold c_ldc at hc
  split at hc
  next n hd =>
    simp only [Bool.and_eq_true, beq_iff_eq, decide_eq_true_eq] at hc
    obtain ⟨⟨hl, hv⟩, hg⟩ := hc
    rw [hl] at k
    exact lv_ldc hx hb hown (hts _ (gt_in _ hv hg)) hd (k H locs rls hW hS hL)
  next n hd =>
    simp only [Bool.and_eq_true, beq_iff_eq, decide_eq_true_eq] at hc
    obtain ⟨⟨hl, hv⟩, hg⟩ := hc
    rw [hl] at k
    exact lv_ldcw hx hb hown (hts _ (gt_in _ hv hg)) hd (k H locs rls hW hS hL)
  · cases hc
def s_ldc2 : PSem := fun i pc ls st h => some (pc + p_len i, ls, .long (Int64.ofInt (p_a i)) :: st, h)
def c_ldc2 : PChk := fun o _ cc pc i => match decode cc pc with
  | .ok (.ldc2_w n, 3) => p_len i == 3 && decide (lw_tbl[p_b i]? = some (.constantLong (cN o) n (Int64.ofInt (p_a i)))) && goodWord (.constantLong (cN o) n (Int64.ofInt (p_a i)))
  | _ => false
theorem z_ldc2 : SoundP c_ldc2 s_ldc2 := by
  intro G p l e R s m args below meth c Q o ini cc nL i pc pls pst h r H locs cells slots rls F hc hs hW hS hL _ _ k
  obtain ⟨hx, hb, hml, hown, hts, -⟩ := F
  unfold s_ldc2 at hs
  cases hs
  simp only [Nat.sub_self, Nat.add_zero] at k
  try dsimp only at k
  unfold c_ldc2 at hc
  split at hc
  next n hd =>
    simp only [Bool.and_eq_true, beq_iff_eq, decide_eq_true_eq] at hc
    obtain ⟨⟨hl, hv⟩, hg⟩ := hc
    rw [hl] at k
    exact lv_ldc2 hx hb hown (hts _ (gt_in _ hv hg)) hd (k H locs rls hW hS hL)
  · cases hc
def s_iload : PSem := fun i pc ls st h => match ls[p_b i]? with
  | some (.int x) => some (pc + p_len i, ls, .int x :: st, h)
  | _ => none
def c_iload : PChk := fun _ _ cc pc i => match decode cc pc with
  | .ok (.iload_n n, 1) => p_len i == 1 && n.val == p_b i
  | .ok (.iload n, 2) => p_len i == 2 && n == p_b i
  | _ => false
theorem z_iload : SoundP c_iload s_iload := by
  intro G p l e R s m args below meth c Q o ini cc nL i pc pls pst h r H locs cells slots rls F hc hs hW hS hL _ _ k
  obtain ⟨hx, hb, hml, hown, hts, -⟩ := F
  unfold s_iload at hs
  split at hs
  next x hv =>
    cases hs
    simp only [Nat.sub_self, Nat.add_zero] at k
    try dsimp only at k
    unfold c_iload at hc
    split at hc
    next n hd =>
      simp only [Bool.and_eq_true, beq_iff_eq] at hc
      rw [hc.1] at k
      exact lv_iload_n hx hb hd hc.2 (hL.at hv rfl) (k H locs rls hW hS hL)
    next n hd =>
      simp only [Bool.and_eq_true, beq_iff_eq] at hc
      rw [hc.1] at k
      rw [hc.2] at hd
      exact lv_iload hx hb hd (hL.at hv rfl) (k H locs rls hW hS hL)
    · cases hc
  · cases hs
def s_aload : PSem := fun i pc ls st h => match ls[p_b i]? with
  | some (.ref x) => some (pc + p_len i, ls, .ref x :: st, h)
  | _ => none
def c_aload : PChk := fun _ _ cc pc i => match decode cc pc with
  | .ok (.aload_n n, 1) => p_len i == 1 && n.val == p_b i
  | .ok (.aload n, 2) => p_len i == 2 && n == p_b i
  | _ => false
theorem z_aload : SoundP c_aload s_aload := by
  intro G p l e R s m args below meth c Q o ini cc nL i pc pls pst h r H locs cells slots rls F hc hs hW hS hL _ _ k
  obtain ⟨hx, hb, hml, hown, hts, -⟩ := F
  unfold s_aload at hs
  split at hs
  next x hv =>
    cases hs
    simp only [Nat.sub_self, Nat.add_zero] at k
    try dsimp only at k
    unfold c_aload at hc
    split at hc
    next n hd =>
      simp only [Bool.and_eq_true, beq_iff_eq] at hc
      rw [hc.1] at k
      exact lv_aload_n hx hb hd hc.2 (hL.at hv rfl) (k H locs rls hW hS hL)
    next n hd =>
      simp only [Bool.and_eq_true, beq_iff_eq] at hc
      rw [hc.1] at k
      rw [hc.2] at hd
      exact lv_aload hx hb hd (hL.at hv rfl) (k H locs rls hW hS hL)
    · cases hc
  · cases hs
def s_lload : PSem := fun i pc ls st h => match ls[p_b i]? with
  | some (.long x) => if okv ls (p_b i) (.long x) = true then some (pc + p_len i, ls, .long x :: st, h) else none
  | _ => none
def c_lload : PChk := fun _ _ cc pc i => match decode cc pc with
  | .ok (.lload_n n, 1) => p_len i == 1 && n.val == p_b i
  | .ok (.lload n, 2) => p_len i == 2 && n == p_b i
  | _ => false
theorem z_lload : SoundP c_lload s_lload := by
  intro G p l e R s m args below meth c Q o ini cc nL i pc pls pst h r H locs cells slots rls F hc hs hW hS hL _ _ k
  obtain ⟨hx, hb, hml, hown, hts, -⟩ := F
  unfold s_lload at hs
  split at hs
  next x hv =>
    split at hs
    next ho =>
      cases hs
      simp only [Nat.sub_self, Nat.add_zero] at k
      try dsimp only at k
      unfold c_lload at hc
      split at hc
      next n hd =>
        simp only [Bool.and_eq_true, beq_iff_eq] at hc
        rw [hc.1] at k
        exact lv_lload_n hx hb hd hc.2 (hL.at hv ho) (k H locs rls hW hS hL)
      next n hd =>
        simp only [Bool.and_eq_true, beq_iff_eq] at hc
        rw [hc.1] at k
        rw [hc.2] at hd
        exact lv_lload hx hb hd (hL.at hv ho) (k H locs rls hW hS hL)
      · cases hc
    · cases hs
  · cases hs
def s_aloadS : PSem := fun i pc ls st h => match ls[p_b i]? with
  | some (.retAddr x) => if okv ls (p_b i) (.retAddr x) = true then some (pc + p_len i, ls, .retAddr x :: st, h) else none
  | _ => none
def c_aloadS : PChk := fun _ _ cc pc i => match decode cc pc with
  | .ok (.aload_n n, 1) => p_len i == 1 && n.val == p_b i
  | .ok (.aload n, 2) => p_len i == 2 && n == p_b i
  | _ => false
theorem z_aloadS : SoundP c_aloadS s_aloadS := by
  intro G p l e R s m args below meth c Q o ini cc nL i pc pls pst h r H locs cells slots rls F hc hs hW hS hL _ _ k
  obtain ⟨hx, hb, hml, hown, hts, -⟩ := F
  unfold s_aloadS at hs
  split at hs
  next x hv =>
    split at hs
    next ho =>
      cases hs
      simp only [Nat.sub_self, Nat.add_zero] at k
      try dsimp only at k
      unfold c_aloadS at hc
      split at hc
      next n hd =>
        simp only [Bool.and_eq_true, beq_iff_eq] at hc
        rw [hc.1] at k
        exact lv_aload_n hx hb hd hc.2 (hL.at hv ho) (k H locs rls hW hS hL)
      next n hd =>
        simp only [Bool.and_eq_true, beq_iff_eq] at hc
        rw [hc.1] at k
        rw [hc.2] at hd
        exact lv_aload hx hb hd (hL.at hv ho) (k H locs rls hW hS hL)
      · cases hc
    · cases hs
  · cases hs
def s_istore : PSem := fun i pc ls st h => match st with
  | .int x :: rest => if p_b i < ls.length then some (pc + p_len i, ls.set (p_b i) (.int x), rest, h) else none
  | _ => none
def c_istore : PChk := fun _ _ cc pc i => match decode cc pc with
  | .ok (.istore_n n, 1) => p_len i == 1 && n.val == p_b i
  | .ok (.istore n, 2) => p_len i == 2 && n == p_b i
  | _ => false
theorem z_istore : SoundP c_istore s_istore := by
  intro G p l e R s m args below meth c Q o ini cc nL i pc pls pst h r H locs cells slots rls F hc hs hW hS hL _ _ k
  obtain ⟨hx, hb, hml, hown, hts, -⟩ := F
  unfold s_istore at hs
  split at hs
  next x rest =>
    split at hs
    next hlt =>
      cases hs
      simp only [Nat.sub_self, Nat.add_zero] at k
      try dsimp only at k
      unfold c_istore at hc
      split at hc
      next n hd =>
        simp only [Bool.and_eq_true, beq_iff_eq] at hc
        rw [hc.1] at k
        exact lv_istore_n hx hb hd hc.2 hL.1 (by rw [← hL.2]; exact hlt) rfl (fun ls hl => k H locs ls hW hS ⟨lv_mono hl (lvs_set1 (v := .int x) (by intro q; cases q)), by rw [List.length_set]; exact hL.2⟩)
      next n hd =>
        simp only [Bool.and_eq_true, beq_iff_eq] at hc
        rw [hc.1] at k
        rw [hc.2] at hd
        exact lv_istore hx hb hd hL.1 (by rw [← hL.2]; exact hlt) rfl (fun ls hl => k H locs ls hW hS ⟨lv_mono hl (lvs_set1 (v := .int x) (by intro q; cases q)), by rw [List.length_set]; exact hL.2⟩)
      · cases hc
    · cases hs
  · cases hs
def s_astore : PSem := fun i pc ls st h => match st with
  | .ref x :: rest => if p_b i < ls.length then some (pc + p_len i, ls.set (p_b i) (.ref x), rest, h) else none
  | _ => none
def c_astore : PChk := fun _ _ cc pc i => match decode cc pc with
  | .ok (.astore_n n, 1) => p_len i == 1 && n.val == p_b i
  | .ok (.astore n, 2) => p_len i == 2 && n == p_b i
  | _ => false
theorem z_astore : SoundP c_astore s_astore := by
  intro G p l e R s m args below meth c Q o ini cc nL i pc pls pst h r H locs cells slots rls F hc hs hW hS hL _ _ k
  obtain ⟨hx, hb, hml, hown, hts, -⟩ := F
  unfold s_astore at hs
  split at hs
  next x rest =>
    split at hs
    next hlt =>
      cases hs
      simp only [Nat.sub_self, Nat.add_zero] at k
      try dsimp only at k
      unfold c_astore at hc
      split at hc
      next n hd =>
        simp only [Bool.and_eq_true, beq_iff_eq] at hc
        rw [hc.1] at k
        exact lv_astore_n hx hb hd hc.2 hL.1 (by rw [← hL.2]; exact hlt) rfl (fun ls hl => k H locs ls hW hS ⟨lv_mono hl (lvs_set1 (v := .ref x) (by intro q; cases q)), by rw [List.length_set]; exact hL.2⟩)
      next n hd =>
        simp only [Bool.and_eq_true, beq_iff_eq] at hc
        rw [hc.1] at k
        rw [hc.2] at hd
        exact lv_astore hx hb hd hL.1 (by rw [← hL.2]; exact hlt) rfl (fun ls hl => k H locs ls hW hS ⟨lv_mono hl (lvs_set1 (v := .ref x) (by intro q; cases q)), by rw [List.length_set]; exact hL.2⟩)
      · cases hc
    · cases hs
  · cases hs
def s_lstore : PSem := fun i pc ls st h => match st with
  | .long x :: rest => if p_b i + 1 < ls.length then some (pc + p_len i, (ls.set (p_b i) (.long x)).set (p_b i + 1) (.retAddr 2), rest, h) else none
  | _ => none
def c_lstore : PChk := fun _ _ cc pc i => match decode cc pc with
  | .ok (.lstore_n n, 1) => p_len i == 1 && n.val == p_b i
  | .ok (.lstore n, 2) => p_len i == 2 && n == p_b i
  | _ => false
theorem z_lstore : SoundP c_lstore s_lstore := by
  intro G p l e R s m args below meth c Q o ini cc nL i pc pls pst h r H locs cells slots rls F hc hs hW hS hL _ _ k
  obtain ⟨hx, hb, hml, hown, hts, -⟩ := F
  unfold s_lstore at hs
  split at hs
  next x rest =>
    split at hs
    next hlt =>
      cases hs
      simp only [Nat.sub_self, Nat.add_zero] at k
      try dsimp only at k
      unfold c_lstore at hc
      split at hc
      next n hd =>
        simp only [Bool.and_eq_true, beq_iff_eq] at hc
        rw [hc.1] at k
        exact lv_lstore_n hx hb hd hc.2 hL.1 (by rw [← hL.2]; exact hlt) rfl (fun ls hl => k H locs ls hW hS ⟨lv_mono hl lvs_set2, by rw [List.length_set, List.length_set]; exact hL.2⟩)
      next n hd =>
        simp only [Bool.and_eq_true, beq_iff_eq] at hc
        rw [hc.1] at k
        rw [hc.2] at hd
        exact lv_lstore hx hb hd hL.1 (by rw [← hL.2]; exact hlt) rfl (fun ls hl => k H locs ls hW hS ⟨lv_mono hl lvs_set2, by rw [List.length_set, List.length_set]; exact hL.2⟩)
      · cases hc
    · cases hs
  · cases hs
def s_iinc : PSem := fun i pc ls st h => match ls[p_b i]? with
  | some (.int x) => some (pc + 3, ls.set (p_b i) (.int (x + Int32.ofInt (p_a i))), st, h)
  | _ => none
def c_iinc : PChk := fun _ _ cc pc i => match decode cc pc with
  | .ok (.iinc n a, 3) => n == p_b i && a == p_a i
  | _ => false
theorem z_iinc : SoundP c_iinc s_iinc := by
  intro G p l e R s m args below meth c Q o ini cc nL i pc pls pst h r H locs cells slots rls F hc hs hW hS hL _ _ k
  obtain ⟨hx, hb, hml, hown, hts, -⟩ := F
  unfold s_iinc at hs
  split at hs
  next x hv =>
    cases hs
    simp only [Nat.sub_self, Nat.add_zero] at k
    unfold c_iinc at hc
    split at hc
    next n a hd =>
      simp only [Bool.and_eq_true, beq_iff_eq] at hc
      rw [hc.1, hc.2] at hd
      obtain ⟨kk, hkk⟩ := List.getElem?_of_mem (mem_lvs.mpr ⟨_, hv, rfl, rfl⟩ : (p_b i, tr G (.int x)) ∈ lvs G pls)
      refine lv_iinc hx hb hd hL.1 hkk rfl (by rw [← hL.2]; exact (List.getElem?_eq_some_iff.mp hv).1) rfl ?_
      exact fun ls hl => k H locs ls hW hS ⟨lv_mono hl (lvs_set1 (v := .int (x + Int32.ofInt (p_a i))) (by intro q; cases q)), by rw [List.length_set]; exact hL.2⟩
    · cases hc
  · cases hs
def s_if_eq : PSem := fun i pc ls st h => match st with
  | .int x :: rest => some (if x = 0 then p_b i else pc + 3, ls, rest, h)
  | _ => none
def c_if_eq : PChk := fun _ _ cc pc i => match decode cc pc with
  | .ok (.ifCond .eq off, 3) => decide ((pc : Int) + off = (p_b i : Int))
  | _ => false
theorem z_if_eq : SoundP c_if_eq s_if_eq := by
  intro G p l e R s m args below meth c Q o ini cc nL i pc pls pst h r H locs cells slots rls F hc hs hW hS hL _ _ k
  obtain ⟨hx, hb, hml, hown, hts, -⟩ := F
  unfold c_if_eq at hc
  split at hc
  next off hd =>
    have ht := of_decide_eq_true hc
    unfold s_if_eq at hs
    split at hs
    next x rest =>
      cases hs
      simp only [Nat.sub_self, Nat.add_zero] at k
      exact lv_if_eq hx hb hd ht (fun hz => by have k := k H locs rls hW hS hL; rw [if_pos hz] at k; exact k) (fun hz => by have k := k H locs rls hW hS hL; rw [if_neg hz] at k; exact k)
    · cases hs
  · cases hc
def s_icmp_eq : PSem := fun i pc ls st h => match st with
  | .int y :: .int x :: rest => some (if x = y then p_b i else pc + 3, ls, rest, h)
  | _ => none
def c_icmp_eq : PChk := fun _ _ cc pc i => match decode cc pc with
  | .ok (.if_icmp .eq off, 3) => decide ((pc : Int) + off = (p_b i : Int))
  | _ => false
theorem z_icmp_eq : SoundP c_icmp_eq s_icmp_eq := by
  intro G p l e R s m args below meth c Q o ini cc nL i pc pls pst h r H locs cells slots rls F hc hs hW hS hL _ _ k
  obtain ⟨hx, hb, hml, hown, hts, -⟩ := F
  unfold c_icmp_eq at hc
  split at hc
  next off hd =>
    have ht := of_decide_eq_true hc
    unfold s_icmp_eq at hs
    split at hs
    next y x rest =>
      cases hs
      simp only [Nat.sub_self, Nat.add_zero] at k
      exact lv_icmp_eq hx hb hd ht (fun hz => by have k := k H locs rls hW hS hL; rw [if_pos hz] at k; exact k) (fun hz => by have k := k H locs rls hW hS hL; rw [if_neg hz] at k; exact k)
    · cases hs
  · cases hc
def s_if_ne : PSem := fun i pc ls st h => match st with
  | .int x :: rest => some (if x = 0 then pc + 3 else p_b i, ls, rest, h)
  | _ => none
def c_if_ne : PChk := fun _ _ cc pc i => match decode cc pc with
  | .ok (.ifCond .ne off, 3) => decide ((pc : Int) + off = (p_b i : Int))
  | _ => false
theorem z_if_ne : SoundP c_if_ne s_if_ne := by
  intro G p l e R s m args below meth c Q o ini cc nL i pc pls pst h r H locs cells slots rls F hc hs hW hS hL _ _ k
  obtain ⟨hx, hb, hml, hown, hts, -⟩ := F
  unfold c_if_ne at hc
  split at hc
  next off hd =>
    have ht := of_decide_eq_true hc
    unfold s_if_ne at hs
    split at hs
    next x rest =>
      cases hs
      simp only [Nat.sub_self, Nat.add_zero] at k
      exact lv_if_ne hx hb hd ht (fun hz => by have k := k H locs rls hW hS hL; rw [if_neg hz] at k; exact k) (fun hz => by have k := k H locs rls hW hS hL; rw [if_pos hz] at k; exact k)
    · cases hs
  · cases hc
def s_icmp_ne : PSem := fun i pc ls st h => match st with
  | .int y :: .int x :: rest => some (if x = y then pc + 3 else p_b i, ls, rest, h)
  | _ => none
def c_icmp_ne : PChk := fun _ _ cc pc i => match decode cc pc with
  | .ok (.if_icmp .ne off, 3) => decide ((pc : Int) + off = (p_b i : Int))
  | _ => false
theorem z_icmp_ne : SoundP c_icmp_ne s_icmp_ne := by
  intro G p l e R s m args below meth c Q o ini cc nL i pc pls pst h r H locs cells slots rls F hc hs hW hS hL _ _ k
  obtain ⟨hx, hb, hml, hown, hts, -⟩ := F
  unfold c_icmp_ne at hc
  split at hc
  next off hd =>
    have ht := of_decide_eq_true hc
    unfold s_icmp_ne at hs
    split at hs
    next y x rest =>
      cases hs
      simp only [Nat.sub_self, Nat.add_zero] at k
      exact lv_icmp_ne hx hb hd ht (fun hz => by have k := k H locs rls hW hS hL; rw [if_neg hz] at k; exact k) (fun hz => by have k := k H locs rls hW hS hL; rw [if_pos hz] at k; exact k)
    · cases hs
  · cases hc
def s_if_lt : PSem := fun i pc ls st h => match st with
  | .int x :: rest => some (if x < 0 then p_b i else pc + 3, ls, rest, h)
  | _ => none
def c_if_lt : PChk := fun _ _ cc pc i => match decode cc pc with
  | .ok (.ifCond .lt off, 3) => decide ((pc : Int) + off = (p_b i : Int))
  | _ => false
theorem z_if_lt : SoundP c_if_lt s_if_lt := by
  intro G p l e R s m args below meth c Q o ini cc nL i pc pls pst h r H locs cells slots rls F hc hs hW hS hL _ _ k
  obtain ⟨hx, hb, hml, hown, hts, -⟩ := F
  unfold c_if_lt at hc
  split at hc
  next off hd =>
    have ht := of_decide_eq_true hc
    unfold s_if_lt at hs
    split at hs
    next x rest =>
      cases hs
      simp only [Nat.sub_self, Nat.add_zero] at k
      exact lv_if_lt hx hb hd ht (fun hz => by have k := k H locs rls hW hS hL; rw [if_pos hz] at k; exact k) (fun hz => by have k := k H locs rls hW hS hL; rw [if_neg hz] at k; exact k)
    · cases hs
  · cases hc
def s_icmp_lt : PSem := fun i pc ls st h => match st with
  | .int y :: .int x :: rest => some (if x < y then p_b i else pc + 3, ls, rest, h)
  | _ => none
def c_icmp_lt : PChk := fun _ _ cc pc i => match decode cc pc with
  | .ok (.if_icmp .lt off, 3) => decide ((pc : Int) + off = (p_b i : Int))
  | _ => false
theorem z_icmp_lt : SoundP c_icmp_lt s_icmp_lt := by
  intro G p l e R s m args below meth c Q o ini cc nL i pc pls pst h r H locs cells slots rls F hc hs hW hS hL _ _ k
  obtain ⟨hx, hb, hml, hown, hts, -⟩ := F
  unfold c_icmp_lt at hc
  split at hc
  next off hd =>
    have ht := of_decide_eq_true hc
    unfold s_icmp_lt at hs
    split at hs
    next y x rest =>
      cases hs
      simp only [Nat.sub_self, Nat.add_zero] at k
      exact lv_icmp_lt hx hb hd ht (fun hz => by have k := k H locs rls hW hS hL; rw [if_pos hz] at k; exact k) (fun hz => by have k := k H locs rls hW hS hL; rw [if_neg hz] at k; exact k)
    · cases hs
  · cases hc
def s_if_ge : PSem := fun i pc ls st h => match st with
  | .int x :: rest => some (if 0 ≤ x then p_b i else pc + 3, ls, rest, h)
  | _ => none
def c_if_ge : PChk := fun _ _ cc pc i => match decode cc pc with
  | .ok (.ifCond .ge off, 3) => decide ((pc : Int) + off = (p_b i : Int))
  | _ => false
theorem z_if_ge : SoundP c_if_ge s_if_ge := by
  intro G p l e R s m args below meth c Q o ini cc nL i pc pls pst h r H locs cells slots rls F hc hs hW hS hL _ _ k
  obtain ⟨hx, hb, hml, hown, hts, -⟩ := F
  unfold c_if_ge at hc
  split at hc
  next off hd =>
    have ht := of_decide_eq_true hc
    unfold s_if_ge at hs
    split at hs
    next x rest =>
      cases hs
      simp only [Nat.sub_self, Nat.add_zero] at k
      exact lv_if_ge hx hb hd ht (fun hz => by have k := k H locs rls hW hS hL; rw [if_pos hz] at k; exact k) (fun hz => by have k := k H locs rls hW hS hL; rw [if_neg hz] at k; exact k)
    · cases hs
  · cases hc
def s_icmp_ge : PSem := fun i pc ls st h => match st with
  | .int y :: .int x :: rest => some (if y ≤ x then p_b i else pc + 3, ls, rest, h)
  | _ => none
def c_icmp_ge : PChk := fun _ _ cc pc i => match decode cc pc with
  | .ok (.if_icmp .ge off, 3) => decide ((pc : Int) + off = (p_b i : Int))
  | _ => false
theorem z_icmp_ge : SoundP c_icmp_ge s_icmp_ge := by
  intro G p l e R s m args below meth c Q o ini cc nL i pc pls pst h r H locs cells slots rls F hc hs hW hS hL _ _ k
  obtain ⟨hx, hb, hml, hown, hts, -⟩ := F
  unfold c_icmp_ge at hc
  split at hc
  next off hd =>
    have ht := of_decide_eq_true hc
    unfold s_icmp_ge at hs
    split at hs
    next y x rest =>
      cases hs
      simp only [Nat.sub_self, Nat.add_zero] at k
      exact lv_icmp_ge hx hb hd ht (fun hz => by have k := k H locs rls hW hS hL; rw [if_pos hz] at k; exact k) (fun hz => by have k := k H locs rls hW hS hL; rw [if_neg hz] at k; exact k)
    · cases hs
  · cases hc
def s_if_gt : PSem := fun i pc ls st h => match st with
  | .int x :: rest => some (if 0 < x then p_b i else pc + 3, ls, rest, h)
  | _ => none
def c_if_gt : PChk := fun _ _ cc pc i => match decode cc pc with
  | .ok (.ifCond .gt off, 3) => decide ((pc : Int) + off = (p_b i : Int))
  | _ => false
theorem z_if_gt : SoundP c_if_gt s_if_gt := by
  intro G p l e R s m args below meth c Q o ini cc nL i pc pls pst h r H locs cells slots rls F hc hs hW hS hL _ _ k
  obtain ⟨hx, hb, hml, hown, hts, -⟩ := F
  unfold c_if_gt at hc
  split at hc
  next off hd =>
    have ht := of_decide_eq_true hc
    unfold s_if_gt at hs
    split at hs
    next x rest =>
      cases hs
      simp only [Nat.sub_self, Nat.add_zero] at k
      exact lv_if_gt hx hb hd ht (fun hz => by have k := k H locs rls hW hS hL; rw [if_pos hz] at k; exact k) (fun hz => by have k := k H locs rls hW hS hL; rw [if_neg hz] at k; exact k)
    · cases hs
  · cases hc
def s_icmp_gt : PSem := fun i pc ls st h => match st with
  | .int y :: .int x :: rest => some (if y < x then p_b i else pc + 3, ls, rest, h)
  | _ => none
def c_icmp_gt : PChk := fun _ _ cc pc i => match decode cc pc with
  | .ok (.if_icmp .gt off, 3) => decide ((pc : Int) + off = (p_b i : Int))
  | _ => false
theorem z_icmp_gt : SoundP c_icmp_gt s_icmp_gt := by
  intro G p l e R s m args below meth c Q o ini cc nL i pc pls pst h r H locs cells slots rls F hc hs hW hS hL _ _ k
  obtain ⟨hx, hb, hml, hown, hts, -⟩ := F
  unfold c_icmp_gt at hc
  split at hc
  next off hd =>
    have ht := of_decide_eq_true hc
    unfold s_icmp_gt at hs
    split at hs
    next y x rest =>
      cases hs
      simp only [Nat.sub_self, Nat.add_zero] at k
      exact lv_icmp_gt hx hb hd ht (fun hz => by have k := k H locs rls hW hS hL; rw [if_pos hz] at k; exact k) (fun hz => by have k := k H locs rls hW hS hL; rw [if_neg hz] at k; exact k)
    · cases hs
  · cases hc
def s_if_le : PSem := fun i pc ls st h => match st with
  | .int x :: rest => some (if x ≤ 0 then p_b i else pc + 3, ls, rest, h)
  | _ => none
def c_if_le : PChk := fun _ _ cc pc i => match decode cc pc with
  | .ok (.ifCond .le off, 3) => decide ((pc : Int) + off = (p_b i : Int))
  | _ => false
theorem z_if_le : SoundP c_if_le s_if_le := by
  intro G p l e R s m args below meth c Q o ini cc nL i pc pls pst h r H locs cells slots rls F hc hs hW hS hL _ _ k
  obtain ⟨hx, hb, hml, hown, hts, -⟩ := F
  unfold c_if_le at hc
  split at hc
  next off hd =>
    have ht := of_decide_eq_true hc
    unfold s_if_le at hs
    split at hs
    next x rest =>
      cases hs
      simp only [Nat.sub_self, Nat.add_zero] at k
      exact lv_if_le hx hb hd ht (fun hz => by have k := k H locs rls hW hS hL; rw [if_pos hz] at k; exact k) (fun hz => by have k := k H locs rls hW hS hL; rw [if_neg hz] at k; exact k)
    · cases hs
  · cases hc
def s_icmp_le : PSem := fun i pc ls st h => match st with
  | .int y :: .int x :: rest => some (if x ≤ y then p_b i else pc + 3, ls, rest, h)
  | _ => none
def c_icmp_le : PChk := fun _ _ cc pc i => match decode cc pc with
  | .ok (.if_icmp .le off, 3) => decide ((pc : Int) + off = (p_b i : Int))
  | _ => false
theorem z_icmp_le : SoundP c_icmp_le s_icmp_le := by
  intro G p l e R s m args below meth c Q o ini cc nL i pc pls pst h r H locs cells slots rls F hc hs hW hS hL _ _ k
  obtain ⟨hx, hb, hml, hown, hts, -⟩ := F
  unfold c_icmp_le at hc
  split at hc
  next off hd =>
    have ht := of_decide_eq_true hc
    unfold s_icmp_le at hs
    split at hs
    next y x rest =>
      cases hs
      simp only [Nat.sub_self, Nat.add_zero] at k
      exact lv_icmp_le hx hb hd ht (fun hz => by have k := k H locs rls hW hS hL; rw [if_pos hz] at k; exact k) (fun hz => by have k := k H locs rls hW hS hL; rw [if_neg hz] at k; exact k)
    · cases hs
  · cases hc
def s_goto : PSem := fun i pc ls st h => some (p_b i, ls, st, h)
def c_goto : PChk := fun _ _ cc pc i => match decode cc pc with
  | .ok (.goto off, 3) => decide ((pc : Int) + off = (p_b i : Int))
  | _ => false
theorem z_goto : SoundP c_goto s_goto := by
  intro G p l e R s m args below meth c Q o ini cc nL i pc pls pst h r H locs cells slots rls F hc hs hW hS hL _ _ k
  obtain ⟨hx, hb, hml, hown, hts, -⟩ := F
  unfold c_goto at hc
  split at hc
  next off hd =>
    cases hs
    simp only [Nat.sub_self, Nat.add_zero] at k
    exact lv_goto hx hb hd (of_decide_eq_true hc) (k H locs rls hW hS hL)
  · cases hc
def s_nonnull : PSem := fun i pc ls st h => match st with
  | .ref x :: rest => some (p_b i, ls, rest, h)
  | .null :: rest => some (pc + 3, ls, rest, h)
  | _ => none
def c_nonnull : PChk := fun _ _ cc pc i => match decode cc pc with
  | .ok (.ifnonnull off, 3) => decide ((pc : Int) + off = (p_b i : Int))
  | _ => false
theorem z_nonnull : SoundP c_nonnull s_nonnull := by
  intro G p l e R s m args below meth c Q o ini cc nL i pc pls pst h r H locs cells slots rls F hc hs hW hS hL _ _ k
  obtain ⟨hx, hb, hml, hown, hts, -⟩ := F
  unfold c_nonnull at hc
  split at hc
  next off hd =>
    unfold s_nonnull at hs
    split at hs
    next x rest =>
      cases hs
      simp only [Nat.sub_self, Nat.add_zero] at k
      exact lv_ifnonnull hx hb hd (of_decide_eq_true hc) (k H locs rls hW hS hL)
    next rest =>
      cases hs
      simp only [Nat.sub_self, Nat.add_zero] at k
      exact lv_ifnonnullN hx hb hd (k H locs rls hW hS hL)
    · cases hs
  · cases hc
end
section
/-! the links of fields: own class, index, class, field -/
def flOK (q : Nat × Nat × Nat × Nat) : Prop := ∃ (C : String) (T : u_T) (N : Nat), cls[q.2.2.1]? = some (C, T, N) ∧ q.2.2.2 < N ∧ Cond.fieldLink (cN q.1) q.2.1 C (T q.2.2.2).2.1 (T q.2.2.2).2.2.1 ∈ gt
def fnOK (q : Nat × Nat × Nat × Nat) : Prop := ∃ (C : String) (T : u_T) (N : Nat), cls[q.2.2.1]? = some (C, T, N) ∧ q.2.2.2 < N ∧ Cond.fieldLinkNest (cN q.1) q.2.1 C (T q.2.2.2).2.1 (T q.2.2.2).2.2.1 "OneWaySpell" ∈ nt
theorem nt_in {w : Cond} (i : Nat) (h : lw_tbl[i]? = some w) (hg : isNest w = true) : w ∈ nt := List.mem_filter.mpr ⟨List.mem_of_getElem? h, hg⟩
def flT_0 : List (Nat × Nat × Nat × Nat) := [(3, 9, 3, 0), (3, 15, 3, 1), (3, 19, 3, 2), (3, 28, 3, 3), (3, 47, 3, 4), (3, 36, 3, 5), (3, 62, 3, 6), (3, 22, 3, 7), (3, 25, 3, 8), (3, 59, 3, 9), (7, 11, 7, 0), (7, 29, 7, 1), (7, 15, 7, 2), (7, 18, 7, 3), (7, 22, 7, 4), (7, 32, 7, 5), (7, 35, 7, 6), (7, 38, 7, 7), (7, 25, 7, 8), (10, 11, 10, 0), (10, 23, 10, 1), (10, 15, 10, 2), (10, 19, 10, 3), (10, 70, 10, 4), (11, 9, 11, 0), (11, 34, 11, 1), (11, 16, 11, 2), (11, 23, 11, 3), (11, 30, 11, 4), (11, 288, 11, 5), (11, 302, 11, 6), (11, 132, 11, 7), (11, 327, 11, 8), (11, 210, 11, 9), (11, 311, 11, 10), (11, 320, 11, 11), (11, 332, 11, 12), (6, 11, 6, 0), (6, 15, 6, 1), (6, 19, 6, 2)]
set_option maxRecDepth 20000 in
theorem flT_0_ok : ∀ q ∈ flT_0, flOK q := List.forall_mem_cons.mpr ⟨⟨_, _, _, rfl, by decide, gt_in 205 (by decide +kernel) rfl⟩, List.forall_mem_cons.mpr ⟨⟨_, _, _, rfl, by decide, gt_in 212 (by decide +kernel) rfl⟩, List.forall_mem_cons.mpr ⟨⟨_, _, _, rfl, by decide, gt_in 220 (by decide +kernel) rfl⟩, List.forall_mem_cons.mpr ⟨⟨_, _, _, rfl, by decide, gt_in 224 (by decide +kernel) rfl⟩, List.forall_mem_cons.mpr ⟨⟨_, _, _, rfl, by decide, gt_in 233 (by decide +kernel) rfl⟩, List.forall_mem_cons.mpr ⟨⟨_, _, _, rfl, by decide, gt_in 235 (by decide +kernel) rfl⟩, List.forall_mem_cons.mpr ⟨⟨_, _, _, rfl, by decide, gt_in 240 (by decide +kernel) rfl⟩, List.forall_mem_cons.mpr ⟨⟨_, _, _, rfl, by decide, gt_in 242 (by decide +kernel) rfl⟩, List.forall_mem_cons.mpr ⟨⟨_, _, _, rfl, by decide, gt_in 243 (by decide +kernel) rfl⟩, List.forall_mem_cons.mpr ⟨⟨_, _, _, rfl, by decide, gt_in 244 (by decide +kernel) rfl⟩, List.forall_mem_cons.mpr ⟨⟨_, _, _, rfl, by decide, gt_in 276 (by decide +kernel) rfl⟩, List.forall_mem_cons.mpr ⟨⟨_, _, _, rfl, by decide, gt_in 277 (by decide +kernel) rfl⟩, List.forall_mem_cons.mpr ⟨⟨_, _, _, rfl, by decide, gt_in 279 (by decide +kernel) rfl⟩, List.forall_mem_cons.mpr ⟨⟨_, _, _, rfl, by decide, gt_in 281 (by decide +kernel) rfl⟩, List.forall_mem_cons.mpr ⟨⟨_, _, _, rfl, by decide, gt_in 283 (by decide +kernel) rfl⟩, List.forall_mem_cons.mpr ⟨⟨_, _, _, rfl, by decide, gt_in 285 (by decide +kernel) rfl⟩, List.forall_mem_cons.mpr ⟨⟨_, _, _, rfl, by decide, gt_in 287 (by decide +kernel) rfl⟩, List.forall_mem_cons.mpr ⟨⟨_, _, _, rfl, by decide, gt_in 288 (by decide +kernel) rfl⟩, List.forall_mem_cons.mpr ⟨⟨_, _, _, rfl, by decide, gt_in 290 (by decide +kernel) rfl⟩, List.forall_mem_cons.mpr ⟨⟨_, _, _, rfl, by decide, gt_in 317 (by decide +kernel) rfl⟩, List.forall_mem_cons.mpr ⟨⟨_, _, _, rfl, by decide, gt_in 320 (by decide +kernel) rfl⟩, List.forall_mem_cons.mpr ⟨⟨_, _, _, rfl, by decide, gt_in 324 (by decide +kernel) rfl⟩, List.forall_mem_cons.mpr ⟨⟨_, _, _, rfl, by decide, gt_in 326 (by decide +kernel) rfl⟩, List.forall_mem_cons.mpr ⟨⟨_, _, _, rfl, by decide, gt_in 327 (by decide +kernel) rfl⟩, List.forall_mem_cons.mpr ⟨⟨_, _, _, rfl, by decide, gt_in 340 (by decide +kernel) rfl⟩, List.forall_mem_cons.mpr ⟨⟨_, _, _, rfl, by decide, gt_in 341 (by decide +kernel) rfl⟩, List.forall_mem_cons.mpr ⟨⟨_, _, _, rfl, by decide, gt_in 342 (by decide +kernel) rfl⟩, List.forall_mem_cons.mpr ⟨⟨_, _, _, rfl, by decide, gt_in 343 (by decide +kernel) rfl⟩, List.forall_mem_cons.mpr ⟨⟨_, _, _, rfl, by decide, gt_in 344 (by decide +kernel) rfl⟩, List.forall_mem_cons.mpr ⟨⟨_, _, _, rfl, by decide, gt_in 345 (by decide +kernel) rfl⟩, List.forall_mem_cons.mpr ⟨⟨_, _, _, rfl, by decide, gt_in 346 (by decide +kernel) rfl⟩, List.forall_mem_cons.mpr ⟨⟨_, _, _, rfl, by decide, gt_in 347 (by decide +kernel) rfl⟩, List.forall_mem_cons.mpr ⟨⟨_, _, _, rfl, by decide, gt_in 348 (by decide +kernel) rfl⟩, List.forall_mem_cons.mpr ⟨⟨_, _, _, rfl, by decide, gt_in 349 (by decide +kernel) rfl⟩, List.forall_mem_cons.mpr ⟨⟨_, _, _, rfl, by decide, gt_in 350 (by decide +kernel) rfl⟩, List.forall_mem_cons.mpr ⟨⟨_, _, _, rfl, by decide, gt_in 351 (by decide +kernel) rfl⟩, List.forall_mem_cons.mpr ⟨⟨_, _, _, rfl, by decide, gt_in 352 (by decide +kernel) rfl⟩, List.forall_mem_cons.mpr ⟨⟨_, _, _, rfl, by decide, gt_in 528 (by decide +kernel) rfl⟩, List.forall_mem_cons.mpr ⟨⟨_, _, _, rfl, by decide, gt_in 530 (by decide +kernel) rfl⟩, List.forall_mem_cons.mpr ⟨⟨_, _, _, rfl, by decide, gt_in 532 (by decide +kernel) rfl⟩, fun _ h => absurd h List.not_mem_nil⟩⟩⟩⟩⟩⟩⟩⟩⟩⟩⟩⟩⟩⟩⟩⟩⟩⟩⟩⟩⟩⟩⟩⟩⟩⟩⟩⟩⟩⟩⟩⟩⟩⟩⟩⟩⟩⟩⟩⟩
def flT_1 : List (Nat × Nat × Nat × Nat) := [(6, 44, 6, 3), (6, 22, 6, 4), (6, 47, 6, 5), (6, 25, 6, 6), (6, 50, 6, 7), (6, 29, 6, 8), (6, 32, 6, 9), (6, 35, 6, 10), (6, 38, 6, 11), (9, 13, 9, 0), (9, 17, 9, 1), (9, 21, 9, 2), (9, 24, 9, 3), (9, 28, 9, 4), (9, 42, 9, 5), (9, 46, 9, 6), (9, 64, 9, 7), (9, 67, 9, 8), (9, 33, 9, 9), (8, 11, 8, 0), (8, 15, 8, 1), (8, 18, 8, 2), (8, 21, 8, 3), (8, 25, 8, 4), (8, 28, 8, 5), (8, 31, 8, 6), (8, 34, 8, 7), (8, 37, 8, 8), (8, 56, 8, 9), (8, 40, 8, 10), (4, 11, 4, 0), (4, 49, 4, 1), (4, 15, 4, 2), (4, 71, 4, 3), (4, 18, 4, 4), (5, 11, 5, 0), (5, 27, 5, 1), (5, 15, 5, 2), (5, 18, 5, 3), (5, 21, 5, 4)]
set_option maxRecDepth 20000 in
theorem flT_1_ok : ∀ q ∈ flT_1, flOK q := List.forall_mem_cons.mpr ⟨⟨_, _, _, rfl, by decide, gt_in 533 (by decide +kernel) rfl⟩, List.forall_mem_cons.mpr ⟨⟨_, _, _, rfl, by decide, gt_in 534 (by decide +kernel) rfl⟩, List.forall_mem_cons.mpr ⟨⟨_, _, _, rfl, by decide, gt_in 535 (by decide +kernel) rfl⟩, List.forall_mem_cons.mpr ⟨⟨_, _, _, rfl, by decide, gt_in 537 (by decide +kernel) rfl⟩, List.forall_mem_cons.mpr ⟨⟨_, _, _, rfl, by decide, gt_in 540 (by decide +kernel) rfl⟩, List.forall_mem_cons.mpr ⟨⟨_, _, _, rfl, by decide, gt_in 542 (by decide +kernel) rfl⟩, List.forall_mem_cons.mpr ⟨⟨_, _, _, rfl, by decide, gt_in 544 (by decide +kernel) rfl⟩, List.forall_mem_cons.mpr ⟨⟨_, _, _, rfl, by decide, gt_in 545 (by decide +kernel) rfl⟩, List.forall_mem_cons.mpr ⟨⟨_, _, _, rfl, by decide, gt_in 546 (by decide +kernel) rfl⟩, List.forall_mem_cons.mpr ⟨⟨_, _, _, rfl, by decide, gt_in 638 (by decide +kernel) rfl⟩, List.forall_mem_cons.mpr ⟨⟨_, _, _, rfl, by decide, gt_in 639 (by decide +kernel) rfl⟩, List.forall_mem_cons.mpr ⟨⟨_, _, _, rfl, by decide, gt_in 640 (by decide +kernel) rfl⟩, List.forall_mem_cons.mpr ⟨⟨_, _, _, rfl, by decide, gt_in 641 (by decide +kernel) rfl⟩, List.forall_mem_cons.mpr ⟨⟨_, _, _, rfl, by decide, gt_in 642 (by decide +kernel) rfl⟩, List.forall_mem_cons.mpr ⟨⟨_, _, _, rfl, by decide, gt_in 643 (by decide +kernel) rfl⟩, List.forall_mem_cons.mpr ⟨⟨_, _, _, rfl, by decide, gt_in 644 (by decide +kernel) rfl⟩, List.forall_mem_cons.mpr ⟨⟨_, _, _, rfl, by decide, gt_in 645 (by decide +kernel) rfl⟩, List.forall_mem_cons.mpr ⟨⟨_, _, _, rfl, by decide, gt_in 646 (by decide +kernel) rfl⟩, List.forall_mem_cons.mpr ⟨⟨_, _, _, rfl, by decide, gt_in 647 (by decide +kernel) rfl⟩, List.forall_mem_cons.mpr ⟨⟨_, _, _, rfl, by decide, gt_in 679 (by decide +kernel) rfl⟩, List.forall_mem_cons.mpr ⟨⟨_, _, _, rfl, by decide, gt_in 680 (by decide +kernel) rfl⟩, List.forall_mem_cons.mpr ⟨⟨_, _, _, rfl, by decide, gt_in 681 (by decide +kernel) rfl⟩, List.forall_mem_cons.mpr ⟨⟨_, _, _, rfl, by decide, gt_in 683 (by decide +kernel) rfl⟩, List.forall_mem_cons.mpr ⟨⟨_, _, _, rfl, by decide, gt_in 687 (by decide +kernel) rfl⟩, List.forall_mem_cons.mpr ⟨⟨_, _, _, rfl, by decide, gt_in 691 (by decide +kernel) rfl⟩, List.forall_mem_cons.mpr ⟨⟨_, _, _, rfl, by decide, gt_in 693 (by decide +kernel) rfl⟩, List.forall_mem_cons.mpr ⟨⟨_, _, _, rfl, by decide, gt_in 694 (by decide +kernel) rfl⟩, List.forall_mem_cons.mpr ⟨⟨_, _, _, rfl, by decide, gt_in 696 (by decide +kernel) rfl⟩, List.forall_mem_cons.mpr ⟨⟨_, _, _, rfl, by decide, gt_in 699 (by decide +kernel) rfl⟩, List.forall_mem_cons.mpr ⟨⟨_, _, _, rfl, by decide, gt_in 700 (by decide +kernel) rfl⟩, List.forall_mem_cons.mpr ⟨⟨_, _, _, rfl, by decide, gt_in 895 (by decide +kernel) rfl⟩, List.forall_mem_cons.mpr ⟨⟨_, _, _, rfl, by decide, gt_in 896 (by decide +kernel) rfl⟩, List.forall_mem_cons.mpr ⟨⟨_, _, _, rfl, by decide, gt_in 897 (by decide +kernel) rfl⟩, List.forall_mem_cons.mpr ⟨⟨_, _, _, rfl, by decide, gt_in 898 (by decide +kernel) rfl⟩, List.forall_mem_cons.mpr ⟨⟨_, _, _, rfl, by decide, gt_in 899 (by decide +kernel) rfl⟩, List.forall_mem_cons.mpr ⟨⟨_, _, _, rfl, by decide, gt_in 997 (by decide +kernel) rfl⟩, List.forall_mem_cons.mpr ⟨⟨_, _, _, rfl, by decide, gt_in 998 (by decide +kernel) rfl⟩, List.forall_mem_cons.mpr ⟨⟨_, _, _, rfl, by decide, gt_in 999 (by decide +kernel) rfl⟩, List.forall_mem_cons.mpr ⟨⟨_, _, _, rfl, by decide, gt_in 1000 (by decide +kernel) rfl⟩, List.forall_mem_cons.mpr ⟨⟨_, _, _, rfl, by decide, gt_in 1001 (by decide +kernel) rfl⟩, fun _ h => absurd h List.not_mem_nil⟩⟩⟩⟩⟩⟩⟩⟩⟩⟩⟩⟩⟩⟩⟩⟩⟩⟩⟩⟩⟩⟩⟩⟩⟩⟩⟩⟩⟩⟩⟩⟩⟩⟩⟩⟩⟩⟩⟩⟩
def flT_2 : List (Nat × Nat × Nat × Nat) := [(5, 40, 5, 5), (5, 24, 5, 6), (1, 11, 1, 0), (1, 15, 1, 1), (1, 18, 1, 2), (1, 22, 1, 3), (1, 42, 1, 4), (1, 25, 1, 5), (1, 28, 1, 6), (1, 31, 1, 7), (1, 35, 1, 8), (1, 45, 1, 9), (1, 38, 1, 10), (0, 11, 0, 0), (0, 15, 0, 1), (0, 18, 0, 2), (0, 29, 0, 3), (0, 22, 0, 4), (0, 25, 0, 5), (2, 12, 2, 0), (2, 21, 2, 1), (2, 25, 2, 2), (2, 29, 2, 3), (2, 32, 2, 4), (2, 59, 2, 5), (2, 66, 2, 6), (2, 35, 2, 7), (2, 38, 2, 8), (2, 41, 2, 9), (2, 48, 2, 10), (2, 51, 2, 11), (12, 155, 12, 0), (12, 7, 12, 1), (12, 13, 12, 2), (12, 16, 12, 3), (12, 158, 12, 4), (12, 253, 12, 5), (12, 256, 12, 6), (12, 19, 12, 7), (12, 22, 12, 8)]
set_option maxRecDepth 20000 in
theorem flT_2_ok : ∀ q ∈ flT_2, flOK q := List.forall_mem_cons.mpr ⟨⟨_, _, _, rfl, by decide, gt_in 1002 (by decide +kernel) rfl⟩, List.forall_mem_cons.mpr ⟨⟨_, _, _, rfl, by decide, gt_in 1003 (by decide +kernel) rfl⟩, List.forall_mem_cons.mpr ⟨⟨_, _, _, rfl, by decide, gt_in 1078 (by decide +kernel) rfl⟩, List.forall_mem_cons.mpr ⟨⟨_, _, _, rfl, by decide, gt_in 1079 (by decide +kernel) rfl⟩, List.forall_mem_cons.mpr ⟨⟨_, _, _, rfl, by decide, gt_in 1080 (by decide +kernel) rfl⟩, List.forall_mem_cons.mpr ⟨⟨_, _, _, rfl, by decide, gt_in 1081 (by decide +kernel) rfl⟩, List.forall_mem_cons.mpr ⟨⟨_, _, _, rfl, by decide, gt_in 1082 (by decide +kernel) rfl⟩, List.forall_mem_cons.mpr ⟨⟨_, _, _, rfl, by decide, gt_in 1083 (by decide +kernel) rfl⟩, List.forall_mem_cons.mpr ⟨⟨_, _, _, rfl, by decide, gt_in 1084 (by decide +kernel) rfl⟩, List.forall_mem_cons.mpr ⟨⟨_, _, _, rfl, by decide, gt_in 1085 (by decide +kernel) rfl⟩, List.forall_mem_cons.mpr ⟨⟨_, _, _, rfl, by decide, gt_in 1086 (by decide +kernel) rfl⟩, List.forall_mem_cons.mpr ⟨⟨_, _, _, rfl, by decide, gt_in 1087 (by decide +kernel) rfl⟩, List.forall_mem_cons.mpr ⟨⟨_, _, _, rfl, by decide, gt_in 1088 (by decide +kernel) rfl⟩, List.forall_mem_cons.mpr ⟨⟨_, _, _, rfl, by decide, gt_in 1204 (by decide +kernel) rfl⟩, List.forall_mem_cons.mpr ⟨⟨_, _, _, rfl, by decide, gt_in 1205 (by decide +kernel) rfl⟩, List.forall_mem_cons.mpr ⟨⟨_, _, _, rfl, by decide, gt_in 1206 (by decide +kernel) rfl⟩, List.forall_mem_cons.mpr ⟨⟨_, _, _, rfl, by decide, gt_in 1207 (by decide +kernel) rfl⟩, List.forall_mem_cons.mpr ⟨⟨_, _, _, rfl, by decide, gt_in 1208 (by decide +kernel) rfl⟩, List.forall_mem_cons.mpr ⟨⟨_, _, _, rfl, by decide, gt_in 1209 (by decide +kernel) rfl⟩, List.forall_mem_cons.mpr ⟨⟨_, _, _, rfl, by decide, gt_in 1298 (by decide +kernel) rfl⟩, List.forall_mem_cons.mpr ⟨⟨_, _, _, rfl, by decide, gt_in 1299 (by decide +kernel) rfl⟩, List.forall_mem_cons.mpr ⟨⟨_, _, _, rfl, by decide, gt_in 1300 (by decide +kernel) rfl⟩, List.forall_mem_cons.mpr ⟨⟨_, _, _, rfl, by decide, gt_in 1301 (by decide +kernel) rfl⟩, List.forall_mem_cons.mpr ⟨⟨_, _, _, rfl, by decide, gt_in 1302 (by decide +kernel) rfl⟩, List.forall_mem_cons.mpr ⟨⟨_, _, _, rfl, by decide, gt_in 1303 (by decide +kernel) rfl⟩, List.forall_mem_cons.mpr ⟨⟨_, _, _, rfl, by decide, gt_in 1304 (by decide +kernel) rfl⟩, List.forall_mem_cons.mpr ⟨⟨_, _, _, rfl, by decide, gt_in 1305 (by decide +kernel) rfl⟩, List.forall_mem_cons.mpr ⟨⟨_, _, _, rfl, by decide, gt_in 1306 (by decide +kernel) rfl⟩, List.forall_mem_cons.mpr ⟨⟨_, _, _, rfl, by decide, gt_in 1307 (by decide +kernel) rfl⟩, List.forall_mem_cons.mpr ⟨⟨_, _, _, rfl, by decide, gt_in 1308 (by decide +kernel) rfl⟩, List.forall_mem_cons.mpr ⟨⟨_, _, _, rfl, by decide, gt_in 1309 (by decide +kernel) rfl⟩, List.forall_mem_cons.mpr ⟨⟨_, _, _, rfl, by decide, gt_in 1409 (by decide +kernel) rfl⟩, List.forall_mem_cons.mpr ⟨⟨_, _, _, rfl, by decide, gt_in 1410 (by decide +kernel) rfl⟩, List.forall_mem_cons.mpr ⟨⟨_, _, _, rfl, by decide, gt_in 1411 (by decide +kernel) rfl⟩, List.forall_mem_cons.mpr ⟨⟨_, _, _, rfl, by decide, gt_in 1412 (by decide +kernel) rfl⟩, List.forall_mem_cons.mpr ⟨⟨_, _, _, rfl, by decide, gt_in 1413 (by decide +kernel) rfl⟩, List.forall_mem_cons.mpr ⟨⟨_, _, _, rfl, by decide, gt_in 1414 (by decide +kernel) rfl⟩, List.forall_mem_cons.mpr ⟨⟨_, _, _, rfl, by decide, gt_in 1415 (by decide +kernel) rfl⟩, List.forall_mem_cons.mpr ⟨⟨_, _, _, rfl, by decide, gt_in 1416 (by decide +kernel) rfl⟩, List.forall_mem_cons.mpr ⟨⟨_, _, _, rfl, by decide, gt_in 1417 (by decide +kernel) rfl⟩, fun _ h => absurd h List.not_mem_nil⟩⟩⟩⟩⟩⟩⟩⟩⟩⟩⟩⟩⟩⟩⟩⟩⟩⟩⟩⟩⟩⟩⟩⟩⟩⟩⟩⟩⟩⟩⟩⟩⟩⟩⟩⟩⟩⟩⟩⟩
def flT_3 : List (Nat × Nat × Nat × Nat) := [(12, 25, 12, 9), (12, 28, 12, 10), (12, 31, 12, 11), (12, 169, 12, 12), (12, 176, 12, 13), (12, 186, 12, 14), (12, 179, 12, 15), (12, 189, 12, 16), (12, 250, 12, 17), (12, 34, 12, 18), (12, 196, 12, 19), (12, 199, 12, 20), (12, 223, 12, 21), (12, 229, 12, 22), (12, 38, 12, 23), (12, 259, 12, 24), (12, 268, 12, 25), (12, 272, 12, 26), (12, 41, 12, 27), (12, 44, 12, 28), (12, 47, 12, 29), (12, 50, 12, 30), (12, 53, 12, 31), (12, 314, 12, 32), (12, 327, 12, 33), (12, 330, 12, 34), (12, 57, 12, 35), (12, 60, 12, 36), (12, 63, 12, 37), (12, 339, 12, 38), (12, 66, 12, 39), (12, 69, 12, 40), (12, 374, 12, 41), (12, 377, 12, 42), (12, 73, 12, 43), (12, 76, 12, 44), (12, 79, 12, 45), (12, 82, 12, 46), (12, 391, 12, 47), (12, 85, 12, 48)]
set_option maxRecDepth 20000 in
theorem flT_3_ok : ∀ q ∈ flT_3, flOK q := List.forall_mem_cons.mpr ⟨⟨_, _, _, rfl, by decide, gt_in 1418 (by decide +kernel) rfl⟩, List.forall_mem_cons.mpr ⟨⟨_, _, _, rfl, by decide, gt_in 1419 (by decide +kernel) rfl⟩, List.forall_mem_cons.mpr ⟨⟨_, _, _, rfl, by decide, gt_in 1420 (by decide +kernel) rfl⟩, List.forall_mem_cons.mpr ⟨⟨_, _, _, rfl, by decide, gt_in 1421 (by decide +kernel) rfl⟩, List.forall_mem_cons.mpr ⟨⟨_, _, _, rfl, by decide, gt_in 1422 (by decide +kernel) rfl⟩, List.forall_mem_cons.mpr ⟨⟨_, _, _, rfl, by decide, gt_in 1423 (by decide +kernel) rfl⟩, List.forall_mem_cons.mpr ⟨⟨_, _, _, rfl, by decide, gt_in 1424 (by decide +kernel) rfl⟩, List.forall_mem_cons.mpr ⟨⟨_, _, _, rfl, by decide, gt_in 1425 (by decide +kernel) rfl⟩, List.forall_mem_cons.mpr ⟨⟨_, _, _, rfl, by decide, gt_in 1426 (by decide +kernel) rfl⟩, List.forall_mem_cons.mpr ⟨⟨_, _, _, rfl, by decide, gt_in 1427 (by decide +kernel) rfl⟩, List.forall_mem_cons.mpr ⟨⟨_, _, _, rfl, by decide, gt_in 1428 (by decide +kernel) rfl⟩, List.forall_mem_cons.mpr ⟨⟨_, _, _, rfl, by decide, gt_in 1429 (by decide +kernel) rfl⟩, List.forall_mem_cons.mpr ⟨⟨_, _, _, rfl, by decide, gt_in 1430 (by decide +kernel) rfl⟩, List.forall_mem_cons.mpr ⟨⟨_, _, _, rfl, by decide, gt_in 1431 (by decide +kernel) rfl⟩, List.forall_mem_cons.mpr ⟨⟨_, _, _, rfl, by decide, gt_in 1432 (by decide +kernel) rfl⟩, List.forall_mem_cons.mpr ⟨⟨_, _, _, rfl, by decide, gt_in 1433 (by decide +kernel) rfl⟩, List.forall_mem_cons.mpr ⟨⟨_, _, _, rfl, by decide, gt_in 1434 (by decide +kernel) rfl⟩, List.forall_mem_cons.mpr ⟨⟨_, _, _, rfl, by decide, gt_in 1435 (by decide +kernel) rfl⟩, List.forall_mem_cons.mpr ⟨⟨_, _, _, rfl, by decide, gt_in 1436 (by decide +kernel) rfl⟩, List.forall_mem_cons.mpr ⟨⟨_, _, _, rfl, by decide, gt_in 1437 (by decide +kernel) rfl⟩, List.forall_mem_cons.mpr ⟨⟨_, _, _, rfl, by decide, gt_in 1438 (by decide +kernel) rfl⟩, List.forall_mem_cons.mpr ⟨⟨_, _, _, rfl, by decide, gt_in 1439 (by decide +kernel) rfl⟩, List.forall_mem_cons.mpr ⟨⟨_, _, _, rfl, by decide, gt_in 1440 (by decide +kernel) rfl⟩, List.forall_mem_cons.mpr ⟨⟨_, _, _, rfl, by decide, gt_in 1441 (by decide +kernel) rfl⟩, List.forall_mem_cons.mpr ⟨⟨_, _, _, rfl, by decide, gt_in 1442 (by decide +kernel) rfl⟩, List.forall_mem_cons.mpr ⟨⟨_, _, _, rfl, by decide, gt_in 1443 (by decide +kernel) rfl⟩, List.forall_mem_cons.mpr ⟨⟨_, _, _, rfl, by decide, gt_in 1444 (by decide +kernel) rfl⟩, List.forall_mem_cons.mpr ⟨⟨_, _, _, rfl, by decide, gt_in 1445 (by decide +kernel) rfl⟩, List.forall_mem_cons.mpr ⟨⟨_, _, _, rfl, by decide, gt_in 1446 (by decide +kernel) rfl⟩, List.forall_mem_cons.mpr ⟨⟨_, _, _, rfl, by decide, gt_in 1447 (by decide +kernel) rfl⟩, List.forall_mem_cons.mpr ⟨⟨_, _, _, rfl, by decide, gt_in 1448 (by decide +kernel) rfl⟩, List.forall_mem_cons.mpr ⟨⟨_, _, _, rfl, by decide, gt_in 1449 (by decide +kernel) rfl⟩, List.forall_mem_cons.mpr ⟨⟨_, _, _, rfl, by decide, gt_in 1450 (by decide +kernel) rfl⟩, List.forall_mem_cons.mpr ⟨⟨_, _, _, rfl, by decide, gt_in 1451 (by decide +kernel) rfl⟩, List.forall_mem_cons.mpr ⟨⟨_, _, _, rfl, by decide, gt_in 1452 (by decide +kernel) rfl⟩, List.forall_mem_cons.mpr ⟨⟨_, _, _, rfl, by decide, gt_in 1453 (by decide +kernel) rfl⟩, List.forall_mem_cons.mpr ⟨⟨_, _, _, rfl, by decide, gt_in 1454 (by decide +kernel) rfl⟩, List.forall_mem_cons.mpr ⟨⟨_, _, _, rfl, by decide, gt_in 1455 (by decide +kernel) rfl⟩, List.forall_mem_cons.mpr ⟨⟨_, _, _, rfl, by decide, gt_in 1456 (by decide +kernel) rfl⟩, List.forall_mem_cons.mpr ⟨⟨_, _, _, rfl, by decide, gt_in 1457 (by decide +kernel) rfl⟩, fun _ h => absurd h List.not_mem_nil⟩⟩⟩⟩⟩⟩⟩⟩⟩⟩⟩⟩⟩⟩⟩⟩⟩⟩⟩⟩⟩⟩⟩⟩⟩⟩⟩⟩⟩⟩⟩⟩⟩⟩⟩⟩⟩⟩⟩⟩
def flT_4 : List (Nat × Nat × Nat × Nat) := [(12, 89, 12, 49), (12, 92, 12, 50), (12, 95, 12, 51), (12, 98, 12, 52), (12, 414, 12, 53), (12, 102, 12, 54), (12, 106, 12, 55), (12, 109, 12, 56), (12, 112, 12, 57), (12, 115, 12, 58), (12, 118, 12, 59), (12, 121, 12, 60), (12, 450, 12, 61), (12, 454, 12, 62), (12, 124, 12, 63), (12, 127, 12, 64), (12, 131, 12, 65), (12, 134, 12, 66), (12, 137, 12, 67), (12, 140, 12, 68), (12, 143, 12, 69), (12, 275, 12, 70), (12, 476, 12, 71), (12, 146, 12, 72), (12, 149, 12, 73), (12, 495, 12, 74), (12, 152, 12, 75), (12, 262, 12, 76)]
set_option maxRecDepth 20000 in
theorem flT_4_ok : ∀ q ∈ flT_4, flOK q := List.forall_mem_cons.mpr ⟨⟨_, _, _, rfl, by decide, gt_in 1458 (by decide +kernel) rfl⟩, List.forall_mem_cons.mpr ⟨⟨_, _, _, rfl, by decide, gt_in 1459 (by decide +kernel) rfl⟩, List.forall_mem_cons.mpr ⟨⟨_, _, _, rfl, by decide, gt_in 1460 (by decide +kernel) rfl⟩, List.forall_mem_cons.mpr ⟨⟨_, _, _, rfl, by decide, gt_in 1461 (by decide +kernel) rfl⟩, List.forall_mem_cons.mpr ⟨⟨_, _, _, rfl, by decide, gt_in 1462 (by decide +kernel) rfl⟩, List.forall_mem_cons.mpr ⟨⟨_, _, _, rfl, by decide, gt_in 1463 (by decide +kernel) rfl⟩, List.forall_mem_cons.mpr ⟨⟨_, _, _, rfl, by decide, gt_in 1464 (by decide +kernel) rfl⟩, List.forall_mem_cons.mpr ⟨⟨_, _, _, rfl, by decide, gt_in 1465 (by decide +kernel) rfl⟩, List.forall_mem_cons.mpr ⟨⟨_, _, _, rfl, by decide, gt_in 1466 (by decide +kernel) rfl⟩, List.forall_mem_cons.mpr ⟨⟨_, _, _, rfl, by decide, gt_in 1467 (by decide +kernel) rfl⟩, List.forall_mem_cons.mpr ⟨⟨_, _, _, rfl, by decide, gt_in 1468 (by decide +kernel) rfl⟩, List.forall_mem_cons.mpr ⟨⟨_, _, _, rfl, by decide, gt_in 1469 (by decide +kernel) rfl⟩, List.forall_mem_cons.mpr ⟨⟨_, _, _, rfl, by decide, gt_in 1470 (by decide +kernel) rfl⟩, List.forall_mem_cons.mpr ⟨⟨_, _, _, rfl, by decide, gt_in 1471 (by decide +kernel) rfl⟩, List.forall_mem_cons.mpr ⟨⟨_, _, _, rfl, by decide, gt_in 1472 (by decide +kernel) rfl⟩, List.forall_mem_cons.mpr ⟨⟨_, _, _, rfl, by decide, gt_in 1473 (by decide +kernel) rfl⟩, List.forall_mem_cons.mpr ⟨⟨_, _, _, rfl, by decide, gt_in 1474 (by decide +kernel) rfl⟩, List.forall_mem_cons.mpr ⟨⟨_, _, _, rfl, by decide, gt_in 1475 (by decide +kernel) rfl⟩, List.forall_mem_cons.mpr ⟨⟨_, _, _, rfl, by decide, gt_in 1476 (by decide +kernel) rfl⟩, List.forall_mem_cons.mpr ⟨⟨_, _, _, rfl, by decide, gt_in 1477 (by decide +kernel) rfl⟩, List.forall_mem_cons.mpr ⟨⟨_, _, _, rfl, by decide, gt_in 1478 (by decide +kernel) rfl⟩, List.forall_mem_cons.mpr ⟨⟨_, _, _, rfl, by decide, gt_in 1479 (by decide +kernel) rfl⟩, List.forall_mem_cons.mpr ⟨⟨_, _, _, rfl, by decide, gt_in 1480 (by decide +kernel) rfl⟩, List.forall_mem_cons.mpr ⟨⟨_, _, _, rfl, by decide, gt_in 1481 (by decide +kernel) rfl⟩, List.forall_mem_cons.mpr ⟨⟨_, _, _, rfl, by decide, gt_in 1482 (by decide +kernel) rfl⟩, List.forall_mem_cons.mpr ⟨⟨_, _, _, rfl, by decide, gt_in 1483 (by decide +kernel) rfl⟩, List.forall_mem_cons.mpr ⟨⟨_, _, _, rfl, by decide, gt_in 1484 (by decide +kernel) rfl⟩, List.forall_mem_cons.mpr ⟨⟨_, _, _, rfl, by decide, gt_in 1485 (by decide +kernel) rfl⟩, fun _ h => absurd h List.not_mem_nil⟩⟩⟩⟩⟩⟩⟩⟩⟩⟩⟩⟩⟩⟩⟩⟩⟩⟩⟩⟩⟩⟩⟩⟩⟩⟩⟩⟩
def flT : List (Nat × Nat × Nat × Nat) := flT_0 ++ (flT_1 ++ (flT_2 ++ (flT_3 ++ (flT_4))))
theorem flT_ok : ∀ q ∈ flT, flOK q := (List.forall_mem_append.mpr ⟨flT_0_ok, (List.forall_mem_append.mpr ⟨flT_1_ok, (List.forall_mem_append.mpr ⟨flT_2_ok, (List.forall_mem_append.mpr ⟨flT_3_ok, flT_4_ok⟩)⟩)⟩)⟩)
def flN_0 : List (Nat × Nat × Nat × Nat) := [(8, 66, 3, 0), (6, 80, 3, 0), (10, 41, 3, 0), (5, 70, 3, 0), (11, 76, 3, 0), (4, 74, 3, 0), (8, 70, 3, 1), (4, 22, 3, 1), (2, 76, 3, 1), (6, 81, 3, 1), (5, 57, 3, 1), (10, 44, 3, 1), (11, 70, 3, 1), (5, 54, 3, 2), (11, 66, 3, 2), (10, 80, 3, 2), (8, 59, 3, 3), (6, 69, 3, 3), (2, 69, 3, 3), (5, 47, 3, 3), (4, 28, 3, 3), (11, 56, 3, 3), (10, 51, 3, 3), (5, 31, 3, 4), (11, 84, 3, 4), (11, 87, 3, 5), (6, 41, 3, 6), (8, 44, 3, 6), (2, 44, 3, 6), (11, 298, 3, 6), (11, 97, 3, 9), (3, 44, 7, 1), (3, 50, 7, 2), (3, 57, 7, 3), (3, 58, 7, 4), (3, 39, 7, 5), (11, 46, 7, 7), (11, 59, 7, 8), (1, 122, 10, 0), (11, 168, 10, 0)]
set_option maxRecDepth 20000 in
theorem flN_0_ok : ∀ q ∈ flN_0, fnOK q := List.forall_mem_cons.mpr ⟨⟨_, _, _, rfl, by decide, nt_in 206 (by decide +kernel) rfl⟩, List.forall_mem_cons.mpr ⟨⟨_, _, _, rfl, by decide, nt_in 207 (by decide +kernel) rfl⟩, List.forall_mem_cons.mpr ⟨⟨_, _, _, rfl, by decide, nt_in 208 (by decide +kernel) rfl⟩, List.forall_mem_cons.mpr ⟨⟨_, _, _, rfl, by decide, nt_in 209 (by decide +kernel) rfl⟩, List.forall_mem_cons.mpr ⟨⟨_, _, _, rfl, by decide, nt_in 210 (by decide +kernel) rfl⟩, List.forall_mem_cons.mpr ⟨⟨_, _, _, rfl, by decide, nt_in 211 (by decide +kernel) rfl⟩, List.forall_mem_cons.mpr ⟨⟨_, _, _, rfl, by decide, nt_in 213 (by decide +kernel) rfl⟩, List.forall_mem_cons.mpr ⟨⟨_, _, _, rfl, by decide, nt_in 214 (by decide +kernel) rfl⟩, List.forall_mem_cons.mpr ⟨⟨_, _, _, rfl, by decide, nt_in 215 (by decide +kernel) rfl⟩, List.forall_mem_cons.mpr ⟨⟨_, _, _, rfl, by decide, nt_in 216 (by decide +kernel) rfl⟩, List.forall_mem_cons.mpr ⟨⟨_, _, _, rfl, by decide, nt_in 217 (by decide +kernel) rfl⟩, List.forall_mem_cons.mpr ⟨⟨_, _, _, rfl, by decide, nt_in 218 (by decide +kernel) rfl⟩, List.forall_mem_cons.mpr ⟨⟨_, _, _, rfl, by decide, nt_in 219 (by decide +kernel) rfl⟩, List.forall_mem_cons.mpr ⟨⟨_, _, _, rfl, by decide, nt_in 221 (by decide +kernel) rfl⟩, List.forall_mem_cons.mpr ⟨⟨_, _, _, rfl, by decide, nt_in 222 (by decide +kernel) rfl⟩, List.forall_mem_cons.mpr ⟨⟨_, _, _, rfl, by decide, nt_in 223 (by decide +kernel) rfl⟩, List.forall_mem_cons.mpr ⟨⟨_, _, _, rfl, by decide, nt_in 225 (by decide +kernel) rfl⟩, List.forall_mem_cons.mpr ⟨⟨_, _, _, rfl, by decide, nt_in 226 (by decide +kernel) rfl⟩, List.forall_mem_cons.mpr ⟨⟨_, _, _, rfl, by decide, nt_in 227 (by decide +kernel) rfl⟩, List.forall_mem_cons.mpr ⟨⟨_, _, _, rfl, by decide, nt_in 228 (by decide +kernel) rfl⟩, List.forall_mem_cons.mpr ⟨⟨_, _, _, rfl, by decide, nt_in 229 (by decide +kernel) rfl⟩, List.forall_mem_cons.mpr ⟨⟨_, _, _, rfl, by decide, nt_in 230 (by decide +kernel) rfl⟩, List.forall_mem_cons.mpr ⟨⟨_, _, _, rfl, by decide, nt_in 231 (by decide +kernel) rfl⟩, List.forall_mem_cons.mpr ⟨⟨_, _, _, rfl, by decide, nt_in 232 (by decide +kernel) rfl⟩, List.forall_mem_cons.mpr ⟨⟨_, _, _, rfl, by decide, nt_in 234 (by decide +kernel) rfl⟩, List.forall_mem_cons.mpr ⟨⟨_, _, _, rfl, by decide, nt_in 236 (by decide +kernel) rfl⟩, List.forall_mem_cons.mpr ⟨⟨_, _, _, rfl, by decide, nt_in 237 (by decide +kernel) rfl⟩, List.forall_mem_cons.mpr ⟨⟨_, _, _, rfl, by decide, nt_in 238 (by decide +kernel) rfl⟩, List.forall_mem_cons.mpr ⟨⟨_, _, _, rfl, by decide, nt_in 239 (by decide +kernel) rfl⟩, List.forall_mem_cons.mpr ⟨⟨_, _, _, rfl, by decide, nt_in 241 (by decide +kernel) rfl⟩, List.forall_mem_cons.mpr ⟨⟨_, _, _, rfl, by decide, nt_in 245 (by decide +kernel) rfl⟩, List.forall_mem_cons.mpr ⟨⟨_, _, _, rfl, by decide, nt_in 278 (by decide +kernel) rfl⟩, List.forall_mem_cons.mpr ⟨⟨_, _, _, rfl, by decide, nt_in 280 (by decide +kernel) rfl⟩, List.forall_mem_cons.mpr ⟨⟨_, _, _, rfl, by decide, nt_in 282 (by decide +kernel) rfl⟩, List.forall_mem_cons.mpr ⟨⟨_, _, _, rfl, by decide, nt_in 284 (by decide +kernel) rfl⟩, List.forall_mem_cons.mpr ⟨⟨_, _, _, rfl, by decide, nt_in 286 (by decide +kernel) rfl⟩, List.forall_mem_cons.mpr ⟨⟨_, _, _, rfl, by decide, nt_in 289 (by decide +kernel) rfl⟩, List.forall_mem_cons.mpr ⟨⟨_, _, _, rfl, by decide, nt_in 291 (by decide +kernel) rfl⟩, List.forall_mem_cons.mpr ⟨⟨_, _, _, rfl, by decide, nt_in 318 (by decide +kernel) rfl⟩, List.forall_mem_cons.mpr ⟨⟨_, _, _, rfl, by decide, nt_in 319 (by decide +kernel) rfl⟩, fun _ h => absurd h List.not_mem_nil⟩⟩⟩⟩⟩⟩⟩⟩⟩⟩⟩⟩⟩⟩⟩⟩⟩⟩⟩⟩⟩⟩⟩⟩⟩⟩⟩⟩⟩⟩⟩⟩⟩⟩⟩⟩⟩⟩⟩⟩
def flN_1 : List (Nat × Nat × Nat × Nat) := [(4, 42, 10, 1), (11, 94, 10, 1), (1, 119, 10, 1), (11, 175, 10, 2), (11, 130, 6, 0), (11, 131, 6, 1), (11, 120, 6, 5), (2, 104, 6, 6), (11, 115, 6, 6), (2, 107, 6, 7), (11, 307, 6, 8), (9, 80, 8, 2), (1, 82, 8, 3), (9, 83, 8, 3), (0, 77, 8, 3), (0, 39, 8, 4), (1, 91, 8, 4), (9, 77, 8, 4), (0, 80, 8, 5), (0, 70, 8, 7), (0, 67, 8, 8), (0, 36, 8, 9), (11, 295, 8, 10), (11, 316, 1, 10), (11, 325, 0, 5)]
set_option maxRecDepth 20000 in
theorem flN_1_ok : ∀ q ∈ flN_1, fnOK q := List.forall_mem_cons.mpr ⟨⟨_, _, _, rfl, by decide, nt_in 321 (by decide +kernel) rfl⟩, List.forall_mem_cons.mpr ⟨⟨_, _, _, rfl, by decide, nt_in 322 (by decide +kernel) rfl⟩, List.forall_mem_cons.mpr ⟨⟨_, _, _, rfl, by decide, nt_in 323 (by decide +kernel) rfl⟩, List.forall_mem_cons.mpr ⟨⟨_, _, _, rfl, by decide, nt_in 325 (by decide +kernel) rfl⟩, List.forall_mem_cons.mpr ⟨⟨_, _, _, rfl, by decide, nt_in 529 (by decide +kernel) rfl⟩, List.forall_mem_cons.mpr ⟨⟨_, _, _, rfl, by decide, nt_in 531 (by decide +kernel) rfl⟩, List.forall_mem_cons.mpr ⟨⟨_, _, _, rfl, by decide, nt_in 536 (by decide +kernel) rfl⟩, List.forall_mem_cons.mpr ⟨⟨_, _, _, rfl, by decide, nt_in 538 (by decide +kernel) rfl⟩, List.forall_mem_cons.mpr ⟨⟨_, _, _, rfl, by decide, nt_in 539 (by decide +kernel) rfl⟩, List.forall_mem_cons.mpr ⟨⟨_, _, _, rfl, by decide, nt_in 541 (by decide +kernel) rfl⟩, List.forall_mem_cons.mpr ⟨⟨_, _, _, rfl, by decide, nt_in 543 (by decide +kernel) rfl⟩, List.forall_mem_cons.mpr ⟨⟨_, _, _, rfl, by decide, nt_in 682 (by decide +kernel) rfl⟩, List.forall_mem_cons.mpr ⟨⟨_, _, _, rfl, by decide, nt_in 684 (by decide +kernel) rfl⟩, List.forall_mem_cons.mpr ⟨⟨_, _, _, rfl, by decide, nt_in 685 (by decide +kernel) rfl⟩, List.forall_mem_cons.mpr ⟨⟨_, _, _, rfl, by decide, nt_in 686 (by decide +kernel) rfl⟩, List.forall_mem_cons.mpr ⟨⟨_, _, _, rfl, by decide, nt_in 688 (by decide +kernel) rfl⟩, List.forall_mem_cons.mpr ⟨⟨_, _, _, rfl, by decide, nt_in 689 (by decide +kernel) rfl⟩, List.forall_mem_cons.mpr ⟨⟨_, _, _, rfl, by decide, nt_in 690 (by decide +kernel) rfl⟩, List.forall_mem_cons.mpr ⟨⟨_, _, _, rfl, by decide, nt_in 692 (by decide +kernel) rfl⟩, List.forall_mem_cons.mpr ⟨⟨_, _, _, rfl, by decide, nt_in 695 (by decide +kernel) rfl⟩, List.forall_mem_cons.mpr ⟨⟨_, _, _, rfl, by decide, nt_in 697 (by decide +kernel) rfl⟩, List.forall_mem_cons.mpr ⟨⟨_, _, _, rfl, by decide, nt_in 698 (by decide +kernel) rfl⟩, List.forall_mem_cons.mpr ⟨⟨_, _, _, rfl, by decide, nt_in 701 (by decide +kernel) rfl⟩, List.forall_mem_cons.mpr ⟨⟨_, _, _, rfl, by decide, nt_in 1089 (by decide +kernel) rfl⟩, List.forall_mem_cons.mpr ⟨⟨_, _, _, rfl, by decide, nt_in 1210 (by decide +kernel) rfl⟩, fun _ h => absurd h List.not_mem_nil⟩⟩⟩⟩⟩⟩⟩⟩⟩⟩⟩⟩⟩⟩⟩⟩⟩⟩⟩⟩⟩⟩⟩⟩⟩
def flN : List (Nat × Nat × Nat × Nat) := flN_0 ++ (flN_1)
theorem flN_ok : ∀ q ∈ flN, fnOK q := (List.forall_mem_append.mpr ⟨flN_0_ok, flN_1_ok⟩)
end
section
/-! the instructions that read or change the heap -/
theorem va_P1 {D : va_G} {cl : List vw_C} {q : Nat × va_E} {H : Heap} (h : va_at D cl q H) : va_P D cl [q] H := fun k x hx => by
  match k, hx with
  | 0, hx => cases hx; exact h
  | k + 1, hx => simp at hx
theorem Wh.at {G : Gx} {h : PH} {H : Heap} (hW : Wh G h H) {c : Nat} {q : Nat × Nat} (hs : h_sh h c = some q) : va_at G.2.2.2.2.1 cls (G.1 + c, cel G h c q) H := (hW.2.2 c q hs).2
theorem cel_congr {G : Gx} {h h' : PH} {c : Nat} (e1 : h_i h' c = h_i h c) (e2 : h_l h' c = h_l h c) (e3 : h_r h' c = h_r h c) (q : Nat × Nat) : cel G h' c q = cel G h c q := by
  have e : fval G h' q.2 c = fval G h q.2 c := by
    funext k
    simp only [fval, e1, e2, e3]
  simp only [cel, e, e1, e2]
theorem Wh.put {G : Gx} {h h' : PH} {H H1 : Heap} (hW : Wh G h H) {c : Nat} {q : Nat × Nat} (hs : h_sh h c = some q) (z : H1.size = H.size) (oq : ∀ x : Nat, x ≠ G.1 + c → H1[x]? = H[x]?) (hat : va_at G.2.2.2.2.1 cls (G.1 + c, cel G h' c q) H1)
    (es : h_sh h' = h_sh h) (ec : h_ct h' = h_ct h) (esc : h_sc h' = h_sc h) (eo : ∀ c', c' ≠ c → h_i h' c' = h_i h c' ∧ h_l h' c' = h_l h c' ∧ h_r h' c' = h_r h c') : Wh G h' H1 := by
  refine ⟨by rw [z, ec]; exact hW.1, esc.trans hW.2.1, fun c' q' hs' => ?_⟩
  rw [es] at hs'
  obtain ⟨h1, h2⟩ := hW.2.2 c' q' hs'
  refine ⟨by rw [ec]; exact h1, ?_⟩
  by_cases hc : c' = c
  · subst hc
    cases hs.symm.trans hs'
    exact hat
  · obtain ⟨e1, e2, e3⟩ := eo c' hc
    rw [cel_congr e1 e2 e3]
    exact h2.kept (oq _ (by show G.1 + c' ≠ G.1 + c; omega))
theorem Wh.lt {G : Gx} {h : PH} {H : Heap} (hW : Wh G h H) {c : Nat} {q : Nat × Nat} (hs : h_sh h c = some q) : c < h_ct h := (hW.2.2 c q hs).1
theorem Ax_ad (G : Gx) (c : Nat) : Ax G (G.1 + c) := Nat.le_add_right _ _
-- arrays: reading
def s_iaload : PSem := fun i pc ls st h => match st with
  | .int x :: .ref a :: rest => match h_sh h a with
    | some (1, n) => if x < 0 ∨ n ≤ x.toNatClampNeg then none else some (pc + 1, ls, .int (h_i h a x.toNatClampNeg) :: rest, h)
    | _ => none
  | _ => none
def c_iaload : PChk := fun _ _ cc pc _ => match decode cc pc with
  | .ok (.iaload, 1) => true
  | _ => false
theorem z_iaload : SoundP c_iaload s_iaload := by
  intro G p l e R s m args below meth c Q o ini cc nL i pc pls pst h r H locs cells slots rls F hc hs hW hS hL _ _ k
  obtain ⟨hx, hb, hml, hown, hts, hK, -⟩ := F
  unfold c_iaload at hc
  split at hc
  next hd =>
    unfold s_iaload at hs
    split at hs
    next x a rest =>
      split at hs
      next n hsh =>
        split at hs
        · cases hs
        next hne =>
          cases hs
          simp only [Nat.sub_self, Nat.add_zero] at k
          exact va_iald hx hb hK.1 (va_P1 (hW.at hsh)) 0 0 rfl rfl hne hd (k H locs rls hW hS hL)
      · cases hs
    · cases hs
  · cases hc
def s_laload : PSem := fun i pc ls st h => match st with
  | .int x :: .ref a :: rest => match h_sh h a with
    | some (4, n) => if x < 0 ∨ n ≤ x.toNatClampNeg then none else some (pc + 1, ls, .long (h_l h a x.toNatClampNeg) :: rest, h)
    | _ => none
  | _ => none
def c_laload : PChk := fun _ _ cc pc _ => match decode cc pc with
  | .ok (.laload, 1) => true
  | _ => false
theorem z_laload : SoundP c_laload s_laload := by
  intro G p l e R s m args below meth c Q o ini cc nL i pc pls pst h r H locs cells slots rls F hc hs hW hS hL _ _ k
  obtain ⟨hx, hb, hml, hown, hts, hK, -⟩ := F
  unfold c_laload at hc
  split at hc
  next hd =>
    unfold s_laload at hs
    split at hs
    next x a rest =>
      split at hs
      next n hsh =>
        split at hs
        · cases hs
        next hne =>
          cases hs
          simp only [Nat.sub_self, Nat.add_zero] at k
          exact va_lald hx hb hK.1 (va_P1 (hW.at hsh)) 0 3 rfl rfl hne hd (k H locs rls hW hS hL)
      · cases hs
    · cases hs
  · cases hc
def s_baload : PSem := fun i pc ls st h => match st with
  | .int x :: .ref a :: rest => match h_sh h a with
    | some (2, n) => if x < 0 ∨ n ≤ x.toNatClampNeg then none else some (pc + 1, ls, .int (h_i h a x.toNatClampNeg) :: rest, h)
    | some (3, n) => if x < 0 ∨ n ≤ x.toNatClampNeg then none else some (pc + 1, ls, .int (h_i h a x.toNatClampNeg) :: rest, h)
    | _ => none
  | _ => none
def c_baload : PChk := fun _ _ cc pc _ => match decode cc pc with
  | .ok (.baload, 1) => true
  | _ => false
theorem z_baload : SoundP c_baload s_baload := by
  intro G p l e R s m args below meth c Q o ini cc nL i pc pls pst h r H locs cells slots rls F hc hs hW hS hL _ _ k
  obtain ⟨hx, hb, hml, hown, hts, hK, -⟩ := F
  unfold c_baload at hc
  split at hc
  next hd =>
    unfold s_baload at hs
    split at hs
    next x a rest =>
      split at hs
      next n hsh =>
        split at hs
        · cases hs
        next hne =>
          cases hs
          simp only [Nat.sub_self, Nat.add_zero] at k
          exact va_bald hx hb hK.1 (va_P1 (hW.at hsh)) 0 1 rfl rfl hne hd (k H locs rls hW hS hL)
      next n hsh =>
        split at hs
        · cases hs
        next hne =>
          cases hs
          simp only [Nat.sub_self, Nat.add_zero] at k
          exact va_zald hx hb hK.1 (va_P1 (hW.at hsh)) 0 2 rfl rfl hne hd (k H locs rls hW hS hL)
      · cases hs
    · cases hs
  · cases hc
def s_alen : PSem := fun i pc ls st h => match st with
  | .ref a :: rest => match h_sh h a with
    | some (1, n) => some (pc + 1, ls, .int (Int32.ofNat n) :: rest, h)
    | some (2, n) => some (pc + 1, ls, .int (Int32.ofNat n) :: rest, h)
    | some (3, n) => some (pc + 1, ls, .int (Int32.ofNat n) :: rest, h)
    | some (4, n) => some (pc + 1, ls, .int (Int32.ofNat n) :: rest, h)
    | _ => none
  | _ => none
def c_alen : PChk := fun _ _ cc pc _ => match decode cc pc with
  | .ok (.arraylength, 1) => true
  | _ => false
theorem z_alen : SoundP c_alen s_alen := by
  intro G p l e R s m args below meth c Q o ini cc nL i pc pls pst h r H locs cells slots rls F hc hs hW hS hL _ _ k
  obtain ⟨hx, hb, hml, hown, hts, hK, -⟩ := F
  unfold c_alen at hc
  split at hc
  next hd =>
    unfold s_alen at hs
    split at hs
    next a rest =>
      split at hs
      next n hsh =>
        cases hs
        simp only [Nat.sub_self, Nat.add_zero] at k
        exact va_alen hx hb hK.1 (va_P1 (hW.at hsh)) 0 0 rfl rfl rfl hd (k H locs rls hW hS hL)
      next n hsh =>
        cases hs
        simp only [Nat.sub_self, Nat.add_zero] at k
        exact va_alen hx hb hK.1 (va_P1 (hW.at hsh)) 0 1 rfl rfl rfl hd (k H locs rls hW hS hL)
      next n hsh =>
        cases hs
        simp only [Nat.sub_self, Nat.add_zero] at k
        exact va_alen hx hb hK.1 (va_P1 (hW.at hsh)) 0 2 rfl rfl rfl hd (k H locs rls hW hS hL)
      next n hsh =>
        cases hs
        simp only [Nat.sub_self, Nat.add_zero] at k
        exact va_alen hx hb hK.1 (va_P1 (hW.at hsh)) 0 3 rfl rfl rfl hd (k H locs rls hW hS hL)
      · cases hs
    · cases hs
  · cases hc
-- arrays: writing
def s_iastore : PSem := fun i pc ls st h => match st with
  | .int v :: .int x :: .ref a :: rest => match h_sh h a with
    | some (1, n) => if x < 0 ∨ n ≤ x.toNatClampNeg then none else some (pc + 1, ls, rest, w_i h a x.toNatClampNeg v)
    | _ => none
  | _ => none
def c_iastore : PChk := fun _ _ cc pc _ => match decode cc pc with
  | .ok (.iastore, 1) => true
  | _ => false
theorem w_i_oth (h : PH) (a k : Nat) (v : Int32) : ∀ c', c' ≠ a → h_i (w_i h a k v) c' = h_i h c' ∧ h_l (w_i h a k v) c' = h_l h c' ∧ h_r (w_i h a k v) c' = h_r h c' := fun _ hc => ⟨up2_ne _ _ _ hc, rfl, rfl⟩
theorem w_l_oth (h : PH) (a k : Nat) (v : Int64) : ∀ c', c' ≠ a → h_i (w_l h a k v) c' = h_i h c' ∧ h_l (w_l h a k v) c' = h_l h c' ∧ h_r (w_l h a k v) c' = h_r h c' := fun _ hc => ⟨rfl, up2_ne _ _ _ hc, rfl⟩
theorem w_r_oth (h : PH) (a k : Nat) (v : Option Nat) : ∀ c', c' ≠ a → h_i (w_r h a k v) c' = h_i h c' ∧ h_l (w_r h a k v) c' = h_l h c' ∧ h_r (w_r h a k v) c' = h_r h c' := fun _ hc => ⟨rfl, rfl, up2_ne _ _ _ hc⟩
theorem z_iastore : SoundP c_iastore s_iastore := by
  intro G p l e R s m args below meth c Q o ini cc nL i pc pls pst h r H locs cells slots rls F hc hs hW hS hL _ _ k
  obtain ⟨hx, hb, hml, hown, hts, hK, -⟩ := F
  unfold c_iastore at hc
  split at hc
  next hd =>
    unfold s_iastore at hs
    split at hs
    next v x a rest =>
      split at hs
      next n hsh =>
        split at hs
        · cases hs
        next hne =>
          cases hs
          simp only [show h_ct (w_i h a x.toNatClampNeg v) = h_ct h from rfl, show h_sl (w_i h a x.toNatClampNeg v) = h_sl h from rfl, Nat.sub_self, Nat.add_zero] at k
          refine W.iast hx hb (hW.at hsh) ((hK.1.2 0 _ rfl).1 n (fun j => .int (h_i h a j))) (fun q => by cases q) (by show ¬ (x < 0 ∨ (arrV _ _ _).slots.size ≤ _); rw [arrV_size]; exact hne) rfl rfl hd fun H1 e1 z oq => ?_
          refine k H1 _ rls (hW.put hsh z oq ?_ rfl rfl rfl (w_i_oth _ _ _ _)) (hS.put z oq (Ax_ad G a)) hL
          show H1[G.1 + a]? = some (vp_cell _ _)
          refine e1.trans (congrArg some ?_)
          show (vp_cell _ _).setSlot _ _ = vp_cell _ (n, .inl (up2 (h_i h) a x.toNatClampNeg v a))
          rw [vp_cell_i, vp_cell_i, arrV_store, up2_row]
          congr 1
          funext q
          by_cases hq : q = x.toNatClampNeg <;> simp [updV, hq]
      · cases hs
    · cases hs
  · cases hc
def s_lastore : PSem := fun i pc ls st h => match st with
  | .long v :: .int x :: .ref a :: rest => match h_sh h a with
    | some (4, n) => if x < 0 ∨ n ≤ x.toNatClampNeg then none else some (pc + 1, ls, rest, w_l h a x.toNatClampNeg v)
    | _ => none
  | _ => none
def c_lastore : PChk := fun _ _ cc pc _ => match decode cc pc with
  | .ok (.lastore, 1) => true
  | _ => false
theorem z_lastore : SoundP c_lastore s_lastore := by
  intro G p l e R s m args below meth c Q o ini cc nL i pc pls pst h r H locs cells slots rls F hc hs hW hS hL _ _ k
  obtain ⟨hx, hb, hml, hown, hts, hK, -⟩ := F
  unfold c_lastore at hc
  split at hc
  next hd =>
    unfold s_lastore at hs
    split at hs
    next v x a rest =>
      split at hs
      next n hsh =>
        split at hs
        · cases hs
        next hne =>
          cases hs
          simp only [show h_ct (w_l h a x.toNatClampNeg v) = h_ct h from rfl, show h_sl (w_l h a x.toNatClampNeg v) = h_sl h from rfl, Nat.sub_self, Nat.add_zero] at k
          refine W.last hx hb (hW.at hsh) ((hK.1.2 3 _ rfl).1 n (fun j => .long (h_l h a j))) (fun q => by cases q) (by show ¬ (x < 0 ∨ (arrV _ _ _).slots.size ≤ _); rw [arrV_size]; exact hne) rfl rfl hd fun H1 e1 z oq => ?_
          refine k H1 _ rls (hW.put hsh z oq ?_ rfl rfl rfl (w_l_oth _ _ _ _)) (hS.put z oq (Ax_ad G a)) hL
          show H1[G.1 + a]? = some (vp_cell _ _)
          refine e1.trans (congrArg some ?_)
          show (vp_cell _ _).setSlot _ _ = vp_cell _ (n, .inr (.inl (up2 (h_l h) a x.toNatClampNeg v a)))
          rw [vp_cell_l, vp_cell_l, arrV_store, up2_row]
          congr 1
          funext q
          by_cases hq : q = x.toNatClampNeg <;> simp [updV, hq]
      · cases hs
    · cases hs
  · cases hc
def s_bastore : PSem := fun i pc ls st h => match st with
  | .int v :: .int x :: .ref a :: rest => match h_sh h a with
    | some (2, n) => if x < 0 ∨ n ≤ x.toNatClampNeg then none else some (pc + 1, ls, rest, w_i h a x.toNatClampNeg v.toInt8.toInt32)
    | some (3, n) => if x < 0 ∨ n ≤ x.toNatClampNeg then none else some (pc + 1, ls, rest, w_i h a x.toNatClampNeg (v &&& 1))
    | _ => none
  | _ => none
def c_bastore : PChk := fun _ _ cc pc _ => match decode cc pc with
  | .ok (.bastore, 1) => true
  | _ => false
theorem z_bastore : SoundP c_bastore s_bastore := by
  intro G p l e R s m args below meth c Q o ini cc nL i pc pls pst h r H locs cells slots rls F hc hs hW hS hL _ _ k
  obtain ⟨hx, hb, hml, hown, hts, hK, -⟩ := F
  unfold c_bastore at hc
  split at hc
  next hd =>
    unfold s_bastore at hs
    split at hs
    next v x a rest =>
      split at hs
      next n hsh =>
        split at hs
        · cases hs
        next hne =>
          cases hs
          simp only [show h_ct (w_i h a x.toNatClampNeg v.toInt8.toInt32) = h_ct h from rfl, show h_sl (w_i h a x.toNatClampNeg v.toInt8.toInt32) = h_sl h from rfl, Nat.sub_self, Nat.add_zero] at k
          refine W.bast hx hb (hW.at hsh) ((hK.1.2 1 _ rfl).1 n (fun j => .int (h_i h a j))) (fun q => by cases q) (by show ¬ (x < 0 ∨ (arrV _ _ _).slots.size ≤ _); rw [arrV_size]; exact hne) rfl rfl hd fun H1 e1 z oq => ?_
          refine k H1 _ rls (hW.put hsh z oq ?_ rfl rfl rfl (w_i_oth _ _ _ _)) (hS.put z oq (Ax_ad G a)) hL
          show H1[G.1 + a]? = some (vp_cell _ _)
          refine e1.trans (congrArg some ?_)
          show (vp_cell _ _).setSlot _ (.int v.toInt8.toInt32) = vp_cell _ (n, .inl (up2 (h_i h) a x.toNatClampNeg v.toInt8.toInt32 a))
          rw [vp_cell_i, vp_cell_i, arrV_store, up2_row]
          congr 1
          funext q
          by_cases hq : q = x.toNatClampNeg <;> simp [updV, hq]
      next n hsh =>
        split at hs
        · cases hs
        next hne =>
          cases hs
          simp only [show h_ct (w_i h a x.toNatClampNeg (v &&& 1)) = h_ct h from rfl, show h_sl (w_i h a x.toNatClampNeg (v &&& 1)) = h_sl h from rfl, Nat.sub_self, Nat.add_zero] at k
          refine W.zast hx hb (hW.at hsh) ((hK.1.2 2 _ rfl).1 n (fun j => .int (h_i h a j))) (fun q => by cases q) (by show ¬ (x < 0 ∨ (arrV _ _ _).slots.size ≤ _); rw [arrV_size]; exact hne) rfl rfl hd fun H1 e1 z oq => ?_
          refine k H1 _ rls (hW.put hsh z oq ?_ rfl rfl rfl (w_i_oth _ _ _ _)) (hS.put z oq (Ax_ad G a)) hL
          show H1[G.1 + a]? = some (vp_cell _ _)
          refine e1.trans (congrArg some ?_)
          show (vp_cell _ _).setSlot _ (.int (v &&& 1)) = vp_cell _ (n, .inl (up2 (h_i h) a x.toNatClampNeg (v &&& 1) a))
          rw [vp_cell_i, vp_cell_i, arrV_store, up2_row]
          congr 1
          funext q
          by_cases hq : q = x.toNatClampNeg <;> simp [updV, hq]
      · cases hs
    · cases hs
  · cases hc
end
section
/-! fields, new objects and arrays, the script, switches, Object's constructor, arraycopy -/
section QF
variable {p : Program} {l : Launch} {e : Env} {R : Room} {s : State} {m : MethodId} {args : Array Value} {below : List Frame} {meth : Method} {c : Code} {H : Heap} {locs : List Loc} {cells slots : Nat} {Q : State → Prop}
variable {cc : ByteArray} {pc : Nat} {ls : Array Slot} {rest : List Value} {D : va_G} {a : Nat} {tys' : List (ClassId × FieldType)}
theorem q_put (hexec : p.tables.exec = Jvm.exec) (hb : c.code = cc) {own C : String} {T : u_T} {N ci index : Nat} (hts : ∀ w ∈ gt, w.before args s = true) (hok : clsOK ci C T N) (hown : s.vm.findClass own = some m.cls) (hK : va_K D cls tys' s) {fs : List Value} (hat : va_at D cls (a, .inr (ci, fs)) H) (hc : cls[ci]? = some (C, T, N)) (k : Nat) (hk : k < N) (hlink : (Cond.fieldLink own index C (T k).2.1 (T k).2.2.1).before args s = true) (hfin : (T k).2.2.2 = false) {v : Value} (hn : narrow (fty ci k) v = v) (hfit : fits (fty ci k) v = true) (hl : k < fs.length)
    (hdg : decode cc pc = .ok (.putfield index, 3)) (kk : ∀ H1 : Heap, va_at D cls (a, .inr (ci, fs.set k v)) H1 → H1.size = H.size → (∀ q : Nat, q ≠ a → H1[q]? = H[q]?) → W p l e R s m args below meth c H1 (locs ++ [⟨a, D.2 ci k⟩]) cells slots Q (F0 m (pc + 3) ls rest)) : W p l e R s m args below meth c H locs cells slots Q (F0 m pc ls (v :: .ref a :: rest)) := by
  obtain ⟨hin, hty, hnm, hC, -⟩ := hok
  have hap := va_apart (own := own) hts hin (fty ci) hty hnm hK hc
  obtain ⟨r, h1, cell, q1, q2, q3, q4⟩ := hat
  have hr : r = (C, T, N) := Option.some.inj (h1.symm.trans hc)
  subst hr
  obtain ⟨hS, hfc, kC, hkC, hkind⟩ := hK.1 ci _ hc
  obtain ⟨cf, kf, fi, f, hi, hsl⟩ := hS k hk
  have hlay := hts _ (hin _ (u_in_lay hk))
  unfold u_lay at hlay
  rw [if_neg (by rw [hfin]; decide)] at hlay
  have hst := (u_facts hfc hkC (u_lays hts hin hk) hi).1
  have h6 := u_store hfc hkC hkind hlay hi (hty k hk) hn hfit
  refine W.putK hexec hb (f := f) ⟨hown, hlink, ⟨_, _, _, by rw [← hC k hk]; exact hi⟩, hst⟩ (by rw [q2]; exact h6) q1 q3 (by rw [hsl]; exact k2_hasslot (q4 k hk)) rfl rfl hdg fun H' e1 e2 e3 => ?_
  rw [hsl] at e1 ⊢
  exact kk H' ⟨_, hc, t_OB.to (V := updV (vp_V fs) k v) ⟨_, e1, q2, q3, t_set q4 hap hk v⟩ (fun j _ => vp_updV_set hl v j)⟩ e2 e3
theorem q_putN (hexec : p.tables.exec = Jvm.exec) (hb : c.code = cc) {own C host : String} {T : u_T} {N ci index : Nat} (hts : ∀ w ∈ gt, w.before args s = true) (hok : clsOK ci C T N) (hown : s.vm.findClass own = some m.cls) (hK : va_K D cls tys' s) {fs : List Value} (hat : va_at D cls (a, .inr (ci, fs)) H) (hc : cls[ci]? = some (C, T, N)) (k : Nat) (hk : k < N) (hlink : (Cond.fieldLinkNest own index C (T k).2.1 (T k).2.2.1 host).before args s = true) (hfin : (T k).2.2.2 = false) {v : Value} (hn : narrow (fty ci k) v = v) (hfit : fits (fty ci k) v = true) (hl : k < fs.length)
    (hdg : decode cc pc = .ok (.putfield index, 3)) (kk : ∀ H1 : Heap, va_at D cls (a, .inr (ci, fs.set k v)) H1 → H1.size = H.size → (∀ q : Nat, q ≠ a → H1[q]? = H[q]?) → W p l e R s m args below meth c H1 (locs ++ [⟨a, D.2 ci k⟩]) cells slots Q (F0 m (pc + 3) ls rest)) : W p l e R s m args below meth c H locs cells slots Q (F0 m pc ls (v :: .ref a :: rest)) := by
  obtain ⟨hin, hty, hnm, hC, -⟩ := hok
  have hap := va_apart (own := own) hts hin (fty ci) hty hnm hK hc
  obtain ⟨r, h1, cell, q1, q2, q3, q4⟩ := hat
  have hr : r = (C, T, N) := Option.some.inj (h1.symm.trans hc)
  subst hr
  obtain ⟨hS, hfc, kC, hkC, hkind⟩ := hK.1 ci _ hc
  obtain ⟨cf, kf, fi, f, hi, hsl⟩ := hS k hk
  have hlay := hts _ (hin _ (u_in_lay hk))
  unfold u_lay at hlay
  rw [if_neg (by rw [hfin]; decide)] at hlay
  have hst := (u_facts hfc hkC (u_lays hts hin hk) hi).1
  have h6 := u_store hfc hkC hkind hlay hi (hty k hk) hn hfit
  refine va_WputK hexec hb (f := f) hown hlink (by rw [← hC k hk]; exact hi) hst (by rw [q2]; exact h6) q1 q3 (by rw [hsl]; exact k2_hasslot (q4 k hk)) rfl rfl hdg fun H' e1 e2 e3 => ?_
  rw [hsl] at e1 ⊢
  exact kk H' ⟨_, hc, t_OB.to (V := updV (vp_V fs) k v) ⟨_, e1, q2, q3, t_set q4 hap hk v⟩ (fun j _ => vp_updV_set hl v j)⟩ e2 e3
theorem q_putF (hexec : p.tables.exec = Jvm.exec) (hb : c.code = cc) {C : String} {T : u_T} {N ci index : Nat} (hts : ∀ w ∈ gt, w.before args s = true) (hok : clsOK ci C T N) (hown : s.vm.findClass C = some m.cls) (hK : va_K D cls tys' s) {fs : List Value} (hat : va_at D cls (a, .inr (ci, fs)) H) (hc : cls[ci]? = some (C, T, N)) (k : Nat) (hk : k < N) (hlink : (Cond.fieldLink C index C (T k).2.1 (T k).2.2.1).before args s = true) (hfin : (T k).2.2.2 = true) (hin2 : meth.name = "<init>") {v : Value} (hn : narrow (fty ci k) v = v) (hfit : fits (fty ci k) v = true) (hl : k < fs.length)
    (hdg : decode cc pc = .ok (.putfield index, 3)) (kk : ∀ H1 : Heap, va_at D cls (a, .inr (ci, fs.set k v)) H1 → H1.size = H.size → (∀ q : Nat, q ≠ a → H1[q]? = H[q]?) → W p l e R s m args below meth c H1 (locs ++ [⟨a, D.2 ci k⟩]) cells slots Q (F0 m (pc + 3) ls rest)) : W p l e R s m args below meth c H locs cells slots Q (F0 m pc ls (v :: .ref a :: rest)) := by
  obtain ⟨hin, hty, hnm, hC, -⟩ := hok
  have hap := va_apart (own := C) hts hin (fty ci) hty hnm hK hc
  obtain ⟨r, h1, cell, q1, q2, q3, q4⟩ := hat
  have hr : r = (C, T, N) := Option.some.inj (h1.symm.trans hc)
  subst hr
  obtain ⟨hS, hfc, kC, hkC, hkind⟩ := hK.1 ci _ hc
  obtain ⟨cf, kf, fi, f, hi, hsl⟩ := hS k hk
  have hlay := hts _ (hin _ (u_in_lay hk))
  unfold u_lay at hlay
  rw [if_pos hfin] at hlay
  have hst := (u_facts hfc hkC (u_lays hts hin hk) hi).1
  have hcf : m.cls = cf := by
    obtain ⟨_, _, c', _, _, _, -, -, hf', -, -, -, hown2, -⟩ := Cond.laysFinal_spec hlay
    have e1 : c' = cf := by have := hi.symm.trans hf'; simp at this; exact this.1.symm
    rw [hC k hk] at hown2
    rw [← e1]; exact Option.some.inj (hown.symm.trans hown2)
  have h6 := u_fits hfc hkC hkind (Or.inr hlay) hi (hty k hk) hn hfit
  refine W.putFinK hexec hb hown hlink (by rw [← hC k hk]; exact hi) hst hcf hin2 (by rw [q2]; exact h6) q1 q3 (by rw [hsl]; exact k2_hasslot (q4 k hk)) rfl rfl hdg fun H' e1 e2 e3 => ?_
  rw [hsl] at e1 ⊢
  exact kk H' ⟨_, hc, t_OB.to (V := updV (vp_V fs) k v) ⟨_, e1, q2, q3, t_set q4 hap hk v⟩ (fun j _ => vp_updV_set hl v j)⟩ e2 e3
end QF
/-- a field's value in the pure machine -/
def pval (h : PH) (ci c k : Nat) : Value := match fkd (fty ci k) with
  | 0 => .int (h_i h c k)
  | 1 => .long (h_l h c k)
  | _ => va_rf (h_r h c k)
theorem tr_pval (G : Gx) (h : PH) (ci c k : Nat) : tr G (pval h ci c k) = fval G h ci c k := by
  unfold pval fval
  generalize fkd (fty ci k) = n
  match n with
  | 0 => rfl
  | 1 => rfl
  | n + 2 => cases h_r h c k <;> rfl
theorem fs_get (G : Gx) (h : PH) (ci c : Nat) {k N : Nat} (hk : k < N) : ((List.range N).map (fval G h ci c))[k]? = some (fval G h ci c k) := by
  simp [hk]
theorem fs_set {G : Gx} {h h' : PH} {ci c k N : Nat} {v : Value} (hv : fval G h' ci c k = v) (ho : ∀ j, j ≠ k → fval G h' ci c j = fval G h ci c j) : ((List.range N).map (fval G h ci c)).set k v = (List.range N).map (fval G h' ci c) := by
  apply List.ext_getElem?
  intro j
  by_cases hj : j = k
  · subst hj
    by_cases hl : j < N
    · rw [List.getElem?_set_self (by simpa using hl)]
      simp [hl, hv]
    · rw [List.getElem?_eq_none (by simp; omega), List.getElem?_eq_none (by simp; omega)]
  · rw [List.getElem?_set_ne (Ne.symm hj)]
    by_cases hl : j < N
    · simp [hl, ho j hj]
    · rw [List.getElem?_eq_none (by simp; omega), List.getElem?_eq_none (by simp; omega)]
def s_getf : PSem := fun i pc ls st h => match st with
  | .ref o :: rest => if h_sh h o = some (0, p_c i) then some (pc + 3, ls, pval h (p_c i) o (p_e i) :: rest, h) else none
  | _ => none
def c_getf : PChk := fun o _ cc pc i => match decode cc pc with
  | .ok (.getfield n, 3) => flT[p_b i]? == some (o, n, p_c i, p_e i)
  | _ => false
theorem z_getf : SoundP c_getf s_getf := by
  intro G p l e R s m args below meth c Q o ini cc nL i pc pls pst h r H locs cells slots rls F hc hs hW hS hL _ _ k
  obtain ⟨hx, hb, hml, hown, hts, hK, -⟩ := F
  unfold c_getf at hc
  split at hc
  next n hd =>
    have hq := flT_ok _ (List.mem_of_getElem? (beq_iff_eq.mp hc))
    obtain ⟨C, T, N, hcl, hk, hlink⟩ := hq
    dsimp only at hcl hk hlink
    have hok := cls_ok _ _ _ _ hcl
    unfold s_getf at hs
    split at hs
    next a rest =>
      split at hs
      next hsh =>
        cases hs
        simp only [Nat.sub_self, Nat.add_zero] at k
        have hN : fN (p_c i) = N := hok.2.2.2.2.2.2
        refine va_get hx hb hts hok.1 hown hK.1 (va_P1 (hW.at hsh)) 0 (fs := (List.range (fN (p_c i))).map (fval G h (p_c i) a)) rfl hcl (p_e i) hk (hts _ hlink) (fun x hx => by rw [hok.2.2.2.1 _ hk] at hx; exact hx) (v := tr G (pval h (p_c i) a (p_e i))) ?_ hd (k H locs rls hW hS hL)
        rw [tr_pval]
        exact fs_get G h _ _ (by rw [hN]; exact hk)
      · cases hs
    · cases hs
  · cases hc
def c_getfN : PChk := fun o _ cc pc i => match decode cc pc with
  | .ok (.getfield n, 3) => flN[p_b i]? == some (o, n, p_c i, p_e i)
  | _ => false
theorem z_getfN : SoundP c_getfN s_getf := by
  intro G p l e R s m args below meth c Q o ini cc nL i pc pls pst h r H locs cells slots rls F hc hs hW hS hL _ _ k
  obtain ⟨hx, hb, hml, hown, hts, hK, -⟩ := F
  unfold c_getfN at hc
  split at hc
  next n hd =>
    have hq := flN_ok _ (List.mem_of_getElem? (beq_iff_eq.mp hc))
    obtain ⟨C, T, N, hcl, hk, hlink⟩ := hq
    dsimp only at hcl hk hlink
    have hok := cls_ok _ _ _ _ hcl
    unfold s_getf at hs
    split at hs
    next a rest =>
      split at hs
      next hsh =>
        cases hs
        simp only [Nat.sub_self, Nat.add_zero] at k
        have hN : fN (p_c i) = N := hok.2.2.2.2.2.2
        refine va_getN hx hb hts hok.1 hown hK.1 (va_P1 (hW.at hsh)) 0 (fs := (List.range (fN (p_c i))).map (fval G h (p_c i) a)) rfl hcl (p_e i) hk (va_Nw.use rfl (hK.2 _ hlink)) (fun x hx => by rw [hok.2.2.2.1 _ hk] at hx; exact hx) (v := tr G (pval h (p_c i) a (p_e i))) ?_ hd (k H locs rls hW hS hL)
        rw [tr_pval]
        exact fs_get G h _ _ (by rw [hN]; exact hk)
      · cases hs
    · cases hs
  · cases hc
theorem fits_ref {ty : FieldType} {a : Nat} (h : fits ty (.ref a) = true) (b : Nat) : narrow ty (.ref b) = .ref b ∧ fits ty (.ref b) = true := by
  cases ty <;> first | (exact ⟨rfl, rfl⟩) | (cases h)
def putv (h : PH) (ci o k : Nat) (v : Value) : Option PH := match fkd (fty ci k), v with
  | 0, .int x => some (w_i h o k x)
  | 1, .long x => some (w_l h o k x)
  | 2, .ref a => some (w_r h o k (some a))
  | 2, .null => some (w_r h o k none)
  | _, _ => none
def s_putf : PSem := fun i pc ls st h => match st with
  | v :: .ref o :: rest => if h_sh h o = some (0, p_c i) ∧ narrow (fty (p_c i) (p_e i)) v = v ∧ fits (fty (p_c i) (p_e i)) v = true then (putv h (p_c i) o (p_e i) v).map (fun h' => (pc + 3, ls, rest, h')) else none
  | _ => none
theorem putv_spec (G : Gx) {h h' : PH} {ci o k : Nat} {v : Value} (he : putv h ci o k v = some h') (hn : narrow (fty ci k) v = v) (hf : fits (fty ci k) v = true) :
    narrow (fty ci k) (tr G v) = tr G v ∧ fits (fty ci k) (tr G v) = true ∧ h_sh h' = h_sh h ∧ h_ct h' = h_ct h ∧ h_sl h' = h_sl h ∧ h_sc h' = h_sc h ∧ (∀ c', c' ≠ o → h_i h' c' = h_i h c' ∧ h_l h' c' = h_l h c' ∧ h_r h' c' = h_r h c') ∧ fval G h' ci o k = tr G v ∧ ∀ j, j ≠ k → fval G h' ci o j = fval G h ci o j := by
  unfold putv at he
  split at he
  next x hk =>
    cases he
    exact ⟨hn, hf, rfl, rfl, rfl, rfl, w_i_oth _ _ _ _, by simp [fval, hk, w_i, h_i, up2, tr], fun j hj => by simp [fval, w_i, h_i, h_l, h_r, up2, hj]⟩
  next x hk =>
    cases he
    exact ⟨hn, hf, rfl, rfl, rfl, rfl, w_l_oth _ _ _ _, by simp [fval, hk, w_l, h_l, up2, tr], fun j hj => by simp [fval, w_l, h_i, h_l, h_r, up2, hj]⟩
  next a hk =>
    cases he
    exact ⟨(fits_ref hf _).1, (fits_ref hf _).2, rfl, rfl, rfl, rfl, w_r_oth _ _ _ _, by simp [fval, hk, w_r, h_r, up2, tr, va_rf], fun j hj => by simp [fval, w_r, h_i, h_l, h_r, up2, hj]⟩
  next hk =>
    cases he
    exact ⟨hn, hf, rfl, rfl, rfl, rfl, w_r_oth _ _ _ _, by simp [fval, hk, w_r, h_r, up2, tr, va_rf], fun j hj => by simp [fval, w_r, h_i, h_l, h_r, up2, hj]⟩
  · cases he
def c_putf : PChk := fun o ini cc pc i => match decode cc pc with
  | .ok (.putfield n, 3) => flT[p_b i]? == some (o, n, p_c i, p_e i) && (match cls[p_c i]? with
    | some (_, T, _) => (T (p_e i)).2.2.2 == false
    | none => false)
  | _ => false
theorem z_putf : SoundP c_putf s_putf := by
  intro G p l e R s m args below meth c Q o ini cc nL i pc pls pst h r H locs cells slots rls F hc hs hW hS hL _ _ k
  obtain ⟨hx, hb, hml, hown, hts, hK, hmn, -⟩ := F
  unfold c_putf at hc
  split at hc
  next n hd =>
    simp only [Bool.and_eq_true] at hc
    have hq := flT_ok _ (List.mem_of_getElem? (beq_iff_eq.mp hc.1))
    obtain ⟨C, T, N, hcl, hk, hlink⟩ := hq
    dsimp only at hcl hk hlink
    have hfin := hc.2
    rw [hcl] at hfin
    have hfin := beq_iff_eq.mp hfin
    try dsimp only at hfin
    have hok := cls_ok _ _ _ _ hcl
    unfold s_putf at hs
    split at hs
    next v a rest =>
      split at hs
      next hcond =>
        obtain ⟨hsh, hn, hf⟩ := hcond
        obtain ⟨h', hp, e0⟩ := Option.map_eq_some_iff.mp hs
        subst e0
        obtain ⟨p1, p2, p3, p4, p5, p6, p7, p8, p9⟩ := putv_spec G hp hn hf
        dsimp only at k
        simp only [p4, p5, Nat.sub_self, Nat.add_zero] at k
        have hN : fN (p_c i) = N := hok.2.2.2.2.2.2
        refine q_put hx hb hts hok hown hK.1 (fs := (List.range (fN (p_c i))).map (fval G h (p_c i) a)) (hW.at hsh) hcl (p_e i) hk (hts _ hlink) hfin p1 p2 (by simp; rw [hN]; exact hk) hd fun H1 hat z oq => ?_
        rw [fs_set p8 p9] at hat
        exact k H1 _ rls (hW.put hsh z oq hat p3 p4 p6 p7) (hS.put z oq (Ax_ad G a)) hL
      · cases hs
    · cases hs
  · cases hc
def c_putfN : PChk := fun o ini cc pc i => match decode cc pc with
  | .ok (.putfield n, 3) => flN[p_b i]? == some (o, n, p_c i, p_e i) && (match cls[p_c i]? with
    | some (_, T, _) => (T (p_e i)).2.2.2 == false
    | none => false)
  | _ => false
theorem z_putfN : SoundP c_putfN s_putf := by
  intro G p l e R s m args below meth c Q o ini cc nL i pc pls pst h r H locs cells slots rls F hc hs hW hS hL _ _ k
  obtain ⟨hx, hb, hml, hown, hts, hK, hmn, -⟩ := F
  unfold c_putfN at hc
  split at hc
  next n hd =>
    simp only [Bool.and_eq_true] at hc
    have hq := flN_ok _ (List.mem_of_getElem? (beq_iff_eq.mp hc.1))
    obtain ⟨C, T, N, hcl, hk, hlink⟩ := hq
    dsimp only at hcl hk hlink
    have hfin := hc.2
    rw [hcl] at hfin
    have hfin := beq_iff_eq.mp hfin
    try dsimp only at hfin
    have hok := cls_ok _ _ _ _ hcl
    unfold s_putf at hs
    split at hs
    next v a rest =>
      split at hs
      next hcond =>
        obtain ⟨hsh, hn, hf⟩ := hcond
        obtain ⟨h', hp, e0⟩ := Option.map_eq_some_iff.mp hs
        subst e0
        obtain ⟨p1, p2, p3, p4, p5, p6, p7, p8, p9⟩ := putv_spec G hp hn hf
        dsimp only at k
        simp only [p4, p5, Nat.sub_self, Nat.add_zero] at k
        have hN : fN (p_c i) = N := hok.2.2.2.2.2.2
        refine q_putN hx hb hts hok hown hK.1 (fs := (List.range (fN (p_c i))).map (fval G h (p_c i) a)) (hW.at hsh) hcl (p_e i) hk (va_Nw.use rfl (hK.2 _ hlink)) hfin p1 p2 (by simp; rw [hN]; exact hk) hd fun H1 hat z oq => ?_
        rw [fs_set p8 p9] at hat
        exact k H1 _ rls (hW.put hsh z oq hat p3 p4 p6 p7) (hS.put z oq (Ax_ad G a)) hL
      · cases hs
    · cases hs
  · cases hc
def c_putfF : PChk := fun o ini cc pc i => match decode cc pc with
  | .ok (.putfield n, 3) => flT[p_b i]? == some (o, n, p_c i, p_e i) && (match cls[p_c i]? with
    | some (_, T, _) => (T (p_e i)).2.2.2 == true
    | none => false) && (ini && (match cls[p_c i]? with
    | some (C, _, _) => cN o == C
    | none => false))
  | _ => false
theorem z_putfF : SoundP c_putfF s_putf := by
  intro G p l e R s m args below meth c Q o ini cc nL i pc pls pst h r H locs cells slots rls F hc hs hW hS hL _ _ k
  obtain ⟨hx, hb, hml, hown, hts, hK, hmn, -⟩ := F
  unfold c_putfF at hc
  split at hc
  next n hd =>
    simp only [Bool.and_eq_true] at hc
    have hq := flT_ok _ (List.mem_of_getElem? (beq_iff_eq.mp hc.1.1))
    obtain ⟨C, T, N, hcl, hk, hlink⟩ := hq
    dsimp only at hcl hk hlink
    have hfin := hc.1.2
    rw [hcl] at hfin
    have hfin := beq_iff_eq.mp hfin
    try dsimp only at hfin
    have hok := cls_ok _ _ _ _ hcl
    have hC := hc.2.2
    rw [hcl] at hC
    have hC := beq_iff_eq.mp hC
    try dsimp only at hC
    unfold s_putf at hs
    split at hs
    next v a rest =>
      split at hs
      next hcond =>
        obtain ⟨hsh, hn, hf⟩ := hcond
        obtain ⟨h', hp, e0⟩ := Option.map_eq_some_iff.mp hs
        subst e0
        obtain ⟨p1, p2, p3, p4, p5, p6, p7, p8, p9⟩ := putv_spec G hp hn hf
        dsimp only at k
        simp only [p4, p5, Nat.sub_self, Nat.add_zero] at k
        have hN : fN (p_c i) = N := hok.2.2.2.2.2.2
        refine q_putF hx hb hts hok (hC ▸ hown) hK.1 (fs := (List.range (fN (p_c i))).map (fval G h (p_c i) a)) (hW.at hsh) hcl (p_e i) hk (by rw [hC] at hlink; exact hts _ hlink) hfin (hmn hc.2.1) p1 p2 (by simp; rw [hN]; exact hk) hd fun H1 hat z oq => ?_
        rw [fs_set p8 p9] at hat
        exact k H1 _ rls (hW.put hsh z oq hat p3 p4 p6 p7) (hS.put z oq (Ax_ad G a)) hL
      · cases hs
    · cases hs
  · cases hc
end
section
/-! new cells, the script, switches, Object's constructor, arraycopy -/
theorem Wh.new {G : Gx} {h : PH} {H H1 : Heap} {q : Nat × Nat} {n : Nat} (hW : Wh G h H) (z : H1.size = H.size + 1) (oq : ∀ x : Nat, x < H.size → H1[x]? = H[x]?) (hat : va_at G.2.2.2.2.1 cls (G.1 + h_ct h, cel G (h_new h q n) (h_ct h) q) H1) : Wh G (h_new h q n) H1 := by
  refine ⟨by rw [z, hW.1]; rfl, hW.2.1, fun c' q' hs' => ?_⟩
  by_cases hc : c' = h_ct h
  · subst hc
    simp only [h_sh, h_new, if_true] at hs'
    cases hs'
    exact ⟨Nat.lt_succ_self _, hat⟩
  · have hs2 : h_sh h c' = some q' := by simpa [h_sh, h_new, hc] using hs'
    obtain ⟨h1, h2⟩ := hW.2.2 c' q' hs2
    refine ⟨Nat.lt_succ_of_lt h1, ?_⟩
    rw [cel_congr (h := h) (h' := h_new h q n) (upr_ne _ _ hc) (upr_ne _ _ hc) (upr_ne _ _ hc)]
    exact h2.kept (oq _ (by show G.1 + c' < _; rw [hW.1]; omega))
theorem va_S.born {A : Nat → Prop} {H0 H H1 : Heap} {locs : List Loc} (hS : va_S A H0 H locs) (z : H1.size = H.size + 1) (oq : ∀ x : Nat, x < H.size → H1[x]? = H[x]?) : va_S A H0 H1 locs :=
  ⟨Nat.le_trans hS.1 (by omega), fun x h1 h2 => (oq x (Nat.lt_of_lt_of_le h1 hS.1)).trans (hS.2.1 x h1 h2), hS.2.2⟩
theorem fval_new (G : Gx) (h : PH) (q : Nat × Nat) (n ci k : Nat) : fval G (h_new h q n) ci (h_ct h) k = defaultValue (fty ci k) := by
  have e1 : h_i (h_new h q n) (h_ct h) = fun _ => 0 := upr_row _ _ _
  have e2 : h_l (h_new h q n) (h_ct h) = fun _ => 0 := upr_row _ _ _
  have e3 : h_r (h_new h q n) (h_ct h) = fun _ => none := upr_row _ _ _
  have hty : fty ci k = .int ∨ fty ci k = .long ∨ fty ci k = .boolean ∨ fty ci k = .byte ∨ (∃ x, fty ci k = .object x) ∨ (∃ x, fty ci k = .array x) := by
    unfold fty
    match ci with
    | 0 => (show ft0 k = _ ∨ ft0 k = _ ∨ ft0 k = _ ∨ ft0 k = _ ∨ (∃ x, ft0 k = _) ∨ (∃ x, ft0 k = _)); unfold ft0; split <;> simp
    | 1 => (show ft1 k = _ ∨ ft1 k = _ ∨ ft1 k = _ ∨ ft1 k = _ ∨ (∃ x, ft1 k = _) ∨ (∃ x, ft1 k = _)); unfold ft1; split <;> simp
    | 2 => (show ft2 k = _ ∨ ft2 k = _ ∨ ft2 k = _ ∨ ft2 k = _ ∨ (∃ x, ft2 k = _) ∨ (∃ x, ft2 k = _)); unfold ft2; split <;> simp
    | 3 => (show ft3 k = _ ∨ ft3 k = _ ∨ ft3 k = _ ∨ ft3 k = _ ∨ (∃ x, ft3 k = _) ∨ (∃ x, ft3 k = _)); unfold ft3; split <;> simp
    | 4 => (show ft4 k = _ ∨ ft4 k = _ ∨ ft4 k = _ ∨ ft4 k = _ ∨ (∃ x, ft4 k = _) ∨ (∃ x, ft4 k = _)); unfold ft4; split <;> simp
    | 5 => (show ft5 k = _ ∨ ft5 k = _ ∨ ft5 k = _ ∨ ft5 k = _ ∨ (∃ x, ft5 k = _) ∨ (∃ x, ft5 k = _)); unfold ft5; split <;> simp
    | 6 => (show ft6 k = _ ∨ ft6 k = _ ∨ ft6 k = _ ∨ ft6 k = _ ∨ (∃ x, ft6 k = _) ∨ (∃ x, ft6 k = _)); unfold ft6; split <;> simp
    | 7 => (show ft7 k = _ ∨ ft7 k = _ ∨ ft7 k = _ ∨ ft7 k = _ ∨ (∃ x, ft7 k = _) ∨ (∃ x, ft7 k = _)); unfold ft7; split <;> simp
    | 8 => (show ft8 k = _ ∨ ft8 k = _ ∨ ft8 k = _ ∨ ft8 k = _ ∨ (∃ x, ft8 k = _) ∨ (∃ x, ft8 k = _)); unfold ft8; split <;> simp
    | 9 => (show ft9 k = _ ∨ ft9 k = _ ∨ ft9 k = _ ∨ ft9 k = _ ∨ (∃ x, ft9 k = _) ∨ (∃ x, ft9 k = _)); unfold ft9; split <;> simp
    | 10 => (show ft10 k = _ ∨ ft10 k = _ ∨ ft10 k = _ ∨ ft10 k = _ ∨ (∃ x, ft10 k = _) ∨ (∃ x, ft10 k = _)); unfold ft10; split <;> simp
    | 11 => (show ft11 k = _ ∨ ft11 k = _ ∨ ft11 k = _ ∨ ft11 k = _ ∨ (∃ x, ft11 k = _) ∨ (∃ x, ft11 k = _)); unfold ft11; split <;> simp
    | 12 => (show ft12 k = _ ∨ ft12 k = _ ∨ ft12 k = _ ∨ ft12 k = _ ∨ (∃ x, ft12 k = _) ∨ (∃ x, ft12 k = _)); unfold ft12; split <;> simp
    | ci + 13 => left; simp [ftL]
  simp only [fval, e1, e2, e3]
  rcases hty with h | h | h | h | ⟨x, h⟩ | ⟨x, h⟩ <;> rw [h] <;> rfl
def s_new : PSem := fun i pc ls st h => some (pc + 3, ls, .ref (h_ct h) :: st, h_new h (0, p_c i) (fN (p_c i)))
def c_new : PChk := fun o _ cc pc i => match decode cc pc with
  | .ok (.new n, 3) => (match cls[p_c i]? with
    | some (C, _, _) => decide (lw_tbl[p_b i]? = some (.classLink (cN o) n C)) && goodWord (.classLink (cN o) n C)
    | none => false)
  | _ => false
theorem z_new : SoundP c_new s_new := by
  intro G p l e R s m args below meth c Q o ini cc nL i pc pls pst h r H locs cells slots rls F hc hs hW hS hL hcl hsl k
  obtain ⟨hx, hb, hml, hown, hts, hK, -⟩ := F
  unfold c_new at hc
  split at hc
  next n hd =>
    split at hc
    next C T N hcls =>
      simp only [Bool.and_eq_true, decide_eq_true_eq] at hc
      have hok := cls_ok _ _ _ _ hcls
      obtain ⟨o1, o2, o3, o4, o5, o6, hN⟩ := hok
      cases hs
      dsimp only at k hcl hsl
      have ec : h_ct (h_new h (0, p_c i) (fN (p_c i))) - h_ct h = 1 := by show h_ct h + 1 - h_ct h = 1; omega
      have el : h_sl (h_new h (0, p_c i) (fN (p_c i))) - h_sl h = N := by show h_sl h + fN (p_c i) - h_sl h = N; omega
      rw [ec] at k hcl
      rw [el] at k hsl
      have hKn := hK.1.1 _ _ hcls
      refine W.newcK hx hb hown (hts _ (gt_in _ hc.1 hc.2)) (hts _ o5) (hts _ o6) rfl hd hcl hsl hKn.2.1 rfl fun H1 kC hkC e1 z oq => ?_
      have hz : H.size = G.1 + h_ct h := hW.1
      have k1 := k H1 locs rls (hW.new z oq ?_) (hS.born z oq) hL
      · show W p l e R s m args below meth c H1 locs (cells + 1) (slots + N) Q (F0 m (pc + 3) rls (.ref H.size :: _))
        rw [hz]
        exact k1
      · show ∃ r : vw_C, cls[p_c i]? = some r ∧ t_OB _ _ _ _ _ _
        rw [hz] at e1
        refine ⟨_, hcls, (u_born (fty (p_c i)) hts o1 hKn hkC e1 o2).to fun j hj => ?_⟩
        show _ = vp_V ((List.range (fN (p_c i))).map (fval G _ (p_c i) (h_ct h))) j
        have h2 : ((List.range (fN (p_c i))).map (fval G (h_new h (0, p_c i) (fN (p_c i))) (p_c i) (h_ct h)))[j]? = some _ := fs_get G _ _ _ (by rw [hN]; exact hj)
        rw [fval_new] at h2
        simp only [vp_V, List.getD_eq_getElem?_getD, h2]
        rfl
    · cases hc
  · cases hc
def s_newI : PSem := fun i pc ls st h => match st with
  | .int x :: rest => if x < 0 ∨ 60000000 < x.toNatClampNeg then none else some (pc + 2, ls, .ref (h_ct h) :: rest, h_new h (1, x.toNatClampNeg) x.toNatClampNeg)
  | _ => none
def c_newI : PChk := fun _ _ cc pc _ => match decode cc pc with
  | .ok (.newarray .int, 2) => true
  | _ => false
theorem z_newI : SoundP c_newI s_newI := by
  intro G p l e R s m args below meth c Q o ini cc nL i pc pls pst h r H locs cells slots rls F hc hs hW hS hL hcl hsl k
  obtain ⟨hx, hb, hml, hown, hts, hK, -⟩ := F
  unfold c_newI at hc
  split at hc
  next hd =>
    unfold s_newI at hs
    split at hs
    next x rest =>
      split at hs
      · cases hs
      next hne =>
        cases hs
        dsimp only at k hcl hsl
        have ec : h_ct (h_new h (1, x.toNatClampNeg) x.toNatClampNeg) - h_ct h = 1 := by show h_ct h + 1 - h_ct h = 1; omega
        have el : h_sl (h_new h (1, x.toNatClampNeg) x.toNatClampNeg) - h_sl h = x.toNatClampNeg := by show h_sl h + x.toNatClampNeg - h_sl h = _; omega
        rw [ec] at k hcl
        rw [el] at k hsl
        have hz : H.size = G.1 + h_ct h := hW.1
        have hcb : x.toNatClampNeg * componentBytes .int ≤ 536870912 := by
          have : componentBytes .int ≤ 8 := by decide
          have h3 : x.toNatClampNeg ≤ 60000000 := Nat.not_lt.mp fun q => hne (Or.inr q)
          exact Nat.le_trans (Nat.mul_le_mul h3 this) (by decide)
        refine va_newaK (atype := .int) (g := F0 m pc rls _) hx hb (hts _ (gt_in 269 (by decide +kernel) rfl)) rfl hd rfl (fun q => hne (Or.inl q)) rfl hcb hcl hsl hz fun H1 cA e1 z oq hAr hNm => ?_
        have hcA : G.2.2.2.2.2 .int = cA := by
          have h1 := (hK.1.2 0 _ rfl).2
          exact Option.some.inj (h1.symm.trans hNm)
        refine k H1 locs rls (hW.new (by rw [z, hz]) (by rw [hz]; exact oq) ?_) (hS.born (by rw [z, hz]) (by rw [hz]; exact oq)) hL
        show H1[G.1 + h_ct h]? = some (vp_cell (G.2.2.2.2.2 .int) (x.toNatClampNeg, .inl (h_i (h_new h (1, x.toNatClampNeg) x.toNatClampNeg) (h_ct h))))
        rw [show h_i (h_new h (1, x.toNatClampNeg) x.toNatClampNeg) (h_ct h) = fun _ => 0 from upr_row _ _ _, hcA, e1]
        rfl
    · cases hs
  · cases hc
def s_newB : PSem := fun i pc ls st h => match st with
  | .int x :: rest => if x < 0 ∨ 60000000 < x.toNatClampNeg then none else some (pc + 2, ls, .ref (h_ct h) :: rest, h_new h (2, x.toNatClampNeg) x.toNatClampNeg)
  | _ => none
def c_newB : PChk := fun _ _ cc pc _ => match decode cc pc with
  | .ok (.newarray .byte, 2) => true
  | _ => false
theorem z_newB : SoundP c_newB s_newB := by
  intro G p l e R s m args below meth c Q o ini cc nL i pc pls pst h r H locs cells slots rls F hc hs hW hS hL hcl hsl k
  obtain ⟨hx, hb, hml, hown, hts, hK, -⟩ := F
  unfold c_newB at hc
  split at hc
  next hd =>
    unfold s_newB at hs
    split at hs
    next x rest =>
      split at hs
      · cases hs
      next hne =>
        cases hs
        dsimp only at k hcl hsl
        have ec : h_ct (h_new h (2, x.toNatClampNeg) x.toNatClampNeg) - h_ct h = 1 := by show h_ct h + 1 - h_ct h = 1; omega
        have el : h_sl (h_new h (2, x.toNatClampNeg) x.toNatClampNeg) - h_sl h = x.toNatClampNeg := by show h_sl h + x.toNatClampNeg - h_sl h = _; omega
        rw [ec] at k hcl
        rw [el] at k hsl
        have hz : H.size = G.1 + h_ct h := hW.1
        have hcb : x.toNatClampNeg * componentBytes .byte ≤ 536870912 := by
          have : componentBytes .byte ≤ 8 := by decide
          have h3 : x.toNatClampNeg ≤ 60000000 := Nat.not_lt.mp fun q => hne (Or.inr q)
          exact Nat.le_trans (Nat.mul_le_mul h3 this) (by decide)
        refine va_newaK (atype := .byte) (g := F0 m pc rls _) hx hb (hts _ (gt_in 267 (by decide +kernel) rfl)) rfl hd rfl (fun q => hne (Or.inl q)) rfl hcb hcl hsl hz fun H1 cA e1 z oq hAr hNm => ?_
        have hcA : G.2.2.2.2.2 .byte = cA := by
          have h1 := (hK.1.2 1 _ rfl).2
          exact Option.some.inj (h1.symm.trans hNm)
        refine k H1 locs rls (hW.new (by rw [z, hz]) (by rw [hz]; exact oq) ?_) (hS.born (by rw [z, hz]) (by rw [hz]; exact oq)) hL
        show H1[G.1 + h_ct h]? = some (vp_cell (G.2.2.2.2.2 .byte) (x.toNatClampNeg, .inl (h_i (h_new h (2, x.toNatClampNeg) x.toNatClampNeg) (h_ct h))))
        rw [show h_i (h_new h (2, x.toNatClampNeg) x.toNatClampNeg) (h_ct h) = fun _ => 0 from upr_row _ _ _, hcA, e1]
        rfl
    · cases hs
  · cases hc
def s_newZ : PSem := fun i pc ls st h => match st with
  | .int x :: rest => if x < 0 ∨ 60000000 < x.toNatClampNeg then none else some (pc + 2, ls, .ref (h_ct h) :: rest, h_new h (3, x.toNatClampNeg) x.toNatClampNeg)
  | _ => none
def c_newZ : PChk := fun _ _ cc pc _ => match decode cc pc with
  | .ok (.newarray .boolean, 2) => true
  | _ => false
theorem z_newZ : SoundP c_newZ s_newZ := by
  intro G p l e R s m args below meth c Q o ini cc nL i pc pls pst h r H locs cells slots rls F hc hs hW hS hL hcl hsl k
  obtain ⟨hx, hb, hml, hown, hts, hK, -⟩ := F
  unfold c_newZ at hc
  split at hc
  next hd =>
    unfold s_newZ at hs
    split at hs
    next x rest =>
      split at hs
      · cases hs
      next hne =>
        cases hs
        dsimp only at k hcl hsl
        have ec : h_ct (h_new h (3, x.toNatClampNeg) x.toNatClampNeg) - h_ct h = 1 := by show h_ct h + 1 - h_ct h = 1; omega
        have el : h_sl (h_new h (3, x.toNatClampNeg) x.toNatClampNeg) - h_sl h = x.toNatClampNeg := by show h_sl h + x.toNatClampNeg - h_sl h = _; omega
        rw [ec] at k hcl
        rw [el] at k hsl
        have hz : H.size = G.1 + h_ct h := hW.1
        have hcb : x.toNatClampNeg * componentBytes .boolean ≤ 536870912 := by
          have : componentBytes .boolean ≤ 8 := by decide
          have h3 : x.toNatClampNeg ≤ 60000000 := Nat.not_lt.mp fun q => hne (Or.inr q)
          exact Nat.le_trans (Nat.mul_le_mul h3 this) (by decide)
        refine va_newaK (atype := .boolean) (g := F0 m pc rls _) hx hb (hts _ (gt_in 339 (by decide +kernel) rfl)) rfl hd rfl (fun q => hne (Or.inl q)) rfl hcb hcl hsl hz fun H1 cA e1 z oq hAr hNm => ?_
        have hcA : G.2.2.2.2.2 .boolean = cA := by
          have h1 := (hK.1.2 2 _ rfl).2
          exact Option.some.inj (h1.symm.trans hNm)
        refine k H1 locs rls (hW.new (by rw [z, hz]) (by rw [hz]; exact oq) ?_) (hS.born (by rw [z, hz]) (by rw [hz]; exact oq)) hL
        show H1[G.1 + h_ct h]? = some (vp_cell (G.2.2.2.2.2 .boolean) (x.toNatClampNeg, .inl (h_i (h_new h (3, x.toNatClampNeg) x.toNatClampNeg) (h_ct h))))
        rw [show h_i (h_new h (3, x.toNatClampNeg) x.toNatClampNeg) (h_ct h) = fun _ => 0 from upr_row _ _ _, hcA, e1]
        rfl
    · cases hs
  · cases hc
def s_newL : PSem := fun i pc ls st h => match st with
  | .int x :: rest => if x < 0 ∨ 60000000 < x.toNatClampNeg then none else some (pc + 2, ls, .ref (h_ct h) :: rest, h_new h (4, x.toNatClampNeg) x.toNatClampNeg)
  | _ => none
def c_newL : PChk := fun _ _ cc pc _ => match decode cc pc with
  | .ok (.newarray .long, 2) => true
  | _ => false
theorem z_newL : SoundP c_newL s_newL := by
  intro G p l e R s m args below meth c Q o ini cc nL i pc pls pst h r H locs cells slots rls F hc hs hW hS hL hcl hsl k
  obtain ⟨hx, hb, hml, hown, hts, hK, -⟩ := F
  unfold c_newL at hc
  split at hc
  next hd =>
    unfold s_newL at hs
    split at hs
    next x rest =>
      split at hs
      · cases hs
      next hne =>
        cases hs
        dsimp only at k hcl hsl
        have ec : h_ct (h_new h (4, x.toNatClampNeg) x.toNatClampNeg) - h_ct h = 1 := by show h_ct h + 1 - h_ct h = 1; omega
        have el : h_sl (h_new h (4, x.toNatClampNeg) x.toNatClampNeg) - h_sl h = x.toNatClampNeg := by show h_sl h + x.toNatClampNeg - h_sl h = _; omega
        rw [ec] at k hcl
        rw [el] at k hsl
        have hz : H.size = G.1 + h_ct h := hW.1
        have hcb : x.toNatClampNeg * componentBytes .long ≤ 536870912 := by
          have : componentBytes .long ≤ 8 := by decide
          have h3 : x.toNatClampNeg ≤ 60000000 := Nat.not_lt.mp fun q => hne (Or.inr q)
          exact Nat.le_trans (Nat.mul_le_mul h3 this) (by decide)
        refine va_newaK (atype := .long) (g := F0 m pc rls _) hx hb (hts _ (gt_in 268 (by decide +kernel) rfl)) rfl hd rfl (fun q => hne (Or.inl q)) rfl hcb hcl hsl hz fun H1 cA e1 z oq hAr hNm => ?_
        have hcA : G.2.2.2.2.2 .long = cA := by
          have h1 := (hK.1.2 3 _ rfl).2
          exact Option.some.inj (h1.symm.trans hNm)
        refine k H1 locs rls (hW.new (by rw [z, hz]) (by rw [hz]; exact oq) ?_) (hS.born (by rw [z, hz]) (by rw [hz]; exact oq)) hL
        show H1[G.1 + h_ct h]? = some (vp_cell (G.2.2.2.2.2 .long) (x.toNatClampNeg, .inr (.inl (h_l (h_new h (4, x.toNatClampNeg) x.toNatClampNeg) (h_ct h)))))
        rw [show h_l (h_new h (4, x.toNatClampNeg) x.toNatClampNeg) (h_ct h) = fun _ => 0 from upr_row _ _ _, hcA, e1]
        rfl
    · cases hs
  · cases hc
def s_sload : PSem := fun i pc ls st h => match st with
  | .int x :: .retAddr _ :: rest => if x < 0 ∨ (h_sc h).1 ≤ x.toNatClampNeg then none else some (pc + 1, ls, .int ((h_sc h).2 x.toNatClampNeg) :: rest, h)
  | _ => none
def c_sload : PChk := fun o _ cc pc _ => match decode cc pc with
  | .ok (.iaload, 1) => o == 13
  | _ => false
theorem z_sload : SoundP c_sload s_sload := by
  intro G p l e R s m args below meth c Q o ini cc nL i pc pls pst h r H locs cells slots rls F hc hs hW hS hL _ _ k
  obtain ⟨hx, hb, hml, hown, hts, hK, -, -, -, -, hsc⟩ := F
  unfold c_sload at hc
  split at hc
  next hd =>
    obtain ⟨hX, hbl, hbA⟩ := hsc (beq_iff_eq.mp hc)
    unfold s_sload at hs
    split at hs
    next x a rest =>
      split at hs
      · cases hs
      next hne =>
        cases hs
        simp only [Nat.sub_self, Nat.add_zero] at k
        rw [hW.2.1] at hne k
        exact va_sld hx hb hX hbl hbA hS hne hd (k H locs rls hW hS hL)
    · cases hs
  · cases hc
def s_slen : PSem := fun i pc ls st h => match st with
  | .retAddr _ :: rest => some (pc + 1, ls, .int (Int32.ofNat (h_sc h).1) :: rest, h)
  | _ => none
def c_slen : PChk := fun o _ cc pc _ => match decode cc pc with
  | .ok (.arraylength, 1) => o == 13
  | _ => false
theorem z_slen : SoundP c_slen s_slen := by
  intro G p l e R s m args below meth c Q o ini cc nL i pc pls pst h r H locs cells slots rls F hc hs hW hS hL _ _ k
  obtain ⟨hx, hb, hml, hown, hts, hK, -, -, -, -, hsc⟩ := F
  unfold c_slen at hc
  split at hc
  next hd =>
    obtain ⟨hX, hbl, hbA⟩ := hsc (beq_iff_eq.mp hc)
    unfold s_slen at hs
    split at hs
    next a rest =>
      cases hs
      simp only [Nat.sub_self, Nat.add_zero] at k
      rw [hW.2.1] at k
      exact va_slen hx hb hX hbl hbA hS hd (k H locs rls hW hS hL)
    · cases hs
  · cases hc
def swT : List (Int × List Nat × Nat) := [(0, [40, 50, 60], 77), (0, [52, 60, 68, 76, 84, 92, 100, 105, 121], 137), (0, [56, 61, 66, 71, 76, 81, 86, 91, 105], 119), (0, [184, 247, 270, 283, 306, 339, 362, 395, 408, 431, 474, 487, 500, 513, 537, 550, 573, 587, 620, 633, 656, 689, 712, 725, 778, 811, 845, 908, 922, 945, 988, 1011, 1034, 1083], 1096)]
def s_switch : PSem := fun i pc ls st h => match st with
  | .int x :: rest => (match swT[p_b i]? with
    | some (lo, tg, df) => if x.toInt < lo ∨ lo + (tg.length : Int) ≤ x.toInt then some (df, ls, rest, h) else (tg[(x.toInt - lo).toNat]?).map (fun t => (t, ls, rest, h))
    | none => none)
  | _ => none
def c_switch : PChk := fun _ _ cc pc i => match decode cc pc with
  | .ok (.tableswitch d lo hi offs, _) => (match swT[p_b i]? with
    | some (lo', tg, df) => lo == lo' && hi + 1 == lo + (tg.length : Int) && (pc : Int) + d == (df : Int) && (offs.toList.map (fun x => (pc : Int) + x) == tg.map (fun t : Nat => (t : Int)))
    | none => false)
  | _ => false
theorem z_switch : SoundP c_switch s_switch := by
  intro G p l e R s m args below meth c Q o ini cc nL i pc pls pst h r H locs cells slots rls F hc hs hW hS hL _ _ k
  obtain ⟨hx, hb, -⟩ := F
  unfold c_switch at hc
  split at hc
  next d lo hi offs n hd =>
    unfold s_switch at hs
    split at hs
    next x rest =>
      split at hs
      next lo' tg df hsw =>
        rw [hsw] at hc
        simp only [Bool.and_eq_true, beq_iff_eq] at hc
        obtain ⟨⟨⟨h1, h2⟩, h3⟩, h4⟩ := hc
        subst h1
        split at hs
        next hout =>
          cases hs
          simp only [Nat.sub_self, Nat.add_zero] at k
          exact lv_tableOut hx hb hd (by omega) h3 (k H locs rls hW hS hL)
        next hin =>
          obtain ⟨t, ht, e0⟩ := Option.map_eq_some_iff.mp hs
          subst e0
          simp only [Nat.sub_self, Nat.add_zero] at k
          have h5 : (offs.toList.map (fun x => (pc : Int) + x))[(x.toInt - lo).toNat]? = some (t : Int) := by
            rw [h4, List.getElem?_map, ht]; rfl
          rw [List.getElem?_map] at h5
          obtain ⟨off, ho, e5⟩ := Option.map_eq_some_iff.mp h5
          exact lv_tableIn hx hb hd (by omega) (by omega) (by rw [← Array.getElem?_toList]; exact ho) e5 (k H locs rls hW hS hL)
      · cases hs
    · cases hs
  · cases hc
theorem cat_sum (G : Gx) : ∀ (st : List Value), ((st.map (tr G)).map fun v => v.category).sum ≤ 2 * st.length
  | [] => by simp
  | v :: r => by
    have := cat_sum G r
    have h2 : (tr G v).category ≤ 2 := by rcases lv_cat (tr G v) with h | h <;> omega
    simp only [List.map_cons, List.sum_cons, List.length_cons]
    omega
def s_oinit : PSem := fun i pc ls st h => match st with
  | .ref _ :: rest => if rest.length ≤ 4 then some (pc + 3, ls, rest, h) else none
  | _ => none
def c_oinit : PChk := fun o _ cc pc i => match decode cc pc with
  | .ok (.invokespecial n, 3) => decide (lw_tbl[p_b i]? = some (.methodLink (cN o) n Lib.objectInit)) && goodWord (.methodLink (cN o) n Lib.objectInit)
  | _ => false
theorem z_oinit : SoundP c_oinit s_oinit := by
  intro G p l e R s m args below meth c Q o ini cc nL i pc pls pst h r H locs cells slots rls F hc hs hW hS hL _ _ k
  obtain ⟨hx, hb, hml, hown, hts, hK, -, hfr, hlo, -⟩ := F
  unfold c_oinit at hc
  split at hc
  next n hd =>
    simp only [Bool.and_eq_true, decide_eq_true_eq] at hc
    unfold s_oinit at hs
    split at hs
    next a rest =>
      split at hs
      next hr =>
        cases hs
        simp only [Nat.sub_self, Nat.add_zero] at k
        have h8 : ((rest.map (tr G)).map fun v => v.category).sum ≤ 8 := Nat.le_trans (cat_sum G rest) (by omega)
        exact W.objInit hx hb hown (hts _ (gt_in _ hc.1 hc.2)) (hts _ (gt_in 197 (by decide +kernel) rfl)) (hts _ (gt_in 198 (by decide +kernel) rfl)) rfl (hL.1.1.trans hml.symm) rfl hd hfr (Nat.le_trans (Nat.add_le_add_right (lv_room (m := m) (pc := pc) (ls := rls) (rest := []) h8) 12) (by omega)) (k H locs rls hW hS hL)
      · cases hs
    · cases hs
  · cases hc
end
section
/-! arraycopy -/
section QCi
variable {p : Program} {l : Launch} {e : Env} {R : Room} {s : State} {m : MethodId} {args : Array Value} {below : List Frame} {meth : Method} {c : Code} {H : Heap} {locs : List Loc} {cells slots : Nat} {Q : State → Prop}
variable {cc : ByteArray} {pc : Nat} {ls : Array Slot} {rest : List Value} {A : Nat → Prop} {H0 : Heap}
theorem q_copyi (hexec : p.tables.exec = Jvm.exec) (hb : c.code = cc) (hml : c.maxLocals = ls.size) {own : String} {index : Nat} (hown : s.vm.findClass own = some m.cls) (hlink : (Cond.methodLink own index arraycopyName).before args s = true) (hnat : (Cond.native arraycopyName).before args s = true) (hstat : (Cond.static arraycopyName).before args s = true) (hini : (Cond.initialized "java/lang/System").before args s = true)
    (hS : va_S A H0 H locs) {a a0 : Nat} {c0 c1 : ClassId} {n0 n1 : Nat} {f g : Nat → Int32} {ty : FieldType} (hc0 : H[a0]? = some (vp_cell c0 (n0, .inl f))) (hc1 : H[a]? = some (vp_cell c1 (n1, .inl g))) (ht0 : ArrOfT s c0 ty) (ht1 : ArrOfT s c1 ty) (hprim : refKind ty = false) (hAa : A a)
    {sp dp n : Int32} (h1 : ¬ sp < 0) (h2 : ¬ dp < 0) (h3 : ¬ n < 0) (h4 : sp.toNatClampNeg + n.toNatClampNeg ≤ n0) (h5 : dp.toNatClampNeg + n.toNatClampNeg ≤ n1) (hfit : ∀ i, i < n.toNatClampNeg → fits ty (.int (f (sp.toNatClampNeg + i))) = true)
    (hframes : 1 ≤ R.frames) (hlocals : (rest.map fun v => v.category).sum + (nativeFrameWords "java/lang/System" "arraycopy" 5 + 11) ≤ R.locals) (hdg : decode cc pc = .ok (.invokestatic index, 3))
    (kk : ∀ (H1 : Heap) (locs1 : List Loc), H1[a]? = some (vp_cell c1 (n1, .inl (va_cpy f g sp.toNatClampNeg dp.toNatClampNeg n.toNatClampNeg))) → H1.size = H.size → (∀ q : Nat, q ≠ a → H1[q]? = H[q]?) → va_S A H0 H1 locs1 → W p l e R s m args below meth c H1 locs1 cells slots Q (F0 m (pc + 3) ls rest)) : W p l e R s m args below meth c H locs cells slots Q (F0 m pc ls (.int n :: .int dp :: .ref a :: .int sp :: .ref a0 :: rest)) := by
  have nn : ∀ z : Int32, ¬ z < 0 → z.toInt = (z.toNatClampNeg : Int) := by
    intro z hz
    have hz0 : (0 : Int) ≤ z.toInt := by
      have := Int32.not_lt.mp hz
      simpa using Int32.le_iff_toInt_le.mp this
    show z.toInt = ((z.toInt.toNat : Nat) : Int)
    omega
  intro T hT X
  obtain ⟨-, k0, hk0, cm0, hkk0⟩ := ht0 n0 (fun j => .int (f j))
  obtain ⟨-, k1, hk1, cm1, hkk1⟩ := ht1 n1 (fun j => .int (g j))
  obtain ⟨vm', X', step⟩ := X.arraycopy hexec hown hlink hnat hstat hini (src := a0) (dst := a) (cs := vp_cell c0 (n0, .inl f)) (cd := vp_cell c1 (n1, .inl g)) (srcPos := sp) (destPos := dp) (n := n) (by rw [hT]; exact hc0) (by rw [hT]; exact hc1)
    (fun _ h => by cases h) (fun _ h => by cases h) (fun h => by cases h) (fun h => by cases h) hk0 hk1 hkk0 hkk1 (by simp [hprim]) h1 h2 h3
    (by rw [nn sp h1, nn n h3]; show ¬ _ > ((arrV c0 n0 (fun j => .int (f j))).slots.size : Int); rw [arrV_size]; omega)
    (by rw [nn dp h2, nn n h3]; show ¬ _ > ((arrV c1 n1 (fun j => .int (g j))).slots.size : Int); rw [arrV_size]; omega)
    (fun vm₁ _ i hi => by
      have e : (vp_cell c0 (n0, .inl f)).slots.getD (sp.toNatClampNeg + i) .null = .int (f (sp.toNatClampNeg + i)) := by
        show (arrV c0 n0 (fun j => .int (f j))).slots.getD _ _ = _
        rw [Array.getD_eq_getD_getElem?, arrV_read _ _ (by omega)]
        rfl
      refine ⟨?_, ?_⟩
      · rw [e]
        exact hfit i hi
      · rw [e]
        exact trivial)
    (g := F0 m pc ls (.int n :: .int dp :: .ref a :: .int sp :: .ref a0 :: rest)) rfl (by rw [hml]) (rest := rest) rfl (by rw [hb]; exact hdg) hframes (by show 2 * 0 + _ + _ ≤ _; omega)
  have e1 : copied (vp_cell c0 (n0, .inl f)) (vp_cell c1 (n1, .inl g)) sp dp n = vp_cell c1 (n1, .inl (va_cpy f g sp.toNatClampNeg dp.toNatClampNeg n.toNatClampNeg)) := va_copied (fun z => .int z) c0 c1 f g h4
  rw [e1] at X' step
  have hl : a < H.size := (Array.getElem?_eq_some_iff.mp hc1).1
  have hheap : ((T.setVm vm').setCell a (vp_cell c1 (n1, .inl (va_cpy f g sp.toNatClampNeg dp.toNatClampNeg n.toNatClampNeg)))).heap = H.setIfInBounds a (vp_cell c1 (n1, .inl (va_cpy f g sp.toNatClampNeg dp.toNatClampNeg n.toNatClampNeg))) := by rw [← hT]; rfl
  have oq : ∀ q : Nat, q ≠ a → (H.setIfInBounds a (vp_cell c1 (n1, .inl (va_cpy f g sp.toNatClampNeg dp.toNatClampNeg n.toNatClampNeg))))[q]? = H[q]? := fun q hq => by simp [Array.getElem?_setIfInBounds, Ne.symm hq]
  obtain ⟨t, a1, b1⟩ := kk _ _ (show (H.setIfInBounds a _)[a]? = some _ by simp [Array.getElem?_setIfInBounds, hl]) (by simp) oq ⟨by simp; exact hS.1, fun q g1 g2 => by
      rw [oq q (fun e => g2 (by rw [e]; exact hAa))]
      exact hS.2.1 q g1 g2, fun q hq => by
      rcases List.mem_append.mp hq with h | h
      · exact hS.2.2 q h
      · obtain ⟨z, -, hz⟩ := List.mem_map.mp h
        rw [← hz]
        exact hAa⟩ _ hheap X'
  exact ⟨t, step t a1, b1⟩
end QCi
section QCl
variable {p : Program} {l : Launch} {e : Env} {R : Room} {s : State} {m : MethodId} {args : Array Value} {below : List Frame} {meth : Method} {c : Code} {H : Heap} {locs : List Loc} {cells slots : Nat} {Q : State → Prop}
variable {cc : ByteArray} {pc : Nat} {ls : Array Slot} {rest : List Value} {A : Nat → Prop} {H0 : Heap}
theorem q_copyl (hexec : p.tables.exec = Jvm.exec) (hb : c.code = cc) (hml : c.maxLocals = ls.size) {own : String} {index : Nat} (hown : s.vm.findClass own = some m.cls) (hlink : (Cond.methodLink own index arraycopyName).before args s = true) (hnat : (Cond.native arraycopyName).before args s = true) (hstat : (Cond.static arraycopyName).before args s = true) (hini : (Cond.initialized "java/lang/System").before args s = true)
    (hS : va_S A H0 H locs) {a a0 : Nat} {c0 c1 : ClassId} {n0 n1 : Nat} {f g : Nat → Int64} {ty : FieldType} (hc0 : H[a0]? = some (vp_cell c0 (n0, .inr (.inl f)))) (hc1 : H[a]? = some (vp_cell c1 (n1, .inr (.inl g)))) (ht0 : ArrOfT s c0 ty) (ht1 : ArrOfT s c1 ty) (hprim : refKind ty = false) (hAa : A a)
    {sp dp n : Int32} (h1 : ¬ sp < 0) (h2 : ¬ dp < 0) (h3 : ¬ n < 0) (h4 : sp.toNatClampNeg + n.toNatClampNeg ≤ n0) (h5 : dp.toNatClampNeg + n.toNatClampNeg ≤ n1) (hfit : ∀ i, i < n.toNatClampNeg → fits ty (.long (f (sp.toNatClampNeg + i))) = true)
    (hframes : 1 ≤ R.frames) (hlocals : (rest.map fun v => v.category).sum + (nativeFrameWords "java/lang/System" "arraycopy" 5 + 11) ≤ R.locals) (hdg : decode cc pc = .ok (.invokestatic index, 3))
    (kk : ∀ (H1 : Heap) (locs1 : List Loc), H1[a]? = some (vp_cell c1 (n1, .inr (.inl (va_cpy f g sp.toNatClampNeg dp.toNatClampNeg n.toNatClampNeg)))) → H1.size = H.size → (∀ q : Nat, q ≠ a → H1[q]? = H[q]?) → va_S A H0 H1 locs1 → W p l e R s m args below meth c H1 locs1 cells slots Q (F0 m (pc + 3) ls rest)) : W p l e R s m args below meth c H locs cells slots Q (F0 m pc ls (.int n :: .int dp :: .ref a :: .int sp :: .ref a0 :: rest)) := by
  have nn : ∀ z : Int32, ¬ z < 0 → z.toInt = (z.toNatClampNeg : Int) := by
    intro z hz
    have hz0 : (0 : Int) ≤ z.toInt := by
      have := Int32.not_lt.mp hz
      simpa using Int32.le_iff_toInt_le.mp this
    show z.toInt = ((z.toInt.toNat : Nat) : Int)
    omega
  intro T hT X
  obtain ⟨-, k0, hk0, cm0, hkk0⟩ := ht0 n0 (fun j => .long (f j))
  obtain ⟨-, k1, hk1, cm1, hkk1⟩ := ht1 n1 (fun j => .long (g j))
  obtain ⟨vm', X', step⟩ := X.arraycopy hexec hown hlink hnat hstat hini (src := a0) (dst := a) (cs := vp_cell c0 (n0, .inr (.inl f))) (cd := vp_cell c1 (n1, .inr (.inl g))) (srcPos := sp) (destPos := dp) (n := n) (by rw [hT]; exact hc0) (by rw [hT]; exact hc1)
    (fun _ h => by cases h) (fun _ h => by cases h) (fun h => by cases h) (fun h => by cases h) hk0 hk1 hkk0 hkk1 (by simp [hprim]) h1 h2 h3
    (by rw [nn sp h1, nn n h3]; show ¬ _ > ((arrV c0 n0 (fun j => .long (f j))).slots.size : Int); rw [arrV_size]; omega)
    (by rw [nn dp h2, nn n h3]; show ¬ _ > ((arrV c1 n1 (fun j => .long (g j))).slots.size : Int); rw [arrV_size]; omega)
    (fun vm₁ _ i hi => by
      have e : (vp_cell c0 (n0, .inr (.inl f))).slots.getD (sp.toNatClampNeg + i) .null = .long (f (sp.toNatClampNeg + i)) := by
        show (arrV c0 n0 (fun j => .long (f j))).slots.getD _ _ = _
        rw [Array.getD_eq_getD_getElem?, arrV_read _ _ (by omega)]
        rfl
      refine ⟨?_, ?_⟩
      · rw [e]
        exact hfit i hi
      · rw [e]
        exact trivial)
    (g := F0 m pc ls (.int n :: .int dp :: .ref a :: .int sp :: .ref a0 :: rest)) rfl (by rw [hml]) (rest := rest) rfl (by rw [hb]; exact hdg) hframes (by show 2 * 0 + _ + _ ≤ _; omega)
  have e1 : copied (vp_cell c0 (n0, .inr (.inl f))) (vp_cell c1 (n1, .inr (.inl g))) sp dp n = vp_cell c1 (n1, .inr (.inl (va_cpy f g sp.toNatClampNeg dp.toNatClampNeg n.toNatClampNeg))) := va_copied (fun z => .long z) c0 c1 f g h4
  rw [e1] at X' step
  have hl : a < H.size := (Array.getElem?_eq_some_iff.mp hc1).1
  have hheap : ((T.setVm vm').setCell a (vp_cell c1 (n1, .inr (.inl (va_cpy f g sp.toNatClampNeg dp.toNatClampNeg n.toNatClampNeg))))).heap = H.setIfInBounds a (vp_cell c1 (n1, .inr (.inl (va_cpy f g sp.toNatClampNeg dp.toNatClampNeg n.toNatClampNeg)))) := by rw [← hT]; rfl
  have oq : ∀ q : Nat, q ≠ a → (H.setIfInBounds a (vp_cell c1 (n1, .inr (.inl (va_cpy f g sp.toNatClampNeg dp.toNatClampNeg n.toNatClampNeg)))))[q]? = H[q]? := fun q hq => by simp [Array.getElem?_setIfInBounds, Ne.symm hq]
  obtain ⟨t, a1, b1⟩ := kk _ _ (show (H.setIfInBounds a _)[a]? = some _ by simp [Array.getElem?_setIfInBounds, hl]) (by simp) oq ⟨by simp; exact hS.1, fun q g1 g2 => by
      rw [oq q (fun e => g2 (by rw [e]; exact hAa))]
      exact hS.2.1 q g1 g2, fun q hq => by
      rcases List.mem_append.mp hq with h | h
      · exact hS.2.2 q h
      · obtain ⟨z, -, hz⟩ := List.mem_map.mp h
        rw [← hz]
        exact hAa⟩ _ hheap X'
  exact ⟨t, step t a1, b1⟩
end QCl
def s_copyI : PSem := fun i pc ls st h => match st with
  | .int n :: .int dp :: .ref a :: .int sp :: .ref a0 :: rest => (match h_sh h a0, h_sh h a with
    | some (1, n0), some (1, n1) => if rest.length ≤ 4 ∧ (¬ sp < 0) ∧ (¬ dp < 0) ∧ (¬ n < 0) ∧ sp.toNatClampNeg + n.toNatClampNeg ≤ n0 ∧ dp.toNatClampNeg + n.toNatClampNeg ≤ n1  then some (pc + 3, ls, rest, w_ri h a (va_cpy (h_i h a0) (h_i h a) sp.toNatClampNeg dp.toNatClampNeg n.toNatClampNeg)) else none
    | _, _ => none)
  | _ => none
def c_copyI : PChk := fun o _ cc pc i => match decode cc pc with
  | .ok (.invokestatic n, 3) => decide (lw_tbl[p_b i]? = some (.methodLink (cN o) n arraycopyName)) && goodWord (.methodLink (cN o) n arraycopyName)
  | _ => false
theorem z_copyI : SoundP c_copyI s_copyI := by
  intro G p l e R s m args below meth c Q o ini cc nL i pc pls pst h r H locs cells slots rls F hc hs hW hS hL _ _ k
  obtain ⟨hx, hb, hml, hown, hts, hK, -, hfr, hlo, -⟩ := F
  unfold c_copyI at hc
  split at hc
  next ix hd =>
    simp only [Bool.and_eq_true, decide_eq_true_eq] at hc
    unfold s_copyI at hs
    split at hs
    next n dp a sp a0 rest =>
      split at hs
      next n0 n1 hs0 hs1 =>
        split at hs
        next hcond =>
          cases hs
          dsimp only at k
          simp only [show ∀ g, h_ct (w_ri h a g) = h_ct h from fun _ => rfl, show ∀ g, h_sl (w_ri h a g) = h_sl h from fun _ => rfl, Nat.sub_self, Nat.add_zero] at k
          have h8 : ((rest.map (tr G)).map fun v => v.category).sum ≤ 8 := Nat.le_trans (cat_sum G rest) (by have := hcond.1; omega)
          have hnf : nativeFrameWords "java/lang/System" "arraycopy" 5 ≤ 7 := by decide +kernel
          refine q_copyi (f := h_i h a0) (g := h_i h a) (ty := .int) (n0 := n0) (n1 := n1) hx hb (hml.trans hL.1.1.symm) hown (hts _ (gt_in _ hc.1 hc.2)) (hts _ (gt_in 436 (by decide +kernel) rfl)) (hts _ (gt_in 435 (by decide +kernel) rfl)) (hts _ (gt_in 180 (by decide +kernel) rfl)) hS (hW.at hs0) (hW.at hs1) (hK.1.2 0 _ rfl).1 (hK.1.2 0 _ rfl).1 rfl (Ax_ad G a) hcond.2.1 hcond.2.2.1 hcond.2.2.2.1 hcond.2.2.2.2.1 hcond.2.2.2.2.2 (fun j hj => rfl) hfr (by omega) hd fun H1 locs1 e1 z oq hS1 => ?_
          refine k H1 locs1 rls (hW.put hs1 z oq ?_ rfl rfl rfl (fun c' hc => ⟨upr_ne _ _ hc, rfl, rfl⟩)) hS1 hL
          show H1[G.1 + a]? = some (vp_cell (G.2.2.2.2.2 .int) (n1, .inl (h_i (w_ri h a _) a)))
          rw [show ∀ g, h_i (w_ri h a g) a = g from fun g => upr_row _ _ _]
          exact e1
        · cases hs
      · cases hs
    · cases hs
  · cases hc
def s_copyB : PSem := fun i pc ls st h => match st with
  | .int n :: .int dp :: .ref a :: .int sp :: .ref a0 :: rest => (match h_sh h a0, h_sh h a with
    | some (2, n0), some (2, n1) => if rest.length ≤ 4 ∧ (¬ sp < 0) ∧ (¬ dp < 0) ∧ (¬ n < 0) ∧ sp.toNatClampNeg + n.toNatClampNeg ≤ n0 ∧ dp.toNatClampNeg + n.toNatClampNeg ≤ n1 ∧ (List.range n.toNatClampNeg).all (fun j => fits .byte (.int (h_i h a0 (sp.toNatClampNeg + j)))) = true then some (pc + 3, ls, rest, w_ri h a (va_cpy (h_i h a0) (h_i h a) sp.toNatClampNeg dp.toNatClampNeg n.toNatClampNeg)) else none
    | _, _ => none)
  | _ => none
def c_copyB : PChk := fun o _ cc pc i => match decode cc pc with
  | .ok (.invokestatic n, 3) => decide (lw_tbl[p_b i]? = some (.methodLink (cN o) n arraycopyName)) && goodWord (.methodLink (cN o) n arraycopyName)
  | _ => false
theorem z_copyB : SoundP c_copyB s_copyB := by
  intro G p l e R s m args below meth c Q o ini cc nL i pc pls pst h r H locs cells slots rls F hc hs hW hS hL _ _ k
  obtain ⟨hx, hb, hml, hown, hts, hK, -, hfr, hlo, -⟩ := F
  unfold c_copyB at hc
  split at hc
  next ix hd =>
    simp only [Bool.and_eq_true, decide_eq_true_eq] at hc
    unfold s_copyB at hs
    split at hs
    next n dp a sp a0 rest =>
      split at hs
      next n0 n1 hs0 hs1 =>
        split at hs
        next hcond =>
          cases hs
          dsimp only at k
          simp only [show ∀ g, h_ct (w_ri h a g) = h_ct h from fun _ => rfl, show ∀ g, h_sl (w_ri h a g) = h_sl h from fun _ => rfl, Nat.sub_self, Nat.add_zero] at k
          have h8 : ((rest.map (tr G)).map fun v => v.category).sum ≤ 8 := Nat.le_trans (cat_sum G rest) (by have := hcond.1; omega)
          have hnf : nativeFrameWords "java/lang/System" "arraycopy" 5 ≤ 7 := by decide +kernel
          refine q_copyi (f := h_i h a0) (g := h_i h a) (ty := .byte) (n0 := n0) (n1 := n1) hx hb (hml.trans hL.1.1.symm) hown (hts _ (gt_in _ hc.1 hc.2)) (hts _ (gt_in 436 (by decide +kernel) rfl)) (hts _ (gt_in 435 (by decide +kernel) rfl)) (hts _ (gt_in 180 (by decide +kernel) rfl)) hS (hW.at hs0) (hW.at hs1) (hK.1.2 1 _ rfl).1 (hK.1.2 1 _ rfl).1 rfl (Ax_ad G a) hcond.2.1 hcond.2.2.1 hcond.2.2.2.1 hcond.2.2.2.2.1 hcond.2.2.2.2.2.1 (fun j hj => List.all_eq_true.mp hcond.2.2.2.2.2.2 j (List.mem_range.mpr hj)) hfr (by omega) hd fun H1 locs1 e1 z oq hS1 => ?_
          refine k H1 locs1 rls (hW.put hs1 z oq ?_ rfl rfl rfl (fun c' hc => ⟨upr_ne _ _ hc, rfl, rfl⟩)) hS1 hL
          show H1[G.1 + a]? = some (vp_cell (G.2.2.2.2.2 .byte) (n1, .inl (h_i (w_ri h a _) a)))
          rw [show ∀ g, h_i (w_ri h a g) a = g from fun g => upr_row _ _ _]
          exact e1
        · cases hs
      · cases hs
    · cases hs
  · cases hc
def s_copyL : PSem := fun i pc ls st h => match st with
  | .int n :: .int dp :: .ref a :: .int sp :: .ref a0 :: rest => (match h_sh h a0, h_sh h a with
    | some (4, n0), some (4, n1) => if rest.length ≤ 4 ∧ (¬ sp < 0) ∧ (¬ dp < 0) ∧ (¬ n < 0) ∧ sp.toNatClampNeg + n.toNatClampNeg ≤ n0 ∧ dp.toNatClampNeg + n.toNatClampNeg ≤ n1  then some (pc + 3, ls, rest, w_rl h a (va_cpy (h_l h a0) (h_l h a) sp.toNatClampNeg dp.toNatClampNeg n.toNatClampNeg)) else none
    | _, _ => none)
  | _ => none
def c_copyL : PChk := fun o _ cc pc i => match decode cc pc with
  | .ok (.invokestatic n, 3) => decide (lw_tbl[p_b i]? = some (.methodLink (cN o) n arraycopyName)) && goodWord (.methodLink (cN o) n arraycopyName)
  | _ => false
theorem z_copyL : SoundP c_copyL s_copyL := by
  intro G p l e R s m args below meth c Q o ini cc nL i pc pls pst h r H locs cells slots rls F hc hs hW hS hL _ _ k
  obtain ⟨hx, hb, hml, hown, hts, hK, -, hfr, hlo, -⟩ := F
  unfold c_copyL at hc
  split at hc
  next ix hd =>
    simp only [Bool.and_eq_true, decide_eq_true_eq] at hc
    unfold s_copyL at hs
    split at hs
    next n dp a sp a0 rest =>
      split at hs
      next n0 n1 hs0 hs1 =>
        split at hs
        next hcond =>
          cases hs
          dsimp only at k
          simp only [show ∀ g, h_ct (w_rl h a g) = h_ct h from fun _ => rfl, show ∀ g, h_sl (w_rl h a g) = h_sl h from fun _ => rfl, Nat.sub_self, Nat.add_zero] at k
          have h8 : ((rest.map (tr G)).map fun v => v.category).sum ≤ 8 := Nat.le_trans (cat_sum G rest) (by have := hcond.1; omega)
          have hnf : nativeFrameWords "java/lang/System" "arraycopy" 5 ≤ 7 := by decide +kernel
          refine q_copyl (f := h_l h a0) (g := h_l h a) (ty := .long) (n0 := n0) (n1 := n1) hx hb (hml.trans hL.1.1.symm) hown (hts _ (gt_in _ hc.1 hc.2)) (hts _ (gt_in 436 (by decide +kernel) rfl)) (hts _ (gt_in 435 (by decide +kernel) rfl)) (hts _ (gt_in 180 (by decide +kernel) rfl)) hS (hW.at hs0) (hW.at hs1) (hK.1.2 3 _ rfl).1 (hK.1.2 3 _ rfl).1 rfl (Ax_ad G a) hcond.2.1 hcond.2.2.1 hcond.2.2.2.1 hcond.2.2.2.2.1 hcond.2.2.2.2.2 (fun j hj => rfl) hfr (by omega) hd fun H1 locs1 e1 z oq hS1 => ?_
          refine k H1 locs1 rls (hW.put hs1 z oq ?_ rfl rfl rfl (fun c' hc => ⟨rfl, upr_ne _ _ hc, rfl⟩)) hS1 hL
          show H1[G.1 + a]? = some (vp_cell (G.2.2.2.2.2 .long) (n1, .inr (.inl (h_l (w_rl h a _) a))))
          rw [show ∀ g, h_l (w_rl h a g) a = g from fun g => upr_row _ _ _]
          exact e1
        · cases hs
      · cases hs
    · cases hs
  · cases hc
def s_mmax : PSem := fun i pc ls st h => match st with
  | .int y :: .int x :: rest => if rest.length ≤ 4 then some (pc + 3, ls, .int (if x < y then y else x) :: rest, h) else none
  | _ => none
def c_mmax : PChk := fun o _ cc pc i => match decode cc pc with
  | .ok (.invokestatic n, 3) => decide (lw_tbl[p_b i]? = some (.methodLink (cN o) n Lib.Math.max.name)) && goodWord (.methodLink (cN o) n Lib.Math.max.name)
  | _ => false
theorem z_mmax : SoundP c_mmax s_mmax := by
  intro G p l e R s m args below meth c Q o ini cc nL i pc pls pst h r H locs cells slots rls F hc hs hW hS hL hcl hsl k
  obtain ⟨hx, hb, hml, hown, hts, hK, -, hfr, hlo, -⟩ := F
  unfold c_mmax at hc
  split at hc
  next n hd =>
    simp only [Bool.and_eq_true, decide_eq_true_eq] at hc
    unfold s_mmax at hs
    split at hs
    next y x rest =>
      split at hs
      next hr =>
        cases hs
        simp only [Nat.sub_self, Nat.add_zero] at k hcl hsl
        have h8 : ((rest.map (tr G)).map fun v => v.category).sum ≤ 8 := Nat.le_trans (cat_sum G rest) (by omega)
        exact va_mmax hx hb (hml.trans hL.1.1.symm) hown (hts _ (gt_in _ hc.1 hc.2)) (hts _ (gt_in 428 (by decide +kernel) rfl)) (hts _ (gt_in 179 (by decide +kernel) rfl)) (hts _ (gt_in 429 (by decide +kernel) rfl)) hfr (by omega) hcl hsl hd (k H locs rls hW hS hL)
      · cases hs
    · cases hs
  · cases hc
def s_mmin : PSem := fun i pc ls st h => match st with
  | .int y :: .int x :: rest => if rest.length ≤ 4 then some (pc + 3, ls, .int (if y < x then y else x) :: rest, h) else none
  | _ => none
def c_mmin : PChk := fun o _ cc pc i => match decode cc pc with
  | .ok (.invokestatic n, 3) => decide (lw_tbl[p_b i]? = some (.methodLink (cN o) n Lib.Math.min.name)) && goodWord (.methodLink (cN o) n Lib.Math.min.name)
  | _ => false
theorem z_mmin : SoundP c_mmin s_mmin := by
  intro G p l e R s m args below meth c Q o ini cc nL i pc pls pst h r H locs cells slots rls F hc hs hW hS hL hcl hsl k
  obtain ⟨hx, hb, hml, hown, hts, hK, -, hfr, hlo, -⟩ := F
  unfold c_mmin at hc
  split at hc
  next n hd =>
    simp only [Bool.and_eq_true, decide_eq_true_eq] at hc
    unfold s_mmin at hs
    split at hs
    next y x rest =>
      split at hs
      next hr =>
        cases hs
        simp only [Nat.sub_self, Nat.add_zero] at k hcl hsl
        have h8 : ((rest.map (tr G)).map fun v => v.category).sum ≤ 8 := Nat.le_trans (cat_sum G rest) (by omega)
        exact va_mmin hx hb (hml.trans hL.1.1.symm) hown (hts _ (gt_in _ hc.1 hc.2)) (hts _ (gt_in 511 (by decide +kernel) rfl)) (hts _ (gt_in 179 (by decide +kernel) rfl)) (hts _ (gt_in 512 (by decide +kernel) rfl)) hfr (by omega) hcl hsl hd (k H locs rls hW hS hL)
      · cases hs
    · cases hs
  · cases hc
end
section
/-! THE PURE MACHINE: its runs -/
def s_nop : PSem := fun _ _ _ _ _ => none
def c_nop : PChk := fun _ _ _ _ _ => true
theorem z_nop : SoundP c_nop s_nop := by
  intro G p l e R s m args below meth c Q o ini cc nL i pc pls pst h r H locs cells slots rls F hc hs
  cases hs
def HS1 : List (PChk × PSem) := [(c_nop, s_nop), (c_iadd, s_iadd), (c_isub, s_isub), (c_imul, s_imul), (c_iand, s_iand), (c_ior, s_ior), (c_ixor, s_ixor), (c_ishl, s_ishl), (c_ishr, s_ishr), (c_iushr, s_iushr), (c_idiv, s_idiv), (c_irem, s_irem), (c_ladd, s_ladd), (c_lsub, s_lsub), (c_lmul, s_lmul), (c_land, s_land), (c_lor, s_lor), (c_lxor, s_lxor), (c_ldiv, s_ldiv), (c_lrem, s_lrem), (c_lshl, s_lshl), (c_lushr, s_lushr), (c_lcmp, s_lcmp), (c_ineg, s_ineg), (c_i2l, s_i2l), (c_l2i, s_l2i), (c_i2b, s_i2b), (c_dup, s_dup), (c_pop, s_pop), (c_pop2, s_pop2), (c_dup22, s_dup22), (c_dup211, s_dup211), (c_ipush, s_ipush), (c_lpush, s_lpush), (c_ldc, s_ldc), (c_ldc2, s_ldc2), (c_iload, s_iload), (c_aload, s_aload), (c_lload, s_lload), (c_aloadS, s_aloadS), (c_istore, s_istore), (c_astore, s_astore), (c_lstore, s_lstore), (c_iinc, s_iinc), (c_if_eq, s_if_eq), (c_icmp_eq, s_icmp_eq), (c_if_ne, s_if_ne), (c_icmp_ne, s_icmp_ne), (c_if_lt, s_if_lt), (c_icmp_lt, s_icmp_lt), (c_if_ge, s_if_ge), (c_icmp_ge, s_icmp_ge), (c_if_gt, s_if_gt), (c_icmp_gt, s_icmp_gt), (c_if_le, s_if_le), (c_icmp_le, s_icmp_le), (c_goto, s_goto), (c_nonnull, s_nonnull), (c_iaload, s_iaload), (c_laload, s_laload), (c_baload, s_baload), (c_alen, s_alen), (c_iastore, s_iastore), (c_lastore, s_lastore), (c_bastore, s_bastore), (c_getf, s_getf), (c_getfN, s_getf), (c_putf, s_putf), (c_putfN, s_putf), (c_putfF, s_putf), (c_new, s_new), (c_newI, s_newI), (c_newB, s_newB), (c_newZ, s_newZ), (c_newL, s_newL), (c_sload, s_sload), (c_slen, s_slen), (c_switch, s_switch), (c_oinit, s_oinit), (c_copyI, s_copyI), (c_copyB, s_copyB), (c_copyL, s_copyL), (c_mmax, s_mmax), (c_mmin, s_mmin)]
abbrev HS : List (PChk × PSem) := HS1
theorem fmc {α : Type} {P : α → Prop} {a : α} {l : List α} (h : P a) (t : ∀ x ∈ l, P x) : ∀ x ∈ a :: l, P x := List.forall_mem_cons.mpr ⟨h, t⟩
theorem fmn {α : Type} {P : α → Prop} : ∀ x ∈ ([] : List α), P x := fun _ h => absurd h List.not_mem_nil
theorem HS_ok : ∀ q ∈ HS, SoundP q.1 q.2 := fmc z_nop <| fmc z_iadd <| fmc z_isub <| fmc z_imul <| fmc z_iand <| fmc z_ior <| fmc z_ixor <| fmc z_ishl <| fmc z_ishr <| fmc z_iushr <| fmc z_idiv <| fmc z_irem <| fmc z_ladd <| fmc z_lsub <| fmc z_lmul <| fmc z_land <| fmc z_lor <| fmc z_lxor <| fmc z_ldiv <| fmc z_lrem <| fmc z_lshl <| fmc z_lushr <| fmc z_lcmp <| fmc z_ineg <| fmc z_i2l <| fmc z_l2i <| fmc z_i2b <| fmc z_dup <| fmc z_pop <| fmc z_pop2 <| fmc z_dup22 <| fmc z_dup211 <| fmc z_ipush <| fmc z_lpush <| fmc z_ldc <| fmc z_ldc2 <| fmc z_iload <| fmc z_aload <| fmc z_lload <| fmc z_aloadS <| fmc z_istore <| fmc z_astore <| fmc z_lstore <| fmc z_iinc <| fmc z_if_eq <| fmc z_icmp_eq <| fmc z_if_ne <| fmc z_icmp_ne <| fmc z_if_lt <| fmc z_icmp_lt <| fmc z_if_ge <| fmc z_icmp_ge <| fmc z_if_gt <| fmc z_icmp_gt <| fmc z_if_le <| fmc z_icmp_le <| fmc z_goto <| fmc z_nonnull <| fmc z_iaload <| fmc z_laload <| fmc z_baload <| fmc z_alen <| fmc z_iastore <| fmc z_lastore <| fmc z_bastore <| fmc z_getf <| fmc z_getfN <| fmc z_putf <| fmc z_putfN <| fmc z_putfF <| fmc z_new <| fmc z_newI <| fmc z_newB <| fmc z_newZ <| fmc z_newL <| fmc z_sload <| fmc z_slen <| fmc z_switch <| fmc z_oinit <| fmc z_copyI <| fmc z_copyB <| fmc z_copyL <| fmc z_mmax <| fmc z_mmin fmn
/-- a method: its class, name, bytes, locals, what it answers, kind (0 static, 1 of an object, 2 constructor), how many parameters, places of its words, its rows by pc -/
abbrev PM : Type := Nat × MethodName × ByteArray × Nat × Option FieldType × Nat × Nat × (Nat × Nat × Nat × Nat) × List PI
abbrev m_o (M : PM) : Nat := M.1
abbrev m_y (M : PM) : MethodName := M.2.1
abbrev m_b (M : PM) : ByteArray := M.2.2.1
abbrev m_L (M : PM) : Nat := M.2.2.2.1
abbrev m_ret (M : PM) : Option FieldType := M.2.2.2.2.1
abbrev m_kd (M : PM) : Nat := M.2.2.2.2.2.1
abbrev m_np (M : PM) : Nat := M.2.2.2.2.2.2.1
abbrev m_pl (M : PM) : Nat × Nat × Nat × Nat := M.2.2.2.2.2.2.2.1
abbrev m_code (M : PM) : List PI := M.2.2.2.2.2.2.2.2
def m_ini (M : PM) : Bool := (m_y M).name == "<init>"
abbrev PCall : Type := Nat → List Value → PH → Option (Option Value × PH)
abbrev PRes : Type := Option (Option Value × PH)
def px_ret (M : PM) (i : PI) (st : List Value) (h : PH) : PRes := match i.1, st with
  | 100, [.int v] => (match m_ret M with
    | some ty => if narrow ty (.int v) = .int v then some (some (.int v), h) else none
    | none => none)
  | 101, [.long v] => some (some (.long v), h)
  | 102, [.ref a] => some (some (.ref a), h)
  | 103, [] => some (none, h)
  | _, _ => none
def recvOK (kd o : Nat) (h : PH) (args : List Value) : Bool := match kd, args with
  | 0, _ => true
  | 1, .ref b :: _ => h_sh h b == some (0, o)
  | 2, .ref _ :: _ => true
  | _, _ => false
def h_le (h h' : PH) : Prop := h_ct h ≤ h_ct h' ∧ h_sl h ≤ h_sl h'
def h_leB (h h' : PH) : Bool := decide (h_ct h ≤ h_ct h' ∧ h_sl h ≤ h_sl h')
/-- a run within one method, of n steps at most -/
def px_exec (mOf : Nat → PM) (call : PCall) (M : PM) : Nat → Nat → List Value → List Value → PH → PRes
  | 0, _, _, _, _ => none
  | n + 1, pc, ls, st, h =>
    match (m_code M)[pc]? with
    | none => none
    | some i =>
      if i.1 < 100 then
        match HS[i.1]? with
        | none => none
        | some q => match q.2 i pc ls st h with
          | none => none
          | some r => if h_leB h r.2.2.2 = true then px_exec mOf call M n r.1 r.2.1 r.2.2.1 r.2.2.2 else none
      else if i.1 = 110 then
        if p_c i ≤ st.length ∧ (st.drop (p_c i)).length ≤ 4 ∧ recvOK (m_kd (mOf (p_b i))) (m_o (mOf (p_b i))) h (st.take (p_c i)).reverse = true then
          match call (p_b i) (st.take (p_c i)).reverse h with
          | none => none
          | some r => if h_leB h r.2 = true then px_exec mOf call M n (pc + 3) ls (r.1.toList ++ st.drop (p_c i)) r.2 else none
        else none
      else px_ret M i st h
def ent1 (v : Value) : List Value := if v.category = 2 then [v, .retAddr 2] else [v]
def ents (nL : Nat) (args : List Value) : List Value := args.flatMap ent1 ++ List.replicate (nL - (args.flatMap ent1).length) (.retAddr 0)
/-- a call, at a depth of d at most -/
def px_run (mOf : Nat → PM) : Nat → Nat → PCall
  | 0, _ => fun _ _ _ => none
  | d + 1, n => fun id args h => if m_o (mOf id) = 13 ∨ m_L (mOf id) < (args.flatMap ent1).length then none else px_exec mOf (px_run mOf d n) (mOf id) n 0 (ents (m_L (mOf id)) args) [] h
theorem h_leB_le {h h' : PH} (q : h_leB h h' = true) : h_le h h' := of_decide_eq_true (p := h_ct h ≤ h_ct h' ∧ h_sl h ≤ h_sl h') q
theorem px_mono (mOf : Nat → PM) (call : PCall) (M : PM) : ∀ (n pc : Nat) (ls st : List Value) (h : PH) (r : Option Value × PH), px_exec mOf call M n pc ls st h = some r → h_le h r.2 := by
  intro n
  induction n with
  | zero => intro pc ls st h r he; cases he
  | succ n ih =>
    intro pc ls st h r he
    unfold px_exec at he
    split at he
    · cases he
    next i hi =>
      split at he
      · split at he
        · cases he
        next q hq =>
          split at he
          · cases he
          next r1 hr =>
            split at he
            next hle =>
              have h1 := h_leB_le hle
              have h2 := ih _ _ _ _ _ he
              exact ⟨Nat.le_trans h1.1 h2.1, Nat.le_trans h1.2 h2.2⟩
            · cases he
      · split at he
        · split at he
          · split at he
            · cases he
            next r1 hr =>
              split at he
              next hle =>
                have h1 := h_leB_le hle
                have h2 := ih _ _ _ _ _ he
                exact ⟨Nat.le_trans h1.1 h2.1, Nat.le_trans h1.2 h2.2⟩
              · cases he
          · cases he
        · unfold px_ret at he
          split at he
          · split at he
            · split at he
              · cases he; exact ⟨Nat.le_refl _, Nat.le_refl _⟩
              · cases he
            · cases he
          · cases he; exact ⟨Nat.le_refl _, Nat.le_refl _⟩
          · cases he; exact ⟨Nat.le_refl _, Nat.le_refl _⟩
          · cases he; exact ⟨Nat.le_refl _, Nat.le_refl _⟩
          · cases he
end
section
/-! THE PURE MACHINE: what it runs, the real one runs -/
def c_call (mOf : Nat → PM) (mlT mlN : List (Nat × Nat × Nat)) (M : PM) (pc : Nat) (i : PI) : Bool := match decode (m_b M) pc with
  | .ok (.invokestatic n, 3) => m_kd (mOf (p_b i)) == 0 && p_c i == m_np (mOf (p_b i)) && (if p_a i = 0 then mlT[p_e i]? == some (m_o M, n, p_b i) else mlN[p_e i]? == some (m_o M, n, p_b i))
  | .ok (.invokevirtual n, 3) => m_kd (mOf (p_b i)) == 1 && p_c i == m_np (mOf (p_b i)) + 1 && (if p_a i = 0 then mlT[p_e i]? == some (m_o M, n, p_b i) else mlN[p_e i]? == some (m_o M, n, p_b i))
  | .ok (.invokespecial n, 3) => m_kd (mOf (p_b i)) == 2 && p_c i == m_np (mOf (p_b i)) + 1 && (if p_a i = 0 then mlT[p_e i]? == some (m_o M, n, p_b i) else mlN[p_e i]? == some (m_o M, n, p_b i))
  | _ => false
def c_ret (M : PM) (pc : Nat) (i : PI) : Bool := match decode (m_b M) pc, i.1 with
  | .ok (.ireturn, 1), 100 => true
  | .ok (.lreturn, 1), 101 => m_ret M == some .long
  | .ok (.areturn, 1), 102 => (match m_ret M with
    | some (.object _) => true
    | some (.array _) => true
    | _ => false)
  | .ok (.return_, 1), 103 => m_ret M == none
  | _, _ => false
def chkI (mOf : Nat → PM) (mlT mlN : List (Nat × Nat × Nat)) (M : PM) (pc : Nat) (i : PI) : Bool :=
  if i.1 < 100 then (match HS[i.1]? with
    | some q => q.1 (m_o M) (m_ini M) (m_b M) pc i
    | none => false) else if i.1 = 110 then c_call mOf mlT mlN M pc i else c_ret M pc i
def codeOK (mOf : Nat → PM) (mlT mlN : List (Nat × Nat × Nat)) (M : PM) : Prop := ∀ (pc : Nat) (i : PI), (m_code M)[pc]? = some i → chkI mOf mlT mlN M pc i = true
def wordsOK (M : PM) : Prop := (m_y M).cls = cN (m_o M) ∧ plainName (m_y M).cls = true ∧ Cond.code (m_y M) (m_b M) (m_L M) (m_ret M) ∈ gt ∧ Cond.initialized (m_y M).cls ∈ gt ∧ (m_kd M = 0 → Cond.static (m_y M) ∈ gt) ∧ (m_kd M = 1 → Cond.instanceMethod (m_y M) ∈ gt ∧ Cond.selects (m_y M).cls (m_y M) (m_y M) ∈ gt ∧ ∃ (T : u_T) (N : Nat), cls[m_o M]? = some ((m_y M).cls, T, N)) ∧ (m_kd M = 2 → Cond.instanceMethod (m_y M) ∈ gt ∧ (m_y M).name = "<init>" ∧ m_ret M = none) ∧ (m_y M).cls ≠ "java/lang/invoke/MethodHandle" ∧ (m_y M).cls ≠ "java/lang/invoke/VarHandle" ∧ (parseMethodDescriptor (m_y M).desc).map (fun d => d.parameters.length) = some (m_np M) ∧ m_L M ≤ 80
def TOK (mOf : Nat → PM) (mlT mlN : List (Nat × Nat × Nat)) : Prop := (∀ id, m_code (mOf id) ≠ [] → wordsOK (mOf id) ∧ codeOK mOf mlT mlN (mOf id)) ∧ (∀ q ∈ mlT, Cond.methodLink (cN q.1) q.2.1 (m_y (mOf q.2.2)) ∈ gt) ∧ (∀ q ∈ mlN, Cond.methodLinkNest (cN q.1) q.2.1 (m_y (mOf q.2.2)) "OneWaySpell" ∈ nt)
def rmOf (d mc ms : Nat) : Room := { frames := d + 1, cells := mc, slots := ms, locals := 60 + 100 * d }
def PcP (G : Gx) (args : List Value) (h : PH) : Array Value → State → Prop := va_Pc (args.map (tr G)) (fun U => Wh G h U.heap ∧ Ks G U)
def Qr (G : Gx) (r : Option Value) (h' : PH) : Array Value → State → Outcome → State → Prop := fun _ st oc t => oc = .returned (r.map (tr G)) ∧ Wh G h' t.heap ∧ va_F (Ax G) st t
def m_ws (M : PM) : List Cond := Cond.code (m_y M) (m_b M) (m_L M) (m_ret M) :: gt
def MetP (G : Gx) (l : Launch) (M : PM) (d : Nat) (args : List Value) (h : PH) (r : Option Value × PH) : Prop := Met l (m_y M) (m_ws M) (rmOf d (h_ct r.2 - h_ct h) (h_sl r.2 - h_sl h)) (PcP G args h) (Qr G r.1 r.2) (h_ct r.2 - h_ct h) (h_sl r.2 - h_sl h) (Ax G)
theorem PcP_blind (G : Gx) (args : List Value) (h : PH) : FrameBlind (PcP G args h) := fun _ _ _ _ q => ⟨q.1, q.2.1, q.2.2.calling⟩
section QCALL
variable {p : Program} {l : Launch} {e : Env} {R : Room} {s : State} {m : MethodId} {args : Array Value} {below : List Frame} {meth : Method} {c : Code} {H : Heap} {locs : List Loc} {cells slots : Nat} {Q : State → Prop}
theorem q_call {G : Gx} {r : Option Value} {h' : PH} {a : Array Value} {mc ms pc : Nat} {ls : Array Slot} {st0 rest : List Value} (hr : va_Run p l e R s m args below meth c H locs cells slots mc ms (F0 m pc ls st0) rest (Qr G r h' a) (Ax G)) (hS : va_S (Ax G) s.heap H locs)
    (kk : ∀ (H1 : Heap) (locs1 : List Loc), Wh G h' H1 → va_S (Ax G) s.heap H1 locs1 → W p l e R s m args below meth c H1 locs1 (cells + mc) (slots + ms) Q (F0 m (pc + 3) ls ((r.map (tr G)).toList ++ rest))) : W p l e R s m args below meth c H locs cells slots Q (F0 m pc ls st0) := by
  intro T hT X
  obtain ⟨v, st₀, t, T', L, h0, X', hL, e1, e2, ⟨hv, hb, hz, hk⟩, st⟩ := hr T hT X
  have hv : v = r.map (tr G) := by injection hv
  subst hv
  rw [h0] at hz hk
  obtain ⟨t2, a1, b1⟩ := kk T'.heap (locs ++ L) (by rw [e1]; exact hb)
    ⟨Nat.le_trans hS.1 (by rw [e1]; exact hz), fun q h1 h2 => by rw [e1, hk q (Nat.lt_of_lt_of_le h1 hS.1) h2]; exact hS.2.1 q h1 h2, fun q hq => by
      rcases List.mem_append.mp hq with h | h
      · exact hS.2.2 q h
      · exact hL q h⟩ T' rfl X'
  exact ⟨t2, st t2 a1, b1⟩
/-- one call: by the contract of the method that it goes to -/
theorem call_sound {G : Gx} {mOf : Nat → PM} {mlT mlN : List (Nat × Nat × Nat)} (hT : TOK mOf mlT mlN) {M : PM} {d pc : Nat} {i : PI} {pst : List Value} {h : PH} {r : Option Value × PH} {rls : Array Slot} (F : Fx G p s m args meth c R (m_o M) (m_ini M) (m_b M) (m_L M)) (hR : d + 2 ≤ R.frames ∧ 60 + 100 * (d + 1) ≤ R.locals)
    (hc : c_call mOf mlT mlN M pc i = true) (hne : m_code (mOf (p_b i)) ≠ []) (h1 : p_c i ≤ pst.length) (h2 : (pst.drop (p_c i)).length ≤ 4) (h3 : recvOK (m_kd (mOf (p_b i))) (m_o (mOf (p_b i))) h (pst.take (p_c i)).reverse = true) (hM : MetP G l (mOf (p_b i)) d (pst.take (p_c i)).reverse h r)
    (hW : Wh G h H) (hS : va_S (Ax G) s.heap H locs) (hsz : rls.size = m_L M) (hcl : cells + (h_ct r.2 - h_ct h) ≤ R.cells) (hsl : slots + (h_sl r.2 - h_sl h) ≤ R.slots)
    (kk : ∀ (H1 : Heap) (locs1 : List Loc), Wh G r.2 H1 → va_S (Ax G) s.heap H1 locs1 → W p l e R s m args below meth c H1 locs1 (cells + (h_ct r.2 - h_ct h)) (slots + (h_sl r.2 - h_sl h)) Q (F0 m (pc + 3) rls ((r.1.toList ++ pst.drop (p_c i)).map (tr G)))) : W p l e R s m args below meth c H locs cells slots Q (F0 m pc rls (pst.map (tr G))) := by
  obtain ⟨hx, hb, hml, hown, hts, hK, -⟩ := F
  obtain ⟨w1, w2, w3, w4, w5, w6, w7, w8, w9, w10, w11⟩ := (hT.1 _ hne).1
  have hG : GoodIn gt (m_ws (mOf (p_b i))) := fun w hw => by
    rcases List.mem_cons.mp hw with rfl | hw
    · exact ⟨w3, gt_good w3⟩
    · exact ⟨hw, gt_good hw⟩
  have hst : pst.map (tr G) = ((pst.take (p_c i)).reverse.map (tr G)).reverse ++ (pst.drop (p_c i)).map (tr G) := by
    rw [← List.map_reverse, List.reverse_reverse, ← List.map_append, List.take_append_drop]
  have hlen : ((pst.take (p_c i)).reverse).length = p_c i := by simp; omega
  generalize has : (pst.take (p_c i)).reverse = as at hM h3 hst hlen
  have h8 : (((pst.drop (p_c i)).map (tr G)).map fun v => v.category).sum ≤ 8 := Nat.le_trans (cat_sum G _) (by omega)
  have hroom : (rmOf d (h_ct r.2 - h_ct h) (h_sl r.2 - h_sl h)).frames + 1 ≤ R.frames ∧ 8 + (m_L (mOf (p_b i)) + 11) + (rmOf d (h_ct r.2 - h_ct h) (h_sl r.2 - h_sl h)).locals ≤ R.locals := ⟨hR.1, by show 8 + (_ + 11) + (60 + 100 * d) ≤ _; omega⟩
  have hpre : ∀ U : State, U.heap = H → s.WarmedH U.vm → PcP G as h (as.map (tr G)).toArray U := fun U hU hw => ⟨rfl, by rw [hU]; exact hW, hK.warm hw⟩
  have kk : ∀ (H1 : Heap) (locs1 : List Loc), Wh G r.2 H1 → va_S (Ax G) s.heap H1 locs1 → W p l e R s m args below meth c H1 locs1 (cells + (h_ct r.2 - h_ct h)) (slots + (h_sl r.2 - h_sl h)) Q (F0 m (pc + 3) rls ((r.1.map (tr G)).toList ++ (pst.drop (p_c i)).map (tr G))) := fun H1 l1 a1 a2 => by
    have := kk H1 l1 a1 a2
    rw [List.map_append] at this
    cases hr1 : r.1 <;> rw [hr1] at this <;> exact this
  unfold c_call at hc
  split at hc
  next n hd =>
    simp only [Bool.and_eq_true, beq_iff_eq] at hc
    obtain ⟨⟨g1, g2⟩, g3⟩ := hc
    have hn : (as.map (tr G)).length = m_np (mOf (p_b i)) := by rw [List.length_map, hlen, g2]
    by_cases hz : p_a i = 0
    · rw [if_pos hz] at g3
      have hl := hT.2.1 _ (List.mem_of_getElem? (beq_iff_eq.mp g3))
      refine q_call (va_runS (nL := m_L M) (As := as.map (tr G)) (rest := (pst.drop (p_c i)).map (tr G)) (Ts := gt) ⟨hx, hb, hml, hown, hts⟩ hM ⟨callB_of (ws' := gt) (m_np (mOf (p_b i))) hts hG rfl rfl rfl (hts _ w4) (hts _ hl) ⟨w8, w9, w10⟩ hroom, hts _ (w5 g1)⟩ ⟨PcP_blind G _ _, hpre⟩ rfl hn hsz hst (lv_room h8) hd ⟨hcl, hsl⟩) hS kk
    · rw [if_neg hz] at g3
      have hl := hT.2.2 _ (List.mem_of_getElem? (beq_iff_eq.mp g3))
      refine q_call (va_runSN (nL := m_L M) (As := as.map (tr G)) (rest := (pst.drop (p_c i)).map (tr G)) (Ts := gt) ⟨hx, hb, hml, hown, hts⟩ hM ⟨va_cnB (ws' := gt) (m_np (mOf (p_b i))) hts hG rfl rfl rfl (hK.2 _ hl) (hts _ w4) ⟨w8, w9, w10⟩ hroom, hts _ (w5 g1), trivial⟩ ⟨PcP_blind G _ _, hpre⟩ rfl hn hsz hst (lv_room h8) hd ⟨hcl, hsl⟩) hS kk
  next n hd =>
    simp only [Bool.and_eq_true, beq_iff_eq] at hc
    obtain ⟨⟨g1, g2⟩, g3⟩ := hc
    rw [g1] at h3
    obtain ⟨w61, w62, T, N, w63⟩ := w6 g1
    match as, hM, h3, hst, hlen, hpre, has with
    | .ref b :: as, hM, h3, hst, hlen, hpre, has =>
      have hsh : h_sh h b = some (0, m_o (mOf (p_b i))) := beq_iff_eq.mp h3
      have hn : (as.map (tr G)).length = m_np (mOf (p_b i)) := by rw [List.length_map]; simp at hlen; omega
      have hst' : pst.map (tr G) = (as.map (tr G)).reverse ++ .ref (G.1 + b) :: (pst.drop (p_c i)).map (tr G) := by rw [hst]; simp [tr_ref]
      have hrecv := va_recv hK.1 (va_P1 (hW.at hsh)) w63 (ci := m_o (mOf (p_b i))) (q0 := 0) (fs := (List.range (fN (m_o (mOf (p_b i))))).map (fval G h (m_o (mOf (p_b i))) b)) rfl
      by_cases hz : p_a i = 0
      · rw [if_pos hz] at g3
        have hl := hT.2.1 _ (List.mem_of_getElem? (beq_iff_eq.mp g3))
        refine q_call (va_runV (nL := m_L M) (C := (m_y (mOf (p_b i))).cls) (b := G.1 + b) (As := as.map (tr G)) (rest := (pst.drop (p_c i)).map (tr G)) (Ts := gt) ⟨hx, hb, hml, hown, hts⟩ hM ⟨callB_of (ws' := gt) (m_np (mOf (p_b i))) hts hG rfl rfl rfl (hts _ w4) (hts _ hl) ⟨w8, w9, w10⟩ hroom, hts _ w61, hts _ w62⟩ ⟨PcP_blind G _ _, hrecv, hpre⟩ rfl hn hsz hst' (lv_room h8) hd ⟨hcl, hsl⟩) hS kk
      · rw [if_neg hz] at g3
        have hl := hT.2.2 _ (List.mem_of_getElem? (beq_iff_eq.mp g3))
        refine q_call (va_runVN (nL := m_L M) (C := (m_y (mOf (p_b i))).cls) (b := G.1 + b) (As := as.map (tr G)) (rest := (pst.drop (p_c i)).map (tr G)) (Ts := gt) ⟨hx, hb, hml, hown, hts⟩ hM ⟨va_cnB (ws' := gt) (m_np (mOf (p_b i))) hts hG rfl rfl rfl (hK.2 _ hl) (hts _ w4) ⟨w8, w9, w10⟩ hroom, hts _ w61, hts _ w62⟩ ⟨PcP_blind G _ _, hrecv, hpre⟩ rfl hn hsz hst' (lv_room h8) hd ⟨hcl, hsl⟩) hS kk
    | [], _, h3, _, _, _, _ => cases h3
    | .int _ :: _, _, h3, _, _, _, _ => cases h3
    | .long _ :: _, _, h3, _, _, _, _ => cases h3
    | .float _ :: _, _, h3, _, _, _, _ => cases h3
    | .double _ :: _, _, h3, _, _, _, _ => cases h3
    | .null :: _, _, h3, _, _, _, _ => cases h3
    | .retAddr _ :: _, _, h3, _, _, _, _ => cases h3
  next n hd =>
    simp only [Bool.and_eq_true, beq_iff_eq] at hc
    obtain ⟨⟨g1, g2⟩, g3⟩ := hc
    rw [g1] at h3
    obtain ⟨w71, w72, w73⟩ := w7 g1
    match as, hM, h3, hst, hlen, hpre, has with
    | .ref b :: as, hM, h3, hst, hlen, hpre, has =>
      have hn : (as.map (tr G)).length = m_np (mOf (p_b i)) := by rw [List.length_map]; simp at hlen; omega
      have hst' : pst.map (tr G) = (as.map (tr G)).reverse ++ .ref (G.1 + b) :: (pst.drop (p_c i)).map (tr G) := by rw [hst]; simp [tr_ref]
      have hw' : m_ws (mOf (p_b i)) = Cond.code (m_y (mOf (p_b i))) (m_b (mOf (p_b i))) (m_L (mOf (p_b i))) none :: gt := by rw [← w73]; rfl
      by_cases hz : p_a i = 0
      · rw [if_pos hz] at g3
        have hl := hT.2.1 _ (List.mem_of_getElem? (beq_iff_eq.mp g3))
        refine q_call (va_runI (nL := m_L M) (b := G.1 + b) (As := as.map (tr G)) (rest := (pst.drop (p_c i)).map (tr G)) (Ts := gt) ⟨hx, hb, hml, hown, hts⟩ hM ⟨callB_of (ws' := gt) (m_np (mOf (p_b i))) hts hG hw' rfl rfl (hts _ w4) (hts _ hl) ⟨w8, w9, w10⟩ hroom, w72, hts _ w71⟩ ⟨PcP_blind G _ _, hpre⟩ rfl hn hsz hst' (lv_room h8) hd ⟨hcl, hsl⟩) hS kk
      · rw [if_neg hz] at g3
        have hl := hT.2.2 _ (List.mem_of_getElem? (beq_iff_eq.mp g3))
        refine q_call (va_runIN (nL := m_L M) (b := G.1 + b) (As := as.map (tr G)) (rest := (pst.drop (p_c i)).map (tr G)) (Ts := gt) ⟨hx, hb, hml, hown, hts⟩ hM ⟨va_cnB (ws' := gt) (m_np (mOf (p_b i))) hts hG hw' rfl rfl (hK.2 _ hl) (hts _ w4) ⟨w8, w9, w10⟩ hroom, w72, hts _ w71⟩ ⟨PcP_blind G _ _, hpre⟩ rfl hn hsz hst' (lv_room h8) hd ⟨hcl, hsl⟩) hS kk
    | [], _, h3, _, _, _, _ => cases h3
    | .int _ :: _, _, h3, _, _, _, _ => cases h3
    | .long _ :: _, _, h3, _, _, _, _ => cases h3
    | .float _ :: _, _, h3, _, _, _, _ => cases h3
    | .double _ :: _, _, h3, _, _, _, _ => cases h3
    | .null :: _, _, h3, _, _, _, _ => cases h3
    | .retAddr _ :: _, _, h3, _, _, _, _ => cases h3
  · cases hc
end QCALL
end
section
/-! THE PURE MACHINE: whole runs -/
/-- where a method ends: the instruction, and what it answers -/
def RetAt (M : PM) (pc : Nat) (r : Option Value) : Prop := match r with
  | some (.int v) => decode (m_b M) pc = .ok (.ireturn, 1) ∧ ∃ ty, m_ret M = some ty ∧ narrow ty (.int v) = .int v
  | some (.long _) => decode (m_b M) pc = .ok (.lreturn, 1) ∧ m_ret M = some .long
  | some (.ref _) => decode (m_b M) pc = .ok (.areturn, 1) ∧ ∃ ty, m_ret M = some ty ∧ ((∃ n, ty = .object n) ∨ ∃ t, ty = .array t)
  | none => decode (m_b M) pc = .ok (.return_, 1) ∧ m_ret M = none
  | _ => False
theorem ret_at {M : PM} {pc : Nat} {i : PI} {st : List Value} {h : PH} {r : Option Value × PH} (hc : c_ret M pc i = true) (he : px_ret M i st h = some r) : RetAt M pc r.1 ∧ r.2 = h ∧ st = r.1.toList := by
  unfold px_ret at he
  split at he
  next v hi =>
    unfold c_ret at hc
    rw [hi] at hc
    split at hc
    next hd _ =>
      split at he
      next ty hty =>
        split at he
        next hn => cases he; exact ⟨⟨hd, ty, hty, hn⟩, rfl, rfl⟩
        · cases he
      · cases he
    next h1 h2 => cases h2
    next h1 h2 => cases h2
    next h1 h2 => cases h2
    · cases hc
  next v hi =>
    unfold c_ret at hc
    rw [hi] at hc
    split at hc
    next h1 h2 => cases h2
    next hd _ => cases he; exact ⟨⟨hd, beq_iff_eq.mp hc⟩, rfl, rfl⟩
    next h1 h2 => cases h2
    next h1 h2 => cases h2
    · cases hc
  next a hi =>
    unfold c_ret at hc
    rw [hi] at hc
    split at hc
    next h1 h2 => cases h2
    next h1 h2 => cases h2
    next hd _ =>
      cases he
      split at hc
      next n hn => exact ⟨⟨hd, _, hn, Or.inl ⟨_, rfl⟩⟩, rfl, rfl⟩
      next n hn => exact ⟨⟨hd, _, hn, Or.inr ⟨_, rfl⟩⟩, rfl, rfl⟩
      · cases hc
    next h1 h2 => cases h2
    · cases hc
  next hi =>
    unfold c_ret at hc
    rw [hi] at hc
    split at hc
    next h1 h2 => cases h2
    next h1 h2 => cases h2
    next h1 h2 => cases h2
    next hd _ => cases he; exact ⟨⟨hd, beq_iff_eq.mp hc⟩, rfl, rfl⟩
    · cases hc
  · cases he
theorem exec_sound {G : Gx} {p : Program} {l : Launch} {e : Env} {R : Room} {s : State} {m : MethodId} {args : Array Value} {below : List Frame} {meth : Method} {c : Code} {Q : State → Prop} {mOf : Nat → PM} {mlT mlN : List (Nat × Nat × Nat)} (hT : TOK mOf mlT mlN) {M : PM} (hMc : codeOK mOf mlT mlN M) {d : Nat} {call : PCall}
    (hcall : ∀ id as h r, call id as h = some r → m_code (mOf id) ≠ [] ∧ MetP G l (mOf id) d as h r) (F : Fx G p s m args meth c R (m_o M) (m_ini M) (m_b M) (m_L M)) (hR : d + 2 ≤ R.frames ∧ 60 + 100 * (d + 1) ≤ R.locals) {rE : Option Value × PH} {CE SE : Nat} (hCE : CE ≤ R.cells) (hSE : SE ≤ R.slots)
    (kret : ∀ (H' : Heap) (locs' : List Loc) (rls' : Array Slot) (pc' : Nat), Wh G rE.2 H' → va_S (Ax G) s.heap H' locs' → RetAt M pc' rE.1 → W p l e R s m args below meth c H' locs' CE SE Q (F0 m pc' rls' (rE.1.toList.map (tr G)))) :
    ∀ (n pc : Nat) (pls pst : List Value) (h : PH) (H : Heap) (locs : List Loc) (cells slots : Nat) (rls : Array Slot), px_exec mOf call M n pc pls pst h = some rE → Wh G h H → va_S (Ax G) s.heap H locs → LV G rls (m_L M) pls → cells + (h_ct rE.2 - h_ct h) = CE → slots + (h_sl rE.2 - h_sl h) = SE → W p l e R s m args below meth c H locs cells slots Q (F0 m pc rls (pst.map (tr G))) := by
  intro n
  induction n with
  | zero => intro pc pls pst h H locs cells slots rls he; cases he
  | succ n ih =>
    intro pc pls pst h H locs cells slots rls he hW hS hL e1 e2
    unfold px_exec at he
    split at he
    · cases he
    next i hi =>
      have hck := hMc pc i hi
      unfold chkI at hck
      split at he
      next hlt =>
        rw [if_pos hlt] at hck
        split at he
        · cases he
        next q hq =>
          rw [hq] at hck
          split at he
          · cases he
          next r1 hr =>
            split at he
            next hle =>
              have m1 := h_leB_le hle
              have m2 := px_mono _ _ _ _ _ _ _ _ _ he
              obtain ⟨m1a, m1b⟩ := m1
              obtain ⟨m2a, m2b⟩ := m2
              refine HS_ok q (List.mem_of_getElem? hq) G p l e R s m args below meth c Q (m_o M) (m_ini M) (m_b M) (m_L M) i pc pls pst h r1 H locs cells slots rls F hck hr hW hS hL (by omega) (by omega) ?_
              intro H' locs' rls' w1 w2 w3
              exact ih _ _ _ _ H' locs' _ _ rls' he w1 w2 w3 (by omega) (by omega)
            · cases he
      next hge =>
        rw [if_neg hge] at hck
        split at he
        next h110 =>
          rw [if_pos h110] at hck
          split at he
          next hcond =>
            split at he
            · cases he
            next r1 hr =>
              split at he
              next hle =>
                obtain ⟨m1a, m1b⟩ := h_leB_le hle
                obtain ⟨m2a, m2b⟩ := px_mono _ _ _ _ _ _ _ _ _ he
                obtain ⟨hne, hM⟩ := hcall _ _ _ _ hr
                refine call_sound hT F hR hck hne hcond.1 hcond.2.1 hcond.2.2 hM hW hS hL.1.1 (by omega) (by omega) ?_
                intro H' locs' w1 w2
                exact ih _ _ _ _ H' locs' _ _ rls he w1 w2 hL (by omega) (by omega)
              · cases he
          · cases he
        next hn110 =>
          rw [if_neg hn110] at hck
          obtain ⟨r1, r2, r3⟩ := ret_at hck he
          rw [← r2] at e1 e2
          simp only [Nat.sub_self, Nat.add_zero] at e1 e2
          subst e1
          subst e2
          rw [r3]
          exact kret H locs rls pc (by rw [r2]; exact hW) hS r1
theorem lvs_ents (G : Gx) (nL : Nat) (as : List Value) : ∀ q ∈ lvs G (ents nL as), q ∈ lv_args 0 (as.map (tr G)) := by
  have key : ∀ (as pre : List Value) (k : Nat) (q : Nat × Value), (∃ v, (as.flatMap ent1 ++ List.replicate k (.retAddr 0))[q.1]? = some v ∧ okv (as.flatMap ent1 ++ List.replicate k (.retAddr 0)) q.1 v = true ∧ q.2 = tr G v) → ∀ off, (q.1 + off, q.2) ∈ lv_args off (as.map (tr G)) := by
    intro as
    induction as with
    | nil =>
      intro pre k q ⟨v, h1, h2, h3⟩ off
      simp only [List.flatMap_nil, List.nil_append] at h1
      rw [List.getElem?_replicate] at h1
      split at h1
      · cases h1; cases h2
      · cases h1
    | cons a as ih =>
      intro pre k q ⟨v, h1, h2, h3⟩ off
      obtain ⟨j, w⟩ := q
      dsimp only at h1 h2 h3 ⊢
      rw [List.map_cons]
      unfold lv_args
      rw [List.flatMap_cons, List.append_assoc] at h1 h2
      by_cases hcat : a.category = 2
      · rw [if_pos (show (tr G a).category = 2 by rw [tr_cat]; exact hcat)]
        have hent : ent1 a = [a, .retAddr 2] := if_pos hcat
        rw [hent] at h1 h2
        simp only [List.cons_append, List.nil_append] at h1 h2
        match j with
        | 0 =>
          simp at h1
          subst h1
          rw [h3, Nat.zero_add]
          exact List.mem_cons_self
        | 1 =>
          simp at h1
          subst h1
          cases h2
        | j + 2 =>
          refine List.mem_cons_of_mem _ ?_
          have := ih [] k (j, w) ⟨v, by simpa using h1, ?_, h3⟩ (off + 2)
          · dsimp only at this
            rw [show j + 2 + off = j + (off + 2) by omega]
            exact this
          · cases v <;> first | rfl | exact h2 | (simp only [okv] at h2 ⊢; simpa using h2)
      · rw [if_neg (show ¬ (tr G a).category = 2 by rw [tr_cat]; exact hcat)]
        have hent : ent1 a = [a] := if_neg hcat
        rw [hent] at h1 h2
        simp only [List.cons_append, List.nil_append] at h1 h2
        match j with
        | 0 =>
          simp at h1
          subst h1
          rw [h3, Nat.zero_add]
          exact List.mem_cons_self
        | j + 1 =>
          refine List.mem_cons_of_mem _ ?_
          have := ih [] k (j, w) ⟨v, by simpa using h1, ?_, h3⟩ (off + 1)
          · dsimp only at this
            rw [show j + 1 + off = j + (off + 1) by omega]
            exact this
          · cases v <;> first | rfl | exact h2 | (simp only [okv] at h2 ⊢; simpa using h2)
  intro q hq
  have := key as [] _ q (mem_lvs.mp hq) 0
  simpa using this
theorem ents_len {nL : Nat} {as : List Value} (h : ¬ nL < (as.flatMap ent1).length) : (ents nL as).length = nL := by
  unfold ents
  rw [List.length_append, List.length_replicate]
  omega
theorem lg_len (G : Gx) : ∀ as : List Value, (lg_sl (as.map (tr G))).length = (as.flatMap ent1).length
  | [] => rfl
  | a :: as => by
    have h := lg_len G as
    unfold lg_sl at h ⊢
    rw [List.map_cons, List.flatMap_cons, List.flatMap_cons, List.length_append, List.length_append, h, tr_cat]
    by_cases hc : a.category = 2
    · rw [if_pos hc, ent1, if_pos hc]; rfl
    · rw [if_neg hc, ent1, if_neg hc]; rfl
theorem px_code {mOf : Nat → PM} {call : PCall} {M : PM} {n pc : Nat} {ls st : List Value} {h : PH} {r : Option Value × PH} (he : px_exec mOf call M n pc ls st h = some r) : m_code M ≠ [] := by
  intro h0
  cases n with
  | zero => cases he
  | succ n =>
    unfold px_exec at he
    rw [h0] at he
    cases he
/-- every call that the pure machine makes, the real one makes: the contract of each method, for each of its runs -/
theorem run_sound {mOf : Nat → PM} {mlT mlN : List (Nat × Nat × Nat)} (hT : TOK mOf mlT mlN) (G : Gx) (l : Launch) (n : Nat) : ∀ (d id : Nat) (as : List Value) (h : PH) (r : Option Value × PH), px_run mOf d n id as h = some r → m_code (mOf id) ≠ [] ∧ MetP G l (mOf id) d as h r := by
  intro d
  induction d with
  | zero => intro id as h r he; cases he
  | succ d ih =>
    intro id as h r he
    unfold px_run at he
    split at he
    · cases he
    next hcond =>
      have hne := px_code he
      refine ⟨hne, ?_⟩
      obtain ⟨⟨w1, w2, w3, w4, w5, w6, w7, w8, w9, w10, w11⟩, hMc⟩ := hT.1 _ hne
      unfold MetP
      refine Met.ofW (cc := m_b (mOf id)) (maxL := m_L (mOf id)) (ret := m_ret (mOf id)) w2 rfl ?_
      intro p e s m args below meth c s₁ B hml hv
      obtain ⟨rfl, hW, hK⟩ := hv
      have hx := B.exec
      have hb := B.bytes
      have hr := B.returns
      have hts := atoms_spec (ws := m_ws (mOf id)) B.pre
      have hown : s.vm.findClass (m_y (mOf id)).cls = some m.cls := findClass_of_methodNamed B.named
      have hlocks := B.notSynchronized
      have hnm : meth.name = (m_y (mOf id)).name := (name_of_methodNamed B.named B.method).1
      have hlen : ¬ m_L (mOf id) < (as.flatMap ent1).length := fun q => hcond (Or.inr q)
      rw [lg_entry_eq]
      have hl := lv_entry (as.map (tr G)) (n := m_L (mOf id)) (by rw [lg_len]; omega)
      generalize (lg_sl (as.map (tr G)) ++ List.replicate (m_L (mOf id) - (lg_sl (as.map (tr G))).length) Slot.unset).toArray = ls at hl ⊢
      have hL : LV G ls (m_L (mOf id)) (ents (m_L (mOf id)) as) := ⟨lv_mono hl (lvs_ents G _ as), ents_len hlen⟩
      show W p l e (rmOf (d + 1) (h_ct r.2 - h_ct h) (h_sl r.2 - h_sl h)) s m _ below meth c s.heap [] 0 0 _ _
      have F : Fx G p s m (as.map (tr G)).toArray meth c (rmOf (d + 1) (h_ct r.2 - h_ct h) (h_sl r.2 - h_sl h)) (m_o (mOf id)) (m_ini (mOf id)) (m_b (mOf id)) (m_L (mOf id)) :=
        ⟨hx, hb, hml, by rw [← w1]; exact hown, fun w hw => hts w (List.mem_cons_of_mem _ hw), hK, fun hi => by rw [hnm]; exact beq_iff_eq.mp hi, by show 1 ≤ d + 1 + 1; omega, by show 60 ≤ 60 + 100 * (d + 1); omega, by rw [hW.1]; omega, fun ho => absurd (Or.inl ho) hcond⟩
      refine exec_sound hT hMc (call := px_run mOf d n) (d := d) ih F ⟨Nat.le_refl _, Nat.le_refl _⟩ (rE := r) (CE := h_ct r.2 - h_ct h) (SE := h_sl r.2 - h_sl h) (Nat.le_refl _) (Nat.le_refl _) ?_ n 0 (ents (m_L (mOf id)) as) [] h s.heap [] 0 0 ls he hW va_S.rf hL (Nat.zero_add _) (Nat.zero_add _)
      intro H' locs' rls' pc' hW' hS' hret
      obtain ⟨r1, h'⟩ := r
      dsimp only at hW' hret ⊢
      match r1, hret with
      | some (.int v), hret =>
        obtain ⟨hd, ty, hty, hn⟩ := hret
        exact W.zret hx hb (hr.trans hty) hn (fun t ht hw => ⟨rfl, by rw [ht]; exact hW', hS'.F ht⟩) hS'.2.2 hd
      | some (.long v), hret =>
        obtain ⟨hd, hty⟩ := hret
        exact W.lret hx hb (hr.trans hty) (fun t ht hw => ⟨rfl, by rw [ht]; exact hW', hS'.F ht⟩) hS'.2.2 hd
      | some (.ref a), hret =>
        obtain ⟨hd, ty, hty, hrt⟩ := hret
        exact W.aret hx hb (hr.trans hty) hrt (Or.inr ⟨_, rfl⟩) (fun t ht hw => ⟨rfl, by rw [ht]; exact hW', hS'.F ht⟩) hS'.2.2 hd
      | none, hret =>
        obtain ⟨hd, hty⟩ := hret
        exact W.vret hx hb (hr.trans hty) (fun t ht hw => ⟨rfl, by rw [ht]; exact hW', hS'.F ht⟩) hS'.2.2 hd
end
