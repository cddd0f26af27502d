-- ===== PART A: goes FIRST, ahead of the names: the tables' words, and 'selects' of the private methods out of them =====
/-- a private method of a class that the tables say can be made, by its rows of tables_1 -/
def lw_okq (q : MethodName × Nat) : Prop := (q.1.cls ≠ "java/lang/invoke/MethodHandle" ∧ q.1.cls ≠ "java/lang/invoke/VarHandle") ∧ Cond.instantiable q.1.cls q.2 ∈ tables_1 ∧ Cond.privateMethod q.1 ∈ tables_1 ∧ Cond.instanceMethod q.1 ∈ tables_1
theorem lw_p0 : lw_okq (⟨"WillDeposit", "putNumber", "(I)V"⟩, 12) := ⟨⟨by decide +kernel, by decide +kernel⟩, List.mem_of_getElem? (i := 29) (by decide +kernel), List.mem_of_getElem? (i := 523) (by decide +kernel), List.mem_of_getElem? (i := 524) (by decide +kernel)⟩
theorem lw_p1 : lw_okq (⟨"WillDeposit$Tokens", "skipBlanks", "()V"⟩, 7) := ⟨⟨by decide +kernel, by decide +kernel⟩, List.mem_of_getElem? (i := 319) (by decide +kernel), List.mem_of_getElem? (i := 538) (by decide +kernel), List.mem_of_getElem? (i := 539) (by decide +kernel)⟩
theorem lw_p2 : lw_okq (⟨"WillDeposit$Tokens", "cutNumber", "()V"⟩, 7) := ⟨⟨by decide +kernel, by decide +kernel⟩, List.mem_of_getElem? (i := 319) (by decide +kernel), List.mem_of_getElem? (i := 545) (by decide +kernel), List.mem_of_getElem? (i := 546) (by decide +kernel)⟩
theorem lw_p3 : lw_okq (⟨"WillDeposit$Tokens", "cutWord", "()V"⟩, 7) := ⟨⟨by decide +kernel, by decide +kernel⟩, List.mem_of_getElem? (i := 319) (by decide +kernel), List.mem_of_getElem? (i := 555) (by decide +kernel), List.mem_of_getElem? (i := 556) (by decide +kernel)⟩
theorem lw_p4 : lw_okq (⟨"WillDeposit$Tokens", "wordKind", "(I)LWillDeposit$Token;"⟩, 7) := ⟨⟨by decide +kernel, by decide +kernel⟩, List.mem_of_getElem? (i := 319) (by decide +kernel), List.mem_of_getElem? (i := 559) (by decide +kernel), List.mem_of_getElem? (i := 560) (by decide +kernel)⟩
theorem lw_p5 : lw_okq (⟨"WillDeposit$Tokens", "isWord", "(Ljava/lang/String;I)Z"⟩, 7) := ⟨⟨by decide +kernel, by decide +kernel⟩, List.mem_of_getElem? (i := 319) (by decide +kernel), List.mem_of_getElem? (i := 565) (by decide +kernel), List.mem_of_getElem? (i := 566) (by decide +kernel)⟩
theorem lw_p6 : lw_okq (⟨"WillDeposit$TextReader", "comes", "()LWillDeposit$Token;"⟩, 8) := ⟨⟨by decide +kernel, by decide +kernel⟩, List.mem_of_getElem? (i := 355) (by decide +kernel), List.mem_of_getElem? (i := 628) (by decide +kernel), List.mem_of_getElem? (i := 629) (by decide +kernel)⟩
theorem lw_p7 : lw_okq (⟨"WillDeposit$TextReader", "readLand", "()V"⟩, 8) := ⟨⟨by decide +kernel, by decide +kernel⟩, List.mem_of_getElem? (i := 355) (by decide +kernel), List.mem_of_getElem? (i := 641) (by decide +kernel), List.mem_of_getElem? (i := 642) (by decide +kernel)⟩
theorem lw_p8 : lw_okq (⟨"WillDeposit$TextReader", "takeToken", "()V"⟩, 8) := ⟨⟨by decide +kernel, by decide +kernel⟩, List.mem_of_getElem? (i := 355) (by decide +kernel), List.mem_of_getElem? (i := 645) (by decide +kernel), List.mem_of_getElem? (i := 646) (by decide +kernel)⟩
theorem lw_p9 : lw_okq (⟨"WillDeposit$TextReader", "takeNumber", "(II)I"⟩, 8) := ⟨⟨by decide +kernel, by decide +kernel⟩, List.mem_of_getElem? (i := 355) (by decide +kernel), List.mem_of_getElem? (i := 649) (by decide +kernel), List.mem_of_getElem? (i := 650) (by decide +kernel)⟩
theorem lw_p10 : lw_okq (⟨"WillDeposit$TextReader", "fail", "(I)V"⟩, 8) := ⟨⟨by decide +kernel, by decide +kernel⟩, List.mem_of_getElem? (i := 355) (by decide +kernel), List.mem_of_getElem? (i := 654) (by decide +kernel), List.mem_of_getElem? (i := 655) (by decide +kernel)⟩
theorem lw_p11 : lw_okq (⟨"WillDeposit$TextReader", "failAtTaken", "()V"⟩, 8) := ⟨⟨by decide +kernel, by decide +kernel⟩, List.mem_of_getElem? (i := 355) (by decide +kernel), List.mem_of_getElem? (i := 658) (by decide +kernel), List.mem_of_getElem? (i := 659) (by decide +kernel)⟩
theorem lw_p12 : lw_okq (⟨"WillDeposit$TextReader", "readRight", "(LWillDeposit$Land;)V"⟩, 8) := ⟨⟨by decide +kernel, by decide +kernel⟩, List.mem_of_getElem? (i := 355) (by decide +kernel), List.mem_of_getElem? (i := 663) (by decide +kernel), List.mem_of_getElem? (i := 664) (by decide +kernel)⟩
theorem lw_p13 : lw_okq (⟨"WillDeposit$TextReader", "takeOnce", "(Z)V"⟩, 8) := ⟨⟨by decide +kernel, by decide +kernel⟩, List.mem_of_getElem? (i := 355) (by decide +kernel), List.mem_of_getElem? (i := 667) (by decide +kernel), List.mem_of_getElem? (i := 668) (by decide +kernel)⟩
theorem lw_p14 : lw_okq (⟨"WillDeposit$TextReader", "readPerson", "()V"⟩, 8) := ⟨⟨by decide +kernel, by decide +kernel⟩, List.mem_of_getElem? (i := 355) (by decide +kernel), List.mem_of_getElem? (i := 671) (by decide +kernel), List.mem_of_getElem? (i := 672) (by decide +kernel)⟩
theorem lw_p15 : lw_okq (⟨"WillDeposit$TextReader", "takeOneMore", "(II)V"⟩, 8) := ⟨⟨by decide +kernel, by decide +kernel⟩, List.mem_of_getElem? (i := 355) (by decide +kernel), List.mem_of_getElem? (i := 675) (by decide +kernel), List.mem_of_getElem? (i := 676) (by decide +kernel)⟩
def lw_privs_1 : List (MethodName × Nat) := [(⟨"WillDeposit", "putNumber", "(I)V"⟩, 12), (⟨"WillDeposit$Tokens", "skipBlanks", "()V"⟩, 7), (⟨"WillDeposit$Tokens", "cutNumber", "()V"⟩, 7), (⟨"WillDeposit$Tokens", "cutWord", "()V"⟩, 7), (⟨"WillDeposit$Tokens", "wordKind", "(I)LWillDeposit$Token;"⟩, 7), (⟨"WillDeposit$Tokens", "isWord", "(Ljava/lang/String;I)Z"⟩, 7), (⟨"WillDeposit$TextReader", "comes", "()LWillDeposit$Token;"⟩, 8), (⟨"WillDeposit$TextReader", "readLand", "()V"⟩, 8), (⟨"WillDeposit$TextReader", "takeToken", "()V"⟩, 8), (⟨"WillDeposit$TextReader", "takeNumber", "(II)I"⟩, 8), (⟨"WillDeposit$TextReader", "fail", "(I)V"⟩, 8), (⟨"WillDeposit$TextReader", "failAtTaken", "()V"⟩, 8), (⟨"WillDeposit$TextReader", "readRight", "(LWillDeposit$Land;)V"⟩, 8), (⟨"WillDeposit$TextReader", "takeOnce", "(Z)V"⟩, 8), (⟨"WillDeposit$TextReader", "readPerson", "()V"⟩, 8), (⟨"WillDeposit$TextReader", "takeOneMore", "(II)V"⟩, 8)]
theorem lw_r1 : ∀ q ∈ lw_privs_1, lw_okq q := List.forall_mem_cons.mpr ⟨lw_p0, List.forall_mem_cons.mpr ⟨lw_p1, List.forall_mem_cons.mpr ⟨lw_p2, List.forall_mem_cons.mpr ⟨lw_p3, List.forall_mem_cons.mpr ⟨lw_p4, List.forall_mem_cons.mpr ⟨lw_p5, List.forall_mem_cons.mpr ⟨lw_p6, List.forall_mem_cons.mpr ⟨lw_p7, List.forall_mem_cons.mpr ⟨lw_p8, List.forall_mem_cons.mpr ⟨lw_p9, List.forall_mem_cons.mpr ⟨lw_p10, List.forall_mem_cons.mpr ⟨lw_p11, List.forall_mem_cons.mpr ⟨lw_p12, List.forall_mem_cons.mpr ⟨lw_p13, List.forall_mem_cons.mpr ⟨lw_p14, List.forall_mem_cons.mpr ⟨lw_p15, fun _ h => absurd h List.not_mem_nil⟩⟩⟩⟩⟩⟩⟩⟩⟩⟩⟩⟩⟩⟩⟩⟩
theorem lw_p16 : lw_okq (⟨"WillDeposit$TextReader", "takeNewName", "([II)V"⟩, 8) := ⟨⟨by decide +kernel, by decide +kernel⟩, List.mem_of_getElem? (i := 355) (by decide +kernel), List.mem_of_getElem? (i := 679) (by decide +kernel), List.mem_of_getElem? (i := 680) (by decide +kernel)⟩
theorem lw_p17 : lw_okq (⟨"WillDeposit$TextReader", "indexOfName", "([II)I"⟩, 8) := ⟨⟨by decide +kernel, by decide +kernel⟩, List.mem_of_getElem? (i := 355) (by decide +kernel), List.mem_of_getElem? (i := 684) (by decide +kernel), List.mem_of_getElem? (i := 685) (by decide +kernel)⟩
theorem lw_p18 : lw_okq (⟨"WillDeposit$TextReader", "readChild", "()V"⟩, 8) := ⟨⟨by decide +kernel, by decide +kernel⟩, List.mem_of_getElem? (i := 355) (by decide +kernel), List.mem_of_getElem? (i := 692) (by decide +kernel), List.mem_of_getElem? (i := 693) (by decide +kernel)⟩
theorem lw_p19 : lw_okq (⟨"WillDeposit$TextReader", "takePerson", "()I"⟩, 8) := ⟨⟨by decide +kernel, by decide +kernel⟩, List.mem_of_getElem? (i := 355) (by decide +kernel), List.mem_of_getElem? (i := 696) (by decide +kernel), List.mem_of_getElem? (i := 697) (by decide +kernel)⟩
theorem lw_p20 : lw_okq (⟨"WillDeposit$TextReader", "takeKnownName", "([II)I"⟩, 8) := ⟨⟨by decide +kernel, by decide +kernel⟩, List.mem_of_getElem? (i := 355) (by decide +kernel), List.mem_of_getElem? (i := 700) (by decide +kernel), List.mem_of_getElem? (i := 701) (by decide +kernel)⟩
theorem lw_p21 : lw_okq (⟨"WillDeposit$TextReader", "readWedding", "()V"⟩, 8) := ⟨⟨by decide +kernel, by decide +kernel⟩, List.mem_of_getElem? (i := 355) (by decide +kernel), List.mem_of_getElem? (i := 710) (by decide +kernel), List.mem_of_getElem? (i := 711) (by decide +kernel)⟩
theorem lw_p22 : lw_okq (⟨"WillDeposit$TextReader", "readThing", "()V"⟩, 8) := ⟨⟨by decide +kernel, by decide +kernel⟩, List.mem_of_getElem? (i := 355) (by decide +kernel), List.mem_of_getElem? (i := 718) (by decide +kernel), List.mem_of_getElem? (i := 719) (by decide +kernel)⟩
theorem lw_p23 : lw_okq (⟨"WillDeposit$TextReader", "readPaper", "()V"⟩, 8) := ⟨⟨by decide +kernel, by decide +kernel⟩, List.mem_of_getElem? (i := 355) (by decide +kernel), List.mem_of_getElem? (i := 726) (by decide +kernel), List.mem_of_getElem? (i := 727) (by decide +kernel)⟩
theorem lw_p24 : lw_okq (⟨"WillDeposit$TextReader", "takePaperKind", "()I"⟩, 8) := ⟨⟨by decide +kernel, by decide +kernel⟩, List.mem_of_getElem? (i := 355) (by decide +kernel), List.mem_of_getElem? (i := 734) (by decide +kernel), List.mem_of_getElem? (i := 735) (by decide +kernel)⟩
theorem lw_p25 : lw_okq (⟨"WillDeposit$TextReader", "readPart", "(LWillDeposit$Paper;)V"⟩, 8) := ⟨⟨by decide +kernel, by decide +kernel⟩, List.mem_of_getElem? (i := 355) (by decide +kernel), List.mem_of_getElem? (i := 738) (by decide +kernel), List.mem_of_getElem? (i := 739) (by decide +kernel)⟩
theorem lw_p26 : lw_okq (⟨"WillDeposit$TextReader", "readWitness", "(LWillDeposit$Paper;)V"⟩, 8) := ⟨⟨by decide +kernel, by decide +kernel⟩, List.mem_of_getElem? (i := 355) (by decide +kernel), List.mem_of_getElem? (i := 742) (by decide +kernel), List.mem_of_getElem? (i := 743) (by decide +kernel)⟩
theorem lw_p27 : lw_okq (⟨"WillDeposit$TextReader", "readGive", "(LWillDeposit$Paper;)V"⟩, 8) := ⟨⟨by decide +kernel, by decide +kernel⟩, List.mem_of_getElem? (i := 355) (by decide +kernel), List.mem_of_getElem? (i := 750) (by decide +kernel), List.mem_of_getElem? (i := 751) (by decide +kernel)⟩
theorem lw_p28 : lw_okq (⟨"WillDeposit$TextReader", "takeThing", "()I"⟩, 8) := ⟨⟨by decide +kernel, by decide +kernel⟩, List.mem_of_getElem? (i := 355) (by decide +kernel), List.mem_of_getElem? (i := 754) (by decide +kernel), List.mem_of_getElem? (i := 755) (by decide +kernel)⟩
theorem lw_p29 : lw_okq (⟨"WillDeposit$TextReader", "readStrike", "(LWillDeposit$Paper;)V"⟩, 8) := ⟨⟨by decide +kernel, by decide +kernel⟩, List.mem_of_getElem? (i := 355) (by decide +kernel), List.mem_of_getElem? (i := 764) (by decide +kernel), List.mem_of_getElem? (i := 765) (by decide +kernel)⟩
theorem lw_p30 : lw_okq (⟨"WillDeposit$TextReader", "takePaper", "()I"⟩, 8) := ⟨⟨by decide +kernel, by decide +kernel⟩, List.mem_of_getElem? (i := 355) (by decide +kernel), List.mem_of_getElem? (i := 768) (by decide +kernel), List.mem_of_getElem? (i := 769) (by decide +kernel)⟩
theorem lw_p31 : lw_okq (⟨"WillDeposit$TextReader", "readLost", "()V"⟩, 8) := ⟨⟨by decide +kernel, by decide +kernel⟩, List.mem_of_getElem? (i := 355) (by decide +kernel), List.mem_of_getElem? (i := 780) (by decide +kernel), List.mem_of_getElem? (i := 781) (by decide +kernel)⟩
def lw_privs_2 : List (MethodName × Nat) := [(⟨"WillDeposit$TextReader", "takeNewName", "([II)V"⟩, 8), (⟨"WillDeposit$TextReader", "indexOfName", "([II)I"⟩, 8), (⟨"WillDeposit$TextReader", "readChild", "()V"⟩, 8), (⟨"WillDeposit$TextReader", "takePerson", "()I"⟩, 8), (⟨"WillDeposit$TextReader", "takeKnownName", "([II)I"⟩, 8), (⟨"WillDeposit$TextReader", "readWedding", "()V"⟩, 8), (⟨"WillDeposit$TextReader", "readThing", "()V"⟩, 8), (⟨"WillDeposit$TextReader", "readPaper", "()V"⟩, 8), (⟨"WillDeposit$TextReader", "takePaperKind", "()I"⟩, 8), (⟨"WillDeposit$TextReader", "readPart", "(LWillDeposit$Paper;)V"⟩, 8), (⟨"WillDeposit$TextReader", "readWitness", "(LWillDeposit$Paper;)V"⟩, 8), (⟨"WillDeposit$TextReader", "readGive", "(LWillDeposit$Paper;)V"⟩, 8), (⟨"WillDeposit$TextReader", "takeThing", "()I"⟩, 8), (⟨"WillDeposit$TextReader", "readStrike", "(LWillDeposit$Paper;)V"⟩, 8), (⟨"WillDeposit$TextReader", "takePaper", "()I"⟩, 8), (⟨"WillDeposit$TextReader", "readLost", "()V"⟩, 8)]
theorem lw_r2 : ∀ q ∈ lw_privs_2, lw_okq q := List.forall_mem_cons.mpr ⟨lw_p16, List.forall_mem_cons.mpr ⟨lw_p17, List.forall_mem_cons.mpr ⟨lw_p18, List.forall_mem_cons.mpr ⟨lw_p19, List.forall_mem_cons.mpr ⟨lw_p20, List.forall_mem_cons.mpr ⟨lw_p21, List.forall_mem_cons.mpr ⟨lw_p22, List.forall_mem_cons.mpr ⟨lw_p23, List.forall_mem_cons.mpr ⟨lw_p24, List.forall_mem_cons.mpr ⟨lw_p25, List.forall_mem_cons.mpr ⟨lw_p26, List.forall_mem_cons.mpr ⟨lw_p27, List.forall_mem_cons.mpr ⟨lw_p28, List.forall_mem_cons.mpr ⟨lw_p29, List.forall_mem_cons.mpr ⟨lw_p30, List.forall_mem_cons.mpr ⟨lw_p31, fun _ h => absurd h List.not_mem_nil⟩⟩⟩⟩⟩⟩⟩⟩⟩⟩⟩⟩⟩⟩⟩⟩
theorem lw_p32 : lw_okq (⟨"WillDeposit$TextReader", "readDeath", "()V"⟩, 8) := ⟨⟨by decide +kernel, by decide +kernel⟩, List.mem_of_getElem? (i := 355) (by decide +kernel), List.mem_of_getElem? (i := 788) (by decide +kernel), List.mem_of_getElem? (i := 789) (by decide +kernel)⟩
theorem lw_p33 : lw_okq (⟨"WillDeposit$TextReader", "takeSemicolon", "()V"⟩, 8) := ⟨⟨by decide +kernel, by decide +kernel⟩, List.mem_of_getElem? (i := 355) (by decide +kernel), List.mem_of_getElem? (i := 796) (by decide +kernel), List.mem_of_getElem? (i := 797) (by decide +kernel)⟩
theorem lw_p34 : lw_okq (⟨"WillDeposit", "changeCopies", "(II)V"⟩, 12) := ⟨⟨by decide +kernel, by decide +kernel⟩, List.mem_of_getElem? (i := 29) (by decide +kernel), List.mem_of_getElem? (i := 855) (by decide +kernel), List.mem_of_getElem? (i := 856) (by decide +kernel)⟩
theorem lw_p35 : lw_okq (⟨"WillDeposit$Law", "whyNotGood", "(LWillDeposit$Paper;II)I"⟩, 6) := ⟨⟨by decide +kernel, by decide +kernel⟩, List.mem_of_getElem? (i := 388) (by decide +kernel), List.mem_of_getElem? (i := 944) (by decide +kernel), List.mem_of_getElem? (i := 945) (by decide +kernel)⟩
theorem lw_p36 : lw_okq (⟨"WillDeposit$Law", "latestStriker", "(I)I"⟩, 6) := ⟨⟨by decide +kernel, by decide +kernel⟩, List.mem_of_getElem? (i := 388) (by decide +kernel), List.mem_of_getElem? (i := 950) (by decide +kernel), List.mem_of_getElem? (i := 951) (by decide +kernel)⟩
theorem lw_p37 : lw_okq (⟨"WillDeposit$Law", "isBroken", "(LWillDeposit$Paper;)Z"⟩, 6) := ⟨⟨by decide +kernel, by decide +kernel⟩, List.mem_of_getElem? (i := 388) (by decide +kernel), List.mem_of_getElem? (i := 955) (by decide +kernel), List.mem_of_getElem? (i := 956) (by decide +kernel)⟩
theorem lw_p38 : lw_okq (⟨"WillDeposit$Law", "takerByGives", "(LWillDeposit$Paper;I)I"⟩, 6) := ⟨⟨by decide +kernel, by decide +kernel⟩, List.mem_of_getElem? (i := 388) (by decide +kernel), List.mem_of_getElem? (i := 985) (by decide +kernel), List.mem_of_getElem? (i := 986) (by decide +kernel)⟩
theorem lw_p39 : lw_okq (⟨"WillDeposit$Law", "isSo", "(LWillDeposit$Paper;I)Z"⟩, 6) := ⟨⟨by decide +kernel, by decide +kernel⟩, List.mem_of_getElem? (i := 388) (by decide +kernel), List.mem_of_getElem? (i := 989) (by decide +kernel), List.mem_of_getElem? (i := 990) (by decide +kernel)⟩
theorem lw_p40 : lw_okq (⟨"WillDeposit$Law", "mayTake", "(ILWillDeposit$Paper;I)Z"⟩, 6) := ⟨⟨by decide +kernel, by decide +kernel⟩, List.mem_of_getElem? (i := 388) (by decide +kernel), List.mem_of_getElem? (i := 995) (by decide +kernel), List.mem_of_getElem? (i := 996) (by decide +kernel)⟩
theorem lw_p41 : lw_okq (⟨"WillDeposit", "isPersonOrCrown", "(I)Z"⟩, 12) := ⟨⟨by decide +kernel, by decide +kernel⟩, List.mem_of_getElem? (i := 29) (by decide +kernel), List.mem_of_getElem? (i := 1044) (by decide +kernel), List.mem_of_getElem? (i := 1045) (by decide +kernel)⟩
theorem lw_p42 : lw_okq (⟨"WillDeposit$Estate", "holdersNow", "()I"⟩, 8) := ⟨⟨by decide +kernel, by decide +kernel⟩, List.mem_of_getElem? (i := 419) (by decide +kernel), List.mem_of_getElem? (i := 1057) (by decide +kernel), List.mem_of_getElem? (i := 1058) (by decide +kernel)⟩
theorem lw_p43 : lw_okq (⟨"WillDeposit$Register", "diesAheadOf", "(II)Z"⟩, 13) := ⟨⟨by decide +kernel, by decide +kernel⟩, List.mem_of_getElem? (i := 37) (by decide +kernel), List.mem_of_getElem? (i := 1065) (by decide +kernel), List.mem_of_getElem? (i := 1066) (by decide +kernel)⟩
theorem lw_p44 : lw_okq (⟨"WillDeposit$Estate", "passOn", "(IZ)V"⟩, 8) := ⟨⟨by decide +kernel, by decide +kernel⟩, List.mem_of_getElem? (i := 419) (by decide +kernel), List.mem_of_getElem? (i := 1070) (by decide +kernel), List.mem_of_getElem? (i := 1071) (by decide +kernel)⟩
theorem lw_p45 : lw_okq (⟨"WillDeposit$Estate", "shareOut", "(IIII)V"⟩, 8) := ⟨⟨by decide +kernel, by decide +kernel⟩, List.mem_of_getElem? (i := 419) (by decide +kernel), List.mem_of_getElem? (i := 1078) (by decide +kernel), List.mem_of_getElem? (i := 1079) (by decide +kernel)⟩
theorem lw_p46 : lw_okq (⟨"java/lang/Throwable", "fillInStackTrace", "(I)Ljava/lang/Throwable;"⟩, 6) := ⟨⟨by decide +kernel, by decide +kernel⟩, List.mem_of_getElem? (i := 1227) (by decide +kernel), List.mem_of_getElem? (i := 1225) (by decide +kernel), List.mem_of_getElem? (i := 1226) (by decide +kernel)⟩
theorem lw_p47 : lw_okq (⟨"WillDepositModel", "begins", "()V"⟩, 33) := ⟨⟨by decide +kernel, by decide +kernel⟩, List.mem_of_getElem? (i := 1282) (by decide +kernel), List.mem_of_getElem? (i := 1288) (by decide +kernel), List.mem_of_getElem? (i := 1289) (by decide +kernel)⟩
def lw_privs_3 : List (MethodName × Nat) := [(⟨"WillDeposit$TextReader", "readDeath", "()V"⟩, 8), (⟨"WillDeposit$TextReader", "takeSemicolon", "()V"⟩, 8), (⟨"WillDeposit", "changeCopies", "(II)V"⟩, 12), (⟨"WillDeposit$Law", "whyNotGood", "(LWillDeposit$Paper;II)I"⟩, 6), (⟨"WillDeposit$Law", "latestStriker", "(I)I"⟩, 6), (⟨"WillDeposit$Law", "isBroken", "(LWillDeposit$Paper;)Z"⟩, 6), (⟨"WillDeposit$Law", "takerByGives", "(LWillDeposit$Paper;I)I"⟩, 6), (⟨"WillDeposit$Law", "isSo", "(LWillDeposit$Paper;I)Z"⟩, 6), (⟨"WillDeposit$Law", "mayTake", "(ILWillDeposit$Paper;I)Z"⟩, 6), (⟨"WillDeposit", "isPersonOrCrown", "(I)Z"⟩, 12), (⟨"WillDeposit$Estate", "holdersNow", "()I"⟩, 8), (⟨"WillDeposit$Register", "diesAheadOf", "(II)Z"⟩, 13), (⟨"WillDeposit$Estate", "passOn", "(IZ)V"⟩, 8), (⟨"WillDeposit$Estate", "shareOut", "(IIII)V"⟩, 8), (⟨"java/lang/Throwable", "fillInStackTrace", "(I)Ljava/lang/Throwable;"⟩, 6), (⟨"WillDepositModel", "begins", "()V"⟩, 33)]
theorem lw_r3 : ∀ q ∈ lw_privs_3, lw_okq q := List.forall_mem_cons.mpr ⟨lw_p32, List.forall_mem_cons.mpr ⟨lw_p33, List.forall_mem_cons.mpr ⟨lw_p34, List.forall_mem_cons.mpr ⟨lw_p35, List.forall_mem_cons.mpr ⟨lw_p36, List.forall_mem_cons.mpr ⟨lw_p37, List.forall_mem_cons.mpr ⟨lw_p38, List.forall_mem_cons.mpr ⟨lw_p39, List.forall_mem_cons.mpr ⟨lw_p40, List.forall_mem_cons.mpr ⟨lw_p41, List.forall_mem_cons.mpr ⟨lw_p42, List.forall_mem_cons.mpr ⟨lw_p43, List.forall_mem_cons.mpr ⟨lw_p44, List.forall_mem_cons.mpr ⟨lw_p45, List.forall_mem_cons.mpr ⟨lw_p46, List.forall_mem_cons.mpr ⟨lw_p47, fun _ h => absurd h List.not_mem_nil⟩⟩⟩⟩⟩⟩⟩⟩⟩⟩⟩⟩⟩⟩⟩⟩
theorem lw_p48 : lw_okq (⟨"WillDepositModel", "becomes", "()V"⟩, 33) := ⟨⟨by decide +kernel, by decide +kernel⟩, List.mem_of_getElem? (i := 1282) (by decide +kernel), List.mem_of_getElem? (i := 1292) (by decide +kernel), List.mem_of_getElem? (i := 1293) (by decide +kernel)⟩
theorem lw_p49 : lw_okq (⟨"WillDepositModel", "token", "()V"⟩, 33) := ⟨⟨by decide +kernel, by decide +kernel⟩, List.mem_of_getElem? (i := 1282) (by decide +kernel), List.mem_of_getElem? (i := 1404) (by decide +kernel), List.mem_of_getElem? (i := 1405) (by decide +kernel)⟩
theorem lw_p50 : lw_okq (⟨"WillDepositModel", "here", "()I"⟩, 33) := ⟨⟨by decide +kernel, by decide +kernel⟩, List.mem_of_getElem? (i := 1282) (by decide +kernel), List.mem_of_getElem? (i := 1408) (by decide +kernel), List.mem_of_getElem? (i := 1409) (by decide +kernel)⟩
theorem lw_p51 : lw_okq (⟨"WillDepositModel", "wordHere", "()I"⟩, 33) := ⟨⟨by decide +kernel, by decide +kernel⟩, List.mem_of_getElem? (i := 1282) (by decide +kernel), List.mem_of_getElem? (i := 1415) (by decide +kernel), List.mem_of_getElem? (i := 1416) (by decide +kernel)⟩
theorem lw_p52 : lw_okq (⟨"WillDepositModel", "readLine", "()V"⟩, 33) := ⟨⟨by decide +kernel, by decide +kernel⟩, List.mem_of_getElem? (i := 1282) (by decide +kernel), List.mem_of_getElem? (i := 1426) (by decide +kernel), List.mem_of_getElem? (i := 1427) (by decide +kernel)⟩
theorem lw_p53 : lw_okq (⟨"WillDepositModel", "readLand", "()V"⟩, 33) := ⟨⟨by decide +kernel, by decide +kernel⟩, List.mem_of_getElem? (i := 1282) (by decide +kernel), List.mem_of_getElem? (i := 1430) (by decide +kernel), List.mem_of_getElem? (i := 1431) (by decide +kernel)⟩
theorem lw_p54 : lw_okq (⟨"WillDepositModel", "goOn", "()V"⟩, 33) := ⟨⟨by decide +kernel, by decide +kernel⟩, List.mem_of_getElem? (i := 1282) (by decide +kernel), List.mem_of_getElem? (i := 1434) (by decide +kernel), List.mem_of_getElem? (i := 1435) (by decide +kernel)⟩
theorem lw_p55 : lw_okq (⟨"WillDepositModel", "numberHere", "(II)I"⟩, 33) := ⟨⟨by decide +kernel, by decide +kernel⟩, List.mem_of_getElem? (i := 1282) (by decide +kernel), List.mem_of_getElem? (i := 1438) (by decide +kernel), List.mem_of_getElem? (i := 1439) (by decide +kernel)⟩
theorem lw_p56 : lw_okq (⟨"WillDepositModel", "wrong", "(I)V"⟩, 33) := ⟨⟨by decide +kernel, by decide +kernel⟩, List.mem_of_getElem? (i := 1282) (by decide +kernel), List.mem_of_getElem? (i := 1442) (by decide +kernel), List.mem_of_getElem? (i := 1443) (by decide +kernel)⟩
theorem lw_p57 : lw_okq (⟨"WillDepositModel", "number", "(II)I"⟩, 33) := ⟨⟨by decide +kernel, by decide +kernel⟩, List.mem_of_getElem? (i := 1282) (by decide +kernel), List.mem_of_getElem? (i := 1446) (by decide +kernel), List.mem_of_getElem? (i := 1447) (by decide +kernel)⟩
theorem lw_p58 : lw_okq (⟨"WillDepositModel", "isWord", "(I)Z"⟩, 33) := ⟨⟨by decide +kernel, by decide +kernel⟩, List.mem_of_getElem? (i := 1282) (by decide +kernel), List.mem_of_getElem? (i := 1450) (by decide +kernel), List.mem_of_getElem? (i := 1451) (by decide +kernel)⟩
theorem lw_p59 : lw_okq (⟨"WillDepositModel", "readPerson", "()V"⟩, 33) := ⟨⟨by decide +kernel, by decide +kernel⟩, List.mem_of_getElem? (i := 1282) (by decide +kernel), List.mem_of_getElem? (i := 1454) (by decide +kernel), List.mem_of_getElem? (i := 1455) (by decide +kernel)⟩
theorem lw_p60 : lw_okq (⟨"WillDepositModel", "newName", "(I)V"⟩, 33) := ⟨⟨by decide +kernel, by decide +kernel⟩, List.mem_of_getElem? (i := 1282) (by decide +kernel), List.mem_of_getElem? (i := 1458) (by decide +kernel), List.mem_of_getElem? (i := 1459) (by decide +kernel)⟩
theorem lw_p61 : lw_okq (⟨"WillDepositModel", "isOther", "()Z"⟩, 33) := ⟨⟨by decide +kernel, by decide +kernel⟩, List.mem_of_getElem? (i := 1282) (by decide +kernel), List.mem_of_getElem? (i := 1462) (by decide +kernel), List.mem_of_getElem? (i := 1463) (by decide +kernel)⟩
theorem lw_p62 : lw_okq (⟨"WillDepositModel", "namedHere", "(I)I"⟩, 33) := ⟨⟨by decide +kernel, by decide +kernel⟩, List.mem_of_getElem? (i := 1282) (by decide +kernel), List.mem_of_getElem? (i := 1466) (by decide +kernel), List.mem_of_getElem? (i := 1467) (by decide +kernel)⟩
theorem lw_p63 : lw_okq (⟨"WillDepositModel", "readChild", "()V"⟩, 33) := ⟨⟨by decide +kernel, by decide +kernel⟩, List.mem_of_getElem? (i := 1282) (by decide +kernel), List.mem_of_getElem? (i := 1470) (by decide +kernel), List.mem_of_getElem? (i := 1471) (by decide +kernel)⟩
def lw_privs_4 : List (MethodName × Nat) := [(⟨"WillDepositModel", "becomes", "()V"⟩, 33), (⟨"WillDepositModel", "token", "()V"⟩, 33), (⟨"WillDepositModel", "here", "()I"⟩, 33), (⟨"WillDepositModel", "wordHere", "()I"⟩, 33), (⟨"WillDepositModel", "readLine", "()V"⟩, 33), (⟨"WillDepositModel", "readLand", "()V"⟩, 33), (⟨"WillDepositModel", "goOn", "()V"⟩, 33), (⟨"WillDepositModel", "numberHere", "(II)I"⟩, 33), (⟨"WillDepositModel", "wrong", "(I)V"⟩, 33), (⟨"WillDepositModel", "number", "(II)I"⟩, 33), (⟨"WillDepositModel", "isWord", "(I)Z"⟩, 33), (⟨"WillDepositModel", "readPerson", "()V"⟩, 33), (⟨"WillDepositModel", "newName", "(I)V"⟩, 33), (⟨"WillDepositModel", "isOther", "()Z"⟩, 33), (⟨"WillDepositModel", "namedHere", "(I)I"⟩, 33), (⟨"WillDepositModel", "readChild", "()V"⟩, 33)]
theorem lw_r4 : ∀ q ∈ lw_privs_4, lw_okq q := List.forall_mem_cons.mpr ⟨lw_p48, List.forall_mem_cons.mpr ⟨lw_p49, List.forall_mem_cons.mpr ⟨lw_p50, List.forall_mem_cons.mpr ⟨lw_p51, List.forall_mem_cons.mpr ⟨lw_p52, List.forall_mem_cons.mpr ⟨lw_p53, List.forall_mem_cons.mpr ⟨lw_p54, List.forall_mem_cons.mpr ⟨lw_p55, List.forall_mem_cons.mpr ⟨lw_p56, List.forall_mem_cons.mpr ⟨lw_p57, List.forall_mem_cons.mpr ⟨lw_p58, List.forall_mem_cons.mpr ⟨lw_p59, List.forall_mem_cons.mpr ⟨lw_p60, List.forall_mem_cons.mpr ⟨lw_p61, List.forall_mem_cons.mpr ⟨lw_p62, List.forall_mem_cons.mpr ⟨lw_p63, fun _ h => absurd h List.not_mem_nil⟩⟩⟩⟩⟩⟩⟩⟩⟩⟩⟩⟩⟩⟩⟩⟩
theorem lw_p64 : lw_okq (⟨"WillDepositModel", "told", "(I)I"⟩, 33) := ⟨⟨by decide +kernel, by decide +kernel⟩, List.mem_of_getElem? (i := 1282) (by decide +kernel), List.mem_of_getElem? (i := 1474) (by decide +kernel), List.mem_of_getElem? (i := 1475) (by decide +kernel)⟩
theorem lw_p65 : lw_okq (⟨"WillDepositModel", "toldHere", "(I)I"⟩, 33) := ⟨⟨by decide +kernel, by decide +kernel⟩, List.mem_of_getElem? (i := 1282) (by decide +kernel), List.mem_of_getElem? (i := 1478) (by decide +kernel), List.mem_of_getElem? (i := 1479) (by decide +kernel)⟩
theorem lw_p66 : lw_okq (⟨"WillDepositModel", "readWed", "()V"⟩, 33) := ⟨⟨by decide +kernel, by decide +kernel⟩, List.mem_of_getElem? (i := 1282) (by decide +kernel), List.mem_of_getElem? (i := 1483) (by decide +kernel), List.mem_of_getElem? (i := 1484) (by decide +kernel)⟩
theorem lw_p67 : lw_okq (⟨"WillDepositModel", "readThing", "()V"⟩, 33) := ⟨⟨by decide +kernel, by decide +kernel⟩, List.mem_of_getElem? (i := 1282) (by decide +kernel), List.mem_of_getElem? (i := 1490) (by decide +kernel), List.mem_of_getElem? (i := 1491) (by decide +kernel)⟩
theorem lw_p68 : lw_okq (⟨"WillDepositModel", "readPaper", "()V"⟩, 33) := ⟨⟨by decide +kernel, by decide +kernel⟩, List.mem_of_getElem? (i := 1282) (by decide +kernel), List.mem_of_getElem? (i := 1494) (by decide +kernel), List.mem_of_getElem? (i := 1495) (by decide +kernel)⟩
theorem lw_p69 : lw_okq (⟨"WillDepositModel", "readPart", "(II)Z"⟩, 33) := ⟨⟨by decide +kernel, by decide +kernel⟩, List.mem_of_getElem? (i := 1282) (by decide +kernel), List.mem_of_getElem? (i := 1498) (by decide +kernel), List.mem_of_getElem? (i := 1499) (by decide +kernel)⟩
theorem lw_p70 : lw_okq (⟨"WillDepositModel", "readGive", "(II)Z"⟩, 33) := ⟨⟨by decide +kernel, by decide +kernel⟩, List.mem_of_getElem? (i := 1282) (by decide +kernel), List.mem_of_getElem? (i := 1502) (by decide +kernel), List.mem_of_getElem? (i := 1503) (by decide +kernel)⟩
theorem lw_p71 : lw_okq (⟨"WillDepositModel", "readLost", "()V"⟩, 33) := ⟨⟨by decide +kernel, by decide +kernel⟩, List.mem_of_getElem? (i := 1282) (by decide +kernel), List.mem_of_getElem? (i := 1506) (by decide +kernel), List.mem_of_getElem? (i := 1507) (by decide +kernel)⟩
theorem lw_p72 : lw_okq (⟨"WillDepositModel", "readDies", "()V"⟩, 33) := ⟨⟨by decide +kernel, by decide +kernel⟩, List.mem_of_getElem? (i := 1282) (by decide +kernel), List.mem_of_getElem? (i := 1510) (by decide +kernel), List.mem_of_getElem? (i := 1511) (by decide +kernel)⟩
theorem lw_p73 : lw_okq (⟨"WillDepositModel", "isPerson", "(I)Z"⟩, 33) := ⟨⟨by decide +kernel, by decide +kernel⟩, List.mem_of_getElem? (i := 1282) (by decide +kernel), List.mem_of_getElem? (i := 1522) (by decide +kernel), List.mem_of_getElem? (i := 1523) (by decide +kernel)⟩
theorem lw_p74 : lw_okq (⟨"WillDepositModel", "diesOn", "(I)I"⟩, 33) := ⟨⟨by decide +kernel, by decide +kernel⟩, List.mem_of_getElem? (i := 1282) (by decide +kernel), List.mem_of_getElem? (i := 1526) (by decide +kernel), List.mem_of_getElem? (i := 1527) (by decide +kernel)⟩
theorem lw_p75 : lw_okq (⟨"WillDepositModel", "childrenOf", "(I)I"⟩, 33) := ⟨⟨by decide +kernel, by decide +kernel⟩, List.mem_of_getElem? (i := 1282) (by decide +kernel), List.mem_of_getElem? (i := 1530) (by decide +kernel), List.mem_of_getElem? (i := 1531) (by decide +kernel)⟩
theorem lw_p76 : lw_okq (⟨"WillDepositModel", "wedTo", "(II)I"⟩, 33) := ⟨⟨by decide +kernel, by decide +kernel⟩, List.mem_of_getElem? (i := 1282) (by decide +kernel), List.mem_of_getElem? (i := 1534) (by decide +kernel), List.mem_of_getElem? (i := 1535) (by decide +kernel)⟩
theorem lw_p77 : lw_okq (⟨"WillDepositModel", "isPaper", "(I)Z"⟩, 33) := ⟨⟨by decide +kernel, by decide +kernel⟩, List.mem_of_getElem? (i := 1282) (by decide +kernel), List.mem_of_getElem? (i := 1542) (by decide +kernel), List.mem_of_getElem? (i := 1543) (by decide +kernel)⟩
theorem lw_p78 : lw_okq (⟨"WillDepositModel", "of", "(II)I"⟩, 33) := ⟨⟨by decide +kernel, by decide +kernel⟩, List.mem_of_getElem? (i := 1282) (by decide +kernel), List.mem_of_getElem? (i := 1546) (by decide +kernel), List.mem_of_getElem? (i := 1547) (by decide +kernel)⟩
theorem lw_p79 : lw_okq (⟨"WillDepositModel", "isThing", "(I)Z"⟩, 33) := ⟨⟨by decide +kernel, by decide +kernel⟩, List.mem_of_getElem? (i := 1282) (by decide +kernel), List.mem_of_getElem? (i := 1554) (by decide +kernel), List.mem_of_getElem? (i := 1555) (by decide +kernel)⟩
def lw_privs_5 : List (MethodName × Nat) := [(⟨"WillDepositModel", "told", "(I)I"⟩, 33), (⟨"WillDepositModel", "toldHere", "(I)I"⟩, 33), (⟨"WillDepositModel", "readWed", "()V"⟩, 33), (⟨"WillDepositModel", "readThing", "()V"⟩, 33), (⟨"WillDepositModel", "readPaper", "()V"⟩, 33), (⟨"WillDepositModel", "readPart", "(II)Z"⟩, 33), (⟨"WillDepositModel", "readGive", "(II)Z"⟩, 33), (⟨"WillDepositModel", "readLost", "()V"⟩, 33), (⟨"WillDepositModel", "readDies", "()V"⟩, 33), (⟨"WillDepositModel", "isPerson", "(I)Z"⟩, 33), (⟨"WillDepositModel", "diesOn", "(I)I"⟩, 33), (⟨"WillDepositModel", "childrenOf", "(I)I"⟩, 33), (⟨"WillDepositModel", "wedTo", "(II)I"⟩, 33), (⟨"WillDepositModel", "isPaper", "(I)Z"⟩, 33), (⟨"WillDepositModel", "of", "(II)I"⟩, 33), (⟨"WillDepositModel", "isThing", "(I)Z"⟩, 33)]
theorem lw_r5 : ∀ q ∈ lw_privs_5, lw_okq q := List.forall_mem_cons.mpr ⟨lw_p64, List.forall_mem_cons.mpr ⟨lw_p65, List.forall_mem_cons.mpr ⟨lw_p66, List.forall_mem_cons.mpr ⟨lw_p67, List.forall_mem_cons.mpr ⟨lw_p68, List.forall_mem_cons.mpr ⟨lw_p69, List.forall_mem_cons.mpr ⟨lw_p70, List.forall_mem_cons.mpr ⟨lw_p71, List.forall_mem_cons.mpr ⟨lw_p72, List.forall_mem_cons.mpr ⟨lw_p73, List.forall_mem_cons.mpr ⟨lw_p74, List.forall_mem_cons.mpr ⟨lw_p75, List.forall_mem_cons.mpr ⟨lw_p76, List.forall_mem_cons.mpr ⟨lw_p77, List.forall_mem_cons.mpr ⟨lw_p78, List.forall_mem_cons.mpr ⟨lw_p79, fun _ h => absurd h List.not_mem_nil⟩⟩⟩⟩⟩⟩⟩⟩⟩⟩⟩⟩⟩⟩⟩⟩
theorem lw_p80 : lw_okq (⟨"WillDepositModel", "puts", "(II)Z"⟩, 33) := ⟨⟨by decide +kernel, by decide +kernel⟩, List.mem_of_getElem? (i := 1282) (by decide +kernel), List.mem_of_getElem? (i := 1570) (by decide +kernel), List.mem_of_getElem? (i := 1571) (by decide +kernel)⟩
theorem lw_p81 : lw_okq (⟨"WillDepositModel", "keeps", "()V"⟩, 33) := ⟨⟨by decide +kernel, by decide +kernel⟩, List.mem_of_getElem? (i := 1282) (by decide +kernel), List.mem_of_getElem? (i := 1574) (by decide +kernel), List.mem_of_getElem? (i := 1575) (by decide +kernel)⟩
theorem lw_p82 : lw_okq (⟨"WillDepositModel", "hasForm", "(II)Z"⟩, 33) := ⟨⟨by decide +kernel, by decide +kernel⟩, List.mem_of_getElem? (i := 1282) (by decide +kernel), List.mem_of_getElem? (i := 1613) (by decide +kernel), List.mem_of_getElem? (i := 1614) (by decide +kernel)⟩
theorem lw_p83 : lw_okq (⟨"WillDepositModel", "living", "(I)I"⟩, 33) := ⟨⟨by decide +kernel, by decide +kernel⟩, List.mem_of_getElem? (i := 1282) (by decide +kernel), List.mem_of_getElem? (i := 1617) (by decide +kernel), List.mem_of_getElem? (i := 1618) (by decide +kernel)⟩
theorem lw_p84 : lw_okq (⟨"WillDepositModel", "lives", "(II)Z"⟩, 33) := ⟨⟨by decide +kernel, by decide +kernel⟩, List.mem_of_getElem? (i := 1282) (by decide +kernel), List.mem_of_getElem? (i := 1621) (by decide +kernel), List.mem_of_getElem? (i := 1622) (by decide +kernel)⟩
theorem lw_p85 : lw_okq (⟨"WillDepositModel", "has", "(II)Z"⟩, 33) := ⟨⟨by decide +kernel, by decide +kernel⟩, List.mem_of_getElem? (i := 1282) (by decide +kernel), List.mem_of_getElem? (i := 1625) (by decide +kernel), List.mem_of_getElem? (i := 1626) (by decide +kernel)⟩
theorem lw_p86 : lw_okq (⟨"WillDepositModel", "whyNot", "(II)I"⟩, 33) := ⟨⟨by decide +kernel, by decide +kernel⟩, List.mem_of_getElem? (i := 1282) (by decide +kernel), List.mem_of_getElem? (i := 1633) (by decide +kernel), List.mem_of_getElem? (i := 1634) (by decide +kernel)⟩
theorem lw_p87 : lw_okq (⟨"WillDepositModel", "lacks", "(II)I"⟩, 33) := ⟨⟨by decide +kernel, by decide +kernel⟩, List.mem_of_getElem? (i := 1282) (by decide +kernel), List.mem_of_getElem? (i := 1637) (by decide +kernel), List.mem_of_getElem? (i := 1638) (by decide +kernel)⟩
theorem lw_p88 : lw_okq (⟨"WillDepositModel", "isProved", "(I)Z"⟩, 33) := ⟨⟨by decide +kernel, by decide +kernel⟩, List.mem_of_getElem? (i := 1282) (by decide +kernel), List.mem_of_getElem? (i := 1641) (by decide +kernel), List.mem_of_getElem? (i := 1642) (by decide +kernel)⟩
theorem lw_p89 : lw_okq (⟨"WillDepositModel", "landOf", "(I)I"⟩, 33) := ⟨⟨by decide +kernel, by decide +kernel⟩, List.mem_of_getElem? (i := 1282) (by decide +kernel), List.mem_of_getElem? (i := 1645) (by decide +kernel), List.mem_of_getElem? (i := 1646) (by decide +kernel)⟩
theorem lw_p90 : lw_okq (⟨"WillDepositModel", "struck", "(II)I"⟩, 33) := ⟨⟨by decide +kernel, by decide +kernel⟩, List.mem_of_getElem? (i := 1282) (by decide +kernel), List.mem_of_getElem? (i := 1649) (by decide +kernel), List.mem_of_getElem? (i := 1650) (by decide +kernel)⟩
theorem lw_p91 : lw_okq (⟨"WillDepositModel", "isLater", "(II)Z"⟩, 33) := ⟨⟨by decide +kernel, by decide +kernel⟩, List.mem_of_getElem? (i := 1282) (by decide +kernel), List.mem_of_getElem? (i := 1653) (by decide +kernel), List.mem_of_getElem? (i := 1654) (by decide +kernel)⟩
theorem lw_p92 : lw_okq (⟨"WillDepositModel", "isBroken", "(I)Z"⟩, 33) := ⟨⟨by decide +kernel, by decide +kernel⟩, List.mem_of_getElem? (i := 1282) (by decide +kernel), List.mem_of_getElem? (i := 1657) (by decide +kernel), List.mem_of_getElem? (i := 1658) (by decide +kernel)⟩
theorem lw_p93 : lw_okq (⟨"WillDepositModel", "countingAt", "(III)I"⟩, 33) := ⟨⟨by decide +kernel, by decide +kernel⟩, List.mem_of_getElem? (i := 1282) (by decide +kernel), List.mem_of_getElem? (i := 1669) (by decide +kernel), List.mem_of_getElem? (i := 1670) (by decide +kernel)⟩
theorem lw_p94 : lw_okq (⟨"WillDepositModel", "laysTaker", "(II)V"⟩, 33) := ⟨⟨by decide +kernel, by decide +kernel⟩, List.mem_of_getElem? (i := 1282) (by decide +kernel), List.mem_of_getElem? (i := 1677) (by decide +kernel), List.mem_of_getElem? (i := 1678) (by decide +kernel)⟩
theorem lw_p95 : lw_okq (⟨"WillDepositModel", "takerBy", "(IIII)I"⟩, 33) := ⟨⟨by decide +kernel, by decide +kernel⟩, List.mem_of_getElem? (i := 1282) (by decide +kernel), List.mem_of_getElem? (i := 1681) (by decide +kernel), List.mem_of_getElem? (i := 1682) (by decide +kernel)⟩
def lw_privs_6 : List (MethodName × Nat) := [(⟨"WillDepositModel", "puts", "(II)Z"⟩, 33), (⟨"WillDepositModel", "keeps", "()V"⟩, 33), (⟨"WillDepositModel", "hasForm", "(II)Z"⟩, 33), (⟨"WillDepositModel", "living", "(I)I"⟩, 33), (⟨"WillDepositModel", "lives", "(II)Z"⟩, 33), (⟨"WillDepositModel", "has", "(II)Z"⟩, 33), (⟨"WillDepositModel", "whyNot", "(II)I"⟩, 33), (⟨"WillDepositModel", "lacks", "(II)I"⟩, 33), (⟨"WillDepositModel", "isProved", "(I)Z"⟩, 33), (⟨"WillDepositModel", "landOf", "(I)I"⟩, 33), (⟨"WillDepositModel", "struck", "(II)I"⟩, 33), (⟨"WillDepositModel", "isLater", "(II)Z"⟩, 33), (⟨"WillDepositModel", "isBroken", "(I)Z"⟩, 33), (⟨"WillDepositModel", "countingAt", "(III)I"⟩, 33), (⟨"WillDepositModel", "laysTaker", "(II)V"⟩, 33), (⟨"WillDepositModel", "takerBy", "(IIII)I"⟩, 33)]
theorem lw_r6 : ∀ q ∈ lw_privs_6, lw_okq q := List.forall_mem_cons.mpr ⟨lw_p80, List.forall_mem_cons.mpr ⟨lw_p81, List.forall_mem_cons.mpr ⟨lw_p82, List.forall_mem_cons.mpr ⟨lw_p83, List.forall_mem_cons.mpr ⟨lw_p84, List.forall_mem_cons.mpr ⟨lw_p85, List.forall_mem_cons.mpr ⟨lw_p86, List.forall_mem_cons.mpr ⟨lw_p87, List.forall_mem_cons.mpr ⟨lw_p88, List.forall_mem_cons.mpr ⟨lw_p89, List.forall_mem_cons.mpr ⟨lw_p90, List.forall_mem_cons.mpr ⟨lw_p91, List.forall_mem_cons.mpr ⟨lw_p92, List.forall_mem_cons.mpr ⟨lw_p93, List.forall_mem_cons.mpr ⟨lw_p94, List.forall_mem_cons.mpr ⟨lw_p95, fun _ h => absurd h List.not_mem_nil⟩⟩⟩⟩⟩⟩⟩⟩⟩⟩⟩⟩⟩⟩⟩⟩
theorem lw_p96 : lw_okq (⟨"WillDepositModel", "mayTake", "(IIII)Z"⟩, 33) := ⟨⟨by decide +kernel, by decide +kernel⟩, List.mem_of_getElem? (i := 1282) (by decide +kernel), List.mem_of_getElem? (i := 1685) (by decide +kernel), List.mem_of_getElem? (i := 1686) (by decide +kernel)⟩
theorem lw_p97 : lw_okq (⟨"WillDepositModel", "heirsOf", "(I)I"⟩, 33) := ⟨⟨by decide +kernel, by decide +kernel⟩, List.mem_of_getElem? (i := 1282) (by decide +kernel), List.mem_of_getElem? (i := 1697) (by decide +kernel), List.mem_of_getElem? (i := 1698) (by decide +kernel)⟩
theorem lw_p98 : lw_okq (⟨"WillDepositModel", "living", "(III)I"⟩, 33) := ⟨⟨by decide +kernel, by decide +kernel⟩, List.mem_of_getElem? (i := 1282) (by decide +kernel), List.mem_of_getElem? (i := 1701) (by decide +kernel), List.mem_of_getElem? (i := 1702) (by decide +kernel)⟩
theorem lw_p99 : lw_okq (⟨"WillDepositModel", "laysParts", "(II)V"⟩, 33) := ⟨⟨by decide +kernel, by decide +kernel⟩, List.mem_of_getElem? (i := 1282) (by decide +kernel), List.mem_of_getElem? (i := 1710) (by decide +kernel), List.mem_of_getElem? (i := 1711) (by decide +kernel)⟩
theorem lw_p100 : lw_okq (⟨"WillDepositModel", "holding", "()I"⟩, 33) := ⟨⟨by decide +kernel, by decide +kernel⟩, List.mem_of_getElem? (i := 1282) (by decide +kernel), List.mem_of_getElem? (i := 1714) (by decide +kernel), List.mem_of_getElem? (i := 1715) (by decide +kernel)⟩
theorem lw_p101 : lw_okq (⟨"WillDepositModel", "nextDeath", "(II)I"⟩, 33) := ⟨⟨by decide +kernel, by decide +kernel⟩, List.mem_of_getElem? (i := 1282) (by decide +kernel), List.mem_of_getElem? (i := 1718) (by decide +kernel), List.mem_of_getElem? (i := 1719) (by decide +kernel)⟩
theorem lw_p102 : lw_okq (⟨"WillDepositModel", "goesOn", "(II)V"⟩, 33) := ⟨⟨by decide +kernel, by decide +kernel⟩, List.mem_of_getElem? (i := 1282) (by decide +kernel), List.mem_of_getElem? (i := 1722) (by decide +kernel), List.mem_of_getElem? (i := 1723) (by decide +kernel)⟩
theorem lw_p103 : lw_okq (⟨"WillDepositModel", "alike", "(IJJ)V"⟩, 33) := ⟨⟨by decide +kernel, by decide +kernel⟩, List.mem_of_getElem? (i := 1282) (by decide +kernel), List.mem_of_getElem? (i := 1726) (by decide +kernel), List.mem_of_getElem? (i := 1727) (by decide +kernel)⟩
theorem lw_p104 : lw_okq (⟨"WillDepositModel", "comes", "(IJJ)V"⟩, 33) := ⟨⟨by decide +kernel, by decide +kernel⟩, List.mem_of_getElem? (i := 1282) (by decide +kernel), List.mem_of_getElem? (i := 1730) (by decide +kernel), List.mem_of_getElem? (i := 1731) (by decide +kernel)⟩
theorem lw_p105 : lw_okq (⟨"WillDepositModel", "holdersIn", "(II)I"⟩, 33) := ⟨⟨by decide +kernel, by decide +kernel⟩, List.mem_of_getElem? (i := 1282) (by decide +kernel), List.mem_of_getElem? (i := 1742) (by decide +kernel), List.mem_of_getElem? (i := 1743) (by decide +kernel)⟩
theorem lw_p106 : lw_okq (⟨"WillDepositModel", "wealthOf", "(I)I"⟩, 33) := ⟨⟨by decide +kernel, by decide +kernel⟩, List.mem_of_getElem? (i := 1282) (by decide +kernel), List.mem_of_getElem? (i := 1750) (by decide +kernel), List.mem_of_getElem? (i := 1751) (by decide +kernel)⟩
theorem lw_p107 : lw_okq (⟨"WillDepositModel", "nextKin", "(I)I"⟩, 33) := ⟨⟨by decide +kernel, by decide +kernel⟩, List.mem_of_getElem? (i := 1282) (by decide +kernel), List.mem_of_getElem? (i := 1771) (by decide +kernel), List.mem_of_getElem? (i := 1772) (by decide +kernel)⟩
theorem lw_p108 : lw_okq (⟨"WillDepositModel", "namedIn", "(I)I"⟩, 33) := ⟨⟨by decide +kernel, by decide +kernel⟩, List.mem_of_getElem? (i := 1282) (by decide +kernel), List.mem_of_getElem? (i := 1779) (by decide +kernel), List.mem_of_getElem? (i := 1780) (by decide +kernel)⟩
theorem lw_p109 : lw_okq (⟨"WillDepositModel", "gainOf", "(II)I"⟩, 33) := ⟨⟨by decide +kernel, by decide +kernel⟩, List.mem_of_getElem? (i := 1282) (by decide +kernel), List.mem_of_getElem? (i := 1787) (by decide +kernel), List.mem_of_getElem? (i := 1788) (by decide +kernel)⟩
theorem lw_p110 : lw_okq (⟨"WillDepositModel", "others", "(I)I"⟩, 33) := ⟨⟨by decide +kernel, by decide +kernel⟩, List.mem_of_getElem? (i := 1282) (by decide +kernel), List.mem_of_getElem? (i := 1800) (by decide +kernel), List.mem_of_getElem? (i := 1801) (by decide +kernel)⟩
theorem lw_p111 : lw_okq (⟨"WillDepositModel", "wouldBe", "(III)I"⟩, 33) := ⟨⟨by decide +kernel, by decide +kernel⟩, List.mem_of_getElem? (i := 1282) (by decide +kernel), List.mem_of_getElem? (i := 1804) (by decide +kernel), List.mem_of_getElem? (i := 1805) (by decide +kernel)⟩
def lw_privs_7 : List (MethodName × Nat) := [(⟨"WillDepositModel", "mayTake", "(IIII)Z"⟩, 33), (⟨"WillDepositModel", "heirsOf", "(I)I"⟩, 33), (⟨"WillDepositModel", "living", "(III)I"⟩, 33), (⟨"WillDepositModel", "laysParts", "(II)V"⟩, 33), (⟨"WillDepositModel", "holding", "()I"⟩, 33), (⟨"WillDepositModel", "nextDeath", "(II)I"⟩, 33), (⟨"WillDepositModel", "goesOn", "(II)V"⟩, 33), (⟨"WillDepositModel", "alike", "(IJJ)V"⟩, 33), (⟨"WillDepositModel", "comes", "(IJJ)V"⟩, 33), (⟨"WillDepositModel", "holdersIn", "(II)I"⟩, 33), (⟨"WillDepositModel", "wealthOf", "(I)I"⟩, 33), (⟨"WillDepositModel", "nextKin", "(I)I"⟩, 33), (⟨"WillDepositModel", "namedIn", "(I)I"⟩, 33), (⟨"WillDepositModel", "gainOf", "(II)I"⟩, 33), (⟨"WillDepositModel", "others", "(I)I"⟩, 33), (⟨"WillDepositModel", "wouldBe", "(III)I"⟩, 33)]
theorem lw_r7 : ∀ q ∈ lw_privs_7, lw_okq q := List.forall_mem_cons.mpr ⟨lw_p96, List.forall_mem_cons.mpr ⟨lw_p97, List.forall_mem_cons.mpr ⟨lw_p98, List.forall_mem_cons.mpr ⟨lw_p99, List.forall_mem_cons.mpr ⟨lw_p100, List.forall_mem_cons.mpr ⟨lw_p101, List.forall_mem_cons.mpr ⟨lw_p102, List.forall_mem_cons.mpr ⟨lw_p103, List.forall_mem_cons.mpr ⟨lw_p104, List.forall_mem_cons.mpr ⟨lw_p105, List.forall_mem_cons.mpr ⟨lw_p106, List.forall_mem_cons.mpr ⟨lw_p107, List.forall_mem_cons.mpr ⟨lw_p108, List.forall_mem_cons.mpr ⟨lw_p109, List.forall_mem_cons.mpr ⟨lw_p110, List.forall_mem_cons.mpr ⟨lw_p111, fun _ h => absurd h List.not_mem_nil⟩⟩⟩⟩⟩⟩⟩⟩⟩⟩⟩⟩⟩⟩⟩⟩
theorem lw_p112 : lw_okq (⟨"WillDepositModel", "laysDays", "()V"⟩, 33) := ⟨⟨by decide +kernel, by decide +kernel⟩, List.mem_of_getElem? (i := 1282) (by decide +kernel), List.mem_of_getElem? (i := 1820) (by decide +kernel), List.mem_of_getElem? (i := 1821) (by decide +kernel)⟩
theorem lw_p113 : lw_okq (⟨"WillDepositModel", "laysDay", "(I)V"⟩, 33) := ⟨⟨by decide +kernel, by decide +kernel⟩, List.mem_of_getElem? (i := 1282) (by decide +kernel), List.mem_of_getElem? (i := 1824) (by decide +kernel), List.mem_of_getElem? (i := 1825) (by decide +kernel)⟩
theorem lw_p114 : lw_okq (⟨"WillDepositModel", "manyLost", "()I"⟩, 33) := ⟨⟨by decide +kernel, by decide +kernel⟩, List.mem_of_getElem? (i := 1282) (by decide +kernel), List.mem_of_getElem? (i := 1841) (by decide +kernel), List.mem_of_getElem? (i := 1842) (by decide +kernel)⟩
theorem lw_p115 : lw_okq (⟨"WillDepositModel", "manyDie", "()I"⟩, 33) := ⟨⟨by decide +kernel, by decide +kernel⟩, List.mem_of_getElem? (i := 1282) (by decide +kernel), List.mem_of_getElem? (i := 1845) (by decide +kernel), List.mem_of_getElem? (i := 1846) (by decide +kernel)⟩
def lw_privs_8 : List (MethodName × Nat) := [(⟨"WillDepositModel", "laysDays", "()V"⟩, 33), (⟨"WillDepositModel", "laysDay", "(I)V"⟩, 33), (⟨"WillDepositModel", "manyLost", "()I"⟩, 33), (⟨"WillDepositModel", "manyDie", "()I"⟩, 33)]
theorem lw_r8 : ∀ q ∈ lw_privs_8, lw_okq q := List.forall_mem_cons.mpr ⟨lw_p112, List.forall_mem_cons.mpr ⟨lw_p113, List.forall_mem_cons.mpr ⟨lw_p114, List.forall_mem_cons.mpr ⟨lw_p115, fun _ h => absurd h List.not_mem_nil⟩⟩⟩⟩
def lw_privs : List (MethodName × Nat) := lw_privs_1 ++ (lw_privs_2 ++ (lw_privs_3 ++ (lw_privs_4 ++ (lw_privs_5 ++ (lw_privs_6 ++ (lw_privs_7 ++ (lw_privs_8)))))))
def lw_tbl : List Cond := k2_sels lw_privs ++ tables_1
theorem lw_privs_ok : ∀ q ∈ lw_privs, lw_okq q := by
  show ∀ q ∈ lw_privs_1 ++ (lw_privs_2 ++ (lw_privs_3 ++ (lw_privs_4 ++ (lw_privs_5 ++ (lw_privs_6 ++ (lw_privs_7 ++ (lw_privs_8))))))), lw_okq q
  exact List.forall_mem_append.mpr ⟨lw_r1, List.forall_mem_append.mpr ⟨lw_r2, List.forall_mem_append.mpr ⟨lw_r3, List.forall_mem_append.mpr ⟨lw_r4, List.forall_mem_append.mpr ⟨lw_r5, List.forall_mem_append.mpr ⟨lw_r6, List.forall_mem_append.mpr ⟨lw_r7, lw_r8⟩⟩⟩⟩⟩⟩⟩
-- ===== end of PART A; then your names; then what follows =====
def RX0 : String := "WillDeposit$1"
def TX0 : u_T := fun k => match k with
  | _ => ("", "", "", false)
def tyX0 : Nat → FieldType := fun k => match k with
  | _ => .int
abbrev wsX00 : List Cond := u_ws RX0 TX0 0
theorem nmX0 : ∀ a, a < 0 → ∀ b, b < 0 → a ≠ b → (TX0 a).2.1 ≠ (TX0 b).2.1 := by decide +kernel
theorem tyX0_ok : ∀ k, k < 0 → parseFieldDescriptor (TX0 k).2.2.1 = some (tyX0 k) := by decide +kernel
def RX1 : String := "WillDeposit$Estate"
def TX1 : u_T := fun k => match k with
  | 0 => ("WillDeposit$Estate", "told", "LWillDeposit$Register;", true)
  | 1 => ("WillDeposit$Estate", "law", "LWillDeposit$Law;", true)
  | 2 => ("WillDeposit$Estate", "parts", "[J", true)
  | 3 => ("WillDeposit$Estate", "whole", "J", false)
  | 4 => ("WillDeposit$Estate", "everHeld", "I", false)
  | 5 => ("WillDeposit$Estate", "leftByDeath", "I", false)
  | 6 => ("WillDeposit$Estate", "moves", "I", false)
  | _ => ("WillDeposit$Estate", "lastMove", "I", false)
def tyX1 : Nat → FieldType := fun k => match k with
  | 0 => .object "WillDeposit$Register"
  | 1 => .object "WillDeposit$Law"
  | 2 => .array .long
  | 3 => .long
  | 4 => .int
  | 5 => .int
  | 6 => .int
  | _ => .int
abbrev wsX10 : List Cond := u_ws RX1 TX1 8
theorem nmX1 : ∀ a, a < 8 → ∀ b, b < 8 → a ≠ b → (TX1 a).2.1 ≠ (TX1 b).2.1 := by decide +kernel
theorem tyX1_ok : ∀ k, k < 8 → parseFieldDescriptor (TX1 k).2.2.1 = some (tyX1 k) := by decide +kernel
abbrev cX1_init : ByteArray := prog_3_method_1_code
def yX1_init : MethodName := ⟨RX1, "<init>", "(LWillDeposit$Register;LWillDeposit$Law;)V"⟩
abbrev cX1_goOn : ByteArray := prog_3_method_2_code
def yX1_goOn : MethodName := ⟨RX1, "goOn", "(II)V"⟩
abbrev cX1_passOn : ByteArray := prog_3_method_3_code
def yX1_passOn : MethodName := ⟨RX1, "passOn", "(IZ)V"⟩
abbrev cX1_shareOut : ByteArray := prog_3_method_4_code
def yX1_shareOut : MethodName := ⟨RX1, "shareOut", "(IIII)V"⟩
abbrev cX1_holdersNow : ByteArray := prog_3_method_5_code
def yX1_holdersNow : MethodName := ⟨RX1, "holdersNow", "()I"⟩
abbrev cX1_holdersOn : ByteArray := prog_3_method_6_code
def yX1_holdersOn : MethodName := ⟨RX1, "holdersOn", "(II)I"⟩
abbrev cX1_wealthOf : ByteArray := prog_3_method_7_code
def yX1_wealthOf : MethodName := ⟨RX1, "wealthOf", "(I)I"⟩
abbrev cX1_wealthWithout : ByteArray := prog_3_method_8_code
def yX1_wealthWithout : MethodName := ⟨RX1, "wealthWithout", "(II)I"⟩
abbrev cX1_thingsOtherWithout : ByteArray := prog_3_method_9_code
def yX1_thingsOtherWithout : MethodName := ⟨RX1, "thingsOtherWithout", "(I)I"⟩
abbrev cX1_holdersIfDying : ByteArray := prog_3_method_10_code
def yX1_holdersIfDying : MethodName := ⟨RX1, "holdersIfDying", "(III)I"⟩
abbrev cX1_thingsLeftBy : ByteArray := prog_3_method_11_code
def yX1_thingsLeftBy : MethodName := ⟨RX1, "thingsLeftBy", "(I)I"⟩
def RX2 : String := "WillDeposit$History"
def TX2 : u_T := fun k => match k with
  | 0 => ("WillDeposit$History", "told", "LWillDeposit$Register;", true)
  | 1 => ("WillDeposit$History", "kinds", "[I", true)
  | 2 => ("WillDeposit$History", "numbers", "[I", true)
  | 3 => ("WillDeposit$History", "befores", "[I", true)
  | 4 => ("WillDeposit$History", "next", "I", false)
  | _ => ("WillDeposit$History", "count", "I", false)
def tyX2 : Nat → FieldType := fun k => match k with
  | 0 => .object "WillDeposit$Register"
  | 1 => .array .int
  | 2 => .array .int
  | 3 => .array .int
  | 4 => .int
  | _ => .int
abbrev wsX20 : List Cond := u_ws RX2 TX2 6
theorem nmX2 : ∀ a, a < 6 → ∀ b, b < 6 → a ≠ b → (TX2 a).2.1 ≠ (TX2 b).2.1 := by decide +kernel
theorem tyX2_ok : ∀ k, k < 6 → parseFieldDescriptor (TX2 k).2.2.1 = some (tyX2 k) := by decide +kernel
abbrev cX2_init : ByteArray := prog_4_method_1_code
def yX2_init : MethodName := ⟨RX2, "<init>", "(LWillDeposit$Register;)V"⟩
abbrev cX2_forgetAll : ByteArray := prog_4_method_2_code
def yX2_forgetAll : MethodName := ⟨RX2, "forgetAll", "()V"⟩
abbrev cX2_keep : ByteArray := prog_4_method_3_code
def yX2_keep : MethodName := ⟨RX2, "keep", "(III)V"⟩
abbrev cX2_undoLatest : ByteArray := prog_4_method_4_code
def yX2_undoLatest : MethodName := ⟨RX2, "undoLatest", "()V"⟩
def RX3 : String := "WillDeposit$Land"
def TX3 : u_T := fun k => match k with
  | 0 => ("WillDeposit$Land", "isTold", "Z", false)
  | 1 => ("WillDeposit$Land", "witnesses", "I", false)
  | 2 => ("WillDeposit$Land", "own", "Z", false)
  | 3 => ("WillDeposit$Land", "wed", "Z", false)
  | 4 => ("WillDeposit$Land", "copies", "Z", false)
  | _ => ("WillDeposit$Land", "half", "Z", false)
def tyX3 : Nat → FieldType := fun k => match k with
  | 0 => .boolean
  | 1 => .int
  | 2 => .boolean
  | 3 => .boolean
  | 4 => .boolean
  | _ => .boolean
abbrev wsX30 : List Cond := u_ws RX3 TX3 6
theorem nmX3 : ∀ a, a < 6 → ∀ b, b < 6 → a ≠ b → (TX3 a).2.1 ≠ (TX3 b).2.1 := by decide +kernel
theorem tyX3_ok : ∀ k, k < 6 → parseFieldDescriptor (TX3 k).2.2.1 = some (tyX3 k) := by decide +kernel
abbrev cX3_init : ByteArray := prog_5_method_1_code
def yX3_init : MethodName := ⟨RX3, "<init>", "()V"⟩
abbrev cX3_clear : ByteArray := prog_5_method_2_code
def yX3_clear : MethodName := ⟨RX3, "clear", "()V"⟩
def RX4 : String := "WillDeposit$Law"
def TX4 : u_T := fun k => match k with
  | 0 => ("WillDeposit$Law", "told", "LWillDeposit$Register;", true)
  | 1 => ("WillDeposit$Law", "good", "[Z", true)
  | 2 => ("WillDeposit$Law", "why", "[I", true)
  | 3 => ("WillDeposit$Law", "striker", "[I", true)
  | 4 => ("WillDeposit$Law", "taker", "I", false)
  | _ => ("WillDeposit$Law", "takersPaper", "I", false)
def tyX4 : Nat → FieldType := fun k => match k with
  | 0 => .object "WillDeposit$Register"
  | 1 => .array .boolean
  | 2 => .array .int
  | 3 => .array .int
  | 4 => .int
  | _ => .int
abbrev wsX40 : List Cond := u_ws RX4 TX4 6
theorem nmX4 : ∀ a, a < 6 → ∀ b, b < 6 → a ≠ b → (TX4 a).2.1 ≠ (TX4 b).2.1 := by decide +kernel
theorem tyX4_ok : ∀ k, k < 6 → parseFieldDescriptor (TX4 k).2.2.1 = some (tyX4 k) := by decide +kernel
abbrev cX4_init : ByteArray := prog_6_method_1_code
def yX4_init : MethodName := ⟨RX4, "<init>", "(LWillDeposit$Register;)V"⟩
abbrev cX4_weigh : ByteArray := prog_6_method_2_code
def yX4_weigh : MethodName := ⟨RX4, "weigh", "(I)V"⟩
abbrev cX4_countsOf : ByteArray := prog_6_method_3_code
def yX4_countsOf : MethodName := ⟨RX4, "countsOf", "(II)Z"⟩
abbrev cX4_whyNotGood : ByteArray := prog_6_method_4_code
def yX4_whyNotGood : MethodName := ⟨RX4, "whyNotGood", "(LWillDeposit$Paper;II)I"⟩
abbrev cX4_hasForm : ByteArray := prog_6_method_5_code
def yX4_hasForm : MethodName := ⟨RX4, "hasForm", "(LWillDeposit$Paper;II)Z"⟩
abbrev cX4_hasFormByHand : ByteArray := prog_6_method_6_code
def yX4_hasFormByHand : MethodName := ⟨RX4, "hasFormByHand", "(LWillDeposit$Paper;I)Z"⟩
abbrev cX4_witnessesWhoLived : ByteArray := prog_6_method_7_code
def yX4_witnessesWhoLived : MethodName := ⟨RX4, "witnessesWhoLived", "(LWillDeposit$Paper;)I"⟩
abbrev cX4_latestStriker : ByteArray := prog_6_method_8_code
def yX4_latestStriker : MethodName := ⟨RX4, "latestStriker", "(I)I"⟩
abbrev cX4_isBroken : ByteArray := prog_6_method_9_code
def yX4_isBroken : MethodName := ⟨RX4, "isBroken", "(LWillDeposit$Paper;)Z"⟩
abbrev cX4_chooseTaker : ByteArray := prog_6_method_10_code
def yX4_chooseTaker : MethodName := ⟨RX4, "chooseTaker", "(II)V"⟩
abbrev cX4_takerByGives : ByteArray := prog_6_method_11_code
def yX4_takerByGives : MethodName := ⟨RX4, "takerByGives", "(LWillDeposit$Paper;I)I"⟩
abbrev cX4_isSo : ByteArray := prog_6_method_12_code
def yX4_isSo : MethodName := ⟨RX4, "isSo", "(LWillDeposit$Paper;I)Z"⟩
abbrev cX4_mayTake : ByteArray := prog_6_method_13_code
def yX4_mayTake : MethodName := ⟨RX4, "mayTake", "(ILWillDeposit$Paper;I)Z"⟩
def RX5 : String := "WillDeposit$Paper"
def TX5 : u_T := fun k => match k with
  | 0 => ("WillDeposit$Paper", "maker", "I", false)
  | 1 => ("WillDeposit$Paper", "day", "I", false)
  | 2 => ("WillDeposit$Paper", "land", "I", false)
  | 3 => ("WillDeposit$Paper", "kind", "I", false)
  | 4 => ("WillDeposit$Paper", "ownHand", "Z", false)
  | 5 => ("WillDeposit$Paper", "witnesses", "I", false)
  | 6 => ("WillDeposit$Paper", "struck", "I", false)
  | 7 => ("WillDeposit$Paper", "rest", "I", false)
  | 8 => ("WillDeposit$Paper", "copies", "I", false)
  | 9 => ("WillDeposit$Paper", "takenBack", "Z", false)
  | 10 => ("WillDeposit$Paper", "gives", "I", false)
  | 11 => ("WillDeposit$Paper", "giveThing", "[I", true)
  | 12 => ("WillDeposit$Paper", "giveTo", "[I", true)
  | 13 => ("WillDeposit$Paper", "giveCondition", "[I", true)
  | 14 => ("WillDeposit$Paper", "givePerson", "[I", true)
  | _ => ("WillDeposit$Paper", "giveElse", "[I", true)
def tyX5 : Nat → FieldType := fun k => match k with
  | 0 => .int
  | 1 => .int
  | 2 => .int
  | 3 => .int
  | 4 => .boolean
  | 5 => .int
  | 6 => .int
  | 7 => .int
  | 8 => .int
  | 9 => .boolean
  | 10 => .int
  | 11 => .array .int
  | 12 => .array .int
  | 13 => .array .int
  | 14 => .array .int
  | _ => .array .int
abbrev wsX50 : List Cond := u_ws RX5 TX5 16
theorem nmX5 : ∀ a, a < 16 → ∀ b, b < 16 → a ≠ b → (TX5 a).2.1 ≠ (TX5 b).2.1 := by decide +kernel
theorem tyX5_ok : ∀ k, k < 16 → parseFieldDescriptor (TX5 k).2.2.1 = some (tyX5 k) := by decide +kernel
abbrev cX5_init : ByteArray := prog_7_method_1_code
def yX5_init : MethodName := ⟨RX5, "<init>", "()V"⟩
abbrev cX5_clear : ByteArray := prog_7_method_2_code
def yX5_clear : MethodName := ⟨RX5, "clear", "()V"⟩
abbrev cX5_isLost : ByteArray := prog_7_method_3_code
def yX5_isLost : MethodName := ⟨RX5, "isLost", "()Z"⟩
abbrev cX5_isWitness : ByteArray := prog_7_method_4_code
def yX5_isWitness : MethodName := ⟨RX5, "isWitness", "(I)Z"⟩
abbrev cX5_strikes : ByteArray := prog_7_method_5_code
def yX5_strikes : MethodName := ⟨RX5, "strikes", "(I)Z"⟩
abbrev cX5_givesTo : ByteArray := prog_7_method_6_code
def yX5_givesTo : MethodName := ⟨RX5, "givesTo", "(I)Z"⟩
def RX6 : String := "WillDeposit$Person"
def TX6 : u_T := fun k => match k with
  | 0 => ("WillDeposit$Person", "home", "I", false)
  | 1 => ("WillDeposit$Person", "deathDay", "I", false)
  | _ => ("WillDeposit$Person", "parents", "I", false)
def tyX6 : Nat → FieldType := fun k => match k with
  | 0 => .int
  | 1 => .int
  | _ => .int
abbrev wsX60 : List Cond := u_ws RX6 TX6 3
theorem nmX6 : ∀ a, a < 3 → ∀ b, b < 3 → a ≠ b → (TX6 a).2.1 ≠ (TX6 b).2.1 := by decide +kernel
theorem tyX6_ok : ∀ k, k < 3 → parseFieldDescriptor (TX6 k).2.2.1 = some (tyX6 k) := by decide +kernel
abbrev cX6_init : ByteArray := prog_8_method_1_code
def yX6_init : MethodName := ⟨RX6, "<init>", "()V"⟩
abbrev cX6_isMortal : ByteArray := prog_8_method_2_code
def yX6_isMortal : MethodName := ⟨RX6, "isMortal", "()Z"⟩
abbrev cX6_livesOn : ByteArray := prog_8_method_3_code
def yX6_livesOn : MethodName := ⟨RX6, "livesOn", "(I)Z"⟩
def RX7 : String := "WillDeposit$Register"
def TX7 : u_T := fun k => match k with
  | 0 => ("WillDeposit$Register", "lands", "[LWillDeposit$Land;", true)
  | 1 => ("WillDeposit$Register", "persons", "[LWillDeposit$Person;", true)
  | 2 => ("WillDeposit$Register", "things", "[LWillDeposit$Thing;", true)
  | 3 => ("WillDeposit$Register", "papers", "[LWillDeposit$Paper;", true)
  | 4 => ("WillDeposit$Register", "latestFirst", "[I", true)
  | 5 => ("WillDeposit$Register", "wedOne", "[I", true)
  | 6 => ("WillDeposit$Register", "wedOther", "[I", true)
  | 7 => ("WillDeposit$Register", "wedDay", "[I", true)
  | 8 => ("WillDeposit$Register", "lines", "I", false)
  | 9 => ("WillDeposit$Register", "personCount", "I", false)
  | 10 => ("WillDeposit$Register", "thingCount", "I", false)
  | 11 => ("WillDeposit$Register", "paperCount", "I", false)
  | _ => ("WillDeposit$Register", "wedCount", "I", false)
def tyX7 : Nat → FieldType := fun k => match k with
  | 0 => .array (.object "WillDeposit$Land")
  | 1 => .array (.object "WillDeposit$Person")
  | 2 => .array (.object "WillDeposit$Thing")
  | 3 => .array (.object "WillDeposit$Paper")
  | 4 => .array .int
  | 5 => .array .int
  | 6 => .array .int
  | 7 => .array .int
  | 8 => .int
  | 9 => .int
  | 10 => .int
  | 11 => .int
  | _ => .int
abbrev wsX70 : List Cond := u_ws RX7 TX7 13
theorem nmX7 : ∀ a, a < 13 → ∀ b, b < 13 → a ≠ b → (TX7 a).2.1 ≠ (TX7 b).2.1 := by decide +kernel
theorem tyX7_ok : ∀ k, k < 13 → parseFieldDescriptor (TX7 k).2.2.1 = some (tyX7 k) := by decide +kernel
abbrev cX7_init : ByteArray := prog_9_method_1_code
def yX7_init : MethodName := ⟨RX7, "<init>", "()V"⟩
abbrev cX7_clear : ByteArray := prog_9_method_2_code
def yX7_clear : MethodName := ⟨RX7, "clear", "()V"⟩
abbrev cX7_isPerson : ByteArray := prog_9_method_3_code
def yX7_isPerson : MethodName := ⟨RX7, "isPerson", "(I)Z"⟩
abbrev cX7_isThing : ByteArray := prog_9_method_4_code
def yX7_isThing : MethodName := ⟨RX7, "isThing", "(I)Z"⟩
abbrev cX7_isPaper : ByteArray := prog_9_method_5_code
def yX7_isPaper : MethodName := ⟨RX7, "isPaper", "(I)Z"⟩
abbrev cX7_addPerson : ByteArray := prog_9_method_6_code
def yX7_addPerson : MethodName := ⟨RX7, "addPerson", "(I)V"⟩
abbrev cX7_addThing : ByteArray := prog_9_method_7_code
def yX7_addThing : MethodName := ⟨RX7, "addThing", "(III)V"⟩
abbrev cX7_addWedding : ByteArray := prog_9_method_8_code
def yX7_addWedding : MethodName := ⟨RX7, "addWedding", "(III)V"⟩
abbrev cX7_addFilledPaper : ByteArray := prog_9_method_9_code
def yX7_addFilledPaper : MethodName := ⟨RX7, "addFilledPaper", "()V"⟩
abbrev cX7_lostPapers : ByteArray := prog_9_method_10_code
def yX7_lostPapers : MethodName := ⟨RX7, "lostPapers", "()I"⟩
abbrev cX7_deaths : ByteArray := prog_9_method_11_code
def yX7_deaths : MethodName := ⟨RX7, "deaths", "()I"⟩
abbrev cX7_livingOn : ByteArray := prog_9_method_12_code
def yX7_livingOn : MethodName := ⟨RX7, "livingOn", "(I)I"⟩
abbrev cX7_childrenOf : ByteArray := prog_9_method_13_code
def yX7_childrenOf : MethodName := ⟨RX7, "childrenOf", "(I)I"⟩
abbrev cX7_lastWedUpTo : ByteArray := prog_9_method_14_code
def yX7_lastWedUpTo : MethodName := ⟨RX7, "lastWedUpTo", "(II)I"⟩
abbrev cX7_wasWedBetween : ByteArray := prog_9_method_15_code
def yX7_wasWedBetween : MethodName := ⟨RX7, "wasWedBetween", "(III)Z"⟩
abbrev cX7_heirsOf : ByteArray := prog_9_method_16_code
def yX7_heirsOf : MethodName := ⟨RX7, "heirsOf", "(I)I"⟩
abbrev cX7_nextOfKin : ByteArray := prog_9_method_17_code
def yX7_nextOfKin : MethodName := ⟨RX7, "nextOfKin", "(I)I"⟩
abbrev cX7_deathBehind : ByteArray := prog_9_method_18_code
def yX7_deathBehind : MethodName := ⟨RX7, "deathBehind", "(I)I"⟩
abbrev cX7_diesAheadOf : ByteArray := prog_9_method_19_code
def yX7_diesAheadOf : MethodName := ⟨RX7, "diesAheadOf", "(II)Z"⟩
abbrev cX7_turnBehind : ByteArray := prog_9_method_20_code
def yX7_turnBehind : MethodName := ⟨RX7, "turnBehind", "(II)I"⟩
abbrev cX7_nearer : ByteArray := prog_9_method_21_code
def yX7_nearer : MethodName := ⟨RX7, "nearer", "(III)I"⟩
def RX8 : String := "WillDeposit$TextReader"
def TX8 : u_T := fun k => match k with
  | 0 => ("WillDeposit$TextReader", "tokens", "LWillDeposit$Tokens;", true)
  | 1 => ("WillDeposit$TextReader", "told", "LWillDeposit$Register;", true)
  | 2 => ("WillDeposit$TextReader", "personNames", "[I", true)
  | 3 => ("WillDeposit$TextReader", "thingNames", "[I", true)
  | 4 => ("WillDeposit$TextReader", "paperNames", "[I", true)
  | 5 => ("WillDeposit$TextReader", "at", "I", false)
  | 6 => ("WillDeposit$TextReader", "fault", "I", false)
  | _ => ("WillDeposit$TextReader", "faultPlace", "I", false)
def tyX8 : Nat → FieldType := fun k => match k with
  | 0 => .object "WillDeposit$Tokens"
  | 1 => .object "WillDeposit$Register"
  | 2 => .array .int
  | 3 => .array .int
  | 4 => .array .int
  | 5 => .int
  | 6 => .int
  | _ => .int
abbrev wsX80 : List Cond := u_ws RX8 TX8 8
theorem nmX8 : ∀ a, a < 8 → ∀ b, b < 8 → a ≠ b → (TX8 a).2.1 ≠ (TX8 b).2.1 := by decide +kernel
theorem tyX8_ok : ∀ k, k < 8 → parseFieldDescriptor (TX8 k).2.2.1 = some (tyX8 k) := by decide +kernel
abbrev cX8_init : ByteArray := prog_10_method_1_code
def yX8_init : MethodName := ⟨RX8, "<init>", "(LWillDeposit$Tokens;LWillDeposit$Register;)V"⟩
abbrev cX8_readAll : ByteArray := prog_10_method_2_code
def yX8_readAll : MethodName := ⟨RX8, "readAll", "()V"⟩
abbrev cX8_readLand : ByteArray := prog_10_method_3_code
def yX8_readLand : MethodName := ⟨RX8, "readLand", "()V"⟩
abbrev cX8_readRight : ByteArray := prog_10_method_4_code
def yX8_readRight : MethodName := ⟨RX8, "readRight", "(LWillDeposit$Land;)V"⟩
abbrev cX8_readPerson : ByteArray := prog_10_method_5_code
def yX8_readPerson : MethodName := ⟨RX8, "readPerson", "()V"⟩
abbrev cX8_readChild : ByteArray := prog_10_method_6_code
def yX8_readChild : MethodName := ⟨RX8, "readChild", "()V"⟩
abbrev cX8_readWedding : ByteArray := prog_10_method_7_code
def yX8_readWedding : MethodName := ⟨RX8, "readWedding", "()V"⟩
abbrev cX8_readThing : ByteArray := prog_10_method_8_code
def yX8_readThing : MethodName := ⟨RX8, "readThing", "()V"⟩
abbrev cX8_readPaper : ByteArray := prog_10_method_9_code
def yX8_readPaper : MethodName := ⟨RX8, "readPaper", "()V"⟩
abbrev cX8_takePaperKind : ByteArray := prog_10_method_10_code
def yX8_takePaperKind : MethodName := ⟨RX8, "takePaperKind", "()I"⟩
abbrev cX8_readPart : ByteArray := prog_10_method_11_code
def yX8_readPart : MethodName := ⟨RX8, "readPart", "(LWillDeposit$Paper;)V"⟩
abbrev cX8_readWitness : ByteArray := prog_10_method_12_code
def yX8_readWitness : MethodName := ⟨RX8, "readWitness", "(LWillDeposit$Paper;)V"⟩
abbrev cX8_readGive : ByteArray := prog_10_method_13_code
def yX8_readGive : MethodName := ⟨RX8, "readGive", "(LWillDeposit$Paper;)V"⟩
abbrev cX8_readStrike : ByteArray := prog_10_method_14_code
def yX8_readStrike : MethodName := ⟨RX8, "readStrike", "(LWillDeposit$Paper;)V"⟩
abbrev cX8_readLost : ByteArray := prog_10_method_15_code
def yX8_readLost : MethodName := ⟨RX8, "readLost", "()V"⟩
abbrev cX8_readDeath : ByteArray := prog_10_method_16_code
def yX8_readDeath : MethodName := ⟨RX8, "readDeath", "()V"⟩
abbrev cX8_takePerson : ByteArray := prog_10_method_17_code
def yX8_takePerson : MethodName := ⟨RX8, "takePerson", "()I"⟩
abbrev cX8_takeThing : ByteArray := prog_10_method_18_code
def yX8_takeThing : MethodName := ⟨RX8, "takeThing", "()I"⟩
abbrev cX8_takePaper : ByteArray := prog_10_method_19_code
def yX8_takePaper : MethodName := ⟨RX8, "takePaper", "()I"⟩
abbrev cX8_takeKnownName : ByteArray := prog_10_method_20_code
def yX8_takeKnownName : MethodName := ⟨RX8, "takeKnownName", "([II)I"⟩
abbrev cX8_takeNewName : ByteArray := prog_10_method_21_code
def yX8_takeNewName : MethodName := ⟨RX8, "takeNewName", "([II)V"⟩
abbrev cX8_indexOfName : ByteArray := prog_10_method_22_code
def yX8_indexOfName : MethodName := ⟨RX8, "indexOfName", "([II)I"⟩
abbrev cX8_takeNumber : ByteArray := prog_10_method_23_code
def yX8_takeNumber : MethodName := ⟨RX8, "takeNumber", "(II)I"⟩
abbrev cX8_takeOneMore : ByteArray := prog_10_method_24_code
def yX8_takeOneMore : MethodName := ⟨RX8, "takeOneMore", "(II)V"⟩
abbrev cX8_takeOnce : ByteArray := prog_10_method_25_code
def yX8_takeOnce : MethodName := ⟨RX8, "takeOnce", "(Z)V"⟩
abbrev cX8_takeSemicolon : ByteArray := prog_10_method_26_code
def yX8_takeSemicolon : MethodName := ⟨RX8, "takeSemicolon", "()V"⟩
abbrev cX8_comes : ByteArray := prog_10_method_27_code
def yX8_comes : MethodName := ⟨RX8, "comes", "()LWillDeposit$Token;"⟩
abbrev cX8_takeToken : ByteArray := prog_10_method_28_code
def yX8_takeToken : MethodName := ⟨RX8, "takeToken", "()V"⟩
abbrev cX8_fail : ByteArray := prog_10_method_29_code
def yX8_fail : MethodName := ⟨RX8, "fail", "(I)V"⟩
abbrev cX8_failAtTaken : ByteArray := prog_10_method_30_code
def yX8_failAtTaken : MethodName := ⟨RX8, "failAtTaken", "()V"⟩
def RX9 : String := "WillDeposit$Thing"
def TX9 : u_T := fun k => match k with
  | 0 => ("WillDeposit$Thing", "owner", "I", false)
  | 1 => ("WillDeposit$Thing", "land", "I", false)
  | _ => ("WillDeposit$Thing", "worth", "I", false)
def tyX9 : Nat → FieldType := fun k => match k with
  | 0 => .int
  | 1 => .int
  | _ => .int
abbrev wsX90 : List Cond := u_ws RX9 TX9 3
theorem nmX9 : ∀ a, a < 3 → ∀ b, b < 3 → a ≠ b → (TX9 a).2.1 ≠ (TX9 b).2.1 := by decide +kernel
theorem tyX9_ok : ∀ k, k < 3 → parseFieldDescriptor (TX9 k).2.2.1 = some (tyX9 k) := by decide +kernel
abbrev cX9_init : ByteArray := prog_11_method_1_code
def yX9_init : MethodName := ⟨RX9, "<init>", "()V"⟩
def RX10 : String := "WillDeposit$Token"
def TX10 : u_T := fun k => match k with
  | _ => ("", "", "", false)
def tyX10 : Nat → FieldType := fun k => match k with
  | _ => .int
abbrev wsX100 : List Cond := u_ws RX10 TX10 0
theorem nmX10 : ∀ a, a < 0 → ∀ b, b < 0 → a ≠ b → (TX10 a).2.1 ≠ (TX10 b).2.1 := by decide +kernel
theorem tyX10_ok : ∀ k, k < 0 → parseFieldDescriptor (TX10 k).2.2.1 = some (tyX10 k) := by decide +kernel
def RX11 : String := "WillDeposit$Tokens"
def TX11 : u_T := fun k => match k with
  | 0 => ("WillDeposit$Tokens", "kinds", "[LWillDeposit$Token;", true)
  | 1 => ("WillDeposit$Tokens", "places", "[I", true)
  | 2 => ("WillDeposit$Tokens", "values", "[I", true)
  | 3 => ("WillDeposit$Tokens", "last", "I", false)
  | 4 => ("WillDeposit$Tokens", "tape", "[B", true)
  | 5 => ("WillDeposit$Tokens", "length", "I", false)
  | _ => ("WillDeposit$Tokens", "next", "I", false)
def tyX11 : Nat → FieldType := fun k => match k with
  | 0 => .array (.object "WillDeposit$Token")
  | 1 => .array .int
  | 2 => .array .int
  | 3 => .int
  | 4 => .array .byte
  | 5 => .int
  | _ => .int
abbrev wsX110 : List Cond := u_ws RX11 TX11 7
theorem nmX11 : ∀ a, a < 7 → ∀ b, b < 7 → a ≠ b → (TX11 a).2.1 ≠ (TX11 b).2.1 := by decide +kernel
theorem tyX11_ok : ∀ k, k < 7 → parseFieldDescriptor (TX11 k).2.2.1 = some (tyX11 k) := by decide +kernel
abbrev cX11_init : ByteArray := prog_13_method_1_code
def yX11_init : MethodName := ⟨RX11, "<init>", "([B)V"⟩
abbrev cX11_cutTape : ByteArray := prog_13_method_2_code
def yX11_cutTape : MethodName := ⟨RX11, "cutTape", "(I)V"⟩
abbrev cX11_skipBlanks : ByteArray := prog_13_method_3_code
def yX11_skipBlanks : MethodName := ⟨RX11, "skipBlanks", "()V"⟩
abbrev cX11_cutNumber : ByteArray := prog_13_method_4_code
def yX11_cutNumber : MethodName := ⟨RX11, "cutNumber", "()V"⟩
abbrev cX11_cutWord : ByteArray := prog_13_method_5_code
def yX11_cutWord : MethodName := ⟨RX11, "cutWord", "()V"⟩
abbrev cX11_wordKind : ByteArray := prog_13_method_6_code
def yX11_wordKind : MethodName := ⟨RX11, "wordKind", "(I)LWillDeposit$Token;"⟩
abbrev cX11_isWord : ByteArray := prog_13_method_7_code
def yX11_isWord : MethodName := ⟨RX11, "isWord", "(Ljava/lang/String;I)Z"⟩
abbrev cX11_isDigit : ByteArray := prog_13_method_8_code
def yX11_isDigit : MethodName := ⟨RX11, "isDigit", "(B)Z"⟩
abbrev cX11_isLetter : ByteArray := prog_13_method_9_code
def yX11_isLetter : MethodName := ⟨RX11, "isLetter", "(B)Z"⟩
def RX12 : String := "WillDeposit"
def TX12 : u_T := fun k => match k with
  | 0 => ("WillDeposit", "tape", "[B", true)
  | 1 => ("WillDeposit", "tapeLength", "I", false)
  | 2 => ("WillDeposit", "latestFault", "I", false)
  | 3 => ("WillDeposit", "latestPlace", "I", false)
  | 4 => ("WillDeposit", "told", "LWillDeposit$Register;", true)
  | 5 => ("WillDeposit", "draft", "LWillDeposit$Register;", true)
  | 6 => ("WillDeposit", "tokens", "LWillDeposit$Tokens;", true)
  | 7 => ("WillDeposit", "draftReader", "LWillDeposit$TextReader;", true)
  | 8 => ("WillDeposit", "reader", "LWillDeposit$TextReader;", true)
  | 9 => ("WillDeposit", "law", "LWillDeposit$Law;", true)
  | 10 => ("WillDeposit", "estate", "LWillDeposit$Estate;", true)
  | _ => ("WillDeposit", "history", "LWillDeposit$History;", true)
def tyX12 : Nat → FieldType := fun k => match k with
  | 0 => .array .byte
  | 1 => .int
  | 2 => .int
  | 3 => .int
  | 4 => .object "WillDeposit$Register"
  | 5 => .object "WillDeposit$Register"
  | 6 => .object "WillDeposit$Tokens"
  | 7 => .object "WillDeposit$TextReader"
  | 8 => .object "WillDeposit$TextReader"
  | 9 => .object "WillDeposit$Law"
  | 10 => .object "WillDeposit$Estate"
  | _ => .object "WillDeposit$History"
abbrev wsX120 : List Cond := u_ws RX12 TX12 12
theorem nmX12 : ∀ a, a < 12 → ∀ b, b < 12 → a ≠ b → (TX12 a).2.1 ≠ (TX12 b).2.1 := by decide +kernel
theorem tyX12_ok : ∀ k, k < 12 → parseFieldDescriptor (TX12 k).2.2.1 = some (tyX12 k) := by decide +kernel
abbrev cX12_init : ByteArray := prog_1_method_1_code
def yX12_init : MethodName := ⟨RX12, "<init>", "()V"⟩
abbrev cX12_feed : ByteArray := prog_1_method_2_code
def yX12_feed : MethodName := ⟨RX12, "feed", "(IIIII)I"⟩
abbrev cX12_putNumber : ByteArray := prog_1_method_3_code
def yX12_putNumber : MethodName := ⟨RX12, "putNumber", "(I)V"⟩
abbrev cX12_text : ByteArray := prog_1_method_4_code
def yX12_text : MethodName := ⟨RX12, "text", "(I)I"⟩
abbrev cX12_fault : ByteArray := prog_1_method_5_code
def yX12_fault : MethodName := ⟨RX12, "fault", "(I)I"⟩
abbrev cX12_person : ByteArray := prog_1_method_6_code
def yX12_person : MethodName := ⟨RX12, "person", "(II)I"⟩
abbrev cX12_paper : ByteArray := prog_1_method_7_code
def yX12_paper : MethodName := ⟨RX12, "paper", "(II)I"⟩
abbrev cX12_thing : ByteArray := prog_1_method_8_code
def yX12_thing : MethodName := ⟨RX12, "thing", "(II)I"⟩
abbrev cX12_land : ByteArray := prog_1_method_9_code
def yX12_land : MethodName := ⟨RX12, "land", "(II)I"⟩
abbrev cX12_give : ByteArray := prog_1_method_10_code
def yX12_give : MethodName := ⟨RX12, "give", "(III)I"⟩
abbrev cX12_count : ByteArray := prog_1_method_11_code
def yX12_count : MethodName := ⟨RX12, "count", "(I)I"⟩
abbrev cX12_lose : ByteArray := prog_1_method_12_code
def yX12_lose : MethodName := ⟨RX12, "lose", "(II)Z"⟩
abbrev cX12_find : ByteArray := prog_1_method_13_code
def yX12_find : MethodName := ⟨RX12, "find", "(I)Z"⟩
abbrev cX12_copy : ByteArray := prog_1_method_14_code
def yX12_copy : MethodName := ⟨RX12, "copy", "(I)I"⟩
abbrev cX12_changeCopies : ByteArray := prog_1_method_15_code
def yX12_changeCopies : MethodName := ⟨RX12, "changeCopies", "(II)V"⟩
abbrev cX12_witness : ByteArray := prog_1_method_16_code
def yX12_witness : MethodName := ⟨RX12, "witness", "(II)I"⟩
abbrev cX12_wed : ByteArray := prog_1_method_17_code
def yX12_wed : MethodName := ⟨RX12, "wed", "(III)I"⟩
abbrev cX12_dies : ByteArray := prog_1_method_18_code
def yX12_dies : MethodName := ⟨RX12, "dies", "(II)Z"⟩
abbrev cX12_takeBack : ByteArray := prog_1_method_19_code
def yX12_takeBack : MethodName := ⟨RX12, "takeBack", "(I)Z"⟩
abbrev cX12_undo : ByteArray := prog_1_method_20_code
def yX12_undo : MethodName := ⟨RX12, "undo", "()I"⟩
abbrev cX12_form : ByteArray := prog_1_method_21_code
def yX12_form : MethodName := ⟨RX12, "form", "(II)I"⟩
abbrev cX12_why : ByteArray := prog_1_method_22_code
def yX12_why : MethodName := ⟨RX12, "why", "(II)I"⟩
abbrev cX12_struckBy : ByteArray := prog_1_method_23_code
def yX12_struckBy : MethodName := ⟨RX12, "struckBy", "(II)I"⟩
abbrev cX12_counting : ByteArray := prog_1_method_24_code
def yX12_counting : MethodName := ⟨RX12, "counting", "(III)I"⟩
abbrev cX12_taker : ByteArray := prog_1_method_25_code
def yX12_taker : MethodName := ⟨RX12, "taker", "(II)I"⟩
abbrev cX12_takerBy : ByteArray := prog_1_method_26_code
def yX12_takerBy : MethodName := ⟨RX12, "takerBy", "(II)I"⟩
abbrev cX12_heirs : ByteArray := prog_1_method_27_code
def yX12_heirs : MethodName := ⟨RX12, "heirs", "(I)I"⟩
abbrev cX12_margin : ByteArray := prog_1_method_28_code
def yX12_margin : MethodName := ⟨RX12, "margin", "(I)I"⟩
abbrev cX12_naming : ByteArray := prog_1_method_29_code
def yX12_naming : MethodName := ⟨RX12, "naming", "(II)I"⟩
abbrev cX12_sees : ByteArray := prog_1_method_30_code
def yX12_sees : MethodName := ⟨RX12, "sees", "(III)I"⟩
abbrev cX12_has : ByteArray := prog_1_method_31_code
def yX12_has : MethodName := ⟨RX12, "has", "(IIII)J"⟩
abbrev cX12_holders : ByteArray := prog_1_method_32_code
def yX12_holders : MethodName := ⟨RX12, "holders", "(II)I"⟩
abbrev cX12_wealth : ByteArray := prog_1_method_33_code
def yX12_wealth : MethodName := ⟨RX12, "wealth", "(I)I"⟩
abbrev cX12_ever : ByteArray := prog_1_method_34_code
def yX12_ever : MethodName := ⟨RX12, "ever", "(I)I"⟩
abbrev cX12_death : ByteArray := prog_1_method_35_code
def yX12_death : MethodName := ⟨RX12, "death", "(II)I"⟩
abbrev cX12_moves : ByteArray := prog_1_method_36_code
def yX12_moves : MethodName := ⟨RX12, "moves", "(II)I"⟩
abbrev cX12_kin : ByteArray := prog_1_method_37_code
def yX12_kin : MethodName := ⟨RX12, "kin", "(II)I"⟩
abbrev cX12_gain : ByteArray := prog_1_method_38_code
def yX12_gain : MethodName := ⟨RX12, "gain", "(II)I"⟩
abbrev cX12_against : ByteArray := prog_1_method_39_code
def yX12_against : MethodName := ⟨RX12, "against", "(II)I"⟩
abbrev cX12_key : ByteArray := prog_1_method_40_code
def yX12_key : MethodName := ⟨RX12, "key", "(I)I"⟩
abbrev cX12_wouldPaper : ByteArray := prog_1_method_41_code
def yX12_wouldPaper : MethodName := ⟨RX12, "wouldPaper", "(III)I"⟩
abbrev cX12_wouldDie : ByteArray := prog_1_method_42_code
def yX12_wouldDie : MethodName := ⟨RX12, "wouldDie", "(III)I"⟩
abbrev cX12_dayFor : ByteArray := prog_1_method_43_code
def yX12_dayFor : MethodName := ⟨RX12, "dayFor", "(III)I"⟩
abbrev cX12_bit : ByteArray := prog_1_method_44_code
def yX12_bit : MethodName := ⟨RX12, "bit", "(Z)I"⟩
abbrev cX12_orMinusTwo : ByteArray := prog_1_method_45_code
def yX12_orMinusTwo : MethodName := ⟨RX12, "orMinusTwo", "(I)I"⟩
abbrev cX12_isLand : ByteArray := prog_1_method_46_code
def yX12_isLand : MethodName := ⟨RX12, "isLand", "(I)Z"⟩
abbrev cX12_isDay : ByteArray := prog_1_method_47_code
def yX12_isDay : MethodName := ⟨RX12, "isDay", "(I)Z"⟩
abbrev cX12_isDayOrNever : ByteArray := prog_1_method_48_code
def yX12_isDayOrNever : MethodName := ⟨RX12, "isDayOrNever", "(I)Z"⟩
abbrev cX12_isPersonOrCrown : ByteArray := prog_1_method_49_code
def yX12_isPersonOrCrown : MethodName := ⟨RX12, "isPersonOrCrown", "(I)Z"⟩
abbrev cX12_holder : ByteArray := prog_1_method_50_code
def yX12_holder : MethodName := ⟨RX12, "holder", "(I)I"⟩
abbrev cX12_greatestDivisor : ByteArray := prog_1_method_51_code
def yX12_greatestDivisor : MethodName := ⟨RX12, "greatestDivisor", "(JJ)J"⟩
def RX13 : String := "WillDepositModel"
def TX13 : u_T := fun k => match k with
  | 0 => ("WillDepositModel", "thrown", "I", false)
  | 1 => ("WillDepositModel", "tape", "[I", true)
  | 2 => ("WillDepositModel", "taped", "I", false)
  | 3 => ("WillDepositModel", "world", "[I", true)
  | 4 => ("WillDepositModel", "fresh", "[I", true)
  | 5 => ("WillDepositModel", "strikes", "[I", true)
  | 6 => ("WillDepositModel", "newStrikes", "[I", true)
  | 7 => ("WillDepositModel", "now", "[I", true)
  | 8 => ("WillDepositModel", "newNow", "[I", true)
  | 9 => ("WillDepositModel", "past", "[I", true)
  | 10 => ("WillDepositModel", "acts", "I", false)
  | 11 => ("WillDepositModel", "name", "[I", true)
  | 12 => ("WillDepositModel", "size", "I", false)
  | 13 => ("WillDepositModel", "at", "I", false)
  | 14 => ("WillDepositModel", "place", "I", false)
  | 15 => ("WillDepositModel", "sort", "I", false)
  | 16 => ("WillDepositModel", "value", "I", false)
  | 17 => ("WillDepositModel", "word", "I", false)
  | 18 => ("WillDepositModel", "fault", "I", false)
  | 19 => ("WillDepositModel", "faultPlace", "I", false)
  | 20 => ("WillDepositModel", "lastFault", "I", false)
  | 21 => ("WillDepositModel", "lastPlace", "I", false)
  | 22 => ("WillDepositModel", "hasLand", "[Z", true)
  | 23 => ("WillDepositModel", "takes", "I", false)
  | 24 => ("WillDepositModel", "takesBy", "I", false)
  | 25 => ("WillDepositModel", "above", "[J", true)
  | 26 => ("WillDepositModel", "below", "[J", true)
  | 27 => ("WillDepositModel", "everSet", "I", false)
  | 28 => ("WillDepositModel", "moved", "I", false)
  | 29 => ("WillDepositModel", "lastMove", "I", false)
  | 30 => ("WillDepositModel", "hadSet", "I", false)
  | 31 => ("WillDepositModel", "days", "[I", true)
  | _ => ("WillDepositModel", "dayMany", "I", false)
def tyX13 : Nat → FieldType := fun k => match k with
  | 0 => .int
  | 1 => .array .int
  | 2 => .int
  | 3 => .array .int
  | 4 => .array .int
  | 5 => .array .int
  | 6 => .array .int
  | 7 => .array .int
  | 8 => .array .int
  | 9 => .array .int
  | 10 => .int
  | 11 => .array .int
  | 12 => .int
  | 13 => .int
  | 14 => .int
  | 15 => .int
  | 16 => .int
  | 17 => .int
  | 18 => .int
  | 19 => .int
  | 20 => .int
  | 21 => .int
  | 22 => .array .boolean
  | 23 => .int
  | 24 => .int
  | 25 => .array .long
  | 26 => .array .long
  | 27 => .int
  | 28 => .int
  | 29 => .int
  | 30 => .int
  | 31 => .array .int
  | _ => .int
abbrev wsX130 : List Cond := u_ws RX13 TX13 33
theorem nmX13 : ∀ a, a < 33 → ∀ b, b < 33 → a ≠ b → (TX13 a).2.1 ≠ (TX13 b).2.1 := by decide +kernel
theorem tyX13_ok : ∀ k, k < 33 → parseFieldDescriptor (TX13 k).2.2.1 = some (tyX13 k) := by decide +kernel
abbrev cX13_init : ByteArray := prog_15_method_1_code
def yX13_init : MethodName := ⟨RX13, "<init>", "()V"⟩
abbrev cX13_feed : ByteArray := prog_15_method_3_code
def yX13_feed : MethodName := ⟨RX13, "feed", "(IIIII)I"⟩
abbrev cX13_here : ByteArray := prog_15_method_4_code
def yX13_here : MethodName := ⟨RX13, "here", "()I"⟩
abbrev cX13_isSmall : ByteArray := prog_15_method_5_code
def yX13_isSmall : MethodName := ⟨RX13, "isSmall", "(I)Z"⟩
abbrev cX13_isDigit : ByteArray := prog_15_method_6_code
def yX13_isDigit : MethodName := ⟨RX13, "isDigit", "(I)Z"⟩
abbrev cX13_token : ByteArray := prog_15_method_7_code
def yX13_token : MethodName := ⟨RX13, "token", "()V"⟩
abbrev cX13_wordHere : ByteArray := prog_15_method_8_code
def yX13_wordHere : MethodName := ⟨RX13, "wordHere", "()I"⟩
abbrev cX13_wrong : ByteArray := prog_15_method_9_code
def yX13_wrong : MethodName := ⟨RX13, "wrong", "(I)V"⟩
abbrev cX13_goOn : ByteArray := prog_15_method_10_code
def yX13_goOn : MethodName := ⟨RX13, "goOn", "()V"⟩
abbrev cX13_isWord : ByteArray := prog_15_method_11_code
def yX13_isWord : MethodName := ⟨RX13, "isWord", "(I)Z"⟩
abbrev cX13_isOther : ByteArray := prog_15_method_12_code
def yX13_isOther : MethodName := ⟨RX13, "isOther", "()Z"⟩
abbrev cX13_numberHere : ByteArray := prog_15_method_13_code
def yX13_numberHere : MethodName := ⟨RX13, "numberHere", "(II)I"⟩
abbrev cX13_number : ByteArray := prog_15_method_14_code
def yX13_number : MethodName := ⟨RX13, "number", "(II)I"⟩
abbrev cX13_namedHere : ByteArray := prog_15_method_15_code
def yX13_namedHere : MethodName := ⟨RX13, "namedHere", "(I)I"⟩
abbrev cX13_toldHere : ByteArray := prog_15_method_16_code
def yX13_toldHere : MethodName := ⟨RX13, "toldHere", "(I)I"⟩
abbrev cX13_told : ByteArray := prog_15_method_17_code
def yX13_told : MethodName := ⟨RX13, "told", "(I)I"⟩
abbrev cX13_newName : ByteArray := prog_15_method_18_code
def yX13_newName : MethodName := ⟨RX13, "newName", "(I)V"⟩
abbrev cX13_readLand : ByteArray := prog_15_method_19_code
def yX13_readLand : MethodName := ⟨RX13, "readLand", "()V"⟩
abbrev cX13_readPerson : ByteArray := prog_15_method_20_code
def yX13_readPerson : MethodName := ⟨RX13, "readPerson", "()V"⟩
abbrev cX13_readChild : ByteArray := prog_15_method_21_code
def yX13_readChild : MethodName := ⟨RX13, "readChild", "()V"⟩
abbrev cX13_readWed : ByteArray := prog_15_method_22_code
def yX13_readWed : MethodName := ⟨RX13, "readWed", "()V"⟩
abbrev cX13_weds : ByteArray := prog_15_method_23_code
def yX13_weds : MethodName := ⟨RX13, "weds", "([IIII)V"⟩
abbrev cX13_readThing : ByteArray := prog_15_method_24_code
def yX13_readThing : MethodName := ⟨RX13, "readThing", "()V"⟩
abbrev cX13_readPaper : ByteArray := prog_15_method_25_code
def yX13_readPaper : MethodName := ⟨RX13, "readPaper", "()V"⟩
abbrev cX13_readPart : ByteArray := prog_15_method_26_code
def yX13_readPart : MethodName := ⟨RX13, "readPart", "(II)Z"⟩
abbrev cX13_readGive : ByteArray := prog_15_method_27_code
def yX13_readGive : MethodName := ⟨RX13, "readGive", "(II)Z"⟩
abbrev cX13_readLost : ByteArray := prog_15_method_28_code
def yX13_readLost : MethodName := ⟨RX13, "readLost", "()V"⟩
abbrev cX13_readDies : ByteArray := prog_15_method_29_code
def yX13_readDies : MethodName := ⟨RX13, "readDies", "()V"⟩
abbrev cX13_readLine : ByteArray := prog_15_method_30_code
def yX13_readLine : MethodName := ⟨RX13, "readLine", "()V"⟩
abbrev cX13_begins : ByteArray := prog_15_method_31_code
def yX13_begins : MethodName := ⟨RX13, "begins", "()V"⟩
abbrev cX13_becomes : ByteArray := prog_15_method_32_code
def yX13_becomes : MethodName := ⟨RX13, "becomes", "()V"⟩
abbrev cX13_text : ByteArray := prog_15_method_33_code
def yX13_text : MethodName := ⟨RX13, "text", "(I)I"⟩
abbrev cX13_fault : ByteArray := prog_15_method_34_code
def yX13_fault : MethodName := ⟨RX13, "fault", "(I)I"⟩
abbrev cX13_isPerson : ByteArray := prog_15_method_35_code
def yX13_isPerson : MethodName := ⟨RX13, "isPerson", "(I)Z"⟩
abbrev cX13_isPaper : ByteArray := prog_15_method_36_code
def yX13_isPaper : MethodName := ⟨RX13, "isPaper", "(I)Z"⟩
abbrev cX13_isThing : ByteArray := prog_15_method_37_code
def yX13_isThing : MethodName := ⟨RX13, "isThing", "(I)Z"⟩
abbrev cX13_isDay : ByteArray := prog_15_method_38_code
def yX13_isDay : MethodName := ⟨RX13, "isDay", "(I)Z"⟩
abbrev cX13_of : ByteArray := prog_15_method_39_code
def yX13_of : MethodName := ⟨RX13, "of", "(II)I"⟩
abbrev cX13_landOf : ByteArray := prog_15_method_40_code
def yX13_landOf : MethodName := ⟨RX13, "landOf", "(I)I"⟩
abbrev cX13_has : ByteArray := prog_15_method_41_code
def yX13_has : MethodName := ⟨RX13, "has", "(II)Z"⟩
abbrev cX13_diesOn : ByteArray := prog_15_method_42_code
def yX13_diesOn : MethodName := ⟨RX13, "diesOn", "(I)I"⟩
abbrev cX13_lives : ByteArray := prog_15_method_43_code
def yX13_lives : MethodName := ⟨RX13, "lives", "(II)Z"⟩
abbrev cX13_childrenOf : ByteArray := prog_15_method_44_code
def yX13_childrenOf : MethodName := ⟨RX13, "childrenOf", "(I)I"⟩
abbrev cX13_wedTo : ByteArray := prog_15_method_45_code
def yX13_wedTo : MethodName := ⟨RX13, "wedTo", "(II)I"⟩
abbrev cX13_person : ByteArray := prog_15_method_46_code
def yX13_person : MethodName := ⟨RX13, "person", "(II)I"⟩
abbrev cX13_paper : ByteArray := prog_15_method_47_code
def yX13_paper : MethodName := ⟨RX13, "paper", "(II)I"⟩
abbrev cX13_thing : ByteArray := prog_15_method_48_code
def yX13_thing : MethodName := ⟨RX13, "thing", "(II)I"⟩
abbrev cX13_land : ByteArray := prog_15_method_49_code
def yX13_land : MethodName := ⟨RX13, "land", "(II)I"⟩
abbrev cX13_give : ByteArray := prog_15_method_50_code
def yX13_give : MethodName := ⟨RX13, "give", "(III)I"⟩
abbrev cX13_keeps : ByteArray := prog_15_method_51_code
def yX13_keeps : MethodName := ⟨RX13, "keeps", "()V"⟩
abbrev cX13_puts : ByteArray := prog_15_method_52_code
def yX13_puts : MethodName := ⟨RX13, "puts", "(II)Z"⟩
abbrev cX13_lose : ByteArray := prog_15_method_53_code
def yX13_lose : MethodName := ⟨RX13, "lose", "(II)Z"⟩
abbrev cX13_find : ByteArray := prog_15_method_54_code
def yX13_find : MethodName := ⟨RX13, "find", "(I)Z"⟩
abbrev cX13_copy : ByteArray := prog_15_method_55_code
def yX13_copy : MethodName := ⟨RX13, "copy", "(I)I"⟩
abbrev cX13_witness : ByteArray := prog_15_method_56_code
def yX13_witness : MethodName := ⟨RX13, "witness", "(II)I"⟩
abbrev cX13_wed : ByteArray := prog_15_method_57_code
def yX13_wed : MethodName := ⟨RX13, "wed", "(III)I"⟩
abbrev cX13_dies : ByteArray := prog_15_method_58_code
def yX13_dies : MethodName := ⟨RX13, "dies", "(II)Z"⟩
abbrev cX13_takeBack : ByteArray := prog_15_method_59_code
def yX13_takeBack : MethodName := ⟨RX13, "takeBack", "(I)Z"⟩
abbrev cX13_undo : ByteArray := prog_15_method_60_code
def yX13_undo : MethodName := ⟨RX13, "undo", "()I"⟩
abbrev cX13_living : ByteArray := prog_15_method_61_code
def yX13_living : MethodName := ⟨RX13, "living", "(I)I"⟩
abbrev cX13_hasForm : ByteArray := prog_15_method_62_code
def yX13_hasForm : MethodName := ⟨RX13, "hasForm", "(II)Z"⟩
abbrev cX13_form : ByteArray := prog_15_method_63_code
def yX13_form : MethodName := ⟨RX13, "form", "(II)I"⟩
abbrev cX13_isProved : ByteArray := prog_15_method_64_code
def yX13_isProved : MethodName := ⟨RX13, "isProved", "(I)Z"⟩
abbrev cX13_lacks : ByteArray := prog_15_method_65_code
def yX13_lacks : MethodName := ⟨RX13, "lacks", "(II)I"⟩
abbrev cX13_isLater : ByteArray := prog_15_method_66_code
def yX13_isLater : MethodName := ⟨RX13, "isLater", "(II)Z"⟩
abbrev cX13_struck : ByteArray := prog_15_method_67_code
def yX13_struck : MethodName := ⟨RX13, "struck", "(II)I"⟩
abbrev cX13_isBroken : ByteArray := prog_15_method_68_code
def yX13_isBroken : MethodName := ⟨RX13, "isBroken", "(I)Z"⟩
abbrev cX13_whyNot : ByteArray := prog_15_method_69_code
def yX13_whyNot : MethodName := ⟨RX13, "whyNot", "(II)I"⟩
abbrev cX13_why : ByteArray := prog_15_method_70_code
def yX13_why : MethodName := ⟨RX13, "why", "(II)I"⟩
abbrev cX13_struckBy : ByteArray := prog_15_method_71_code
def yX13_struckBy : MethodName := ⟨RX13, "struckBy", "(II)I"⟩
abbrev cX13_countingAt : ByteArray := prog_15_method_72_code
def yX13_countingAt : MethodName := ⟨RX13, "countingAt", "(III)I"⟩
abbrev cX13_counting : ByteArray := prog_15_method_73_code
def yX13_counting : MethodName := ⟨RX13, "counting", "(III)I"⟩
abbrev cX13_mayTake : ByteArray := prog_15_method_74_code
def yX13_mayTake : MethodName := ⟨RX13, "mayTake", "(IIII)Z"⟩
abbrev cX13_takerBy : ByteArray := prog_15_method_75_code
def yX13_takerBy : MethodName := ⟨RX13, "takerBy", "(IIII)I"⟩
abbrev cX13_laysTaker : ByteArray := prog_15_method_76_code
def yX13_laysTaker : MethodName := ⟨RX13, "laysTaker", "(II)V"⟩
abbrev cX13_taker : ByteArray := prog_15_method_77_code
def yX13_taker : MethodName := ⟨RX13, "taker", "(II)I"⟩
abbrev cX13_takerBy_ : ByteArray := prog_15_method_78_code
def yX13_takerBy_ : MethodName := ⟨RX13, "takerBy", "(II)I"⟩
abbrev cX13_living_ : ByteArray := prog_15_method_79_code
def yX13_living_ : MethodName := ⟨RX13, "living", "(III)I"⟩
abbrev cX13_heirsOf : ByteArray := prog_15_method_80_code
def yX13_heirsOf : MethodName := ⟨RX13, "heirsOf", "(I)I"⟩
abbrev cX13_heirs : ByteArray := prog_15_method_81_code
def yX13_heirs : MethodName := ⟨RX13, "heirs", "(I)I"⟩
abbrev cX13_common : ByteArray := prog_15_method_82_code
def yX13_common : MethodName := ⟨RX13, "common", "(JJ)J"⟩
abbrev cX13_comes : ByteArray := prog_15_method_83_code
def yX13_comes : MethodName := ⟨RX13, "comes", "(IJJ)V"⟩
abbrev cX13_alike : ByteArray := prog_15_method_84_code
def yX13_alike : MethodName := ⟨RX13, "alike", "(IJJ)V"⟩
abbrev cX13_goesOn : ByteArray := prog_15_method_85_code
def yX13_goesOn : MethodName := ⟨RX13, "goesOn", "(II)V"⟩
abbrev cX13_holding : ByteArray := prog_15_method_86_code
def yX13_holding : MethodName := ⟨RX13, "holding", "()I"⟩
abbrev cX13_laysParts : ByteArray := prog_15_method_87_code
def yX13_laysParts : MethodName := ⟨RX13, "laysParts", "(II)V"⟩
abbrev cX13_nextDeath : ByteArray := prog_15_method_88_code
def yX13_nextDeath : MethodName := ⟨RX13, "nextDeath", "(II)I"⟩
abbrev cX13_has_ : ByteArray := prog_15_method_89_code
def yX13_has_ : MethodName := ⟨RX13, "has", "(IIII)J"⟩
abbrev cX13_holdersIn : ByteArray := prog_15_method_90_code
def yX13_holdersIn : MethodName := ⟨RX13, "holdersIn", "(II)I"⟩
abbrev cX13_holders : ByteArray := prog_15_method_91_code
def yX13_holders : MethodName := ⟨RX13, "holders", "(II)I"⟩
abbrev cX13_wealthOf : ByteArray := prog_15_method_92_code
def yX13_wealthOf : MethodName := ⟨RX13, "wealthOf", "(I)I"⟩
abbrev cX13_wealth : ByteArray := prog_15_method_93_code
def yX13_wealth : MethodName := ⟨RX13, "wealth", "(I)I"⟩
abbrev cX13_ever : ByteArray := prog_15_method_94_code
def yX13_ever : MethodName := ⟨RX13, "ever", "(I)I"⟩
abbrev cX13_death : ByteArray := prog_15_method_95_code
def yX13_death : MethodName := ⟨RX13, "death", "(II)I"⟩
abbrev cX13_moves : ByteArray := prog_15_method_96_code
def yX13_moves : MethodName := ⟨RX13, "moves", "(II)I"⟩
abbrev cX13_nextKin : ByteArray := prog_15_method_97_code
def yX13_nextKin : MethodName := ⟨RX13, "nextKin", "(I)I"⟩
abbrev cX13_kin : ByteArray := prog_15_method_98_code
def yX13_kin : MethodName := ⟨RX13, "kin", "(II)I"⟩
abbrev cX13_naming : ByteArray := prog_15_method_99_code
def yX13_naming : MethodName := ⟨RX13, "naming", "(II)I"⟩
abbrev cX13_gainOf : ByteArray := prog_15_method_100_code
def yX13_gainOf : MethodName := ⟨RX13, "gainOf", "(II)I"⟩
abbrev cX13_gain : ByteArray := prog_15_method_101_code
def yX13_gain : MethodName := ⟨RX13, "gain", "(II)I"⟩
abbrev cX13_against : ByteArray := prog_15_method_102_code
def yX13_against : MethodName := ⟨RX13, "against", "(II)I"⟩
abbrev cX13_others : ByteArray := prog_15_method_103_code
def yX13_others : MethodName := ⟨RX13, "others", "(I)I"⟩
abbrev cX13_wouldBe : ByteArray := prog_15_method_104_code
def yX13_wouldBe : MethodName := ⟨RX13, "wouldBe", "(III)I"⟩
abbrev cX13_key : ByteArray := prog_15_method_105_code
def yX13_key : MethodName := ⟨RX13, "key", "(I)I"⟩
abbrev cX13_wouldPaper : ByteArray := prog_15_method_106_code
def yX13_wouldPaper : MethodName := ⟨RX13, "wouldPaper", "(III)I"⟩
abbrev cX13_wouldDie : ByteArray := prog_15_method_107_code
def yX13_wouldDie : MethodName := ⟨RX13, "wouldDie", "(III)I"⟩
abbrev cX13_laysDay : ByteArray := prog_15_method_108_code
def yX13_laysDay : MethodName := ⟨RX13, "laysDay", "(I)V"⟩
abbrev cX13_laysDays : ByteArray := prog_15_method_109_code
def yX13_laysDays : MethodName := ⟨RX13, "laysDays", "()V"⟩
abbrev cX13_dayFor : ByteArray := prog_15_method_110_code
def yX13_dayFor : MethodName := ⟨RX13, "dayFor", "(III)I"⟩
abbrev cX13_margin : ByteArray := prog_15_method_111_code
def yX13_margin : MethodName := ⟨RX13, "margin", "(I)I"⟩
abbrev cX13_namedIn : ByteArray := prog_15_method_112_code
def yX13_namedIn : MethodName := ⟨RX13, "namedIn", "(I)I"⟩
abbrev cX13_sees : ByteArray := prog_15_method_113_code
def yX13_sees : MethodName := ⟨RX13, "sees", "(III)I"⟩
abbrev cX13_manyLost : ByteArray := prog_15_method_114_code
def yX13_manyLost : MethodName := ⟨RX13, "manyLost", "()I"⟩
abbrev cX13_manyDie : ByteArray := prog_15_method_115_code
def yX13_manyDie : MethodName := ⟨RX13, "manyDie", "()I"⟩
abbrev cX13_count : ByteArray := prog_15_method_116_code
def yX13_count : MethodName := ⟨RX13, "count", "(I)I"⟩
def RJx145de : String := "java/io/Serializable"
def TJx145de : u_T := fun k => match k with
  | _ => ("", "", "", false)
def tyJx145de : Nat → FieldType := fun k => match k with
  | _ => .int
def RJx9f9b0 : String := "java/lang/CharSequence"
def TJx9f9b0 : u_T := fun k => match k with
  | _ => ("", "", "", false)
def tyJx9f9b0 : Nat → FieldType := fun k => match k with
  | _ => .int
def RJxb160c : String := "java/lang/Comparable"
def TJxb160c : u_T := fun k => match k with
  | _ => ("", "", "", false)
def tyJxb160c : Nat → FieldType := fun k => match k with
  | _ => .int
def RJx29ce0 : String := "java/lang/Enum"
def TJx29ce0 : u_T := fun k => match k with
  | _ => ("", "", "", false)
def tyJx29ce0 : Nat → FieldType := fun k => match k with
  | _ => .int
abbrev cJx29ce0_ordinal_8abf5 : ByteArray := prog_19_method_2_code
def yJx29ce0_ordinal_8abf5 : MethodName := ⟨RJx29ce0, "ordinal", "()I"⟩
def RJ6 : String := "java/lang/Integer"
def TJ6 : u_T := fun k => match k with
  | _ => ("", "", "", false)
def tyJ6 : Nat → FieldType := fun k => match k with
  | _ => .int
abbrev cJ6_bitCount_0f7a4 : ByteArray := prog_22_method_49_code
def yJ6_bitCount_0f7a4 : MethodName := ⟨RJ6, "bitCount", "(I)I"⟩
def RJ9 : String := "java/lang/Math"
def TJ9 : u_T := fun k => match k with
  | _ => ("", "", "", false)
def tyJ9 : Nat → FieldType := fun k => match k with
  | _ => .int
abbrev cJ9_max_7cf53 : ByteArray := prog_23_method_65_code
def yJ9_max_7cf53 : MethodName := ⟨RJ9, "max", "(II)I"⟩
abbrev cJ9_min_7cf53 : ByteArray := prog_23_method_69_code
def yJ9_min_7cf53 : MethodName := ⟨RJ9, "min", "(II)I"⟩
def RJ0 : String := "java/lang/String"
def TJ0 : u_T := fun k => match k with
  | _ => ("", "", "", false)
def tyJ0 : Nat → FieldType := fun k => match k with
  | _ => .int
abbrev cJ0_length_8abf5 : ByteArray := prog_25_method_54_code
def yJ0_length_8abf5 : MethodName := ⟨RJ0, "length", "()I"⟩
abbrev cJ0_charAt_5068e : ByteArray := prog_25_method_56_code
def yJ0_charAt_5068e : MethodName := ⟨RJ0, "charAt", "(I)C"⟩
abbrev cJ0_coder_7d493 : ByteArray := prog_25_method_152_code
def yJ0_coder_7d493 : MethodName := ⟨RJ0, "coder", "()B"⟩
abbrev cJ0_isLatin1_aae02 : ByteArray := prog_25_method_154_code
def yJ0_isLatin1_aae02 : MethodName := ⟨RJ0, "isLatin1", "()Z"⟩
abbrev cJ0_checkIndex_df160 : ByteArray := prog_25_method_155_code
def yJ0_checkIndex_df160 : MethodName := ⟨RJ0, "checkIndex", "(II)V"⟩
def RJ1 : String := "java/lang/StringLatin1"
def TJ1 : u_T := fun k => match k with
  | _ => ("", "", "", false)
def tyJ1 : Nat → FieldType := fun k => match k with
  | _ => .int
abbrev cJ1_charAt_3b067 : ByteArray := prog_26_method_2_code
def yJ1_charAt_3b067 : MethodName := ⟨RJ1, "charAt", "([BI)C"⟩
def RJ2 : String := "java/lang/StringUTF16"
def TJ2 : u_T := fun k => match k with
  | _ => ("", "", "", false)
def tyJ2 : Nat → FieldType := fun k => match k with
  | _ => .int
abbrev cJ2_getChar_3b067 : ByteArray := prog_27_method_5_code
def yJ2_getChar_3b067 : MethodName := ⟨RJ2, "getChar", "([BI)C"⟩
abbrev cJ2_length_9d52b : ByteArray := prog_27_method_6_code
def yJ2_length_9d52b : MethodName := ⟨RJ2, "length", "([B)I"⟩
abbrev cJ2_charAt_3b067 : ByteArray := prog_27_method_83_code
def yJ2_charAt_3b067 : MethodName := ⟨RJ2, "charAt", "([BI)C"⟩
abbrev cJ2_checkIndex_2214a : ByteArray := prog_27_method_91_code
def yJ2_checkIndex_2214a : MethodName := ⟨RJ2, "checkIndex", "(I[B)V"⟩
def RJxfd54e : String := "java/lang/constant/Constable"
def TJxfd54e : u_T := fun k => match k with
  | _ => ("", "", "", false)
def tyJxfd54e : Nat → FieldType := fun k => match k with
  | _ => .int
def RJx3cf43 : String := "java/lang/constant/ConstantDesc"
def TJx3cf43 : u_T := fun k => match k with
  | _ => ("", "", "", false)
def tyJx3cf43 : Nat → FieldType := fun k => match k with
  | _ => .int
def RJ7 : String := "java/util/Arrays"
def TJ7 : u_T := fun k => match k with
  | _ => ("", "", "", false)
def tyJ7 : Nat → FieldType := fun k => match k with
  | _ => .int
abbrev cJ7_fill_d0a16 : ByteArray := prog_31_method_101_code
def yJ7_fill_d0a16 : MethodName := ⟨RJ7, "fill", "([JJ)V"⟩
def RJ3 : String := "jdk/internal/util/Preconditions"
def TJ3 : u_T := fun k => match k with
  | _ => ("", "", "", false)
def tyJ3 : Nat → FieldType := fun k => match k with
  | _ => .int
abbrev cJ3_checkIndex_8e157 : ByteArray := prog_33_method_11_code
def yJ3_checkIndex_8e157 : MethodName := ⟨RJ3, "checkIndex", "(IILjava/util/function/BiFunction;)I"⟩
def RL : String := "WillDepositLaw"
abbrev cL_person : ByteArray := method_3_code
def yL_person : MethodName := ⟨RL, "person", "(LWillDeposit;II[J)I"⟩
abbrev cL_paper : ByteArray := method_4_code
def yL_paper : MethodName := ⟨RL, "paper", "(LWillDeposit;II[J)I"⟩
abbrev cL_law : ByteArray := code
def yL_law : MethodName := ⟨RL, "law", "([I)Z"⟩
abbrev vwCl : List vw_C := [(RX1, TX1, 8), (RX2, TX2, 6), (RX3, TX3, 6), (RX4, TX4, 6), (RX5, TX5, 16), (RX6, TX6, 3), (RX7, TX7, 13), (RX8, TX8, 8), (RX9, TX9, 3), (RX11, TX11, 7), (RX12, TX12, 12), (RX13, TX13, 33)]
