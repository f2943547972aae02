section
-- ===== PART A: goes FIRST, ahead of the names: the tables' words, and 'selects' of the private methods out of them =====
/-- a private method of a class that the tables say can be made, by its rows of tables_1 -/
def lw_okq (q : MethodName × Nat) : Prop := (q.1.cls ≠ "java/lang/invoke/MethodHandle" ∧ q.1.cls ≠ "java/lang/invoke/VarHandle") ∧ Cond.instantiable q.1.cls q.2 ∈ tables_1 ∧ Cond.privateMethod q.1 ∈ tables_1 ∧ Cond.instanceMethod q.1 ∈ tables_1
theorem lw_p0 : lw_okq (⟨"BeetleDrive$Sheets", "listBeetles", "()V"⟩, 4) := ⟨⟨by decide +kernel, by decide +kernel⟩, List.mem_of_getElem? (i := 101) (by decide +kernel), List.mem_of_getElem? (i := 107) (by decide +kernel), List.mem_of_getElem? (i := 108) (by decide +kernel)⟩
theorem lw_p1 : lw_okq (⟨"BeetleDrive$Sheets", "linkAndCount", "(I)V"⟩, 4) := ⟨⟨by decide +kernel, by decide +kernel⟩, List.mem_of_getElem? (i := 101) (by decide +kernel), List.mem_of_getElem? (i := 134) (by decide +kernel), List.mem_of_getElem? (i := 135) (by decide +kernel)⟩
theorem lw_p2 : lw_okq (⟨"BeetleDrive$Match", "begin", "(LBeetleDrive$Table;)V"⟩, 6) := ⟨⟨by decide +kernel, by decide +kernel⟩, List.mem_of_getElem? (i := 68) (by decide +kernel), List.mem_of_getElem? (i := 334) (by decide +kernel), List.mem_of_getElem? (i := 335) (by decide +kernel)⟩
theorem lw_p3 : lw_okq (⟨"BeetleDrive$Match", "play", "(II)V"⟩, 6) := ⟨⟨by decide +kernel, by decide +kernel⟩, List.mem_of_getElem? (i := 68) (by decide +kernel), List.mem_of_getElem? (i := 344) (by decide +kernel), List.mem_of_getElem? (i := 345) (by decide +kernel)⟩
theorem lw_p4 : lw_okq (⟨"BeetleDrive$Table", "worth", "(I)I"⟩, 5) := ⟨⟨by decide +kernel, by decide +kernel⟩, List.mem_of_getElem? (i := 24) (by decide +kernel), List.mem_of_getElem? (i := 363) (by decide +kernel), List.mem_of_getElem? (i := 364) (by decide +kernel)⟩
theorem lw_p5 : lw_okq (⟨"BeetleDrive$Match", "noteThrow", "(Z)V"⟩, 6) := ⟨⟨by decide +kernel, by decide +kernel⟩, List.mem_of_getElem? (i := 68) (by decide +kernel), List.mem_of_getElem? (i := 387) (by decide +kernel), List.mem_of_getElem? (i := 388) (by decide +kernel)⟩
theorem lw_p6 : lw_okq (⟨"BeetleDrive$Sheets", "after", "(II)I"⟩, 4) := ⟨⟨by decide +kernel, by decide +kernel⟩, List.mem_of_getElem? (i := 101) (by decide +kernel), List.mem_of_getElem? (i := 427) (by decide +kernel), List.mem_of_getElem? (i := 428) (by decide +kernel)⟩
theorem lw_p7 : lw_okq (⟨"BeetleDrive$Sheets", "spread", "(I)V"⟩, 4) := ⟨⟨by decide +kernel, by decide +kernel⟩, List.mem_of_getElem? (i := 101) (by decide +kernel), List.mem_of_getElem? (i := 440) (by decide +kernel), List.mem_of_getElem? (i := 441) (by decide +kernel)⟩
theorem lw_p8 : lw_okq (⟨"BeetleDrive$Sums", "addDie", "(I)V"⟩, 1) := ⟨⟨by decide +kernel, by decide +kernel⟩, List.mem_of_getElem? (i := 161) (by decide +kernel), List.mem_of_getElem? (i := 459) (by decide +kernel), List.mem_of_getElem? (i := 460) (by decide +kernel)⟩
theorem lw_p9 : lw_okq (⟨"BeetleDrive", "imageAt", "(I)LBeetleDrive$Image;"⟩, 10) := ⟨⟨by decide +kernel, by decide +kernel⟩, List.mem_of_getElem? (i := 16) (by decide +kernel), List.mem_of_getElem? (i := 559) (by decide +kernel), List.mem_of_getElem? (i := 560) (by decide +kernel)⟩
theorem lw_p10 : lw_okq (⟨"BeetleDrive", "toldOfAll", "(I)I"⟩, 10) := ⟨⟨by decide +kernel, by decide +kernel⟩, List.mem_of_getElem? (i := 16) (by decide +kernel), List.mem_of_getElem? (i := 581) (by decide +kernel), List.mem_of_getElem? (i := 582) (by decide +kernel)⟩
theorem lw_p11 : lw_okq (⟨"BeetleDrive", "toldOfPlayer", "(II)I"⟩, 10) := ⟨⟨by decide +kernel, by decide +kernel⟩, List.mem_of_getElem? (i := 16) (by decide +kernel), List.mem_of_getElem? (i := 585) (by decide +kernel), List.mem_of_getElem? (i := 586) (by decide +kernel)⟩
theorem lw_p12 : lw_okq (⟨"BeetleDriveModel", "isBeetle", "(I)Z"⟩, 30) := ⟨⟨by decide +kernel, by decide +kernel⟩, List.mem_of_getElem? (i := 589) (by decide +kernel), List.mem_of_getElem? (i := 698) (by decide +kernel), List.mem_of_getElem? (i := 699) (by decide +kernel)⟩
theorem lw_p13 : lw_okq (⟨"BeetleDriveModel", "begin", "(I)I"⟩, 30) := ⟨⟨by decide +kernel, by decide +kernel⟩, List.mem_of_getElem? (i := 589) (by decide +kernel), List.mem_of_getElem? (i := 731) (by decide +kernel), List.mem_of_getElem? (i := 732) (by decide +kernel)⟩
theorem lw_p14 : lw_okq (⟨"BeetleDriveModel", "close", "(II)I"⟩, 30) := ⟨⟨by decide +kernel, by decide +kernel⟩, List.mem_of_getElem? (i := 589) (by decide +kernel), List.mem_of_getElem? (i := 737) (by decide +kernel), List.mem_of_getElem? (i := 738) (by decide +kernel)⟩
theorem lw_p15 : lw_okq (⟨"BeetleDriveModel", "deed", "(I)I"⟩, 30) := ⟨⟨by decide +kernel, by decide +kernel⟩, List.mem_of_getElem? (i := 589) (by decide +kernel), List.mem_of_getElem? (i := 743) (by decide +kernel), List.mem_of_getElem? (i := 744) (by decide +kernel)⟩
def lw_privs_1 : List (MethodName × Nat) := [(⟨"BeetleDrive$Sheets", "listBeetles", "()V"⟩, 4), (⟨"BeetleDrive$Sheets", "linkAndCount", "(I)V"⟩, 4), (⟨"BeetleDrive$Match", "begin", "(LBeetleDrive$Table;)V"⟩, 6), (⟨"BeetleDrive$Match", "play", "(II)V"⟩, 6), (⟨"BeetleDrive$Table", "worth", "(I)I"⟩, 5), (⟨"BeetleDrive$Match", "noteThrow", "(Z)V"⟩, 6), (⟨"BeetleDrive$Sheets", "after", "(II)I"⟩, 4), (⟨"BeetleDrive$Sheets", "spread", "(I)V"⟩, 4), (⟨"BeetleDrive$Sums", "addDie", "(I)V"⟩, 1), (⟨"BeetleDrive", "imageAt", "(I)LBeetleDrive$Image;"⟩, 10), (⟨"BeetleDrive", "toldOfAll", "(I)I"⟩, 10), (⟨"BeetleDrive", "toldOfPlayer", "(II)I"⟩, 10), (⟨"BeetleDriveModel", "isBeetle", "(I)Z"⟩, 30), (⟨"BeetleDriveModel", "begin", "(I)I"⟩, 30), (⟨"BeetleDriveModel", "close", "(II)I"⟩, 30), (⟨"BeetleDriveModel", "deed", "(I)I"⟩, 30)]
theorem lw_r1 : ∀ q ∈ lw_privs_1, lw_okq q := List.forall_mem_cons.mpr ⟨lw_p0, List.forall_mem_cons.mpr ⟨lw_p1, List.forall_mem_cons.mpr ⟨lw_p2, List.forall_mem_cons.mpr ⟨lw_p3, List.forall_mem_cons.mpr ⟨lw_p4, List.forall_mem_cons.mpr ⟨lw_p5, List.forall_mem_cons.mpr ⟨lw_p6, List.forall_mem_cons.mpr ⟨lw_p7, List.forall_mem_cons.mpr ⟨lw_p8, List.forall_mem_cons.mpr ⟨lw_p9, List.forall_mem_cons.mpr ⟨lw_p10, List.forall_mem_cons.mpr ⟨lw_p11, List.forall_mem_cons.mpr ⟨lw_p12, List.forall_mem_cons.mpr ⟨lw_p13, List.forall_mem_cons.mpr ⟨lw_p14, List.forall_mem_cons.mpr ⟨lw_p15, fun _ h => absurd h List.not_mem_nil⟩⟩⟩⟩⟩⟩⟩⟩⟩⟩⟩⟩⟩⟩⟩⟩
theorem lw_p16 : lw_okq (⟨"BeetleDriveModel", "refusal", "()I"⟩, 30) := ⟨⟨by decide +kernel, by decide +kernel⟩, List.mem_of_getElem? (i := 589) (by decide +kernel), List.mem_of_getElem? (i := 752) (by decide +kernel), List.mem_of_getElem? (i := 753) (by decide +kernel)⟩
theorem lw_p17 : lw_okq (⟨"BeetleDriveModel", "keepNow", "()V"⟩, 30) := ⟨⟨by decide +kernel, by decide +kernel⟩, List.mem_of_getElem? (i := 589) (by decide +kernel), List.mem_of_getElem? (i := 756) (by decide +kernel), List.mem_of_getElem? (i := 757) (by decide +kernel)⟩
theorem lw_p18 : lw_okq (⟨"BeetleDriveModel", "goGames", "()V"⟩, 30) := ⟨⟨by decide +kernel, by decide +kernel⟩, List.mem_of_getElem? (i := 589) (by decide +kernel), List.mem_of_getElem? (i := 761) (by decide +kernel), List.mem_of_getElem? (i := 762) (by decide +kernel)⟩
theorem lw_p19 : lw_okq (⟨"BeetleDriveModel", "whyNot", "(II)I"⟩, 30) := ⟨⟨by decide +kernel, by decide +kernel⟩, List.mem_of_getElem? (i := 589) (by decide +kernel), List.mem_of_getElem? (i := 765) (by decide +kernel), List.mem_of_getElem? (i := 766) (by decide +kernel)⟩
theorem lw_p20 : lw_okq (⟨"BeetleDriveModel", "inMany", "()I"⟩, 30) := ⟨⟨by decide +kernel, by decide +kernel⟩, List.mem_of_getElem? (i := 589) (by decide +kernel), List.mem_of_getElem? (i := 770) (by decide +kernel), List.mem_of_getElem? (i := 771) (by decide +kernel)⟩
theorem lw_p21 : lw_okq (⟨"BeetleDriveModel", "goOne", "(I)V"⟩, 30) := ⟨⟨by decide +kernel, by decide +kernel⟩, List.mem_of_getElem? (i := 589) (by decide +kernel), List.mem_of_getElem? (i := 774) (by decide +kernel), List.mem_of_getElem? (i := 775) (by decide +kernel)⟩
theorem lw_p22 : lw_okq (⟨"BeetleDriveModel", "happen", "(II)V"⟩, 30) := ⟨⟨by decide +kernel, by decide +kernel⟩, List.mem_of_getElem? (i := 589) (by decide +kernel), List.mem_of_getElem? (i := 778) (by decide +kernel), List.mem_of_getElem? (i := 779) (by decide +kernel)⟩
theorem lw_p23 : lw_okq (⟨"BeetleDriveModel", "cast", "(I)V"⟩, 30) := ⟨⟨by decide +kernel, by decide +kernel⟩, List.mem_of_getElem? (i := 589) (by decide +kernel), List.mem_of_getElem? (i := 782) (by decide +kernel), List.mem_of_getElem? (i := 783) (by decide +kernel)⟩
theorem lw_p24 : lw_okq (⟨"BeetleDriveModel", "canDraw", "(II)Z"⟩, 30) := ⟨⟨by decide +kernel, by decide +kernel⟩, List.mem_of_getElem? (i := 589) (by decide +kernel), List.mem_of_getElem? (i := 786) (by decide +kernel), List.mem_of_getElem? (i := 787) (by decide +kernel)⟩
theorem lw_p25 : lw_okq (⟨"BeetleDriveModel", "goesOn", "()V"⟩, 30) := ⟨⟨by decide +kernel, by decide +kernel⟩, List.mem_of_getElem? (i := 589) (by decide +kernel), List.mem_of_getElem? (i := 790) (by decide +kernel), List.mem_of_getElem? (i := 791) (by decide +kernel)⟩
theorem lw_p26 : lw_okq (⟨"BeetleDriveModel", "cry", "(I)V"⟩, 30) := ⟨⟨by decide +kernel, by decide +kernel⟩, List.mem_of_getElem? (i := 589) (by decide +kernel), List.mem_of_getElem? (i := 797) (by decide +kernel), List.mem_of_getElem? (i := 798) (by decide +kernel)⟩
theorem lw_p27 : lw_okq (⟨"BeetleDriveModel", "goOrCome", "(I)V"⟩, 30) := ⟨⟨by decide +kernel, by decide +kernel⟩, List.mem_of_getElem? (i := 589) (by decide +kernel), List.mem_of_getElem? (i := 807) (by decide +kernel), List.mem_of_getElem? (i := 808) (by decide +kernel)⟩
theorem lw_p28 : lw_okq (⟨"BeetleDriveModel", "back", "(I)I"⟩, 30) := ⟨⟨by decide +kernel, by decide +kernel⟩, List.mem_of_getElem? (i := 589) (by decide +kernel), List.mem_of_getElem? (i := 811) (by decide +kernel), List.mem_of_getElem? (i := 812) (by decide +kernel)⟩
theorem lw_p29 : lw_okq (⟨"BeetleDriveModel", "ofPlayer", "(II)I"⟩, 30) := ⟨⟨by decide +kernel, by decide +kernel⟩, List.mem_of_getElem? (i := 589) (by decide +kernel), List.mem_of_getElem? (i := 820) (by decide +kernel), List.mem_of_getElem? (i := 821) (by decide +kernel)⟩
theorem lw_p30 : lw_okq (⟨"BeetleDriveModel", "wholeOnes", "()I"⟩, 30) := ⟨⟨by decide +kernel, by decide +kernel⟩, List.mem_of_getElem? (i := 589) (by decide +kernel), List.mem_of_getElem? (i := 828) (by decide +kernel), List.mem_of_getElem? (i := 829) (by decide +kernel)⟩
theorem lw_p31 : lw_okq (⟨"BeetleDriveModel", "richest", "()I"⟩, 30) := ⟨⟨by decide +kernel, by decide +kernel⟩, List.mem_of_getElem? (i := 589) (by decide +kernel), List.mem_of_getElem? (i := 832) (by decide +kernel), List.mem_of_getElem? (i := 833) (by decide +kernel)⟩
def lw_privs_2 : List (MethodName × Nat) := [(⟨"BeetleDriveModel", "refusal", "()I"⟩, 30), (⟨"BeetleDriveModel", "keepNow", "()V"⟩, 30), (⟨"BeetleDriveModel", "goGames", "()V"⟩, 30), (⟨"BeetleDriveModel", "whyNot", "(II)I"⟩, 30), (⟨"BeetleDriveModel", "inMany", "()I"⟩, 30), (⟨"BeetleDriveModel", "goOne", "(I)V"⟩, 30), (⟨"BeetleDriveModel", "happen", "(II)V"⟩, 30), (⟨"BeetleDriveModel", "cast", "(I)V"⟩, 30), (⟨"BeetleDriveModel", "canDraw", "(II)Z"⟩, 30), (⟨"BeetleDriveModel", "goesOn", "()V"⟩, 30), (⟨"BeetleDriveModel", "cry", "(I)V"⟩, 30), (⟨"BeetleDriveModel", "goOrCome", "(I)V"⟩, 30), (⟨"BeetleDriveModel", "back", "(I)I"⟩, 30), (⟨"BeetleDriveModel", "ofPlayer", "(II)I"⟩, 30), (⟨"BeetleDriveModel", "wholeOnes", "()I"⟩, 30), (⟨"BeetleDriveModel", "richest", "()I"⟩, 30)]
theorem lw_r2 : ∀ q ∈ lw_privs_2, lw_okq q := List.forall_mem_cons.mpr ⟨lw_p16, List.forall_mem_cons.mpr ⟨lw_p17, List.forall_mem_cons.mpr ⟨lw_p18, List.forall_mem_cons.mpr ⟨lw_p19, List.forall_mem_cons.mpr ⟨lw_p20, List.forall_mem_cons.mpr ⟨lw_p21, List.forall_mem_cons.mpr ⟨lw_p22, List.forall_mem_cons.mpr ⟨lw_p23, List.forall_mem_cons.mpr ⟨lw_p24, List.forall_mem_cons.mpr ⟨lw_p25, List.forall_mem_cons.mpr ⟨lw_p26, List.forall_mem_cons.mpr ⟨lw_p27, List.forall_mem_cons.mpr ⟨lw_p28, List.forall_mem_cons.mpr ⟨lw_p29, List.forall_mem_cons.mpr ⟨lw_p30, List.forall_mem_cons.mpr ⟨lw_p31, fun _ h => absurd h List.not_mem_nil⟩⟩⟩⟩⟩⟩⟩⟩⟩⟩⟩⟩⟩⟩⟩⟩
theorem lw_p32 : lw_okq (⟨"BeetleDriveModel", "haveOf", "(I)I"⟩, 30) := ⟨⟨by decide +kernel, by decide +kernel⟩, List.mem_of_getElem? (i := 589) (by decide +kernel), List.mem_of_getElem? (i := 836) (by decide +kernel), List.mem_of_getElem? (i := 837) (by decide +kernel)⟩
theorem lw_p33 : lw_okq (⟨"BeetleDriveModel", "drawnAt", "(I)I"⟩, 30) := ⟨⟨by decide +kernel, by decide +kernel⟩, List.mem_of_getElem? (i := 589) (by decide +kernel), List.mem_of_getElem? (i := 852) (by decide +kernel), List.mem_of_getElem? (i := 853) (by decide +kernel)⟩
theorem lw_p34 : lw_okq (⟨"BeetleDriveModel", "ordersFrom", "(I)J"⟩, 30) := ⟨⟨by decide +kernel, by decide +kernel⟩, List.mem_of_getElem? (i := 589) (by decide +kernel), List.mem_of_getElem? (i := 856) (by decide +kernel), List.mem_of_getElem? (i := 857) (by decide +kernel)⟩
theorem lw_p35 : lw_okq (⟨"BeetleDriveModel", "placeOf", "(I)I"⟩, 30) := ⟨⟨by decide +kernel, by decide +kernel⟩, List.mem_of_getElem? (i := 589) (by decide +kernel), List.mem_of_getElem? (i := 860) (by decide +kernel), List.mem_of_getElem? (i := 861) (by decide +kernel)⟩
theorem lw_p36 : lw_okq (⟨"BeetleDriveModel", "castsFrom", "(I)J"⟩, 30) := ⟨⟨by decide +kernel, by decide +kernel⟩, List.mem_of_getElem? (i := 589) (by decide +kernel), List.mem_of_getElem? (i := 871) (by decide +kernel), List.mem_of_getElem? (i := 872) (by decide +kernel)⟩
theorem lw_p37 : lw_okq (⟨"BeetleDriveModel", "isFit", "(I)Z"⟩, 30) := ⟨⟨by decide +kernel, by decide +kernel⟩, List.mem_of_getElem? (i := 589) (by decide +kernel), List.mem_of_getElem? (i := 924) (by decide +kernel), List.mem_of_getElem? (i := 925) (by decide +kernel)⟩
theorem lw_p38 : lw_okq (⟨"BeetleDriveModel", "mostLeft", "(I)I"⟩, 30) := ⟨⟨by decide +kernel, by decide +kernel⟩, List.mem_of_getElem? (i := 589) (by decide +kernel), List.mem_of_getElem? (i := 932) (by decide +kernel), List.mem_of_getElem? (i := 933) (by decide +kernel)⟩
theorem lw_p39 : lw_okq (⟨"BeetleDriveModel", "leastTurn", "(II)I"⟩, 30) := ⟨⟨by decide +kernel, by decide +kernel⟩, List.mem_of_getElem? (i := 589) (by decide +kernel), List.mem_of_getElem? (i := 940) (by decide +kernel), List.mem_of_getElem? (i := 941) (by decide +kernel)⟩
theorem lw_p40 : lw_okq (⟨"BeetleDriveModel", "drawn", "(II)V"⟩, 30) := ⟨⟨by decide +kernel, by decide +kernel⟩, List.mem_of_getElem? (i := 589) (by decide +kernel), List.mem_of_getElem? (i := 952) (by decide +kernel), List.mem_of_getElem? (i := 953) (by decide +kernel)⟩
theorem lw_p41 : lw_okq (⟨"BeetleDriveModel", "allParts", "()I"⟩, 30) := ⟨⟨by decide +kernel, by decide +kernel⟩, List.mem_of_getElem? (i := 589) (by decide +kernel), List.mem_of_getElem? (i := 956) (by decide +kernel), List.mem_of_getElem? (i := 957) (by decide +kernel)⟩
theorem lw_p42 : lw_okq (⟨"BeetleDriveModel", "passAll", "()V"⟩, 30) := ⟨⟨by decide +kernel, by decide +kernel⟩, List.mem_of_getElem? (i := 589) (by decide +kernel), List.mem_of_getElem? (i := 964) (by decide +kernel), List.mem_of_getElem? (i := 965) (by decide +kernel)⟩
theorem lw_p43 : lw_okq (⟨"BeetleDriveModel", "pass", "(I)I"⟩, 30) := ⟨⟨by decide +kernel, by decide +kernel⟩, List.mem_of_getElem? (i := 589) (by decide +kernel), List.mem_of_getElem? (i := 968) (by decide +kernel), List.mem_of_getElem? (i := 969) (by decide +kernel)⟩
theorem lw_p44 : lw_okq (⟨"BeetleDriveModel", "passRow", "([II)V"⟩, 30) := ⟨⟨by decide +kernel, by decide +kernel⟩, List.mem_of_getElem? (i := 589) (by decide +kernel), List.mem_of_getElem? (i := 972) (by decide +kernel), List.mem_of_getElem? (i := 973) (by decide +kernel)⟩
theorem lw_p45 : lw_okq (⟨"BeetleDriveModel", "toldOfPlayer", "(I)I"⟩, 30) := ⟨⟨by decide +kernel, by decide +kernel⟩, List.mem_of_getElem? (i := 589) (by decide +kernel), List.mem_of_getElem? (i := 986) (by decide +kernel), List.mem_of_getElem? (i := 987) (by decide +kernel)⟩
def lw_privs_3 : List (MethodName × Nat) := [(⟨"BeetleDriveModel", "haveOf", "(I)I"⟩, 30), (⟨"BeetleDriveModel", "drawnAt", "(I)I"⟩, 30), (⟨"BeetleDriveModel", "ordersFrom", "(I)J"⟩, 30), (⟨"BeetleDriveModel", "placeOf", "(I)I"⟩, 30), (⟨"BeetleDriveModel", "castsFrom", "(I)J"⟩, 30), (⟨"BeetleDriveModel", "isFit", "(I)Z"⟩, 30), (⟨"BeetleDriveModel", "mostLeft", "(I)I"⟩, 30), (⟨"BeetleDriveModel", "leastTurn", "(II)I"⟩, 30), (⟨"BeetleDriveModel", "drawn", "(II)V"⟩, 30), (⟨"BeetleDriveModel", "allParts", "()I"⟩, 30), (⟨"BeetleDriveModel", "passAll", "()V"⟩, 30), (⟨"BeetleDriveModel", "pass", "(I)I"⟩, 30), (⟨"BeetleDriveModel", "passRow", "([II)V"⟩, 30), (⟨"BeetleDriveModel", "toldOfPlayer", "(I)I"⟩, 30)]
theorem lw_r3 : ∀ q ∈ lw_privs_3, lw_okq q := List.forall_mem_cons.mpr ⟨lw_p32, List.forall_mem_cons.mpr ⟨lw_p33, List.forall_mem_cons.mpr ⟨lw_p34, List.forall_mem_cons.mpr ⟨lw_p35, List.forall_mem_cons.mpr ⟨lw_p36, List.forall_mem_cons.mpr ⟨lw_p37, List.forall_mem_cons.mpr ⟨lw_p38, List.forall_mem_cons.mpr ⟨lw_p39, List.forall_mem_cons.mpr ⟨lw_p40, List.forall_mem_cons.mpr ⟨lw_p41, List.forall_mem_cons.mpr ⟨lw_p42, List.forall_mem_cons.mpr ⟨lw_p43, List.forall_mem_cons.mpr ⟨lw_p44, List.forall_mem_cons.mpr ⟨lw_p45, fun _ h => absurd h List.not_mem_nil⟩⟩⟩⟩⟩⟩⟩⟩⟩⟩⟩⟩⟩⟩
def lw_privs : List (MethodName × Nat) := lw_privs_1 ++ (lw_privs_2 ++ (lw_privs_3))
def lw_tbl : List Cond := k2_sels lw_privs ++ tables_1
theorem lw_privs_ok : ∀ q ∈ lw_privs, lw_okq q := by
  show ∀ q ∈ lw_privs_1 ++ (lw_privs_2 ++ (lw_privs_3)), lw_okq q
  exact List.forall_mem_append.mpr ⟨lw_r1, List.forall_mem_append.mpr ⟨lw_r2, lw_r3⟩⟩
-- ===== end of PART A; then your names; then what follows =====
end
section
/-! ===== BEGIN words of one list among another's, by their places ===== -/
theorem goodIn_r {big : List Cond} (ws : List Cond) (ps : List Nat) (hp : ws = ps.filterMap (fun i => big[i]?)) (h : ws.all goodWord = true) : GoodIn big ws := by
  intro w hw
  have h1 := List.all_eq_true.mp h w hw
  rw [hp] at hw
  obtain ⟨i, -, hi⟩ := List.mem_filterMap.mp hw
  have hm : w ∈ big := by first | exact List.mem_of_getElem? hi | exact List.getElem?_mem hi
  exact ⟨hm, good_of_word h1⟩
theorem goodIn_app {big a b : List Cond} (ha : GoodIn big a) (hb : GoodIn big b) : GoodIn big (a ++ b) := fun w h => (List.mem_append.mp h).elim (ha w) (hb w)
theorem goodIn_ca {big a b : List Cond} {c : Cond} (ha : GoodIn big (c :: a)) (hb : GoodIn big b) : GoodIn big (c :: (a ++ b)) := fun w h => (List.mem_cons.mp h).elim (fun e => ha w (List.mem_cons.mpr (Or.inl e))) (fun h => (List.mem_append.mp h).elim (fun h => ha w (List.mem_cons.mpr (Or.inr h))) (hb w))
theorem goodIn_sub {big ws : List Cond} (hm : ∀ w ∈ ws, w ∈ big) (h : ws.all goodWord = true) : GoodIn big ws := fun w hw => ⟨hm w hw, good_of_word (List.all_eq_true.mp h w hw)⟩
/-! ===== END ===== -/

/-! ===== BEGIN printed: names, fields, word lists, decode rows ===== -/
def RX0 : String := "BeetleDrive$Beetle"
def TX0 : u_T := fun k => match k with
  | _ => ("", "", "", false)
def tyX0 : Nat → FieldType := fun k => match k with
  | _ => .int
abbrev wsX00 : List Cond := u_ws RX0 TX0 0
theorem nmX0 : ∀ a, a < 0 → ∀ b, b < 0 → a ≠ b → (TX0 a).2.1 ≠ (TX0 b).2.1 := by decide +kernel
theorem tyX0_ok : ∀ k, k < 0 → parseFieldDescriptor (TX0 k).2.2.1 = some (tyX0 k) := by decide +kernel
abbrev cX0_canBe : ByteArray := prog_2_method_2_code
def yX0_canBe : MethodName := ⟨RX0, "canBe", "(I)Z"⟩
abbrev cX0_draw : ByteArray := prog_2_method_3_code
def yX0_draw : MethodName := ⟨RX0, "draw", "(II)I"⟩
abbrev cX0_parts : ByteArray := prog_2_method_4_code
def yX0_parts : MethodName := ⟨RX0, "parts", "(I)I"⟩
abbrev cX0_count : ByteArray := prog_2_method_5_code
def yX0_count : MethodName := ⟨RX0, "count", "(II)I"⟩
abbrev cX0_hasWhatItNeeds : ByteArray := prog_2_method_6_code
def yX0_hasWhatItNeeds : MethodName := ⟨RX0, "hasWhatItNeeds", "(II)Z"⟩
def RX1 : String := "BeetleDrive$Cube"
def TX1 : u_T := fun k => match k with
  | _ => ("", "", "", false)
def tyX1 : Nat → FieldType := fun k => match k with
  | _ => .int
abbrev wsX10 : List Cond := u_ws RX1 TX1 0
theorem nmX1 : ∀ a, a < 0 → ∀ b, b < 0 → a ≠ b → (TX1 a).2.1 ≠ (TX1 b).2.1 := by decide +kernel
theorem tyX1_ok : ∀ k, k < 0 → parseFieldDescriptor (TX1 k).2.2.1 = some (tyX1 k) := by decide +kernel
abbrev cX1_canLie : ByteArray := prog_3_method_2_code
def yX1_canLie : MethodName := ⟨RX1, "canLie", "(I)Z"⟩
abbrev cX1_isRow : ByteArray := prog_3_method_3_code
def yX1_isRow : MethodName := ⟨RX1, "isRow", "(I)Z"⟩
abbrev cX1_topAfter : ByteArray := prog_3_method_4_code
def yX1_topAfter : MethodName := ⟨RX1, "topAfter", "(II)I"⟩
abbrev cX1_rolled : ByteArray := prog_3_method_5_code
def yX1_rolled : MethodName := ⟨RX1, "rolled", "(II)I"⟩
abbrev cX1_rightOf : ByteArray := prog_3_method_6_code
def yX1_rightOf : MethodName := ⟨RX1, "rightOf", "(II)I"⟩
def RX2 : String := "BeetleDrive$Finder"
def TX2 : u_T := fun k => match k with
  | 0 => ("BeetleDrive$Finder", "found", "[I", true)
  | 1 => ("BeetleDrive$Finder", "tally", "[I", true)
  | _ => ("BeetleDrive$Finder", "size", "I", false)
def tyX2 : Nat → FieldType := fun k => match k with
  | 0 => .array .int
  | 1 => .array .int
  | _ => .int
abbrev wsX20 : List Cond := u_ws RX2 TX2 3
theorem nmX2 : ∀ a, a < 3 → ∀ b, b < 3 → a ≠ b → (TX2 a).2.1 ≠ (TX2 b).2.1 := by decide +kernel
theorem tyX2_ok : ∀ k, k < 3 → parseFieldDescriptor (TX2 k).2.2.1 = some (tyX2 k) := by decide +kernel
abbrev cX2_init : ByteArray := prog_4_method_1_code
def yX2_init : MethodName := ⟨RX2, "<init>", "()V"⟩
abbrev cX2_search : ByteArray := prog_4_method_2_code
def yX2_search : MethodName := ⟨RX2, "search", "(LBeetleDrive$Sights;)V"⟩
abbrev cX2_bestRow : ByteArray := prog_4_method_3_code
def yX2_bestRow : MethodName := ⟨RX2, "bestRow", "()I"⟩
abbrev cX2_mostLeft : ByteArray := prog_4_method_4_code
def yX2_mostLeft : MethodName := ⟨RX2, "mostLeft", "(I)I"⟩
def RX3 : String := "BeetleDrive$Image"
def TX3 : u_T := fun k => match k with
  | 0 => ("BeetleDrive$Image", "table", "LBeetleDrive$Table;", true)
  | 1 => ("BeetleDrive$Image", "sights", "LBeetleDrive$Sights;", true)
  | _ => ("BeetleDrive$Image", "isKept", "Z", false)
def tyX3 : Nat → FieldType := fun k => match k with
  | 0 => .object "BeetleDrive$Table"
  | 1 => .object "BeetleDrive$Sights"
  | _ => .boolean
abbrev wsX30 : List Cond := u_ws RX3 TX3 3
theorem nmX3 : ∀ a, a < 3 → ∀ b, b < 3 → a ≠ b → (TX3 a).2.1 ≠ (TX3 b).2.1 := by decide +kernel
theorem tyX3_ok : ∀ k, k < 3 → parseFieldDescriptor (TX3 k).2.2.1 = some (tyX3 k) := by decide +kernel
abbrev cX3_init : ByteArray := prog_5_method_1_code
def yX3_init : MethodName := ⟨RX3, "<init>", "()V"⟩
abbrev cX3_keep : ByteArray := prog_5_method_2_code
def yX3_keep : MethodName := ⟨RX3, "keep", "(LBeetleDrive$Table;LBeetleDrive$Sights;)V"⟩
def RX4 : String := "BeetleDrive$Match"
def TX4 : u_T := fun k => match k with
  | 0 => ("BeetleDrive$Match", "table", "LBeetleDrive$Table;", true)
  | 1 => ("BeetleDrive$Match", "acts", "I", false)
  | 2 => ("BeetleDrive$Match", "why", "I", false)
  | 3 => ("BeetleDrive$Match", "vain", "I", false)
  | 4 => ("BeetleDrive$Match", "wholeAct", "I", false)
  | _ => ("BeetleDrive$Match", "wholeWho", "I", false)
def tyX4 : Nat → FieldType := fun k => match k with
  | 0 => .object "BeetleDrive$Table"
  | 1 => .int
  | 2 => .int
  | 3 => .int
  | 4 => .int
  | _ => .int
abbrev wsX40 : List Cond := u_ws RX4 TX4 6
theorem nmX4 : ∀ a, a < 6 → ∀ b, b < 6 → a ≠ b → (TX4 a).2.1 ≠ (TX4 b).2.1 := by decide +kernel
theorem tyX4_ok : ∀ k, k < 6 → parseFieldDescriptor (TX4 k).2.2.1 = some (tyX4 k) := by decide +kernel
abbrev cX4_init : ByteArray := prog_6_method_1_code
def yX4_init : MethodName := ⟨RX4, "<init>", "()V"⟩
abbrev cX4_playText : ByteArray := prog_6_method_2_code
def yX4_playText : MethodName := ⟨RX4, "playText", "(LBeetleDrive$Pad;LBeetleDrive$Table;)I"⟩
abbrev cX4_playYear : ByteArray := prog_6_method_3_code
def yX4_playYear : MethodName := ⟨RX4, "playYear", "(IILBeetleDrive$Table;)V"⟩
abbrev cX4_markOfYear : ByteArray := prog_6_method_4_code
def yX4_markOfYear : MethodName := ⟨RX4, "markOfYear", "(II)I"⟩
abbrev cX4_begin : ByteArray := prog_6_method_5_code
def yX4_begin : MethodName := ⟨RX4, "begin", "(LBeetleDrive$Table;)V"⟩
abbrev cX4_play : ByteArray := prog_6_method_6_code
def yX4_play : MethodName := ⟨RX4, "play", "(II)V"⟩
abbrev cX4_noteThrow : ByteArray := prog_6_method_7_code
def yX4_noteThrow : MethodName := ⟨RX4, "noteThrow", "(Z)V"⟩
def RX5 : String := "BeetleDrive$Pad"
def TX5 : u_T := fun k => match k with
  | 0 => ("BeetleDrive$Pad", "signs", "[I", true)
  | _ => ("BeetleDrive$Pad", "size", "I", false)
def tyX5 : Nat → FieldType := fun k => match k with
  | 0 => .array .int
  | _ => .int
abbrev wsX50 : List Cond := u_ws RX5 TX5 2
theorem nmX5 : ∀ a, a < 2 → ∀ b, b < 2 → a ≠ b → (TX5 a).2.1 ≠ (TX5 b).2.1 := by decide +kernel
theorem tyX5_ok : ∀ k, k < 2 → parseFieldDescriptor (TX5 k).2.2.1 = some (tyX5 k) := by decide +kernel
abbrev cX5_init : ByteArray := prog_7_method_1_code
def yX5_init : MethodName := ⟨RX5, "<init>", "()V"⟩
abbrev cX5_add : ByteArray := prog_7_method_2_code
def yX5_add : MethodName := ⟨RX5, "add", "(I)Z"⟩
abbrev cX5_clear : ByteArray := prog_7_method_3_code
def yX5_clear : MethodName := ⟨RX5, "clear", "()I"⟩
abbrev cX5_firstFault : ByteArray := prog_7_method_4_code
def yX5_firstFault : MethodName := ⟨RX5, "firstFault", "()I"⟩
abbrev cX5_isLetter : ByteArray := prog_7_method_5_code
def yX5_isLetter : MethodName := ⟨RX5, "isLetter", "(I)Z"⟩
abbrev cX5_canStand : ByteArray := prog_7_method_6_code
def yX5_canStand : MethodName := ⟨RX5, "canStand", "(IZ)Z"⟩
def RX6 : String := "BeetleDrive$Sheets"
def TX6 : u_T := fun k => match k with
  | 0 => ("BeetleDrive$Sheets", "drawn", "[I", true)
  | 1 => ("BeetleDrive$Sheets", "next", "[I", true)
  | 2 => ("BeetleDrive$Sheets", "orders", "[I", true)
  | _ => ("BeetleDrive$Sheets", "ways", "[J", true)
def tyX6 : Nat → FieldType := fun k => match k with
  | 0 => .array .int
  | 1 => .array .int
  | 2 => .array .int
  | _ => .array .long
abbrev wsX60 : List Cond := u_ws RX6 TX6 4
theorem nmX6 : ∀ a, a < 4 → ∀ b, b < 4 → a ≠ b → (TX6 a).2.1 ≠ (TX6 b).2.1 := by decide +kernel
theorem tyX6_ok : ∀ k, k < 4 → parseFieldDescriptor (TX6 k).2.2.1 = some (tyX6 k) := by decide +kernel
abbrev cX6_init : ByteArray := prog_8_method_1_code
def yX6_init : MethodName := ⟨RX6, "<init>", "()V"⟩
abbrev cX6_find : ByteArray := prog_8_method_2_code
def yX6_find : MethodName := ⟨RX6, "find", "(I)I"⟩
abbrev cX6_leastThrow : ByteArray := prog_8_method_3_code
def yX6_leastThrow : MethodName := ⟨RX6, "leastThrow", "(I)I"⟩
abbrev cX6_waysToWhole : ByteArray := prog_8_method_4_code
def yX6_waysToWhole : MethodName := ⟨RX6, "waysToWhole", "(II)J"⟩
abbrev cX6_spread : ByteArray := prog_8_method_5_code
def yX6_spread : MethodName := ⟨RX6, "spread", "(I)V"⟩
abbrev cX6_after : ByteArray := prog_8_method_6_code
def yX6_after : MethodName := ⟨RX6, "after", "(II)I"⟩
abbrev cX6_listBeetles : ByteArray := prog_8_method_7_code
def yX6_listBeetles : MethodName := ⟨RX6, "listBeetles", "()V"⟩
abbrev cX6_figuresAt : ByteArray := prog_8_method_8_code
def yX6_figuresAt : MethodName := ⟨RX6, "figuresAt", "(I)I"⟩
abbrev cX6_linkAndCount : ByteArray := prog_8_method_9_code
def yX6_linkAndCount : MethodName := ⟨RX6, "linkAndCount", "(I)V"⟩
def RX7 : String := "BeetleDrive$Sights"
def TX7 : u_T := fun k => match k with
  | 0 => ("BeetleDrive$Sights", "rows", "[I", true)
  | 1 => ("BeetleDrive$Sights", "tops", "[I", true)
  | _ => ("BeetleDrive$Sights", "size", "I", false)
def tyX7 : Nat → FieldType := fun k => match k with
  | 0 => .array .int
  | 1 => .array .int
  | _ => .int
abbrev wsX70 : List Cond := u_ws RX7 TX7 3
theorem nmX7 : ∀ a, a < 3 → ∀ b, b < 3 → a ≠ b → (TX7 a).2.1 ≠ (TX7 b).2.1 := by decide +kernel
theorem tyX7_ok : ∀ k, k < 3 → parseFieldDescriptor (TX7 k).2.2.1 = some (tyX7 k) := by decide +kernel
abbrev cX7_init : ByteArray := prog_9_method_1_code
def yX7_init : MethodName := ⟨RX7, "<init>", "()V"⟩
abbrev cX7_copyFrom : ByteArray := prog_9_method_2_code
def yX7_copyFrom : MethodName := ⟨RX7, "copyFrom", "(LBeetleDrive$Sights;)V"⟩
abbrev cX7_add : ByteArray := prog_9_method_3_code
def yX7_add : MethodName := ⟨RX7, "add", "(II)Z"⟩
abbrev cX7_clear : ByteArray := prog_9_method_4_code
def yX7_clear : MethodName := ⟨RX7, "clear", "()I"⟩
abbrev cX7_fit : ByteArray := prog_9_method_5_code
def yX7_fit : MethodName := ⟨RX7, "fit", "(I)Z"⟩
def RX8 : String := "BeetleDrive$Sums"
def TX8 : u_T := fun k => match k with
  | _ => ("BeetleDrive$Sums", "row", "[J", true)
def tyX8 : Nat → FieldType := fun k => match k with
  | _ => .array .long
abbrev wsX80 : List Cond := u_ws RX8 TX8 1
theorem nmX8 : ∀ a, a < 1 → ∀ b, b < 1 → a ≠ b → (TX8 a).2.1 ≠ (TX8 b).2.1 := by decide +kernel
theorem tyX8_ok : ∀ k, k < 1 → parseFieldDescriptor (TX8 k).2.2.1 = some (tyX8 k) := by decide +kernel
abbrev cX8_init : ByteArray := prog_10_method_1_code
def yX8_init : MethodName := ⟨RX8, "<init>", "()V"⟩
abbrev cX8_ways : ByteArray := prog_10_method_2_code
def yX8_ways : MethodName := ⟨RX8, "ways", "(II)J"⟩
abbrev cX8_addDie : ByteArray := prog_10_method_3_code
def yX8_addDie : MethodName := ⟨RX8, "addDie", "(I)V"⟩
def RX9 : String := "BeetleDrive$Table"
def TX9 : u_T := fun k => match k with
  | 0 => ("BeetleDrive$Table", "drawn", "[I", true)
  | 1 => ("BeetleDrive$Table", "points", "[I", true)
  | 2 => ("BeetleDrive$Table", "inBits", "I", false)
  | 3 => ("BeetleDrive$Table", "holder", "I", false)
  | _ => ("BeetleDrive$Table", "game", "I", false)
def tyX9 : Nat → FieldType := fun k => match k with
  | 0 => .array .int
  | 1 => .array .int
  | 2 => .int
  | 3 => .int
  | _ => .int
abbrev wsX90 : List Cond := u_ws RX9 TX9 5
theorem nmX9 : ∀ a, a < 5 → ∀ b, b < 5 → a ≠ b → (TX9 a).2.1 ≠ (TX9 b).2.1 := by decide +kernel
theorem tyX9_ok : ∀ k, k < 5 → parseFieldDescriptor (TX9 k).2.2.1 = some (tyX9 k) := by decide +kernel
abbrev cX9_init : ByteArray := prog_11_method_1_code
def yX9_init : MethodName := ⟨RX9, "<init>", "()V"⟩
abbrev cX9_copyFrom : ByteArray := prog_11_method_2_code
def yX9_copyFrom : MethodName := ⟨RX9, "copyFrom", "(LBeetleDrive$Table;)V"⟩
abbrev cX9_isIn : ByteArray := prog_11_method_3_code
def yX9_isIn : MethodName := ⟨RX9, "isIn", "(I)Z"⟩
abbrev cX9_isWhole : ByteArray := prog_11_method_4_code
def yX9_isWhole : MethodName := ⟨RX9, "isWhole", "(I)Z"⟩
abbrev cX9_whyNot : ByteArray := prog_11_method_5_code
def yX9_whyNot : MethodName := ⟨RX9, "whyNot", "(II)I"⟩
abbrev cX9_drawBy : ByteArray := prog_11_method_6_code
def yX9_drawBy : MethodName := ⟨RX9, "drawBy", "(I)Z"⟩
abbrev cX9_countUp : ByteArray := prog_11_method_7_code
def yX9_countUp : MethodName := ⟨RX9, "countUp", "(I)V"⟩
abbrev cX9_goOrCome : ByteArray := prog_11_method_8_code
def yX9_goOrCome : MethodName := ⟨RX9, "goOrCome", "(I)V"⟩
abbrev cX9_passOn : ByteArray := prog_11_method_9_code
def yX9_passOn : MethodName := ⟨RX9, "passOn", "()V"⟩
abbrev cX9_wholeOnes : ByteArray := prog_11_method_10_code
def yX9_wholeOnes : MethodName := ⟨RX9, "wholeOnes", "()I"⟩
abbrev cX9_leader : ByteArray := prog_11_method_11_code
def yX9_leader : MethodName := ⟨RX9, "leader", "()I"⟩
abbrev cX9_allParts : ByteArray := prog_11_method_12_code
def yX9_allParts : MethodName := ⟨RX9, "allParts", "()I"⟩
abbrev cX9_isThrow : ByteArray := prog_11_method_13_code
def yX9_isThrow : MethodName := ⟨RX9, "isThrow", "(I)Z"⟩
abbrev cX9_worth : ByteArray := prog_11_method_14_code
def yX9_worth : MethodName := ⟨RX9, "worth", "(I)I"⟩
def RX10 : String := "BeetleDrive$Turns"
def TX10 : u_T := fun k => match k with
  | _ => ("BeetleDrive$Turns", "wins", "[I", true)
def tyX10 : Nat → FieldType := fun k => match k with
  | _ => .array .int
abbrev wsX100 : List Cond := u_ws RX10 TX10 1
theorem nmX10 : ∀ a, a < 1 → ∀ b, b < 1 → a ≠ b → (TX10 a).2.1 ≠ (TX10 b).2.1 := by decide +kernel
theorem tyX10_ok : ∀ k, k < 1 → parseFieldDescriptor (TX10 k).2.2.1 = some (tyX10 k) := by decide +kernel
abbrev cX10_init : ByteArray := prog_12_method_1_code
def yX10_init : MethodName := ⟨RX10, "<init>", "()V"⟩
abbrev cX10_winningTurn : ByteArray := prog_12_method_2_code
def yX10_winningTurn : MethodName := ⟨RX10, "winningTurn", "(II)I"⟩
def RX11 : String := "BeetleDrive"
def TX11 : u_T := fun k => match k with
  | 0 => ("BeetleDrive", "now", "LBeetleDrive$Table;", true)
  | 1 => ("BeetleDrive", "pad", "LBeetleDrive$Pad;", true)
  | 2 => ("BeetleDrive", "match", "LBeetleDrive$Match;", true)
  | 3 => ("BeetleDrive", "sheets", "LBeetleDrive$Sheets;", true)
  | 4 => ("BeetleDrive", "dice", "LBeetleDrive$Sums;", true)
  | 5 => ("BeetleDrive", "sights", "LBeetleDrive$Sights;", true)
  | 6 => ("BeetleDrive", "finder", "LBeetleDrive$Finder;", true)
  | 7 => ("BeetleDrive", "turns", "LBeetleDrive$Turns;", true)
  | 8 => ("BeetleDrive", "imageZero", "LBeetleDrive$Image;", true)
  | _ => ("BeetleDrive", "imageOne", "LBeetleDrive$Image;", true)
def tyX11 : Nat → FieldType := fun k => match k with
  | 0 => .object "BeetleDrive$Table"
  | 1 => .object "BeetleDrive$Pad"
  | 2 => .object "BeetleDrive$Match"
  | 3 => .object "BeetleDrive$Sheets"
  | 4 => .object "BeetleDrive$Sums"
  | 5 => .object "BeetleDrive$Sights"
  | 6 => .object "BeetleDrive$Finder"
  | 7 => .object "BeetleDrive$Turns"
  | 8 => .object "BeetleDrive$Image"
  | _ => .object "BeetleDrive$Image"
abbrev wsX110 : List Cond := u_ws RX11 TX11 10
theorem nmX11 : ∀ a, a < 10 → ∀ b, b < 10 → a ≠ b → (TX11 a).2.1 ≠ (TX11 b).2.1 := by decide +kernel
theorem tyX11_ok : ∀ k, k < 10 → parseFieldDescriptor (TX11 k).2.2.1 = some (tyX11 k) := by decide +kernel
abbrev cX11_init : ByteArray := prog_1_method_1_code
def yX11_init : MethodName := ⟨RX11, "<init>", "()V"⟩
abbrev cX11_player : ByteArray := prog_1_method_2_code
def yX11_player : MethodName := ⟨RX11, "player", "(III)I"⟩
abbrev cX11_die : ByteArray := prog_1_method_3_code
def yX11_die : MethodName := ⟨RX11, "die", "(I)I"⟩
abbrev cX11_say : ByteArray := prog_1_method_4_code
def yX11_say : MethodName := ⟨RX11, "say", "(I)I"⟩
abbrev cX11_wipe : ByteArray := prog_1_method_5_code
def yX11_wipe : MethodName := ⟨RX11, "wipe", "()I"⟩
abbrev cX11_fault : ByteArray := prog_1_method_6_code
def yX11_fault : MethodName := ⟨RX11, "fault", "()I"⟩
abbrev cX11_judge : ByteArray := prog_1_method_7_code
def yX11_judge : MethodName := ⟨RX11, "judge", "(I)I"⟩
abbrev cX11_behind : ByteArray := prog_1_method_8_code
def yX11_behind : MethodName := ⟨RX11, "behind", "(II)I"⟩
abbrev cX11_table : ByteArray := prog_1_method_9_code
def yX11_table : MethodName := ⟨RX11, "table", "(I)I"⟩
abbrev cX11_first : ByteArray := prog_1_method_10_code
def yX11_first : MethodName := ⟨RX11, "first", "(I)I"⟩
abbrev cX11_done : ByteArray := prog_1_method_11_code
def yX11_done : MethodName := ⟨RX11, "done", "()I"⟩
abbrev cX11_orders : ByteArray := prog_1_method_12_code
def yX11_orders : MethodName := ⟨RX11, "orders", "(II)I"⟩
abbrev cX11_whole : ByteArray := prog_1_method_13_code
def yX11_whole : MethodName := ⟨RX11, "whole", "(III)J"⟩
abbrev cX11_sums : ByteArray := prog_1_method_14_code
def yX11_sums : MethodName := ⟨RX11, "sums", "(II)J"⟩
abbrev cX11_roll : ByteArray := prog_1_method_15_code
def yX11_roll : MethodName := ⟨RX11, "roll", "(II)I"⟩
abbrev cX11_shown : ByteArray := prog_1_method_16_code
def yX11_shown : MethodName := ⟨RX11, "shown", "(II)I"⟩
abbrev cX11_forget : ByteArray := prog_1_method_17_code
def yX11_forget : MethodName := ⟨RX11, "forget", "()I"⟩
abbrev cX11_lies : ByteArray := prog_1_method_18_code
def yX11_lies : MethodName := ⟨RX11, "lies", "(I)I"⟩
abbrev cX11_ask : ByteArray := prog_1_method_19_code
def yX11_ask : MethodName := ⟨RX11, "ask", "(I)I"⟩
abbrev cX11_turn : ByteArray := prog_1_method_20_code
def yX11_turn : MethodName := ⟨RX11, "turn", "(III)I"⟩
abbrev cX11_year : ByteArray := prog_1_method_21_code
def yX11_year : MethodName := ⟨RX11, "year", "(III)I"⟩
abbrev cX11_image : ByteArray := prog_1_method_22_code
def yX11_image : MethodName := ⟨RX11, "image", "(I)I"⟩
abbrev cX11_restore : ByteArray := prog_1_method_23_code
def yX11_restore : MethodName := ⟨RX11, "restore", "(I)I"⟩
abbrev cX11_told : ByteArray := prog_1_method_24_code
def yX11_told : MethodName := ⟨RX11, "told", "(I)I"⟩
abbrev cX11_toldOfAll : ByteArray := prog_1_method_25_code
def yX11_toldOfAll : MethodName := ⟨RX11, "toldOfAll", "(I)I"⟩
abbrev cX11_toldOfPlayer : ByteArray := prog_1_method_26_code
def yX11_toldOfPlayer : MethodName := ⟨RX11, "toldOfPlayer", "(II)I"⟩
abbrev cX11_imageAt : ByteArray := prog_1_method_27_code
def yX11_imageAt : MethodName := ⟨RX11, "imageAt", "(I)LBeetleDrive$Image;"⟩
abbrev cX11_lowestTerms : ByteArray := prog_1_method_28_code
def yX11_lowestTerms : MethodName := ⟨RX11, "lowestTerms", "(JII)J"⟩
abbrev cX11_isWithin : ByteArray := prog_1_method_29_code
def yX11_isWithin : MethodName := ⟨RX11, "isWithin", "(III)Z"⟩
abbrev cX11_isPlayer : ByteArray := prog_1_method_30_code
def yX11_isPlayer : MethodName := ⟨RX11, "isPlayer", "(I)Z"⟩
def RX12 : String := "BeetleDriveModel"
def TX12 : u_T := fun k => match k with
  | 0 => ("BeetleDriveModel", "most", "[I", true)
  | 1 => ("BeetleDriveModel", "beetle", "[I", true)
  | 2 => ("BeetleDriveModel", "points", "[I", true)
  | 3 => ("BeetleDriveModel", "isIn", "[I", true)
  | 4 => ("BeetleDriveModel", "holder", "I", false)
  | 5 => ("BeetleDriveModel", "games", "I", false)
  | 6 => ("BeetleDriveModel", "sightRow", "[I", true)
  | 7 => ("BeetleDriveModel", "sightTop", "[I", true)
  | 8 => ("BeetleDriveModel", "sights", "I", false)
  | 9 => ("BeetleDriveModel", "pad", "[I", true)
  | 10 => ("BeetleDriveModel", "padMany", "I", false)
  | 11 => ("BeetleDriveModel", "act", "[I", true)
  | 12 => ("BeetleDriveModel", "much", "[I", true)
  | 13 => ("BeetleDriveModel", "acts", "I", false)
  | 14 => ("BeetleDriveModel", "nothings", "I", false)
  | 15 => ("BeetleDriveModel", "wholeNow", "I", false)
  | 16 => ("BeetleDriveModel", "had", "[I", true)
  | 17 => ("BeetleDriveModel", "badAct", "I", false)
  | 18 => ("BeetleDriveModel", "badWhy", "I", false)
  | 19 => ("BeetleDriveModel", "wholeAct", "I", false)
  | 20 => ("BeetleDriveModel", "wholeWho", "I", false)
  | 21 => ("BeetleDriveModel", "ways", "[J", true)
  | 22 => ("BeetleDriveModel", "ahead", "[J", true)
  | 23 => ("BeetleDriveModel", "rows", "[J", true)
  | 24 => ("BeetleDriveModel", "byTop", "[I", true)
  | 25 => ("BeetleDriveModel", "wins", "[Z", true)
  | 26 => ("BeetleDriveModel", "kept", "[I", true)
  | 27 => ("BeetleDriveModel", "isKept", "[Z", true)
  | 28 => ("BeetleDriveModel", "keptAt", "I", false)
  | _ => ("BeetleDriveModel", "isWriting", "Z", false)
def tyX12 : Nat → FieldType := fun k => match k with
  | 0 => .array .int
  | 1 => .array .int
  | 2 => .array .int
  | 3 => .array .int
  | 4 => .int
  | 5 => .int
  | 6 => .array .int
  | 7 => .array .int
  | 8 => .int
  | 9 => .array .int
  | 10 => .int
  | 11 => .array .int
  | 12 => .array .int
  | 13 => .int
  | 14 => .int
  | 15 => .int
  | 16 => .array .int
  | 17 => .int
  | 18 => .int
  | 19 => .int
  | 20 => .int
  | 21 => .array .long
  | 22 => .array .long
  | 23 => .array .long
  | 24 => .array .int
  | 25 => .array .boolean
  | 26 => .array .int
  | 27 => .array .boolean
  | 28 => .int
  | _ => .boolean
abbrev wsX120 : List Cond := u_ws RX12 TX12 30
theorem nmX12 : ∀ a, a < 30 → ∀ b, b < 30 → a ≠ b → (TX12 a).2.1 ≠ (TX12 b).2.1 := by decide +kernel
theorem tyX12_ok : ∀ k, k < 30 → parseFieldDescriptor (TX12 k).2.2.1 = some (tyX12 k) := by decide +kernel
abbrev cX12_init : ByteArray := prog_14_method_1_code
def yX12_init : MethodName := ⟨RX12, "<init>", "()V"⟩
abbrev cX12_in : ByteArray := prog_14_method_3_code
def yX12_in : MethodName := ⟨RX12, "in", "(JJJ)Z"⟩
abbrev cX12_isPlayer : ByteArray := prog_14_method_4_code
def yX12_isPlayer : MethodName := ⟨RX12, "isPlayer", "(I)Z"⟩
abbrev cX12_less : ByteArray := prog_14_method_5_code
def yX12_less : MethodName := ⟨RX12, "less", "(II)I"⟩
abbrev cX12_tenTo : ByteArray := prog_14_method_6_code
def yX12_tenTo : MethodName := ⟨RX12, "tenTo", "(I)I"⟩
abbrev cX12_figureOf : ByteArray := prog_14_method_7_code
def yX12_figureOf : MethodName := ⟨RX12, "figureOf", "(II)I"⟩
abbrev cX12_needOf : ByteArray := prog_14_method_8_code
def yX12_needOf : MethodName := ⟨RX12, "needOf", "(I)I"⟩
abbrev cX12_isBeetle : ByteArray := prog_14_method_9_code
def yX12_isBeetle : MethodName := ⟨RX12, "isBeetle", "(I)Z"⟩
abbrev cX12_partsOf : ByteArray := prog_14_method_10_code
def yX12_partsOf : MethodName := ⟨RX12, "partsOf", "(I)I"⟩
abbrev cX12_canDraw : ByteArray := prog_14_method_11_code
def yX12_canDraw : MethodName := ⟨RX12, "canDraw", "(II)Z"⟩
abbrev cX12_drawnBy : ByteArray := prog_14_method_12_code
def yX12_drawnBy : MethodName := ⟨RX12, "drawnBy", "(II)I"⟩
abbrev cX12_player : ByteArray := prog_14_method_13_code
def yX12_player : MethodName := ⟨RX12, "player", "(III)I"⟩
abbrev cX12_die : ByteArray := prog_14_method_14_code
def yX12_die : MethodName := ⟨RX12, "die", "(I)I"⟩
abbrev cX12_say : ByteArray := prog_14_method_15_code
def yX12_say : MethodName := ⟨RX12, "say", "(I)I"⟩
abbrev cX12_wipe : ByteArray := prog_14_method_16_code
def yX12_wipe : MethodName := ⟨RX12, "wipe", "()I"⟩
abbrev cX12_close : ByteArray := prog_14_method_17_code
def yX12_close : MethodName := ⟨RX12, "close", "(II)I"⟩
abbrev cX12_begin : ByteArray := prog_14_method_18_code
def yX12_begin : MethodName := ⟨RX12, "begin", "(I)I"⟩
abbrev cX12_deed : ByteArray := prog_14_method_19_code
def yX12_deed : MethodName := ⟨RX12, "deed", "(I)I"⟩
abbrev cX12_fault : ByteArray := prog_14_method_20_code
def yX12_fault : MethodName := ⟨RX12, "fault", "()I"⟩
abbrev cX12_inMany : ByteArray := prog_14_method_21_code
def yX12_inMany : MethodName := ⟨RX12, "inMany", "()I"⟩
abbrev cX12_whyNot : ByteArray := prog_14_method_22_code
def yX12_whyNot : MethodName := ⟨RX12, "whyNot", "(II)I"⟩
abbrev cX12_goesOn : ByteArray := prog_14_method_23_code
def yX12_goesOn : MethodName := ⟨RX12, "goesOn", "()V"⟩
abbrev cX12_cast : ByteArray := prog_14_method_24_code
def yX12_cast : MethodName := ⟨RX12, "cast", "(I)V"⟩
abbrev cX12_cry : ByteArray := prog_14_method_25_code
def yX12_cry : MethodName := ⟨RX12, "cry", "(I)V"⟩
abbrev cX12_goOrCome : ByteArray := prog_14_method_26_code
def yX12_goOrCome : MethodName := ⟨RX12, "goOrCome", "(I)V"⟩
abbrev cX12_happen : ByteArray := prog_14_method_27_code
def yX12_happen : MethodName := ⟨RX12, "happen", "(II)V"⟩
abbrev cX12_keepNow : ByteArray := prog_14_method_28_code
def yX12_keepNow : MethodName := ⟨RX12, "keepNow", "()V"⟩
abbrev cX12_back : ByteArray := prog_14_method_29_code
def yX12_back : MethodName := ⟨RX12, "back", "(I)I"⟩
abbrev cX12_goOne : ByteArray := prog_14_method_30_code
def yX12_goOne : MethodName := ⟨RX12, "goOne", "(I)V"⟩
abbrev cX12_goGames : ByteArray := prog_14_method_31_code
def yX12_goGames : MethodName := ⟨RX12, "goGames", "()V"⟩
abbrev cX12_refusal : ByteArray := prog_14_method_32_code
def yX12_refusal : MethodName := ⟨RX12, "refusal", "()I"⟩
abbrev cX12_judge : ByteArray := prog_14_method_33_code
def yX12_judge : MethodName := ⟨RX12, "judge", "(I)I"⟩
abbrev cX12_ofPlayer : ByteArray := prog_14_method_34_code
def yX12_ofPlayer : MethodName := ⟨RX12, "ofPlayer", "(II)I"⟩
abbrev cX12_behind : ByteArray := prog_14_method_35_code
def yX12_behind : MethodName := ⟨RX12, "behind", "(II)I"⟩
abbrev cX12_wholeOnes : ByteArray := prog_14_method_36_code
def yX12_wholeOnes : MethodName := ⟨RX12, "wholeOnes", "()I"⟩
abbrev cX12_haveOf : ByteArray := prog_14_method_37_code
def yX12_haveOf : MethodName := ⟨RX12, "haveOf", "(I)I"⟩
abbrev cX12_richest : ByteArray := prog_14_method_38_code
def yX12_richest : MethodName := ⟨RX12, "richest", "()I"⟩
abbrev cX12_table : ByteArray := prog_14_method_39_code
def yX12_table : MethodName := ⟨RX12, "table", "(I)I"⟩
abbrev cX12_first : ByteArray := prog_14_method_40_code
def yX12_first : MethodName := ⟨RX12, "first", "(I)I"⟩
abbrev cX12_done : ByteArray := prog_14_method_41_code
def yX12_done : MethodName := ⟨RX12, "done", "()I"⟩
abbrev cX12_placeOf : ByteArray := prog_14_method_42_code
def yX12_placeOf : MethodName := ⟨RX12, "placeOf", "(I)I"⟩
abbrev cX12_drawnAt : ByteArray := prog_14_method_43_code
def yX12_drawnAt : MethodName := ⟨RX12, "drawnAt", "(I)I"⟩
abbrev cX12_ordersFrom : ByteArray := prog_14_method_44_code
def yX12_ordersFrom : MethodName := ⟨RX12, "ordersFrom", "(I)J"⟩
abbrev cX12_orders : ByteArray := prog_14_method_45_code
def yX12_orders : MethodName := ⟨RX12, "orders", "(II)I"⟩
abbrev cX12_castsFrom : ByteArray := prog_14_method_46_code
def yX12_castsFrom : MethodName := ⟨RX12, "castsFrom", "(I)J"⟩
abbrev cX12_divisor : ByteArray := prog_14_method_47_code
def yX12_divisor : MethodName := ⟨RX12, "divisor", "(JJ)J"⟩
abbrev cX12_whole : ByteArray := prog_14_method_48_code
def yX12_whole : MethodName := ⟨RX12, "whole", "(III)J"⟩
abbrev cX12_sums : ByteArray := prog_14_method_49_code
def yX12_sums : MethodName := ⟨RX12, "sums", "(II)J"⟩
abbrev cX12_baseOf : ByteArray := prog_14_method_50_code
def yX12_baseOf : MethodName := ⟨RX12, "baseOf", "(I)I"⟩
abbrev cX12_rightOf : ByteArray := prog_14_method_51_code
def yX12_rightOf : MethodName := ⟨RX12, "rightOf", "(II)I"⟩
abbrev cX12_isLying : ByteArray := prog_14_method_52_code
def yX12_isLying : MethodName := ⟨RX12, "isLying", "(I)Z"⟩
abbrev cX12_rolled : ByteArray := prog_14_method_53_code
def yX12_rolled : MethodName := ⟨RX12, "rolled", "(II)I"⟩
abbrev cX12_waysOf : ByteArray := prog_14_method_54_code
def yX12_waysOf : MethodName := ⟨RX12, "waysOf", "(I)I"⟩
abbrev cX12_isRow : ByteArray := prog_14_method_55_code
def yX12_isRow : MethodName := ⟨RX12, "isRow", "(I)Z"⟩
abbrev cX12_topBy : ByteArray := prog_14_method_56_code
def yX12_topBy : MethodName := ⟨RX12, "topBy", "(II)I"⟩
abbrev cX12_roll : ByteArray := prog_14_method_57_code
def yX12_roll : MethodName := ⟨RX12, "roll", "(II)I"⟩
abbrev cX12_shown : ByteArray := prog_14_method_58_code
def yX12_shown : MethodName := ⟨RX12, "shown", "(II)I"⟩
abbrev cX12_forget : ByteArray := prog_14_method_59_code
def yX12_forget : MethodName := ⟨RX12, "forget", "()I"⟩
abbrev cX12_isFit : ByteArray := prog_14_method_60_code
def yX12_isFit : MethodName := ⟨RX12, "isFit", "(I)Z"⟩
abbrev cX12_lies : ByteArray := prog_14_method_61_code
def yX12_lies : MethodName := ⟨RX12, "lies", "(I)I"⟩
abbrev cX12_mostLeft : ByteArray := prog_14_method_62_code
def yX12_mostLeft : MethodName := ⟨RX12, "mostLeft", "(I)I"⟩
abbrev cX12_ask : ByteArray := prog_14_method_63_code
def yX12_ask : MethodName := ⟨RX12, "ask", "(I)I"⟩
abbrev cX12_leastTurn : ByteArray := prog_14_method_64_code
def yX12_leastTurn : MethodName := ⟨RX12, "leastTurn", "(II)I"⟩
abbrev cX12_turn : ByteArray := prog_14_method_65_code
def yX12_turn : MethodName := ⟨RX12, "turn", "(III)I"⟩
abbrev cX12_drawn : ByteArray := prog_14_method_66_code
def yX12_drawn : MethodName := ⟨RX12, "drawn", "(II)V"⟩
abbrev cX12_allParts : ByteArray := prog_14_method_67_code
def yX12_allParts : MethodName := ⟨RX12, "allParts", "()I"⟩
abbrev cX12_year : ByteArray := prog_14_method_68_code
def yX12_year : MethodName := ⟨RX12, "year", "(III)I"⟩
abbrev cX12_pass : ByteArray := prog_14_method_69_code
def yX12_pass : MethodName := ⟨RX12, "pass", "(I)I"⟩
abbrev cX12_passRow : ByteArray := prog_14_method_70_code
def yX12_passRow : MethodName := ⟨RX12, "passRow", "([II)V"⟩
abbrev cX12_passAll : ByteArray := prog_14_method_71_code
def yX12_passAll : MethodName := ⟨RX12, "passAll", "()V"⟩
abbrev cX12_image : ByteArray := prog_14_method_72_code
def yX12_image : MethodName := ⟨RX12, "image", "(I)I"⟩
abbrev cX12_restore : ByteArray := prog_14_method_73_code
def yX12_restore : MethodName := ⟨RX12, "restore", "(I)I"⟩
abbrev cX12_toldOfPlayer : ByteArray := prog_14_method_74_code
def yX12_toldOfPlayer : MethodName := ⟨RX12, "toldOfPlayer", "(I)I"⟩
abbrev cX12_told : ByteArray := prog_14_method_75_code
def yX12_told : MethodName := ⟨RX12, "told", "(I)I"⟩
def RJ9 : String := "java/lang/Math"
def TJ9 : u_T := fun k => match k with
  | _ => ("", "", "", false)
def tyJ9 : Nat → FieldType := fun k => match k with
  | _ => .int
abbrev wsJ90 : List Cond := u_ws RJ9 TJ9 0
theorem nmJ9 : ∀ a, a < 0 → ∀ b, b < 0 → a ≠ b → (TJ9 a).2.1 ≠ (TJ9 b).2.1 := by decide +kernel
theorem tyJ9_ok : ∀ k, k < 0 → parseFieldDescriptor (TJ9 k).2.2.1 = some (tyJ9 k) := by decide +kernel
abbrev cJ9_max_7cf53 : ByteArray := prog_15_method_65_code
def yJ9_max_7cf53 : MethodName := ⟨RJ9, "max", "(II)I"⟩
abbrev cJ9_min_7cf53 : ByteArray := prog_15_method_69_code
def yJ9_min_7cf53 : MethodName := ⟨RJ9, "min", "(II)I"⟩
def RL : String := "BeetleDriveLaw"
abbrev cL_law : ByteArray := code
def yL_law : MethodName := ⟨RL, "law", "([I)Z"⟩
def wsX11_isWithin : List Cond := .code yX11_isWithin cX11_isWithin 3 (some .boolean) :: ([])
def wsX0_count : List Cond := .code yX0_count cX0_count 2 (some .int) :: ([.fieldLink RX0 28 "BeetleDrive$Beetle" "UNIT" "[I"])
def wsX0_hasWhatItNeeds : List Cond := .code yX0_hasWhatItNeeds cX0_hasWhatItNeeds 3 (some .boolean) :: ([.fieldLink RX0 31 "BeetleDrive$Beetle" "HANGS_ON" "[I", .methodLink RX0 16 yX0_count, .static yX0_count, .initialized RX0, .code yX0_count cX0_count 2 (some .int), .fieldLink RX0 28 "BeetleDrive$Beetle" "UNIT" "[I"])
def wsX0_canBe : List Cond := .code yX0_canBe cX0_canBe 3 (some .boolean) :: ([.constant RX0 11 (111622), .fieldLink RX0 20 "BeetleDrive$Beetle" "MOST" "[I", .static yX11_isWithin, .initialized RX11, .code yX11_isWithin cX11_isWithin 3 (some .boolean), .methodLink RX0 16 yX0_count, .static yX0_count, .initialized RX0, .code yX0_count cX0_count 2 (some .int), .fieldLink RX0 28 "BeetleDrive$Beetle" "UNIT" "[I", .methodLink RX0 24 yX0_hasWhatItNeeds, .static yX0_hasWhatItNeeds, .code yX0_hasWhatItNeeds cX0_hasWhatItNeeds 3 (some .boolean), .fieldLink RX0 31 "BeetleDrive$Beetle" "HANGS_ON" "[I"])
def wsX0_draw : List Cond := .code yX0_draw cX0_draw 2 (some .int) :: ([.fieldLink RX0 20 "BeetleDrive$Beetle" "MOST" "[I", .fieldLink RX0 28 "BeetleDrive$Beetle" "UNIT" "[I", .static yX11_isWithin, .initialized RX11, .code yX11_isWithin cX11_isWithin 3 (some .boolean), .methodLink RX0 16 yX0_count, .static yX0_count, .initialized RX0, .code yX0_count cX0_count 2 (some .int), .methodLink RX0 24 yX0_hasWhatItNeeds, .static yX0_hasWhatItNeeds, .code yX0_hasWhatItNeeds cX0_hasWhatItNeeds 3 (some .boolean), .fieldLink RX0 31 "BeetleDrive$Beetle" "HANGS_ON" "[I"])
def wsX0_parts : List Cond := .code yX0_parts cX0_parts 3 (some .int) :: ([.methodLink RX0 16 yX0_count, .static yX0_count, .initialized RX0, .code yX0_count cX0_count 2 (some .int), .fieldLink RX0 28 "BeetleDrive$Beetle" "UNIT" "[I"])
def wsX1_canLie : List Cond := .code yX1_canLie cX1_canLie 3 (some .boolean) :: ([.static yX11_isWithin, .initialized RX11, .code yX11_isWithin cX11_isWithin 3 (some .boolean)])
def wsX1_isRow : List Cond := .code yX1_isRow cX1_isRow 3 (some .boolean) :: ([.constant RX1 15 (1333333), .static yX11_isWithin, .initialized RX11, .code yX11_isWithin cX11_isWithin 3 (some .boolean)])
def wsX1_rightOf : List Cond := .code yX1_rightOf cX1_rightOf 7 (some .int) :: ([.methodLink RX1 23 Lib.Math.min.name, .static Lib.Math.min.name, .initialized "java/lang/Math", .code Lib.Math.min.name Lib.Math.min.code 2 (some .int)])
def wsX1_rolled : List Cond := .code yX1_rolled cX1_rolled 4 (some .int) :: ([.methodLink RX1 20 yX1_rightOf, .static yX1_rightOf, .initialized RX1, .code yX1_rightOf cX1_rightOf 7 (some .int), .methodLink RX1 23 Lib.Math.min.name, .static Lib.Math.min.name, .initialized "java/lang/Math", .code Lib.Math.min.name Lib.Math.min.code 2 (some .int)])
def wsX1_topAfter : List Cond := .code yX1_topAfter cX1_topAfter 5 (some .int) :: ([.methodLink RX1 16 yX1_rolled, .static yX1_rolled, .initialized RX1, .code yX1_rolled cX1_rolled 4 (some .int), .methodLink RX1 20 yX1_rightOf, .static yX1_rightOf, .code yX1_rightOf cX1_rightOf 7 (some .int), .methodLink RX1 23 Lib.Math.min.name, .static Lib.Math.min.name, .initialized "java/lang/Math", .code Lib.Math.min.name Lib.Math.min.code 2 (some .int)])
def wsX2_init : List Cond := .code yX2_init cX2_init 1 none :: ([.methodLink RX2 3 objectInit, .instanceMethod objectInit, .code objectInit ⟨#[0xb1]⟩ 1 none, .arrayClass .int, .fieldLink RX2 11 "BeetleDrive$Finder" "found" "[I", .fieldLink RX2 15 "BeetleDrive$Finder" "tally" "[I"] ++ wsX20)
def wsX7_fit : List Cond := .code yX7_fit cX7_fit 3 (some .boolean) :: ([.fieldLink RX7 16 "BeetleDrive$Sights" "size" "I", .fieldLink RX7 9 "BeetleDrive$Sights" "rows" "[I", .fieldLink RX7 13 "BeetleDrive$Sights" "tops" "[I", .methodLink RX7 20 yX1_topAfter, .static yX1_topAfter, .initialized RX1, .code yX1_topAfter cX1_topAfter 5 (some .int), .methodLink RX1 16 yX1_rolled, .static yX1_rolled, .code yX1_rolled cX1_rolled 4 (some .int), .methodLink RX1 20 yX1_rightOf, .static yX1_rightOf, .code yX1_rightOf cX1_rightOf 7 (some .int), .methodLink RX1 23 Lib.Math.min.name, .static Lib.Math.min.name, .initialized "java/lang/Math", .code Lib.Math.min.name Lib.Math.min.code 2 (some .int)] ++ wsX70)
def wsX2_search_r1 : List Cond := [Cond.fieldLink RX2 18 "BeetleDrive$Finder" "size" "I", Cond.fieldLink RX2 11 "BeetleDrive$Finder" "found" "[I", Cond.methodLink RX2 22 yX1_canLie, Cond.static yX1_canLie, Cond.initialized RX1, Cond.code yX1_canLie cX1_canLie 3 (some .boolean), Cond.static yX11_isWithin, Cond.initialized RX11, Cond.code yX11_isWithin cX11_isWithin 3 (some .boolean), Cond.methodLink RX2 28 yX7_fit, Cond.instanceMethod yX7_fit, Cond.selects RX7 yX7_fit yX7_fit, Cond.initialized RX7, Cond.code yX7_fit cX7_fit 3 (some .boolean), Cond.fieldLink RX7 16 "BeetleDrive$Sights" "size" "I", Cond.fieldLink RX7 9 "BeetleDrive$Sights" "rows" "[I", Cond.fieldLink RX7 13 "BeetleDrive$Sights" "tops" "[I", Cond.methodLink RX7 20 yX1_topAfter, Cond.static yX1_topAfter, Cond.code yX1_topAfter cX1_topAfter 5 (some .int), Cond.methodLink RX1 16 yX1_rolled, Cond.static yX1_rolled, Cond.code yX1_rolled cX1_rolled 4 (some .int), Cond.methodLink RX1 20 yX1_rightOf]
def wsX2_search_r2 : List Cond := [Cond.static yX1_rightOf, Cond.code yX1_rightOf cX1_rightOf 7 (some .int), Cond.methodLink RX1 23 Lib.Math.min.name, Cond.static Lib.Math.min.name, Cond.initialized "java/lang/Math", Cond.code Lib.Math.min.name Lib.Math.min.code 2 (some .int)]
def wsX2_search : List Cond := .code yX2_search cX2_search 3 none :: ((wsX2_search_r1 ++ wsX2_search_r2) ++ wsX20 ++ wsX70)
def wsX2_mostLeft : List Cond := .code yX2_mostLeft cX2_mostLeft 5 (some .int) :: ([.fieldLink RX2 15 "BeetleDrive$Finder" "tally" "[I", .fieldLink RX2 18 "BeetleDrive$Finder" "size" "I", .fieldLink RX2 11 "BeetleDrive$Finder" "found" "[I", .methodLink RX2 48 Lib.Math.max.name, .static Lib.Math.max.name, .initialized "java/lang/Math", .code Lib.Math.max.name Lib.Math.max.code 2 (some .int), .methodLink RX2 40 yX1_topAfter, .static yX1_topAfter, .initialized RX1, .code yX1_topAfter cX1_topAfter 5 (some .int), .methodLink RX1 16 yX1_rolled, .static yX1_rolled, .code yX1_rolled cX1_rolled 4 (some .int), .methodLink RX1 20 yX1_rightOf, .static yX1_rightOf, .code yX1_rightOf cX1_rightOf 7 (some .int), .methodLink RX1 23 Lib.Math.min.name, .static Lib.Math.min.name, .code Lib.Math.min.name Lib.Math.min.code 2 (some .int), .static yX11_isWithin, .initialized RX11, .code yX11_isWithin cX11_isWithin 3 (some .boolean)] ++ wsX20)
def wsX2_bestRow_r1 : List Cond := [Cond.methodLink RX2 33 yX2_mostLeft, Cond.instanceMethod yX2_mostLeft, Cond.selects RX2 yX2_mostLeft yX2_mostLeft, Cond.initialized RX2, Cond.code yX2_mostLeft cX2_mostLeft 5 (some .int), Cond.fieldLink RX2 15 "BeetleDrive$Finder" "tally" "[I", Cond.fieldLink RX2 18 "BeetleDrive$Finder" "size" "I", Cond.fieldLink RX2 11 "BeetleDrive$Finder" "found" "[I", Cond.methodLink RX2 48 Lib.Math.max.name, Cond.static Lib.Math.max.name, Cond.initialized "java/lang/Math", Cond.code Lib.Math.max.name Lib.Math.max.code 2 (some .int), Cond.methodLink RX2 40 yX1_topAfter, Cond.static yX1_topAfter, Cond.initialized RX1, Cond.code yX1_topAfter cX1_topAfter 5 (some .int), Cond.methodLink RX1 16 yX1_rolled, Cond.static yX1_rolled, Cond.code yX1_rolled cX1_rolled 4 (some .int), Cond.methodLink RX1 20 yX1_rightOf, Cond.static yX1_rightOf, Cond.code yX1_rightOf cX1_rightOf 7 (some .int), Cond.methodLink RX1 23 Lib.Math.min.name, Cond.static Lib.Math.min.name]
def wsX2_bestRow_r2 : List Cond := [Cond.code Lib.Math.min.name Lib.Math.min.code 2 (some .int), Cond.static yX11_isWithin, Cond.initialized RX11, Cond.code yX11_isWithin cX11_isWithin 3 (some .boolean), Cond.methodLink RX2 37 yX1_isRow, Cond.static yX1_isRow, Cond.code yX1_isRow cX1_isRow 3 (some .boolean), Cond.constant RX1 15 (1333333)]
def wsX2_bestRow : List Cond := .code yX2_bestRow cX2_bestRow 5 (some .int) :: ((wsX2_bestRow_r1 ++ wsX2_bestRow_r2) ++ wsX20)
def wsX9_init : List Cond := .code yX9_init cX9_init 1 none :: ([.methodLink RX9 3 objectInit, .instanceMethod objectInit, .code objectInit ⟨#[0xb1]⟩ 1 none, .arrayClass .int, .fieldLink RX9 9 "BeetleDrive$Table" "drawn" "[I", .fieldLink RX9 15 "BeetleDrive$Table" "points" "[I", .fieldLink RX9 18 "BeetleDrive$Table" "inBits" "I"] ++ wsX90)
def wsX7_init : List Cond := .code yX7_init cX7_init 1 none :: ([.methodLink RX7 1 objectInit, .instanceMethod objectInit, .code objectInit ⟨#[0xb1]⟩ 1 none, .arrayClass .int, .fieldLink RX7 9 "BeetleDrive$Sights" "rows" "[I", .fieldLink RX7 13 "BeetleDrive$Sights" "tops" "[I"] ++ wsX70)
def wsX3_init : List Cond := .code yX3_init cX3_init 1 none :: ([.methodLink RX3 1 objectInit, .instanceMethod objectInit, .code objectInit ⟨#[0xb1]⟩ 1 none, .classLink RX3 7 RX9, .instantiable RX9 5, .initialized RX9, .fieldLink RX3 10 "BeetleDrive$Image" "table" "LBeetleDrive$Table;", .classLink RX3 16 RX7, .instantiable RX7 3, .initialized RX7, .fieldLink RX3 19 "BeetleDrive$Image" "sights" "LBeetleDrive$Sights;", .instanceMethod yX9_init, .code yX9_init cX9_init 1 none, .methodLink RX9 3 objectInit, .arrayClass .int, .fieldLink RX9 9 "BeetleDrive$Table" "drawn" "[I", .fieldLink RX9 15 "BeetleDrive$Table" "points" "[I", .fieldLink RX9 18 "BeetleDrive$Table" "inBits" "I", .instanceMethod yX7_init, .code yX7_init cX7_init 1 none, .methodLink RX7 1 objectInit, .fieldLink RX7 9 "BeetleDrive$Sights" "rows" "[I", .fieldLink RX7 13 "BeetleDrive$Sights" "tops" "[I"] ++ wsX90 ++ wsX30 ++ wsX70)
def wsX9_copyFrom : List Cond := .code yX9_copyFrom cX9_copyFrom 3 none :: ([.fieldLink RX9 9 "BeetleDrive$Table" "drawn" "[I", .fieldLink RX9 15 "BeetleDrive$Table" "points" "[I", .fieldLink RX9 18 "BeetleDrive$Table" "inBits" "I", .fieldLink RX9 22 "BeetleDrive$Table" "holder" "I", .fieldLink RX9 25 "BeetleDrive$Table" "game" "I"] ++ wsX90)
def wsX7_copyFrom : List Cond := .code yX7_copyFrom cX7_copyFrom 3 none :: ([.fieldLink RX7 9 "BeetleDrive$Sights" "rows" "[I", .fieldLink RX7 13 "BeetleDrive$Sights" "tops" "[I", .fieldLink RX7 16 "BeetleDrive$Sights" "size" "I"] ++ wsX70)
def wsX3_keep : List Cond := .code yX3_keep cX3_keep 3 none :: ([.fieldLink RX3 10 "BeetleDrive$Image" "table" "LBeetleDrive$Table;", .fieldLink RX3 19 "BeetleDrive$Image" "sights" "LBeetleDrive$Sights;", .fieldLink RX3 30 "BeetleDrive$Image" "isKept" "Z", .methodLink RX3 23 yX9_copyFrom, .instanceMethod yX9_copyFrom, .selects RX9 yX9_copyFrom yX9_copyFrom, .initialized RX9, .code yX9_copyFrom cX9_copyFrom 3 none, .fieldLink RX9 9 "BeetleDrive$Table" "drawn" "[I", .fieldLink RX9 15 "BeetleDrive$Table" "points" "[I", .fieldLink RX9 18 "BeetleDrive$Table" "inBits" "I", .fieldLink RX9 22 "BeetleDrive$Table" "holder" "I", .fieldLink RX9 25 "BeetleDrive$Table" "game" "I", .methodLink RX3 27 yX7_copyFrom, .instanceMethod yX7_copyFrom, .selects RX7 yX7_copyFrom yX7_copyFrom, .initialized RX7, .code yX7_copyFrom cX7_copyFrom 3 none, .fieldLink RX7 9 "BeetleDrive$Sights" "rows" "[I", .fieldLink RX7 13 "BeetleDrive$Sights" "tops" "[I", .fieldLink RX7 16 "BeetleDrive$Sights" "size" "I"] ++ wsX30 ++ wsX90 ++ wsX70)
def wsX4_init : List Cond := .code yX4_init cX4_init 1 none :: ([.methodLink RX4 3 objectInit, .instanceMethod objectInit, .code objectInit ⟨#[0xb1]⟩ 1 none, .classLink RX4 9 RX9, .instantiable RX9 5, .initialized RX9, .fieldLink RX4 12 "BeetleDrive$Match" "table" "LBeetleDrive$Table;", .instanceMethod yX9_init, .code yX9_init cX9_init 1 none, .methodLink RX9 3 objectInit, .arrayClass .int, .fieldLink RX9 9 "BeetleDrive$Table" "drawn" "[I", .fieldLink RX9 15 "BeetleDrive$Table" "points" "[I", .fieldLink RX9 18 "BeetleDrive$Table" "inBits" "I"] ++ wsX90 ++ wsX40)
def wsX4_begin : List Cond := .code yX4_begin cX4_begin 2 none :: ([.fieldLink RX4 12 "BeetleDrive$Match" "table" "LBeetleDrive$Table;", .fieldLink RX4 55 "BeetleDrive$Match" "acts" "I", .fieldLink RX4 32 "BeetleDrive$Match" "why" "I", .fieldLink RX4 58 "BeetleDrive$Match" "vain" "I", .fieldLink RX4 61 "BeetleDrive$Match" "wholeAct" "I", .fieldLink RX4 64 "BeetleDrive$Match" "wholeWho" "I", .methodLink RX4 52 yX9_copyFrom, .instanceMethod yX9_copyFrom, .selects RX9 yX9_copyFrom yX9_copyFrom, .initialized RX9, .code yX9_copyFrom cX9_copyFrom 3 none, .fieldLink RX9 9 "BeetleDrive$Table" "drawn" "[I", .fieldLink RX9 15 "BeetleDrive$Table" "points" "[I", .fieldLink RX9 18 "BeetleDrive$Table" "inBits" "I", .fieldLink RX9 22 "BeetleDrive$Table" "holder" "I", .fieldLink RX9 25 "BeetleDrive$Table" "game" "I"] ++ wsX40 ++ wsX90)
def wsX9_isThrow : List Cond := .code yX9_isThrow cX9_isThrow 1 (some .boolean) :: ([.static yX11_isWithin, .initialized RX11, .code yX11_isWithin cX11_isWithin 3 (some .boolean)])
def wsX5_isLetter : List Cond := .code yX5_isLetter cX5_isLetter 1 (some .boolean) :: ([.static yX11_isWithin, .initialized RX11, .code yX11_isWithin cX11_isWithin 3 (some .boolean)])
def wsX5_canStand : List Cond := .code yX5_canStand cX5_canStand 2 (some .boolean) :: ([.methodLink RX5 31 yX9_isThrow, .static yX9_isThrow, .initialized RX9, .code yX9_isThrow cX9_isThrow 1 (some .boolean), .static yX11_isWithin, .initialized RX11, .code yX11_isWithin cX11_isWithin 3 (some .boolean), .methodLink RX5 23 yX5_isLetter, .static yX5_isLetter, .initialized RX5, .code yX5_isLetter cX5_isLetter 1 (some .boolean)])
def wsX5_firstFault : List Cond := .code yX5_firstFault cX5_firstFault 3 (some .int) :: ([.fieldLink RX5 15 "BeetleDrive$Pad" "size" "I", .fieldLink RX5 11 "BeetleDrive$Pad" "signs" "[I", .methodLink RX5 19 yX5_canStand, .static yX5_canStand, .initialized RX5, .code yX5_canStand cX5_canStand 2 (some .boolean), .methodLink RX5 31 yX9_isThrow, .static yX9_isThrow, .initialized RX9, .code yX9_isThrow cX9_isThrow 1 (some .boolean), .static yX11_isWithin, .initialized RX11, .code yX11_isWithin cX11_isWithin 3 (some .boolean), .methodLink RX5 23 yX5_isLetter, .static yX5_isLetter, .code yX5_isLetter cX5_isLetter 1 (some .boolean)] ++ wsX50)
def wsX9_isWhole : List Cond := .code yX9_isWhole cX9_isWhole 2 (some .boolean) :: ([.fieldLink RX9 9 "BeetleDrive$Table" "drawn" "[I", .constant RX9 30 (111622)] ++ wsX90)
def wsX9_isIn : List Cond := .code yX9_isIn cX9_isIn 2 (some .boolean) :: ([.fieldLink RX9 18 "BeetleDrive$Table" "inBits" "I"] ++ wsX90)
def wsX9_whyNot : List Cond := .code yX9_whyNot cX9_whyNot 3 (some .int) :: ([.fieldLink RX9 22 "BeetleDrive$Table" "holder" "I", .fieldLink RX9 18 "BeetleDrive$Table" "inBits" "I", .fieldLink RX9 25 "BeetleDrive$Table" "game" "I", .methodLink RX9 31 yX9_isThrow, .static yX9_isThrow, .initialized RX9, .code yX9_isThrow cX9_isThrow 1 (some .boolean), .static yX11_isWithin, .initialized RX11, .code yX11_isWithin cX11_isWithin 3 (some .boolean), .methodLink RX9 35 yX9_isWhole, .instanceMethod yX9_isWhole, .selects RX9 yX9_isWhole yX9_isWhole, .code yX9_isWhole cX9_isWhole 2 (some .boolean), .fieldLink RX9 9 "BeetleDrive$Table" "drawn" "[I", .constant RX9 30 (111622), .methodLink RX9 38 yX9_isIn, .instanceMethod yX9_isIn, .selects RX9 yX9_isIn yX9_isIn, .code yX9_isIn cX9_isIn 2 (some .boolean)] ++ wsX90)
def wsX9_worth : List Cond := .code yX9_worth cX9_worth 2 (some .int) :: ([.fieldLink RX9 15 "BeetleDrive$Table" "points" "[I", .fieldLink RX9 9 "BeetleDrive$Table" "drawn" "[I", .methodLink RX9 57 yX0_parts, .static yX0_parts, .initialized RX0, .code yX0_parts cX0_parts 3 (some .int), .methodLink RX0 16 yX0_count, .static yX0_count, .code yX0_count cX0_count 2 (some .int), .fieldLink RX0 28 "BeetleDrive$Beetle" "UNIT" "[I"] ++ wsX90)
def wsX9_countUp : List Cond := .code yX9_countUp cX9_countUp 3 none :: ([.fieldLink RX9 15 "BeetleDrive$Table" "points" "[I", .methodLink RX9 52 Lib.Math.min.name, .static Lib.Math.min.name, .initialized "java/lang/Math", .code Lib.Math.min.name Lib.Math.min.code 2 (some .int), .fieldLink RX9 9 "BeetleDrive$Table" "drawn" "[I", .fieldLink RX9 22 "BeetleDrive$Table" "holder" "I", .fieldLink RX9 25 "BeetleDrive$Table" "game" "I", .methodLink RX9 48 yX9_worth, .instanceMethod yX9_worth, .selects RX9 yX9_worth yX9_worth, .initialized RX9, .code yX9_worth cX9_worth 2 (some .int), .methodLink RX9 57 yX0_parts, .static yX0_parts, .initialized RX0, .code yX0_parts cX0_parts 3 (some .int), .methodLink RX0 16 yX0_count, .static yX0_count, .code yX0_count cX0_count 2 (some .int), .fieldLink RX0 28 "BeetleDrive$Beetle" "UNIT" "[I"] ++ wsX90)
def wsX9_passOn : List Cond := .code yX9_passOn cX9_passOn 3 none :: ([.fieldLink RX9 22 "BeetleDrive$Table" "holder" "I", .methodLink RX9 38 yX9_isIn, .instanceMethod yX9_isIn, .selects RX9 yX9_isIn yX9_isIn, .initialized RX9, .code yX9_isIn cX9_isIn 2 (some .boolean), .fieldLink RX9 18 "BeetleDrive$Table" "inBits" "I"] ++ wsX90)
def wsX9_goOrCome : List Cond := .code yX9_goOrCome cX9_goOrCome 2 none :: ([.fieldLink RX9 18 "BeetleDrive$Table" "inBits" "I", .fieldLink RX9 22 "BeetleDrive$Table" "holder" "I", .methodLink RX9 45 yX9_passOn, .instanceMethod yX9_passOn, .selects RX9 yX9_passOn yX9_passOn, .initialized RX9, .code yX9_passOn cX9_passOn 3 none, .methodLink RX9 38 yX9_isIn, .instanceMethod yX9_isIn, .selects RX9 yX9_isIn yX9_isIn, .code yX9_isIn cX9_isIn 2 (some .boolean)] ++ wsX90)
def wsX9_drawBy_r1 : List Cond := [Cond.fieldLink RX9 9 "BeetleDrive$Table" "drawn" "[I", Cond.fieldLink RX9 22 "BeetleDrive$Table" "holder" "I", Cond.methodLink RX9 41 yX0_draw, Cond.static yX0_draw, Cond.initialized RX0, Cond.code yX0_draw cX0_draw 2 (some .int), Cond.fieldLink RX0 20 "BeetleDrive$Beetle" "MOST" "[I", Cond.fieldLink RX0 28 "BeetleDrive$Beetle" "UNIT" "[I", Cond.static yX11_isWithin, Cond.initialized RX11, Cond.code yX11_isWithin cX11_isWithin 3 (some .boolean), Cond.methodLink RX0 16 yX0_count, Cond.static yX0_count, Cond.code yX0_count cX0_count 2 (some .int), Cond.methodLink RX0 24 yX0_hasWhatItNeeds, Cond.static yX0_hasWhatItNeeds, Cond.code yX0_hasWhatItNeeds cX0_hasWhatItNeeds 3 (some .boolean), Cond.fieldLink RX0 31 "BeetleDrive$Beetle" "HANGS_ON" "[I", Cond.methodLink RX9 45 yX9_passOn, Cond.instanceMethod yX9_passOn, Cond.selects RX9 yX9_passOn yX9_passOn, Cond.initialized RX9, Cond.code yX9_passOn cX9_passOn 3 none, Cond.methodLink RX9 38 yX9_isIn]
def wsX9_drawBy_r2 : List Cond := [Cond.instanceMethod yX9_isIn, Cond.selects RX9 yX9_isIn yX9_isIn, Cond.code yX9_isIn cX9_isIn 2 (some .boolean), Cond.fieldLink RX9 18 "BeetleDrive$Table" "inBits" "I"]
def wsX9_drawBy : List Cond := .code yX9_drawBy cX9_drawBy 4 (some .boolean) :: ((wsX9_drawBy_r1 ++ wsX9_drawBy_r2) ++ wsX90)
def wsX4_noteThrow : List Cond := .code yX4_noteThrow cX4_noteThrow 2 none :: ([.fieldLink RX4 58 "BeetleDrive$Match" "vain" "I", .fieldLink RX4 61 "BeetleDrive$Match" "wholeAct" "I", .fieldLink RX4 12 "BeetleDrive$Match" "table" "LBeetleDrive$Table;", .fieldLink RX4 55 "BeetleDrive$Match" "acts" "I", .fieldLink RX4 64 "BeetleDrive$Match" "wholeWho" "I", .methodLink RX4 90 yX9_isWhole, .instanceMethod yX9_isWhole, .selects RX9 yX9_isWhole yX9_isWhole, .initialized RX9, .code yX9_isWhole cX9_isWhole 2 (some .boolean), .fieldLink RX9 9 "BeetleDrive$Table" "drawn" "[I", .constant RX9 30 (111622)] ++ wsX40 ++ wsX90)
def wsX4_play_r1 : List Cond := [Cond.fieldLink RX4 12 "BeetleDrive$Match" "table" "LBeetleDrive$Table;", Cond.fieldLink RX4 32 "BeetleDrive$Match" "why" "I", Cond.fieldLink RX4 55 "BeetleDrive$Match" "acts" "I", Cond.methodLink RX4 67 yX9_whyNot, Cond.instanceMethod yX9_whyNot, Cond.selects RX9 yX9_whyNot yX9_whyNot, Cond.initialized RX9, Cond.code yX9_whyNot cX9_whyNot 3 (some .int), Cond.fieldLink RX9 22 "BeetleDrive$Table" "holder" "I", Cond.fieldLink RX9 18 "BeetleDrive$Table" "inBits" "I", Cond.fieldLink RX9 25 "BeetleDrive$Table" "game" "I", Cond.methodLink RX9 31 yX9_isThrow, Cond.static yX9_isThrow, Cond.code yX9_isThrow cX9_isThrow 1 (some .boolean), Cond.static yX11_isWithin, Cond.initialized RX11, Cond.code yX11_isWithin cX11_isWithin 3 (some .boolean), Cond.methodLink RX9 35 yX9_isWhole, Cond.instanceMethod yX9_isWhole, Cond.selects RX9 yX9_isWhole yX9_isWhole, Cond.code yX9_isWhole cX9_isWhole 2 (some .boolean), Cond.fieldLink RX9 9 "BeetleDrive$Table" "drawn" "[I", Cond.constant RX9 30 (111622), Cond.methodLink RX9 38 yX9_isIn]
def wsX4_play_r2 : List Cond := [Cond.instanceMethod yX9_isIn, Cond.selects RX9 yX9_isIn yX9_isIn, Cond.code yX9_isIn cX9_isIn 2 (some .boolean), Cond.methodLink RX4 70 yX9_countUp, Cond.instanceMethod yX9_countUp, Cond.selects RX9 yX9_countUp yX9_countUp, Cond.code yX9_countUp cX9_countUp 3 none, Cond.fieldLink RX9 15 "BeetleDrive$Table" "points" "[I", Cond.methodLink RX9 52 Lib.Math.min.name, Cond.static Lib.Math.min.name, Cond.initialized "java/lang/Math", Cond.code Lib.Math.min.name Lib.Math.min.code 2 (some .int), Cond.methodLink RX9 48 yX9_worth, Cond.instanceMethod yX9_worth, Cond.selects RX9 yX9_worth yX9_worth, Cond.code yX9_worth cX9_worth 2 (some .int), Cond.methodLink RX9 57 yX0_parts, Cond.static yX0_parts, Cond.initialized RX0, Cond.code yX0_parts cX0_parts 3 (some .int), Cond.methodLink RX0 16 yX0_count, Cond.static yX0_count, Cond.code yX0_count cX0_count 2 (some .int), Cond.fieldLink RX0 28 "BeetleDrive$Beetle" "UNIT" "[I"]
def wsX4_play_r3 : List Cond := [Cond.methodLink RX4 74 yX9_goOrCome, Cond.instanceMethod yX9_goOrCome, Cond.selects RX9 yX9_goOrCome yX9_goOrCome, Cond.code yX9_goOrCome cX9_goOrCome 2 none, Cond.methodLink RX9 45 yX9_passOn, Cond.instanceMethod yX9_passOn, Cond.selects RX9 yX9_passOn yX9_passOn, Cond.code yX9_passOn cX9_passOn 3 none, Cond.methodLink RX4 77 yX9_passOn, Cond.methodLink RX4 80 yX9_drawBy, Cond.instanceMethod yX9_drawBy, Cond.selects RX9 yX9_drawBy yX9_drawBy, Cond.code yX9_drawBy cX9_drawBy 4 (some .boolean), Cond.methodLink RX9 41 yX0_draw, Cond.static yX0_draw, Cond.code yX0_draw cX0_draw 2 (some .int), Cond.fieldLink RX0 20 "BeetleDrive$Beetle" "MOST" "[I", Cond.methodLink RX0 24 yX0_hasWhatItNeeds, Cond.static yX0_hasWhatItNeeds, Cond.code yX0_hasWhatItNeeds cX0_hasWhatItNeeds 3 (some .boolean), Cond.fieldLink RX0 31 "BeetleDrive$Beetle" "HANGS_ON" "[I", Cond.methodLink RX4 83 yX4_noteThrow, Cond.instanceMethod yX4_noteThrow, Cond.selects RX4 yX4_noteThrow yX4_noteThrow]
def wsX4_play_r4 : List Cond := [Cond.initialized RX4, Cond.code yX4_noteThrow cX4_noteThrow 2 none, Cond.fieldLink RX4 58 "BeetleDrive$Match" "vain" "I", Cond.fieldLink RX4 61 "BeetleDrive$Match" "wholeAct" "I", Cond.fieldLink RX4 64 "BeetleDrive$Match" "wholeWho" "I", Cond.methodLink RX4 90 yX9_isWhole]
def wsX4_play : List Cond := .code yX4_play cX4_play 3 none :: ((wsX4_play_r1 ++ (wsX4_play_r2 ++ (wsX4_play_r3 ++ wsX4_play_r4))) ++ wsX40 ++ wsX90)
def wsX4_playText_r1 : List Cond := [Cond.fieldLink RX4 32 "BeetleDrive$Match" "why" "I", Cond.methodLink RX4 18 yX4_begin, Cond.instanceMethod yX4_begin, Cond.selects RX4 yX4_begin yX4_begin, Cond.initialized RX4, Cond.code yX4_begin cX4_begin 2 none, Cond.fieldLink RX4 12 "BeetleDrive$Match" "table" "LBeetleDrive$Table;", Cond.fieldLink RX4 55 "BeetleDrive$Match" "acts" "I", Cond.fieldLink RX4 58 "BeetleDrive$Match" "vain" "I", Cond.fieldLink RX4 61 "BeetleDrive$Match" "wholeAct" "I", Cond.fieldLink RX4 64 "BeetleDrive$Match" "wholeWho" "I", Cond.methodLink RX4 52 yX9_copyFrom, Cond.instanceMethod yX9_copyFrom, Cond.selects RX9 yX9_copyFrom yX9_copyFrom, Cond.initialized RX9, Cond.code yX9_copyFrom cX9_copyFrom 3 none, Cond.fieldLink RX9 9 "BeetleDrive$Table" "drawn" "[I", Cond.fieldLink RX9 15 "BeetleDrive$Table" "points" "[I", Cond.fieldLink RX9 18 "BeetleDrive$Table" "inBits" "I", Cond.fieldLink RX9 22 "BeetleDrive$Table" "holder" "I", Cond.fieldLink RX9 25 "BeetleDrive$Table" "game" "I", Cond.methodLink RX4 22 yX5_firstFault, Cond.instanceMethod yX5_firstFault, Cond.selects RX5 yX5_firstFault yX5_firstFault]
def wsX4_playText_r2 : List Cond := [Cond.initialized RX5, Cond.code yX5_firstFault cX5_firstFault 3 (some .int), Cond.fieldLink RX5 15 "BeetleDrive$Pad" "size" "I", Cond.fieldLink RX5 11 "BeetleDrive$Pad" "signs" "[I", Cond.methodLink RX5 19 yX5_canStand, Cond.static yX5_canStand, Cond.code yX5_canStand cX5_canStand 2 (some .boolean), Cond.methodLink RX5 31 yX9_isThrow, Cond.static yX9_isThrow, Cond.code yX9_isThrow cX9_isThrow 1 (some .boolean), Cond.static yX11_isWithin, Cond.initialized RX11, Cond.code yX11_isWithin cX11_isWithin 3 (some .boolean), Cond.methodLink RX5 23 yX5_isLetter, Cond.static yX5_isLetter, Cond.code yX5_isLetter cX5_isLetter 1 (some .boolean), Cond.methodLink RX4 39 yX5_isLetter, Cond.methodLink RX4 43 yX4_play, Cond.instanceMethod yX4_play, Cond.selects RX4 yX4_play yX4_play, Cond.code yX4_play cX4_play 3 none, Cond.methodLink RX4 67 yX9_whyNot, Cond.instanceMethod yX9_whyNot, Cond.selects RX9 yX9_whyNot yX9_whyNot]
def wsX4_playText_r3 : List Cond := [Cond.code yX9_whyNot cX9_whyNot 3 (some .int), Cond.methodLink RX9 31 yX9_isThrow, Cond.methodLink RX9 35 yX9_isWhole, Cond.instanceMethod yX9_isWhole, Cond.selects RX9 yX9_isWhole yX9_isWhole, Cond.code yX9_isWhole cX9_isWhole 2 (some .boolean), Cond.constant RX9 30 (111622), Cond.methodLink RX9 38 yX9_isIn, Cond.instanceMethod yX9_isIn, Cond.selects RX9 yX9_isIn yX9_isIn, Cond.code yX9_isIn cX9_isIn 2 (some .boolean), Cond.methodLink RX4 70 yX9_countUp, Cond.instanceMethod yX9_countUp, Cond.selects RX9 yX9_countUp yX9_countUp, Cond.code yX9_countUp cX9_countUp 3 none, Cond.methodLink RX9 52 Lib.Math.min.name, Cond.static Lib.Math.min.name, Cond.initialized "java/lang/Math", Cond.code Lib.Math.min.name Lib.Math.min.code 2 (some .int), Cond.methodLink RX9 48 yX9_worth, Cond.instanceMethod yX9_worth, Cond.selects RX9 yX9_worth yX9_worth, Cond.code yX9_worth cX9_worth 2 (some .int), Cond.methodLink RX9 57 yX0_parts]
def wsX4_playText_r4 : List Cond := [Cond.static yX0_parts, Cond.initialized RX0, Cond.code yX0_parts cX0_parts 3 (some .int), Cond.methodLink RX0 16 yX0_count, Cond.static yX0_count, Cond.code yX0_count cX0_count 2 (some .int), Cond.fieldLink RX0 28 "BeetleDrive$Beetle" "UNIT" "[I", Cond.methodLink RX4 74 yX9_goOrCome, Cond.instanceMethod yX9_goOrCome, Cond.selects RX9 yX9_goOrCome yX9_goOrCome, Cond.code yX9_goOrCome cX9_goOrCome 2 none, Cond.methodLink RX9 45 yX9_passOn, Cond.instanceMethod yX9_passOn, Cond.selects RX9 yX9_passOn yX9_passOn, Cond.code yX9_passOn cX9_passOn 3 none, Cond.methodLink RX4 77 yX9_passOn, Cond.methodLink RX4 80 yX9_drawBy, Cond.instanceMethod yX9_drawBy, Cond.selects RX9 yX9_drawBy yX9_drawBy, Cond.code yX9_drawBy cX9_drawBy 4 (some .boolean), Cond.methodLink RX9 41 yX0_draw, Cond.static yX0_draw, Cond.code yX0_draw cX0_draw 2 (some .int), Cond.fieldLink RX0 20 "BeetleDrive$Beetle" "MOST" "[I"]
def wsX4_playText_r5 : List Cond := [Cond.methodLink RX0 24 yX0_hasWhatItNeeds, Cond.static yX0_hasWhatItNeeds, Cond.code yX0_hasWhatItNeeds cX0_hasWhatItNeeds 3 (some .boolean), Cond.fieldLink RX0 31 "BeetleDrive$Beetle" "HANGS_ON" "[I", Cond.methodLink RX4 83 yX4_noteThrow, Cond.instanceMethod yX4_noteThrow, Cond.selects RX4 yX4_noteThrow yX4_noteThrow, Cond.code yX4_noteThrow cX4_noteThrow 2 none, Cond.methodLink RX4 90 yX9_isWhole]
def wsX4_playText : List Cond := .code yX4_playText cX4_playText 6 (some .int) :: ((wsX4_playText_r1 ++ (wsX4_playText_r2 ++ (wsX4_playText_r3 ++ (wsX4_playText_r4 ++ wsX4_playText_r5)))) ++ wsX50 ++ wsX40 ++ wsX90)
def wsX4_markOfYear : List Cond := .code yX4_markOfYear cX4_markOfYear 2 (some .int) :: ([])
def wsX4_playYear_r1 : List Cond := [Cond.constant RX4 47 (65537), Cond.methodLink RX4 18 yX4_begin, Cond.instanceMethod yX4_begin, Cond.selects RX4 yX4_begin yX4_begin, Cond.initialized RX4, Cond.code yX4_begin cX4_begin 2 none, Cond.fieldLink RX4 12 "BeetleDrive$Match" "table" "LBeetleDrive$Table;", Cond.fieldLink RX4 55 "BeetleDrive$Match" "acts" "I", Cond.fieldLink RX4 32 "BeetleDrive$Match" "why" "I", Cond.fieldLink RX4 58 "BeetleDrive$Match" "vain" "I", Cond.fieldLink RX4 61 "BeetleDrive$Match" "wholeAct" "I", Cond.fieldLink RX4 64 "BeetleDrive$Match" "wholeWho" "I", Cond.methodLink RX4 52 yX9_copyFrom, Cond.instanceMethod yX9_copyFrom, Cond.selects RX9 yX9_copyFrom yX9_copyFrom, Cond.initialized RX9, Cond.code yX9_copyFrom cX9_copyFrom 3 none, Cond.fieldLink RX9 9 "BeetleDrive$Table" "drawn" "[I", Cond.fieldLink RX9 15 "BeetleDrive$Table" "points" "[I", Cond.fieldLink RX9 18 "BeetleDrive$Table" "inBits" "I", Cond.fieldLink RX9 22 "BeetleDrive$Table" "holder" "I", Cond.fieldLink RX9 25 "BeetleDrive$Table" "game" "I", Cond.methodLink RX4 48 yX4_markOfYear, Cond.static yX4_markOfYear]
def wsX4_playYear_r2 : List Cond := [Cond.code yX4_markOfYear cX4_markOfYear 2 (some .int), Cond.methodLink RX4 43 yX4_play, Cond.instanceMethod yX4_play, Cond.selects RX4 yX4_play yX4_play, Cond.code yX4_play cX4_play 3 none, Cond.methodLink RX4 67 yX9_whyNot, Cond.instanceMethod yX9_whyNot, Cond.selects RX9 yX9_whyNot yX9_whyNot, Cond.code yX9_whyNot cX9_whyNot 3 (some .int), Cond.methodLink RX9 31 yX9_isThrow, Cond.static yX9_isThrow, Cond.code yX9_isThrow cX9_isThrow 1 (some .boolean), Cond.static yX11_isWithin, Cond.initialized RX11, Cond.code yX11_isWithin cX11_isWithin 3 (some .boolean), Cond.methodLink RX9 35 yX9_isWhole, Cond.instanceMethod yX9_isWhole, Cond.selects RX9 yX9_isWhole yX9_isWhole, Cond.code yX9_isWhole cX9_isWhole 2 (some .boolean), Cond.constant RX9 30 (111622), Cond.methodLink RX9 38 yX9_isIn, Cond.instanceMethod yX9_isIn, Cond.selects RX9 yX9_isIn yX9_isIn, Cond.code yX9_isIn cX9_isIn 2 (some .boolean)]
def wsX4_playYear_r3 : List Cond := [Cond.methodLink RX4 70 yX9_countUp, Cond.instanceMethod yX9_countUp, Cond.selects RX9 yX9_countUp yX9_countUp, Cond.code yX9_countUp cX9_countUp 3 none, Cond.methodLink RX9 52 Lib.Math.min.name, Cond.static Lib.Math.min.name, Cond.initialized "java/lang/Math", Cond.code Lib.Math.min.name Lib.Math.min.code 2 (some .int), Cond.methodLink RX9 48 yX9_worth, Cond.instanceMethod yX9_worth, Cond.selects RX9 yX9_worth yX9_worth, Cond.code yX9_worth cX9_worth 2 (some .int), Cond.methodLink RX9 57 yX0_parts, Cond.static yX0_parts, Cond.initialized RX0, Cond.code yX0_parts cX0_parts 3 (some .int), Cond.methodLink RX0 16 yX0_count, Cond.static yX0_count, Cond.code yX0_count cX0_count 2 (some .int), Cond.fieldLink RX0 28 "BeetleDrive$Beetle" "UNIT" "[I", Cond.methodLink RX4 74 yX9_goOrCome, Cond.instanceMethod yX9_goOrCome, Cond.selects RX9 yX9_goOrCome yX9_goOrCome, Cond.code yX9_goOrCome cX9_goOrCome 2 none]
def wsX4_playYear_r4 : List Cond := [Cond.methodLink RX9 45 yX9_passOn, Cond.instanceMethod yX9_passOn, Cond.selects RX9 yX9_passOn yX9_passOn, Cond.code yX9_passOn cX9_passOn 3 none, Cond.methodLink RX4 77 yX9_passOn, Cond.methodLink RX4 80 yX9_drawBy, Cond.instanceMethod yX9_drawBy, Cond.selects RX9 yX9_drawBy yX9_drawBy, Cond.code yX9_drawBy cX9_drawBy 4 (some .boolean), Cond.methodLink RX9 41 yX0_draw, Cond.static yX0_draw, Cond.code yX0_draw cX0_draw 2 (some .int), Cond.fieldLink RX0 20 "BeetleDrive$Beetle" "MOST" "[I", Cond.methodLink RX0 24 yX0_hasWhatItNeeds, Cond.static yX0_hasWhatItNeeds, Cond.code yX0_hasWhatItNeeds cX0_hasWhatItNeeds 3 (some .boolean), Cond.fieldLink RX0 31 "BeetleDrive$Beetle" "HANGS_ON" "[I", Cond.methodLink RX4 83 yX4_noteThrow, Cond.instanceMethod yX4_noteThrow, Cond.selects RX4 yX4_noteThrow yX4_noteThrow, Cond.code yX4_noteThrow cX4_noteThrow 2 none, Cond.methodLink RX4 90 yX9_isWhole]
def wsX4_playYear : List Cond := .code yX4_playYear cX4_playYear 7 none :: ((wsX4_playYear_r1 ++ (wsX4_playYear_r2 ++ (wsX4_playYear_r3 ++ wsX4_playYear_r4))) ++ wsX40 ++ wsX90)
def wsX5_init : List Cond := .code yX5_init cX5_init 1 none :: ([.methodLink RX5 3 objectInit, .instanceMethod objectInit, .code objectInit ⟨#[0xb1]⟩ 1 none, .arrayClass .int, .fieldLink RX5 11 "BeetleDrive$Pad" "signs" "[I"] ++ wsX50)
def wsX5_add : List Cond := .code yX5_add cX5_add 2 (some .boolean) :: ([.fieldLink RX5 15 "BeetleDrive$Pad" "size" "I", .fieldLink RX5 11 "BeetleDrive$Pad" "signs" "[I"] ++ wsX50)
def wsX5_clear : List Cond := .code yX5_clear cX5_clear 2 (some .int) :: ([.fieldLink RX5 15 "BeetleDrive$Pad" "size" "I"] ++ wsX50)
def wsX6_figuresAt : List Cond := .code yX6_figuresAt cX6_figuresAt 2 (some .int) :: ([.constant RX6 49 (100000)])
def wsX6_listBeetles : List Cond := .code yX6_listBeetles cX6_listBeetles 4 none :: ([.fieldLink RX6 11 "BeetleDrive$Sheets" "drawn" "[I", .methodLink RX6 39 yX6_figuresAt, .static yX6_figuresAt, .initialized RX6, .code yX6_figuresAt cX6_figuresAt 2 (some .int), .constant RX6 49 (100000), .methodLink RX6 43 yX0_canBe, .static yX0_canBe, .initialized RX0, .code yX0_canBe cX0_canBe 3 (some .boolean), .constant RX0 11 (111622), .fieldLink RX0 20 "BeetleDrive$Beetle" "MOST" "[I", .static yX11_isWithin, .initialized RX11, .code yX11_isWithin cX11_isWithin 3 (some .boolean), .methodLink RX0 16 yX0_count, .static yX0_count, .code yX0_count cX0_count 2 (some .int), .fieldLink RX0 28 "BeetleDrive$Beetle" "UNIT" "[I", .methodLink RX0 24 yX0_hasWhatItNeeds, .static yX0_hasWhatItNeeds, .code yX0_hasWhatItNeeds cX0_hasWhatItNeeds 3 (some .boolean), .fieldLink RX0 31 "BeetleDrive$Beetle" "HANGS_ON" "[I"] ++ wsX60)
def wsX6_find : List Cond := .code yX6_find cX6_find 6 (some .int) :: ([.fieldLink RX6 11 "BeetleDrive$Sheets" "drawn" "[I"] ++ wsX60)
def wsX6_linkAndCount_r1 : List Cond := [Cond.fieldLink RX6 11 "BeetleDrive$Sheets" "drawn" "[I", Cond.fieldLink RX6 15 "BeetleDrive$Sheets" "next" "[I", Cond.fieldLink RX6 18 "BeetleDrive$Sheets" "orders" "[I", Cond.constant RX6 56 (111622), Cond.methodLink RX6 50 yX0_draw, Cond.static yX0_draw, Cond.initialized RX0, Cond.code yX0_draw cX0_draw 2 (some .int), Cond.fieldLink RX0 20 "BeetleDrive$Beetle" "MOST" "[I", Cond.fieldLink RX0 28 "BeetleDrive$Beetle" "UNIT" "[I", Cond.static yX11_isWithin, Cond.initialized RX11, Cond.code yX11_isWithin cX11_isWithin 3 (some .boolean), Cond.methodLink RX0 16 yX0_count, Cond.static yX0_count, Cond.code yX0_count cX0_count 2 (some .int), Cond.methodLink RX0 24 yX0_hasWhatItNeeds, Cond.static yX0_hasWhatItNeeds, Cond.code yX0_hasWhatItNeeds cX0_hasWhatItNeeds 3 (some .boolean), Cond.fieldLink RX0 31 "BeetleDrive$Beetle" "HANGS_ON" "[I", Cond.methodLink RX6 53 yX6_find, Cond.instanceMethod yX6_find, Cond.selects RX6 yX6_find yX6_find, Cond.initialized RX6]
def wsX6_linkAndCount_r2 : List Cond := [Cond.code yX6_find cX6_find 6 (some .int)]
def wsX6_linkAndCount : List Cond := .code yX6_linkAndCount cX6_linkAndCount 6 none :: ((wsX6_linkAndCount_r1 ++ wsX6_linkAndCount_r2) ++ wsX60)
def wsX6_init_r1 : List Cond := [Cond.methodLink RX6 3 objectInit, Cond.instanceMethod objectInit, Cond.code objectInit ⟨#[0xb1]⟩ 1 none, Cond.arrayClass .int, Cond.fieldLink RX6 11 "BeetleDrive$Sheets" "drawn" "[I", Cond.fieldLink RX6 15 "BeetleDrive$Sheets" "next" "[I", Cond.fieldLink RX6 18 "BeetleDrive$Sheets" "orders" "[I", Cond.arrayClass .long, Cond.fieldLink RX6 21 "BeetleDrive$Sheets" "ways" "[J", Cond.methodLink RX6 25 yX6_listBeetles, Cond.instanceMethod yX6_listBeetles, Cond.selects RX6 yX6_listBeetles yX6_listBeetles, Cond.initialized RX6, Cond.code yX6_listBeetles cX6_listBeetles 4 none, Cond.methodLink RX6 39 yX6_figuresAt, Cond.static yX6_figuresAt, Cond.code yX6_figuresAt cX6_figuresAt 2 (some .int), Cond.constant RX6 49 (100000), Cond.methodLink RX6 43 yX0_canBe, Cond.static yX0_canBe, Cond.initialized RX0, Cond.code yX0_canBe cX0_canBe 3 (some .boolean), Cond.constant RX0 11 (111622), Cond.fieldLink RX0 20 "BeetleDrive$Beetle" "MOST" "[I"]
def wsX6_init_r2 : List Cond := [Cond.static yX11_isWithin, Cond.initialized RX11, Cond.code yX11_isWithin cX11_isWithin 3 (some .boolean), Cond.methodLink RX0 16 yX0_count, Cond.static yX0_count, Cond.code yX0_count cX0_count 2 (some .int), Cond.fieldLink RX0 28 "BeetleDrive$Beetle" "UNIT" "[I", Cond.methodLink RX0 24 yX0_hasWhatItNeeds, Cond.static yX0_hasWhatItNeeds, Cond.code yX0_hasWhatItNeeds cX0_hasWhatItNeeds 3 (some .boolean), Cond.fieldLink RX0 31 "BeetleDrive$Beetle" "HANGS_ON" "[I", Cond.methodLink RX6 28 yX6_linkAndCount, Cond.instanceMethod yX6_linkAndCount, Cond.selects RX6 yX6_linkAndCount yX6_linkAndCount, Cond.code yX6_linkAndCount cX6_linkAndCount 6 none, Cond.constant RX6 56 (111622), Cond.methodLink RX6 50 yX0_draw, Cond.static yX0_draw, Cond.code yX0_draw cX0_draw 2 (some .int), Cond.methodLink RX6 53 yX6_find, Cond.instanceMethod yX6_find, Cond.selects RX6 yX6_find yX6_find, Cond.code yX6_find cX6_find 6 (some .int)]
def wsX6_init : List Cond := .code yX6_init cX6_init 2 none :: ((wsX6_init_r1 ++ wsX6_init_r2) ++ wsX60)
def wsX6_after : List Cond := .code yX6_after cX6_after 3 (some .int) :: ([.fieldLink RX6 15 "BeetleDrive$Sheets" "next" "[I"] ++ wsX60)
def wsX6_leastThrow : List Cond := .code yX6_leastThrow cX6_leastThrow 3 (some .int) :: ([.methodLink RX6 32 yX6_after, .instanceMethod yX6_after, .selects RX6 yX6_after yX6_after, .initialized RX6, .code yX6_after cX6_after 3 (some .int), .fieldLink RX6 15 "BeetleDrive$Sheets" "next" "[I"] ++ wsX60)
def wsX6_spread : List Cond := .code yX6_spread cX6_spread 5 none :: ([.fieldLink RX6 21 "BeetleDrive$Sheets" "ways" "[J", .methodLink RX6 32 yX6_after, .instanceMethod yX6_after, .selects RX6 yX6_after yX6_after, .initialized RX6, .code yX6_after cX6_after 3 (some .int), .fieldLink RX6 15 "BeetleDrive$Sheets" "next" "[I"] ++ wsX60)
def wsX6_waysToWhole : List Cond := .code yX6_waysToWhole cX6_waysToWhole 5 (some .long) :: ([.fieldLink RX6 21 "BeetleDrive$Sheets" "ways" "[J", .methodLink RX6 36 yX6_spread, .instanceMethod yX6_spread, .selects RX6 yX6_spread yX6_spread, .initialized RX6, .code yX6_spread cX6_spread 5 none, .methodLink RX6 32 yX6_after, .instanceMethod yX6_after, .selects RX6 yX6_after yX6_after, .code yX6_after cX6_after 3 (some .int), .fieldLink RX6 15 "BeetleDrive$Sheets" "next" "[I"] ++ wsX60)
def wsX7_add : List Cond := .code yX7_add cX7_add 3 (some .boolean) :: ([.fieldLink RX7 16 "BeetleDrive$Sights" "size" "I", .fieldLink RX7 9 "BeetleDrive$Sights" "rows" "[I", .fieldLink RX7 13 "BeetleDrive$Sights" "tops" "[I"] ++ wsX70)
def wsX7_clear : List Cond := .code yX7_clear cX7_clear 2 (some .int) :: ([.fieldLink RX7 16 "BeetleDrive$Sights" "size" "I"] ++ wsX70)
def wsX8_init : List Cond := .code yX8_init cX8_init 1 none :: ([.methodLink RX8 3 objectInit, .instanceMethod objectInit, .code objectInit ⟨#[0xb1]⟩ 1 none, .arrayClass .long, .fieldLink RX8 11 "BeetleDrive$Sums" "row" "[J"] ++ wsX80)
def wsX8_addDie : List Cond := .code yX8_addDie cX8_addDie 6 none :: ([.fieldLink RX8 11 "BeetleDrive$Sums" "row" "[J"] ++ wsX80)
def wsX8_ways : List Cond := .code yX8_ways cX8_ways 4 (some .long) :: ([.fieldLink RX8 11 "BeetleDrive$Sums" "row" "[J", .methodLink RX8 15 yX8_addDie, .instanceMethod yX8_addDie, .selects RX8 yX8_addDie yX8_addDie, .initialized RX8, .code yX8_addDie cX8_addDie 6 none] ++ wsX80)
def wsX9_wholeOnes : List Cond := .code yX9_wholeOnes cX9_wholeOnes 3 (some .int) :: ([.methodLink RX9 35 yX9_isWhole, .instanceMethod yX9_isWhole, .selects RX9 yX9_isWhole yX9_isWhole, .initialized RX9, .code yX9_isWhole cX9_isWhole 2 (some .boolean), .fieldLink RX9 9 "BeetleDrive$Table" "drawn" "[I", .constant RX9 30 (111622)] ++ wsX90)
def wsX9_leader : List Cond := .code yX9_leader cX9_leader 3 (some .int) :: ([.methodLink RX9 48 yX9_worth, .instanceMethod yX9_worth, .selects RX9 yX9_worth yX9_worth, .initialized RX9, .code yX9_worth cX9_worth 2 (some .int), .fieldLink RX9 15 "BeetleDrive$Table" "points" "[I", .fieldLink RX9 9 "BeetleDrive$Table" "drawn" "[I", .methodLink RX9 57 yX0_parts, .static yX0_parts, .initialized RX0, .code yX0_parts cX0_parts 3 (some .int), .methodLink RX0 16 yX0_count, .static yX0_count, .code yX0_count cX0_count 2 (some .int), .fieldLink RX0 28 "BeetleDrive$Beetle" "UNIT" "[I"] ++ wsX90)
def wsX9_allParts : List Cond := .code yX9_allParts cX9_allParts 3 (some .int) :: ([.fieldLink RX9 9 "BeetleDrive$Table" "drawn" "[I", .methodLink RX9 57 yX0_parts, .static yX0_parts, .initialized RX0, .code yX0_parts cX0_parts 3 (some .int), .methodLink RX0 16 yX0_count, .static yX0_count, .code yX0_count cX0_count 2 (some .int), .fieldLink RX0 28 "BeetleDrive$Beetle" "UNIT" "[I"] ++ wsX90)
def wsX10_winningTurn : List Cond := .code yX10_winningTurn cX10_winningTurn 5 (some .int) :: ([.fieldLink RX10 11 "BeetleDrive$Turns" "wins" "[I"] ++ wsX100)
def wsX10_init : List Cond := .code yX10_init cX10_init 4 none :: ([.methodLink RX10 3 objectInit, .instanceMethod objectInit, .code objectInit ⟨#[0xb1]⟩ 1 none, .arrayClass .int, .fieldLink RX10 11 "BeetleDrive$Turns" "wins" "[I", .methodLink RX10 15 yX10_winningTurn, .instanceMethod yX10_winningTurn, .selects RX10 yX10_winningTurn yX10_winningTurn, .initialized RX10, .code yX10_winningTurn cX10_winningTurn 5 (some .int)] ++ wsX100)
def wsX11_init_r1 : List Cond := [Cond.methodLink RX11 1 objectInit, Cond.instanceMethod objectInit, Cond.code objectInit ⟨#[0xb1]⟩ 1 none, Cond.classLink RX11 7 RX9, Cond.instantiable RX9 5, Cond.initialized RX9, Cond.fieldLink RX11 10 "BeetleDrive" "now" "LBeetleDrive$Table;", Cond.classLink RX11 16 RX5, Cond.instantiable RX5 2, Cond.initialized RX5, Cond.fieldLink RX11 19 "BeetleDrive" "pad" "LBeetleDrive$Pad;", Cond.classLink RX11 23 RX4, Cond.instantiable RX4 6, Cond.initialized RX4, Cond.fieldLink RX11 26 "BeetleDrive" "match" "LBeetleDrive$Match;", Cond.classLink RX11 30 RX6, Cond.instantiable RX6 4, Cond.initialized RX6, Cond.fieldLink RX11 33 "BeetleDrive" "sheets" "LBeetleDrive$Sheets;", Cond.classLink RX11 37 RX8, Cond.instantiable RX8 1, Cond.initialized RX8, Cond.fieldLink RX11 40 "BeetleDrive" "dice" "LBeetleDrive$Sums;", Cond.classLink RX11 44 RX7]
def wsX11_init_r2 : List Cond := [Cond.instantiable RX7 3, Cond.initialized RX7, Cond.fieldLink RX11 47 "BeetleDrive" "sights" "LBeetleDrive$Sights;", Cond.classLink RX11 51 RX2, Cond.instantiable RX2 3, Cond.initialized RX2, Cond.fieldLink RX11 54 "BeetleDrive" "finder" "LBeetleDrive$Finder;", Cond.classLink RX11 58 RX10, Cond.instantiable RX10 1, Cond.initialized RX10, Cond.fieldLink RX11 61 "BeetleDrive" "turns" "LBeetleDrive$Turns;", Cond.classLink RX11 65 RX3, Cond.instantiable RX3 3, Cond.initialized RX3, Cond.fieldLink RX11 68 "BeetleDrive" "imageZero" "LBeetleDrive$Image;", Cond.fieldLink RX11 72 "BeetleDrive" "imageOne" "LBeetleDrive$Image;", Cond.instanceMethod yX9_init, Cond.code yX9_init cX9_init 1 none, Cond.methodLink RX9 3 objectInit, Cond.arrayClass .int, Cond.fieldLink RX9 9 "BeetleDrive$Table" "drawn" "[I", Cond.fieldLink RX9 15 "BeetleDrive$Table" "points" "[I", Cond.fieldLink RX9 18 "BeetleDrive$Table" "inBits" "I", Cond.instanceMethod yX5_init]
def wsX11_init_r3 : List Cond := [Cond.code yX5_init cX5_init 1 none, Cond.methodLink RX5 3 objectInit, Cond.fieldLink RX5 11 "BeetleDrive$Pad" "signs" "[I", Cond.instanceMethod yX4_init, Cond.code yX4_init cX4_init 1 none, Cond.methodLink RX4 3 objectInit, Cond.classLink RX4 9 RX9, Cond.fieldLink RX4 12 "BeetleDrive$Match" "table" "LBeetleDrive$Table;", Cond.methodLink RX11 32 yX6_init, Cond.instanceMethod yX6_init, Cond.code yX6_init cX6_init 2 none, Cond.methodLink RX6 3 objectInit, Cond.fieldLink RX6 11 "BeetleDrive$Sheets" "drawn" "[I", Cond.fieldLink RX6 15 "BeetleDrive$Sheets" "next" "[I", Cond.fieldLink RX6 18 "BeetleDrive$Sheets" "orders" "[I", Cond.arrayClass .long, Cond.fieldLink RX6 21 "BeetleDrive$Sheets" "ways" "[J", Cond.methodLink RX6 25 yX6_listBeetles, Cond.instanceMethod yX6_listBeetles, Cond.selects RX6 yX6_listBeetles yX6_listBeetles, Cond.code yX6_listBeetles cX6_listBeetles 4 none, Cond.methodLink RX6 39 yX6_figuresAt, Cond.static yX6_figuresAt, Cond.code yX6_figuresAt cX6_figuresAt 2 (some .int)]
def wsX11_init_r4 : List Cond := [Cond.constant RX6 49 (100000), Cond.methodLink RX6 43 yX0_canBe, Cond.static yX0_canBe, Cond.initialized RX0, Cond.code yX0_canBe cX0_canBe 3 (some .boolean), Cond.constant RX0 11 (111622), Cond.fieldLink RX0 20 "BeetleDrive$Beetle" "MOST" "[I", Cond.static yX11_isWithin, Cond.initialized RX11, Cond.code yX11_isWithin cX11_isWithin 3 (some .boolean), Cond.methodLink RX0 16 yX0_count, Cond.static yX0_count, Cond.code yX0_count cX0_count 2 (some .int), Cond.fieldLink RX0 28 "BeetleDrive$Beetle" "UNIT" "[I", Cond.methodLink RX0 24 yX0_hasWhatItNeeds, Cond.static yX0_hasWhatItNeeds, Cond.code yX0_hasWhatItNeeds cX0_hasWhatItNeeds 3 (some .boolean), Cond.fieldLink RX0 31 "BeetleDrive$Beetle" "HANGS_ON" "[I", Cond.methodLink RX6 28 yX6_linkAndCount, Cond.instanceMethod yX6_linkAndCount, Cond.selects RX6 yX6_linkAndCount yX6_linkAndCount, Cond.code yX6_linkAndCount cX6_linkAndCount 6 none, Cond.constant RX6 56 (111622), Cond.methodLink RX6 50 yX0_draw]
def wsX11_init_r5 : List Cond := [Cond.static yX0_draw, Cond.code yX0_draw cX0_draw 2 (some .int), Cond.methodLink RX6 53 yX6_find, Cond.instanceMethod yX6_find, Cond.selects RX6 yX6_find yX6_find, Cond.code yX6_find cX6_find 6 (some .int), Cond.instanceMethod yX8_init, Cond.code yX8_init cX8_init 1 none, Cond.methodLink RX8 3 objectInit, Cond.fieldLink RX8 11 "BeetleDrive$Sums" "row" "[J", Cond.instanceMethod yX7_init, Cond.code yX7_init cX7_init 1 none, Cond.methodLink RX7 1 objectInit, Cond.fieldLink RX7 9 "BeetleDrive$Sights" "rows" "[I", Cond.fieldLink RX7 13 "BeetleDrive$Sights" "tops" "[I", Cond.instanceMethod yX2_init, Cond.code yX2_init cX2_init 1 none, Cond.methodLink RX2 3 objectInit, Cond.fieldLink RX2 11 "BeetleDrive$Finder" "found" "[I", Cond.fieldLink RX2 15 "BeetleDrive$Finder" "tally" "[I", Cond.methodLink RX11 60 yX10_init, Cond.instanceMethod yX10_init, Cond.code yX10_init cX10_init 4 none, Cond.methodLink RX10 3 objectInit]
def wsX11_init_r6 : List Cond := [Cond.fieldLink RX10 11 "BeetleDrive$Turns" "wins" "[I", Cond.methodLink RX10 15 yX10_winningTurn, Cond.instanceMethod yX10_winningTurn, Cond.selects RX10 yX10_winningTurn yX10_winningTurn, Cond.code yX10_winningTurn cX10_winningTurn 5 (some .int), Cond.instanceMethod yX3_init, Cond.code yX3_init cX3_init 1 none, Cond.methodLink RX3 1 objectInit, Cond.classLink RX3 7 RX9, Cond.fieldLink RX3 10 "BeetleDrive$Image" "table" "LBeetleDrive$Table;", Cond.classLink RX3 16 RX7, Cond.fieldLink RX3 19 "BeetleDrive$Image" "sights" "LBeetleDrive$Sights;"]
def wsX11_init : List Cond := .code yX11_init cX11_init 1 none :: ((wsX11_init_r1 ++ (wsX11_init_r2 ++ (wsX11_init_r3 ++ (wsX11_init_r4 ++ (wsX11_init_r5 ++ wsX11_init_r6))))) ++ wsX90 ++ wsX110 ++ wsX50 ++ wsX40 ++ wsX60 ++ wsX80 ++ wsX70 ++ wsX20 ++ wsX100 ++ wsX30)
def wsX11_isPlayer : List Cond := .code yX11_isPlayer cX11_isPlayer 1 (some .boolean) :: ([.methodLink RX11 84 yX11_isWithin, .static yX11_isWithin, .initialized RX11, .code yX11_isWithin cX11_isWithin 3 (some .boolean)])
def wsX11_player : List Cond := .code yX11_player cX11_player 5 (some .int) :: ([.fieldLink RX11 10 "BeetleDrive" "now" "LBeetleDrive$Table;", .methodLink RX11 75 yX11_isPlayer, .static yX11_isPlayer, .initialized RX11, .code yX11_isPlayer cX11_isPlayer 1 (some .boolean), .methodLink RX11 84 yX11_isWithin, .static yX11_isWithin, .code yX11_isWithin cX11_isWithin 3 (some .boolean), .methodLink RX11 79 yX0_canBe, .static yX0_canBe, .initialized RX0, .code yX0_canBe cX0_canBe 3 (some .boolean), .constant RX0 11 (111622), .fieldLink RX0 20 "BeetleDrive$Beetle" "MOST" "[I", .methodLink RX0 16 yX0_count, .static yX0_count, .code yX0_count cX0_count 2 (some .int), .fieldLink RX0 28 "BeetleDrive$Beetle" "UNIT" "[I", .methodLink RX0 24 yX0_hasWhatItNeeds, .static yX0_hasWhatItNeeds, .code yX0_hasWhatItNeeds cX0_hasWhatItNeeds 3 (some .boolean), .fieldLink RX0 31 "BeetleDrive$Beetle" "HANGS_ON" "[I"] ++ wsX110 ++ wsX90)
def wsX11_die : List Cond := .code yX11_die cX11_die 3 (some .int) :: ([.fieldLink RX11 10 "BeetleDrive" "now" "LBeetleDrive$Table;", .methodLink RX11 75 yX11_isPlayer, .static yX11_isPlayer, .initialized RX11, .code yX11_isPlayer cX11_isPlayer 1 (some .boolean), .methodLink RX11 84 yX11_isWithin, .static yX11_isWithin, .code yX11_isWithin cX11_isWithin 3 (some .boolean), .methodLink RX11 95 yX9_isIn, .instanceMethod yX9_isIn, .selects RX9 yX9_isIn yX9_isIn, .initialized RX9, .code yX9_isIn cX9_isIn 2 (some .boolean), .fieldLink RX9 18 "BeetleDrive$Table" "inBits" "I"] ++ wsX110 ++ wsX90)
def wsX11_say : List Cond := .code yX11_say cX11_say 2 (some .int) :: ([.fieldLink RX11 19 "BeetleDrive" "pad" "LBeetleDrive$Pad;", .methodLink RX11 84 yX11_isWithin, .static yX11_isWithin, .initialized RX11, .code yX11_isWithin cX11_isWithin 3 (some .boolean), .methodLink RX11 102 yX5_add, .instanceMethod yX5_add, .selects RX5 yX5_add yX5_add, .initialized RX5, .code yX5_add cX5_add 2 (some .boolean), .fieldLink RX5 15 "BeetleDrive$Pad" "size" "I", .fieldLink RX5 11 "BeetleDrive$Pad" "signs" "[I"] ++ wsX110 ++ wsX50)
def wsX11_wipe : List Cond := .code yX11_wipe cX11_wipe 1 (some .int) :: ([.fieldLink RX11 19 "BeetleDrive" "pad" "LBeetleDrive$Pad;", .methodLink RX11 108 yX5_clear, .instanceMethod yX5_clear, .selects RX5 yX5_clear yX5_clear, .initialized RX5, .code yX5_clear cX5_clear 2 (some .int), .fieldLink RX5 15 "BeetleDrive$Pad" "size" "I"] ++ wsX110 ++ wsX50)
def wsX11_fault : List Cond := .code yX11_fault cX11_fault 1 (some .int) :: ([.fieldLink RX11 19 "BeetleDrive" "pad" "LBeetleDrive$Pad;", .methodLink RX11 112 yX5_firstFault, .instanceMethod yX5_firstFault, .selects RX5 yX5_firstFault yX5_firstFault, .initialized RX5, .code yX5_firstFault cX5_firstFault 3 (some .int), .fieldLink RX5 15 "BeetleDrive$Pad" "size" "I", .fieldLink RX5 11 "BeetleDrive$Pad" "signs" "[I", .methodLink RX5 19 yX5_canStand, .static yX5_canStand, .code yX5_canStand cX5_canStand 2 (some .boolean), .methodLink RX5 31 yX9_isThrow, .static yX9_isThrow, .initialized RX9, .code yX9_isThrow cX9_isThrow 1 (some .boolean), .static yX11_isWithin, .initialized RX11, .code yX11_isWithin cX11_isWithin 3 (some .boolean), .methodLink RX5 23 yX5_isLetter, .static yX5_isLetter, .code yX5_isLetter cX5_isLetter 1 (some .boolean)] ++ wsX110 ++ wsX50)
def wsX11_judge_r1 : List Cond := [Cond.fieldLink RX11 26 "BeetleDrive" "match" "LBeetleDrive$Match;", Cond.fieldLink RX11 19 "BeetleDrive" "pad" "LBeetleDrive$Pad;", Cond.fieldLink RX11 10 "BeetleDrive" "now" "LBeetleDrive$Table;", Cond.methodLink RX11 84 yX11_isWithin, Cond.static yX11_isWithin, Cond.initialized RX11, Cond.code yX11_isWithin cX11_isWithin 3 (some .boolean), Cond.methodLink RX11 115 yX4_playText, Cond.instanceMethod yX4_playText, Cond.selects RX4 yX4_playText yX4_playText, Cond.initialized RX4, Cond.code yX4_playText cX4_playText 6 (some .int), Cond.fieldLink RX4 32 "BeetleDrive$Match" "why" "I", Cond.methodLink RX4 18 yX4_begin, Cond.instanceMethod yX4_begin, Cond.selects RX4 yX4_begin yX4_begin, Cond.code yX4_begin cX4_begin 2 none, Cond.fieldLink RX4 12 "BeetleDrive$Match" "table" "LBeetleDrive$Table;", Cond.fieldLink RX4 55 "BeetleDrive$Match" "acts" "I", Cond.fieldLink RX4 58 "BeetleDrive$Match" "vain" "I", Cond.fieldLink RX4 61 "BeetleDrive$Match" "wholeAct" "I", Cond.fieldLink RX4 64 "BeetleDrive$Match" "wholeWho" "I", Cond.methodLink RX4 52 yX9_copyFrom, Cond.instanceMethod yX9_copyFrom]
def wsX11_judge_r2 : List Cond := [Cond.selects RX9 yX9_copyFrom yX9_copyFrom, Cond.initialized RX9, Cond.code yX9_copyFrom cX9_copyFrom 3 none, Cond.fieldLink RX9 9 "BeetleDrive$Table" "drawn" "[I", Cond.fieldLink RX9 15 "BeetleDrive$Table" "points" "[I", Cond.fieldLink RX9 18 "BeetleDrive$Table" "inBits" "I", Cond.fieldLink RX9 22 "BeetleDrive$Table" "holder" "I", Cond.fieldLink RX9 25 "BeetleDrive$Table" "game" "I", Cond.methodLink RX4 22 yX5_firstFault, Cond.instanceMethod yX5_firstFault, Cond.selects RX5 yX5_firstFault yX5_firstFault, Cond.initialized RX5, Cond.code yX5_firstFault cX5_firstFault 3 (some .int), Cond.fieldLink RX5 15 "BeetleDrive$Pad" "size" "I", Cond.fieldLink RX5 11 "BeetleDrive$Pad" "signs" "[I", Cond.methodLink RX5 19 yX5_canStand, Cond.static yX5_canStand, Cond.code yX5_canStand cX5_canStand 2 (some .boolean), Cond.methodLink RX5 31 yX9_isThrow, Cond.static yX9_isThrow, Cond.code yX9_isThrow cX9_isThrow 1 (some .boolean), Cond.methodLink RX5 23 yX5_isLetter, Cond.static yX5_isLetter, Cond.code yX5_isLetter cX5_isLetter 1 (some .boolean)]
def wsX11_judge_r3 : List Cond := [Cond.methodLink RX4 39 yX5_isLetter, Cond.methodLink RX4 43 yX4_play, Cond.instanceMethod yX4_play, Cond.selects RX4 yX4_play yX4_play, Cond.code yX4_play cX4_play 3 none, Cond.methodLink RX4 67 yX9_whyNot, Cond.instanceMethod yX9_whyNot, Cond.selects RX9 yX9_whyNot yX9_whyNot, Cond.code yX9_whyNot cX9_whyNot 3 (some .int), Cond.methodLink RX9 31 yX9_isThrow, Cond.methodLink RX9 35 yX9_isWhole, Cond.instanceMethod yX9_isWhole, Cond.selects RX9 yX9_isWhole yX9_isWhole, Cond.code yX9_isWhole cX9_isWhole 2 (some .boolean), Cond.constant RX9 30 (111622), Cond.methodLink RX9 38 yX9_isIn, Cond.instanceMethod yX9_isIn, Cond.selects RX9 yX9_isIn yX9_isIn, Cond.code yX9_isIn cX9_isIn 2 (some .boolean), Cond.methodLink RX4 70 yX9_countUp, Cond.instanceMethod yX9_countUp, Cond.selects RX9 yX9_countUp yX9_countUp, Cond.code yX9_countUp cX9_countUp 3 none, Cond.methodLink RX9 52 Lib.Math.min.name]
def wsX11_judge_r4 : List Cond := [Cond.static Lib.Math.min.name, Cond.initialized "java/lang/Math", Cond.code Lib.Math.min.name Lib.Math.min.code 2 (some .int), Cond.methodLink RX9 48 yX9_worth, Cond.instanceMethod yX9_worth, Cond.selects RX9 yX9_worth yX9_worth, Cond.code yX9_worth cX9_worth 2 (some .int), Cond.methodLink RX9 57 yX0_parts, Cond.static yX0_parts, Cond.initialized RX0, Cond.code yX0_parts cX0_parts 3 (some .int), Cond.methodLink RX0 16 yX0_count, Cond.static yX0_count, Cond.code yX0_count cX0_count 2 (some .int), Cond.fieldLink RX0 28 "BeetleDrive$Beetle" "UNIT" "[I", Cond.methodLink RX4 74 yX9_goOrCome, Cond.instanceMethod yX9_goOrCome, Cond.selects RX9 yX9_goOrCome yX9_goOrCome, Cond.code yX9_goOrCome cX9_goOrCome 2 none, Cond.methodLink RX9 45 yX9_passOn, Cond.instanceMethod yX9_passOn, Cond.selects RX9 yX9_passOn yX9_passOn, Cond.code yX9_passOn cX9_passOn 3 none, Cond.methodLink RX4 77 yX9_passOn]
def wsX11_judge_r5 : List Cond := [Cond.methodLink RX4 80 yX9_drawBy, Cond.instanceMethod yX9_drawBy, Cond.selects RX9 yX9_drawBy yX9_drawBy, Cond.code yX9_drawBy cX9_drawBy 4 (some .boolean), Cond.methodLink RX9 41 yX0_draw, Cond.static yX0_draw, Cond.code yX0_draw cX0_draw 2 (some .int), Cond.fieldLink RX0 20 "BeetleDrive$Beetle" "MOST" "[I", Cond.methodLink RX0 24 yX0_hasWhatItNeeds, Cond.static yX0_hasWhatItNeeds, Cond.code yX0_hasWhatItNeeds cX0_hasWhatItNeeds 3 (some .boolean), Cond.fieldLink RX0 31 "BeetleDrive$Beetle" "HANGS_ON" "[I", Cond.methodLink RX4 83 yX4_noteThrow, Cond.instanceMethod yX4_noteThrow, Cond.selects RX4 yX4_noteThrow yX4_noteThrow, Cond.code yX4_noteThrow cX4_noteThrow 2 none, Cond.methodLink RX4 90 yX9_isWhole]
def wsX11_judge : List Cond := .code yX11_judge cX11_judge 3 (some .int) :: ((wsX11_judge_r1 ++ (wsX11_judge_r2 ++ (wsX11_judge_r3 ++ (wsX11_judge_r4 ++ wsX11_judge_r5)))) ++ wsX110 ++ wsX40 ++ wsX50 ++ wsX90)
def wsX11_behind_r1 : List Cond := [Cond.fieldLink RX11 26 "BeetleDrive" "match" "LBeetleDrive$Match;", Cond.fieldLink RX11 19 "BeetleDrive" "pad" "LBeetleDrive$Pad;", Cond.fieldLink RX11 10 "BeetleDrive" "now" "LBeetleDrive$Table;", Cond.methodLink RX11 75 yX11_isPlayer, Cond.static yX11_isPlayer, Cond.initialized RX11, Cond.code yX11_isPlayer cX11_isPlayer 1 (some .boolean), Cond.methodLink RX11 84 yX11_isWithin, Cond.static yX11_isWithin, Cond.code yX11_isWithin cX11_isWithin 3 (some .boolean), Cond.methodLink RX11 115 yX4_playText, Cond.instanceMethod yX4_playText, Cond.selects RX4 yX4_playText yX4_playText, Cond.initialized RX4, Cond.code yX4_playText cX4_playText 6 (some .int), Cond.fieldLink RX4 32 "BeetleDrive$Match" "why" "I", Cond.methodLink RX4 18 yX4_begin, Cond.instanceMethod yX4_begin, Cond.selects RX4 yX4_begin yX4_begin, Cond.code yX4_begin cX4_begin 2 none, Cond.fieldLink RX4 12 "BeetleDrive$Match" "table" "LBeetleDrive$Table;", Cond.fieldLink RX4 55 "BeetleDrive$Match" "acts" "I", Cond.fieldLink RX4 58 "BeetleDrive$Match" "vain" "I", Cond.fieldLink RX4 61 "BeetleDrive$Match" "wholeAct" "I"]
def wsX11_behind_r2 : List Cond := [Cond.fieldLink RX4 64 "BeetleDrive$Match" "wholeWho" "I", Cond.methodLink RX4 52 yX9_copyFrom, Cond.instanceMethod yX9_copyFrom, Cond.selects RX9 yX9_copyFrom yX9_copyFrom, Cond.initialized RX9, Cond.code yX9_copyFrom cX9_copyFrom 3 none, Cond.fieldLink RX9 9 "BeetleDrive$Table" "drawn" "[I", Cond.fieldLink RX9 15 "BeetleDrive$Table" "points" "[I", Cond.fieldLink RX9 18 "BeetleDrive$Table" "inBits" "I", Cond.fieldLink RX9 22 "BeetleDrive$Table" "holder" "I", Cond.fieldLink RX9 25 "BeetleDrive$Table" "game" "I", Cond.methodLink RX4 22 yX5_firstFault, Cond.instanceMethod yX5_firstFault, Cond.selects RX5 yX5_firstFault yX5_firstFault, Cond.initialized RX5, Cond.code yX5_firstFault cX5_firstFault 3 (some .int), Cond.fieldLink RX5 15 "BeetleDrive$Pad" "size" "I", Cond.fieldLink RX5 11 "BeetleDrive$Pad" "signs" "[I", Cond.methodLink RX5 19 yX5_canStand, Cond.static yX5_canStand, Cond.code yX5_canStand cX5_canStand 2 (some .boolean), Cond.methodLink RX5 31 yX9_isThrow, Cond.static yX9_isThrow, Cond.code yX9_isThrow cX9_isThrow 1 (some .boolean)]
def wsX11_behind_r3 : List Cond := [Cond.methodLink RX5 23 yX5_isLetter, Cond.static yX5_isLetter, Cond.code yX5_isLetter cX5_isLetter 1 (some .boolean), Cond.methodLink RX4 39 yX5_isLetter, Cond.methodLink RX4 43 yX4_play, Cond.instanceMethod yX4_play, Cond.selects RX4 yX4_play yX4_play, Cond.code yX4_play cX4_play 3 none, Cond.methodLink RX4 67 yX9_whyNot, Cond.instanceMethod yX9_whyNot, Cond.selects RX9 yX9_whyNot yX9_whyNot, Cond.code yX9_whyNot cX9_whyNot 3 (some .int), Cond.methodLink RX9 31 yX9_isThrow, Cond.methodLink RX9 35 yX9_isWhole, Cond.instanceMethod yX9_isWhole, Cond.selects RX9 yX9_isWhole yX9_isWhole, Cond.code yX9_isWhole cX9_isWhole 2 (some .boolean), Cond.constant RX9 30 (111622), Cond.methodLink RX9 38 yX9_isIn, Cond.instanceMethod yX9_isIn, Cond.selects RX9 yX9_isIn yX9_isIn, Cond.code yX9_isIn cX9_isIn 2 (some .boolean), Cond.methodLink RX4 70 yX9_countUp, Cond.instanceMethod yX9_countUp]
def wsX11_behind_r4 : List Cond := [Cond.selects RX9 yX9_countUp yX9_countUp, Cond.code yX9_countUp cX9_countUp 3 none, Cond.methodLink RX9 52 Lib.Math.min.name, Cond.static Lib.Math.min.name, Cond.initialized "java/lang/Math", Cond.code Lib.Math.min.name Lib.Math.min.code 2 (some .int), Cond.methodLink RX9 48 yX9_worth, Cond.instanceMethod yX9_worth, Cond.selects RX9 yX9_worth yX9_worth, Cond.code yX9_worth cX9_worth 2 (some .int), Cond.methodLink RX9 57 yX0_parts, Cond.static yX0_parts, Cond.initialized RX0, Cond.code yX0_parts cX0_parts 3 (some .int), Cond.methodLink RX0 16 yX0_count, Cond.static yX0_count, Cond.code yX0_count cX0_count 2 (some .int), Cond.fieldLink RX0 28 "BeetleDrive$Beetle" "UNIT" "[I", Cond.methodLink RX4 74 yX9_goOrCome, Cond.instanceMethod yX9_goOrCome, Cond.selects RX9 yX9_goOrCome yX9_goOrCome, Cond.code yX9_goOrCome cX9_goOrCome 2 none, Cond.methodLink RX9 45 yX9_passOn, Cond.instanceMethod yX9_passOn]
def wsX11_behind_r5 : List Cond := [Cond.selects RX9 yX9_passOn yX9_passOn, Cond.code yX9_passOn cX9_passOn 3 none, Cond.methodLink RX4 77 yX9_passOn, Cond.methodLink RX4 80 yX9_drawBy, Cond.instanceMethod yX9_drawBy, Cond.selects RX9 yX9_drawBy yX9_drawBy, Cond.code yX9_drawBy cX9_drawBy 4 (some .boolean), Cond.methodLink RX9 41 yX0_draw, Cond.static yX0_draw, Cond.code yX0_draw cX0_draw 2 (some .int), Cond.fieldLink RX0 20 "BeetleDrive$Beetle" "MOST" "[I", Cond.methodLink RX0 24 yX0_hasWhatItNeeds, Cond.static yX0_hasWhatItNeeds, Cond.code yX0_hasWhatItNeeds cX0_hasWhatItNeeds 3 (some .boolean), Cond.fieldLink RX0 31 "BeetleDrive$Beetle" "HANGS_ON" "[I", Cond.methodLink RX4 83 yX4_noteThrow, Cond.instanceMethod yX4_noteThrow, Cond.selects RX4 yX4_noteThrow yX4_noteThrow, Cond.code yX4_noteThrow cX4_noteThrow 2 none, Cond.methodLink RX4 90 yX9_isWhole, Cond.methodLink RX11 131 yX0_parts, Cond.methodLink RX11 95 yX9_isIn]
def wsX11_behind : List Cond := .code yX11_behind cX11_behind 4 (some .int) :: ((wsX11_behind_r1 ++ (wsX11_behind_r2 ++ (wsX11_behind_r3 ++ (wsX11_behind_r4 ++ wsX11_behind_r5)))) ++ wsX110 ++ wsX40 ++ wsX90 ++ wsX50)
def wsX11_table_r1 : List Cond := [Cond.fieldLink RX11 26 "BeetleDrive" "match" "LBeetleDrive$Match;", Cond.fieldLink RX11 19 "BeetleDrive" "pad" "LBeetleDrive$Pad;", Cond.fieldLink RX11 10 "BeetleDrive" "now" "LBeetleDrive$Table;", Cond.methodLink RX11 84 yX11_isWithin, Cond.static yX11_isWithin, Cond.initialized RX11, Cond.code yX11_isWithin cX11_isWithin 3 (some .boolean), Cond.methodLink RX11 115 yX4_playText, Cond.instanceMethod yX4_playText, Cond.selects RX4 yX4_playText yX4_playText, Cond.initialized RX4, Cond.code yX4_playText cX4_playText 6 (some .int), Cond.fieldLink RX4 32 "BeetleDrive$Match" "why" "I", Cond.methodLink RX4 18 yX4_begin, Cond.instanceMethod yX4_begin, Cond.selects RX4 yX4_begin yX4_begin, Cond.code yX4_begin cX4_begin 2 none, Cond.fieldLink RX4 12 "BeetleDrive$Match" "table" "LBeetleDrive$Table;", Cond.fieldLink RX4 55 "BeetleDrive$Match" "acts" "I", Cond.fieldLink RX4 58 "BeetleDrive$Match" "vain" "I", Cond.fieldLink RX4 61 "BeetleDrive$Match" "wholeAct" "I", Cond.fieldLink RX4 64 "BeetleDrive$Match" "wholeWho" "I", Cond.methodLink RX4 52 yX9_copyFrom, Cond.instanceMethod yX9_copyFrom]
def wsX11_table_r2 : List Cond := [Cond.selects RX9 yX9_copyFrom yX9_copyFrom, Cond.initialized RX9, Cond.code yX9_copyFrom cX9_copyFrom 3 none, Cond.fieldLink RX9 9 "BeetleDrive$Table" "drawn" "[I", Cond.fieldLink RX9 15 "BeetleDrive$Table" "points" "[I", Cond.fieldLink RX9 18 "BeetleDrive$Table" "inBits" "I", Cond.fieldLink RX9 22 "BeetleDrive$Table" "holder" "I", Cond.fieldLink RX9 25 "BeetleDrive$Table" "game" "I", Cond.methodLink RX4 22 yX5_firstFault, Cond.instanceMethod yX5_firstFault, Cond.selects RX5 yX5_firstFault yX5_firstFault, Cond.initialized RX5, Cond.code yX5_firstFault cX5_firstFault 3 (some .int), Cond.fieldLink RX5 15 "BeetleDrive$Pad" "size" "I", Cond.fieldLink RX5 11 "BeetleDrive$Pad" "signs" "[I", Cond.methodLink RX5 19 yX5_canStand, Cond.static yX5_canStand, Cond.code yX5_canStand cX5_canStand 2 (some .boolean), Cond.methodLink RX5 31 yX9_isThrow, Cond.static yX9_isThrow, Cond.code yX9_isThrow cX9_isThrow 1 (some .boolean), Cond.methodLink RX5 23 yX5_isLetter, Cond.static yX5_isLetter, Cond.code yX5_isLetter cX5_isLetter 1 (some .boolean)]
def wsX11_table_r3 : List Cond := [Cond.methodLink RX4 39 yX5_isLetter, Cond.methodLink RX4 43 yX4_play, Cond.instanceMethod yX4_play, Cond.selects RX4 yX4_play yX4_play, Cond.code yX4_play cX4_play 3 none, Cond.methodLink RX4 67 yX9_whyNot, Cond.instanceMethod yX9_whyNot, Cond.selects RX9 yX9_whyNot yX9_whyNot, Cond.code yX9_whyNot cX9_whyNot 3 (some .int), Cond.methodLink RX9 31 yX9_isThrow, Cond.methodLink RX9 35 yX9_isWhole, Cond.instanceMethod yX9_isWhole, Cond.selects RX9 yX9_isWhole yX9_isWhole, Cond.code yX9_isWhole cX9_isWhole 2 (some .boolean), Cond.constant RX9 30 (111622), Cond.methodLink RX9 38 yX9_isIn, Cond.instanceMethod yX9_isIn, Cond.selects RX9 yX9_isIn yX9_isIn, Cond.code yX9_isIn cX9_isIn 2 (some .boolean), Cond.methodLink RX4 70 yX9_countUp, Cond.instanceMethod yX9_countUp, Cond.selects RX9 yX9_countUp yX9_countUp, Cond.code yX9_countUp cX9_countUp 3 none, Cond.methodLink RX9 52 Lib.Math.min.name]
def wsX11_table_r4 : List Cond := [Cond.static Lib.Math.min.name, Cond.initialized "java/lang/Math", Cond.code Lib.Math.min.name Lib.Math.min.code 2 (some .int), Cond.methodLink RX9 48 yX9_worth, Cond.instanceMethod yX9_worth, Cond.selects RX9 yX9_worth yX9_worth, Cond.code yX9_worth cX9_worth 2 (some .int), Cond.methodLink RX9 57 yX0_parts, Cond.static yX0_parts, Cond.initialized RX0, Cond.code yX0_parts cX0_parts 3 (some .int), Cond.methodLink RX0 16 yX0_count, Cond.static yX0_count, Cond.code yX0_count cX0_count 2 (some .int), Cond.fieldLink RX0 28 "BeetleDrive$Beetle" "UNIT" "[I", Cond.methodLink RX4 74 yX9_goOrCome, Cond.instanceMethod yX9_goOrCome, Cond.selects RX9 yX9_goOrCome yX9_goOrCome, Cond.code yX9_goOrCome cX9_goOrCome 2 none, Cond.methodLink RX9 45 yX9_passOn, Cond.instanceMethod yX9_passOn, Cond.selects RX9 yX9_passOn yX9_passOn, Cond.code yX9_passOn cX9_passOn 3 none, Cond.methodLink RX4 77 yX9_passOn]
def wsX11_table_r5 : List Cond := [Cond.methodLink RX4 80 yX9_drawBy, Cond.instanceMethod yX9_drawBy, Cond.selects RX9 yX9_drawBy yX9_drawBy, Cond.code yX9_drawBy cX9_drawBy 4 (some .boolean), Cond.methodLink RX9 41 yX0_draw, Cond.static yX0_draw, Cond.code yX0_draw cX0_draw 2 (some .int), Cond.fieldLink RX0 20 "BeetleDrive$Beetle" "MOST" "[I", Cond.methodLink RX0 24 yX0_hasWhatItNeeds, Cond.static yX0_hasWhatItNeeds, Cond.code yX0_hasWhatItNeeds cX0_hasWhatItNeeds 3 (some .boolean), Cond.fieldLink RX0 31 "BeetleDrive$Beetle" "HANGS_ON" "[I", Cond.methodLink RX4 83 yX4_noteThrow, Cond.instanceMethod yX4_noteThrow, Cond.selects RX4 yX4_noteThrow yX4_noteThrow, Cond.code yX4_noteThrow cX4_noteThrow 2 none, Cond.methodLink RX4 90 yX9_isWhole, Cond.methodLink RX11 138 yX9_wholeOnes, Cond.instanceMethod yX9_wholeOnes, Cond.selects RX9 yX9_wholeOnes yX9_wholeOnes, Cond.code yX9_wholeOnes cX9_wholeOnes 3 (some .int), Cond.methodLink RX11 141 yX9_leader, Cond.instanceMethod yX9_leader, Cond.selects RX9 yX9_leader yX9_leader]
def wsX11_table_r6 : List Cond := [Cond.code yX9_leader cX9_leader 3 (some .int)]
def wsX11_table : List Cond := .code yX11_table cX11_table 3 (some .int) :: ((wsX11_table_r1 ++ (wsX11_table_r2 ++ (wsX11_table_r3 ++ (wsX11_table_r4 ++ (wsX11_table_r5 ++ wsX11_table_r6))))) ++ wsX110 ++ wsX40 ++ wsX90 ++ wsX50)
def wsX11_first_r1 : List Cond := [Cond.fieldLink RX11 26 "BeetleDrive" "match" "LBeetleDrive$Match;", Cond.fieldLink RX11 19 "BeetleDrive" "pad" "LBeetleDrive$Pad;", Cond.fieldLink RX11 10 "BeetleDrive" "now" "LBeetleDrive$Table;", Cond.methodLink RX11 84 yX11_isWithin, Cond.static yX11_isWithin, Cond.initialized RX11, Cond.code yX11_isWithin cX11_isWithin 3 (some .boolean), Cond.methodLink RX11 115 yX4_playText, Cond.instanceMethod yX4_playText, Cond.selects RX4 yX4_playText yX4_playText, Cond.initialized RX4, Cond.code yX4_playText cX4_playText 6 (some .int), Cond.fieldLink RX4 32 "BeetleDrive$Match" "why" "I", Cond.methodLink RX4 18 yX4_begin, Cond.instanceMethod yX4_begin, Cond.selects RX4 yX4_begin yX4_begin, Cond.code yX4_begin cX4_begin 2 none, Cond.fieldLink RX4 12 "BeetleDrive$Match" "table" "LBeetleDrive$Table;", Cond.fieldLink RX4 55 "BeetleDrive$Match" "acts" "I", Cond.fieldLink RX4 58 "BeetleDrive$Match" "vain" "I", Cond.fieldLink RX4 61 "BeetleDrive$Match" "wholeAct" "I", Cond.fieldLink RX4 64 "BeetleDrive$Match" "wholeWho" "I", Cond.methodLink RX4 52 yX9_copyFrom, Cond.instanceMethod yX9_copyFrom]
def wsX11_first_r2 : List Cond := [Cond.selects RX9 yX9_copyFrom yX9_copyFrom, Cond.initialized RX9, Cond.code yX9_copyFrom cX9_copyFrom 3 none, Cond.fieldLink RX9 9 "BeetleDrive$Table" "drawn" "[I", Cond.fieldLink RX9 15 "BeetleDrive$Table" "points" "[I", Cond.fieldLink RX9 18 "BeetleDrive$Table" "inBits" "I", Cond.fieldLink RX9 22 "BeetleDrive$Table" "holder" "I", Cond.fieldLink RX9 25 "BeetleDrive$Table" "game" "I", Cond.methodLink RX4 22 yX5_firstFault, Cond.instanceMethod yX5_firstFault, Cond.selects RX5 yX5_firstFault yX5_firstFault, Cond.initialized RX5, Cond.code yX5_firstFault cX5_firstFault 3 (some .int), Cond.fieldLink RX5 15 "BeetleDrive$Pad" "size" "I", Cond.fieldLink RX5 11 "BeetleDrive$Pad" "signs" "[I", Cond.methodLink RX5 19 yX5_canStand, Cond.static yX5_canStand, Cond.code yX5_canStand cX5_canStand 2 (some .boolean), Cond.methodLink RX5 31 yX9_isThrow, Cond.static yX9_isThrow, Cond.code yX9_isThrow cX9_isThrow 1 (some .boolean), Cond.methodLink RX5 23 yX5_isLetter, Cond.static yX5_isLetter, Cond.code yX5_isLetter cX5_isLetter 1 (some .boolean)]
def wsX11_first_r3 : List Cond := [Cond.methodLink RX4 39 yX5_isLetter, Cond.methodLink RX4 43 yX4_play, Cond.instanceMethod yX4_play, Cond.selects RX4 yX4_play yX4_play, Cond.code yX4_play cX4_play 3 none, Cond.methodLink RX4 67 yX9_whyNot, Cond.instanceMethod yX9_whyNot, Cond.selects RX9 yX9_whyNot yX9_whyNot, Cond.code yX9_whyNot cX9_whyNot 3 (some .int), Cond.methodLink RX9 31 yX9_isThrow, Cond.methodLink RX9 35 yX9_isWhole, Cond.instanceMethod yX9_isWhole, Cond.selects RX9 yX9_isWhole yX9_isWhole, Cond.code yX9_isWhole cX9_isWhole 2 (some .boolean), Cond.constant RX9 30 (111622), Cond.methodLink RX9 38 yX9_isIn, Cond.instanceMethod yX9_isIn, Cond.selects RX9 yX9_isIn yX9_isIn, Cond.code yX9_isIn cX9_isIn 2 (some .boolean), Cond.methodLink RX4 70 yX9_countUp, Cond.instanceMethod yX9_countUp, Cond.selects RX9 yX9_countUp yX9_countUp, Cond.code yX9_countUp cX9_countUp 3 none, Cond.methodLink RX9 52 Lib.Math.min.name]
def wsX11_first_r4 : List Cond := [Cond.static Lib.Math.min.name, Cond.initialized "java/lang/Math", Cond.code Lib.Math.min.name Lib.Math.min.code 2 (some .int), Cond.methodLink RX9 48 yX9_worth, Cond.instanceMethod yX9_worth, Cond.selects RX9 yX9_worth yX9_worth, Cond.code yX9_worth cX9_worth 2 (some .int), Cond.methodLink RX9 57 yX0_parts, Cond.static yX0_parts, Cond.initialized RX0, Cond.code yX0_parts cX0_parts 3 (some .int), Cond.methodLink RX0 16 yX0_count, Cond.static yX0_count, Cond.code yX0_count cX0_count 2 (some .int), Cond.fieldLink RX0 28 "BeetleDrive$Beetle" "UNIT" "[I", Cond.methodLink RX4 74 yX9_goOrCome, Cond.instanceMethod yX9_goOrCome, Cond.selects RX9 yX9_goOrCome yX9_goOrCome, Cond.code yX9_goOrCome cX9_goOrCome 2 none, Cond.methodLink RX9 45 yX9_passOn, Cond.instanceMethod yX9_passOn, Cond.selects RX9 yX9_passOn yX9_passOn, Cond.code yX9_passOn cX9_passOn 3 none, Cond.methodLink RX4 77 yX9_passOn]
def wsX11_first_r5 : List Cond := [Cond.methodLink RX4 80 yX9_drawBy, Cond.instanceMethod yX9_drawBy, Cond.selects RX9 yX9_drawBy yX9_drawBy, Cond.code yX9_drawBy cX9_drawBy 4 (some .boolean), Cond.methodLink RX9 41 yX0_draw, Cond.static yX0_draw, Cond.code yX0_draw cX0_draw 2 (some .int), Cond.fieldLink RX0 20 "BeetleDrive$Beetle" "MOST" "[I", Cond.methodLink RX0 24 yX0_hasWhatItNeeds, Cond.static yX0_hasWhatItNeeds, Cond.code yX0_hasWhatItNeeds cX0_hasWhatItNeeds 3 (some .boolean), Cond.fieldLink RX0 31 "BeetleDrive$Beetle" "HANGS_ON" "[I", Cond.methodLink RX4 83 yX4_noteThrow, Cond.instanceMethod yX4_noteThrow, Cond.selects RX4 yX4_noteThrow yX4_noteThrow, Cond.code yX4_noteThrow cX4_noteThrow 2 none, Cond.methodLink RX4 90 yX9_isWhole]
def wsX11_first : List Cond := .code yX11_first cX11_first 3 (some .int) :: ((wsX11_first_r1 ++ (wsX11_first_r2 ++ (wsX11_first_r3 ++ (wsX11_first_r4 ++ wsX11_first_r5)))) ++ wsX110 ++ wsX40 ++ wsX50 ++ wsX90)
def wsX11_done_r1 : List Cond := [Cond.fieldLink RX11 26 "BeetleDrive" "match" "LBeetleDrive$Match;", Cond.fieldLink RX11 19 "BeetleDrive" "pad" "LBeetleDrive$Pad;", Cond.fieldLink RX11 10 "BeetleDrive" "now" "LBeetleDrive$Table;", Cond.methodLink RX11 115 yX4_playText, Cond.instanceMethod yX4_playText, Cond.selects RX4 yX4_playText yX4_playText, Cond.initialized RX4, Cond.code yX4_playText cX4_playText 6 (some .int), Cond.fieldLink RX4 32 "BeetleDrive$Match" "why" "I", Cond.methodLink RX4 18 yX4_begin, Cond.instanceMethod yX4_begin, Cond.selects RX4 yX4_begin yX4_begin, Cond.code yX4_begin cX4_begin 2 none, Cond.fieldLink RX4 12 "BeetleDrive$Match" "table" "LBeetleDrive$Table;", Cond.fieldLink RX4 55 "BeetleDrive$Match" "acts" "I", Cond.fieldLink RX4 58 "BeetleDrive$Match" "vain" "I", Cond.fieldLink RX4 61 "BeetleDrive$Match" "wholeAct" "I", Cond.fieldLink RX4 64 "BeetleDrive$Match" "wholeWho" "I", Cond.methodLink RX4 52 yX9_copyFrom, Cond.instanceMethod yX9_copyFrom, Cond.selects RX9 yX9_copyFrom yX9_copyFrom, Cond.initialized RX9, Cond.code yX9_copyFrom cX9_copyFrom 3 none, Cond.fieldLink RX9 9 "BeetleDrive$Table" "drawn" "[I"]
def wsX11_done_r2 : List Cond := [Cond.fieldLink RX9 15 "BeetleDrive$Table" "points" "[I", Cond.fieldLink RX9 18 "BeetleDrive$Table" "inBits" "I", Cond.fieldLink RX9 22 "BeetleDrive$Table" "holder" "I", Cond.fieldLink RX9 25 "BeetleDrive$Table" "game" "I", Cond.methodLink RX4 22 yX5_firstFault, Cond.instanceMethod yX5_firstFault, Cond.selects RX5 yX5_firstFault yX5_firstFault, Cond.initialized RX5, Cond.code yX5_firstFault cX5_firstFault 3 (some .int), Cond.fieldLink RX5 15 "BeetleDrive$Pad" "size" "I", Cond.fieldLink RX5 11 "BeetleDrive$Pad" "signs" "[I", Cond.methodLink RX5 19 yX5_canStand, Cond.static yX5_canStand, Cond.code yX5_canStand cX5_canStand 2 (some .boolean), Cond.methodLink RX5 31 yX9_isThrow, Cond.static yX9_isThrow, Cond.code yX9_isThrow cX9_isThrow 1 (some .boolean), Cond.static yX11_isWithin, Cond.initialized RX11, Cond.code yX11_isWithin cX11_isWithin 3 (some .boolean), Cond.methodLink RX5 23 yX5_isLetter, Cond.static yX5_isLetter, Cond.code yX5_isLetter cX5_isLetter 1 (some .boolean), Cond.methodLink RX4 39 yX5_isLetter]
def wsX11_done_r3 : List Cond := [Cond.methodLink RX4 43 yX4_play, Cond.instanceMethod yX4_play, Cond.selects RX4 yX4_play yX4_play, Cond.code yX4_play cX4_play 3 none, Cond.methodLink RX4 67 yX9_whyNot, Cond.instanceMethod yX9_whyNot, Cond.selects RX9 yX9_whyNot yX9_whyNot, Cond.code yX9_whyNot cX9_whyNot 3 (some .int), Cond.methodLink RX9 31 yX9_isThrow, Cond.methodLink RX9 35 yX9_isWhole, Cond.instanceMethod yX9_isWhole, Cond.selects RX9 yX9_isWhole yX9_isWhole, Cond.code yX9_isWhole cX9_isWhole 2 (some .boolean), Cond.constant RX9 30 (111622), Cond.methodLink RX9 38 yX9_isIn, Cond.instanceMethod yX9_isIn, Cond.selects RX9 yX9_isIn yX9_isIn, Cond.code yX9_isIn cX9_isIn 2 (some .boolean), Cond.methodLink RX4 70 yX9_countUp, Cond.instanceMethod yX9_countUp, Cond.selects RX9 yX9_countUp yX9_countUp, Cond.code yX9_countUp cX9_countUp 3 none, Cond.methodLink RX9 52 Lib.Math.min.name, Cond.static Lib.Math.min.name]
def wsX11_done_r4 : List Cond := [Cond.initialized "java/lang/Math", Cond.code Lib.Math.min.name Lib.Math.min.code 2 (some .int), Cond.methodLink RX9 48 yX9_worth, Cond.instanceMethod yX9_worth, Cond.selects RX9 yX9_worth yX9_worth, Cond.code yX9_worth cX9_worth 2 (some .int), Cond.methodLink RX9 57 yX0_parts, Cond.static yX0_parts, Cond.initialized RX0, Cond.code yX0_parts cX0_parts 3 (some .int), Cond.methodLink RX0 16 yX0_count, Cond.static yX0_count, Cond.code yX0_count cX0_count 2 (some .int), Cond.fieldLink RX0 28 "BeetleDrive$Beetle" "UNIT" "[I", Cond.methodLink RX4 74 yX9_goOrCome, Cond.instanceMethod yX9_goOrCome, Cond.selects RX9 yX9_goOrCome yX9_goOrCome, Cond.code yX9_goOrCome cX9_goOrCome 2 none, Cond.methodLink RX9 45 yX9_passOn, Cond.instanceMethod yX9_passOn, Cond.selects RX9 yX9_passOn yX9_passOn, Cond.code yX9_passOn cX9_passOn 3 none, Cond.methodLink RX4 77 yX9_passOn, Cond.methodLink RX4 80 yX9_drawBy]
def wsX11_done_r5 : List Cond := [Cond.instanceMethod yX9_drawBy, Cond.selects RX9 yX9_drawBy yX9_drawBy, Cond.code yX9_drawBy cX9_drawBy 4 (some .boolean), Cond.methodLink RX9 41 yX0_draw, Cond.static yX0_draw, Cond.code yX0_draw cX0_draw 2 (some .int), Cond.fieldLink RX0 20 "BeetleDrive$Beetle" "MOST" "[I", Cond.methodLink RX0 24 yX0_hasWhatItNeeds, Cond.static yX0_hasWhatItNeeds, Cond.code yX0_hasWhatItNeeds cX0_hasWhatItNeeds 3 (some .boolean), Cond.fieldLink RX0 31 "BeetleDrive$Beetle" "HANGS_ON" "[I", Cond.methodLink RX4 83 yX4_noteThrow, Cond.instanceMethod yX4_noteThrow, Cond.selects RX4 yX4_noteThrow yX4_noteThrow, Cond.code yX4_noteThrow cX4_noteThrow 2 none, Cond.methodLink RX4 90 yX9_isWhole, Cond.methodLink RX11 150 yX9_copyFrom, Cond.methodLink RX11 108 yX5_clear, Cond.instanceMethod yX5_clear, Cond.selects RX5 yX5_clear yX5_clear, Cond.code yX5_clear cX5_clear 2 (some .int)]
def wsX11_done : List Cond := .code yX11_done cX11_done 2 (some .int) :: ((wsX11_done_r1 ++ (wsX11_done_r2 ++ (wsX11_done_r3 ++ (wsX11_done_r4 ++ wsX11_done_r5)))) ++ wsX110 ++ wsX40 ++ wsX50 ++ wsX90)
def wsX11_orders : List Cond := .code yX11_orders cX11_orders 4 (some .int) :: ([.fieldLink RX11 33 "BeetleDrive" "sheets" "LBeetleDrive$Sheets;", .methodLink RX11 154 yX6_find, .instanceMethod yX6_find, .selects RX6 yX6_find yX6_find, .initialized RX6, .code yX6_find cX6_find 6 (some .int), .fieldLink RX6 11 "BeetleDrive$Sheets" "drawn" "[I", .methodLink RX11 84 yX11_isWithin, .static yX11_isWithin, .initialized RX11, .code yX11_isWithin cX11_isWithin 3 (some .boolean), .methodLink RX11 160 yX6_leastThrow, .instanceMethod yX6_leastThrow, .selects RX6 yX6_leastThrow yX6_leastThrow, .code yX6_leastThrow cX6_leastThrow 3 (some .int), .methodLink RX6 32 yX6_after, .instanceMethod yX6_after, .selects RX6 yX6_after yX6_after, .code yX6_after cX6_after 3 (some .int), .fieldLink RX6 15 "BeetleDrive$Sheets" "next" "[I"] ++ wsX110 ++ wsX60)
def wsX11_lowestTerms : List Cond := .code yX11_lowestTerms cX11_lowestTerms 9 (some .long) :: ([.constantLong RX11 241 (6), .constantLong RX11 243 (2), .constantLong RX11 245 (3)])
def wsX11_whole_r1 : List Cond := [Cond.fieldLink RX11 33 "BeetleDrive" "sheets" "LBeetleDrive$Sheets;", Cond.constantLong RX11 163 (-1000000000000000002), Cond.methodLink RX11 154 yX6_find, Cond.instanceMethod yX6_find, Cond.selects RX6 yX6_find yX6_find, Cond.initialized RX6, Cond.code yX6_find cX6_find 6 (some .int), Cond.fieldLink RX6 11 "BeetleDrive$Sheets" "drawn" "[I", Cond.methodLink RX11 84 yX11_isWithin, Cond.static yX11_isWithin, Cond.initialized RX11, Cond.code yX11_isWithin cX11_isWithin 3 (some .boolean), Cond.methodLink RX11 165 yX6_waysToWhole, Cond.instanceMethod yX6_waysToWhole, Cond.selects RX6 yX6_waysToWhole yX6_waysToWhole, Cond.code yX6_waysToWhole cX6_waysToWhole 5 (some .long), Cond.fieldLink RX6 21 "BeetleDrive$Sheets" "ways" "[J", Cond.methodLink RX6 36 yX6_spread, Cond.instanceMethod yX6_spread, Cond.selects RX6 yX6_spread yX6_spread, Cond.code yX6_spread cX6_spread 5 none, Cond.methodLink RX6 32 yX6_after, Cond.instanceMethod yX6_after, Cond.selects RX6 yX6_after yX6_after]
def wsX11_whole_r2 : List Cond := [Cond.code yX6_after cX6_after 3 (some .int), Cond.fieldLink RX6 15 "BeetleDrive$Sheets" "next" "[I", Cond.methodLink RX11 169 yX11_lowestTerms, Cond.static yX11_lowestTerms, Cond.code yX11_lowestTerms cX11_lowestTerms 9 (some .long), Cond.constantLong RX11 241 (6), Cond.constantLong RX11 243 (2), Cond.constantLong RX11 245 (3)]
def wsX11_whole : List Cond := .code yX11_whole cX11_whole 5 (some .long) :: ((wsX11_whole_r1 ++ wsX11_whole_r2) ++ wsX110 ++ wsX60)
def wsX11_sums : List Cond := .code yX11_sums cX11_sums 3 (some .long) :: ([.constantLong RX11 173 (-2), .fieldLink RX11 40 "BeetleDrive" "dice" "LBeetleDrive$Sums;", .methodLink RX11 84 yX11_isWithin, .static yX11_isWithin, .initialized RX11, .code yX11_isWithin cX11_isWithin 3 (some .boolean), .methodLink RX11 175 yX8_ways, .instanceMethod yX8_ways, .selects RX8 yX8_ways yX8_ways, .initialized RX8, .code yX8_ways cX8_ways 4 (some .long), .fieldLink RX8 11 "BeetleDrive$Sums" "row" "[J", .methodLink RX8 15 yX8_addDie, .instanceMethod yX8_addDie, .selects RX8 yX8_addDie yX8_addDie, .code yX8_addDie cX8_addDie 6 none] ++ wsX110 ++ wsX80)
def wsX11_roll : List Cond := .code yX11_roll cX11_roll 3 (some .int) :: ([.methodLink RX11 178 yX1_canLie, .static yX1_canLie, .initialized RX1, .code yX1_canLie cX1_canLie 3 (some .boolean), .static yX11_isWithin, .initialized RX11, .code yX11_isWithin cX11_isWithin 3 (some .boolean), .methodLink RX11 183 yX1_isRow, .static yX1_isRow, .code yX1_isRow cX1_isRow 3 (some .boolean), .constant RX1 15 (1333333), .methodLink RX11 186 yX1_topAfter, .static yX1_topAfter, .code yX1_topAfter cX1_topAfter 5 (some .int), .methodLink RX1 16 yX1_rolled, .static yX1_rolled, .code yX1_rolled cX1_rolled 4 (some .int), .methodLink RX1 20 yX1_rightOf, .static yX1_rightOf, .code yX1_rightOf cX1_rightOf 7 (some .int), .methodLink RX1 23 Lib.Math.min.name, .static Lib.Math.min.name, .initialized "java/lang/Math", .code Lib.Math.min.name Lib.Math.min.code 2 (some .int)])
def wsX11_shown : List Cond := .code yX11_shown cX11_shown 3 (some .int) :: ([.fieldLink RX11 47 "BeetleDrive" "sights" "LBeetleDrive$Sights;", .methodLink RX11 183 yX1_isRow, .static yX1_isRow, .initialized RX1, .code yX1_isRow cX1_isRow 3 (some .boolean), .constant RX1 15 (1333333), .static yX11_isWithin, .initialized RX11, .code yX11_isWithin cX11_isWithin 3 (some .boolean), .methodLink RX11 84 yX11_isWithin, .methodLink RX11 190 yX7_add, .instanceMethod yX7_add, .selects RX7 yX7_add yX7_add, .initialized RX7, .code yX7_add cX7_add 3 (some .boolean), .fieldLink RX7 16 "BeetleDrive$Sights" "size" "I", .fieldLink RX7 9 "BeetleDrive$Sights" "rows" "[I", .fieldLink RX7 13 "BeetleDrive$Sights" "tops" "[I"] ++ wsX110 ++ wsX70)
def wsX11_forget : List Cond := .code yX11_forget cX11_forget 1 (some .int) :: ([.fieldLink RX11 47 "BeetleDrive" "sights" "LBeetleDrive$Sights;", .methodLink RX11 194 yX7_clear, .instanceMethod yX7_clear, .selects RX7 yX7_clear yX7_clear, .initialized RX7, .code yX7_clear cX7_clear 2 (some .int), .fieldLink RX7 16 "BeetleDrive$Sights" "size" "I"] ++ wsX110 ++ wsX70)
def wsX11_lies_r1 : List Cond := [Cond.fieldLink RX11 54 "BeetleDrive" "finder" "LBeetleDrive$Finder;", Cond.fieldLink RX11 47 "BeetleDrive" "sights" "LBeetleDrive$Sights;", Cond.methodLink RX11 195 yX2_search, Cond.instanceMethod yX2_search, Cond.selects RX2 yX2_search yX2_search, Cond.initialized RX2, Cond.code yX2_search cX2_search 3 none, Cond.fieldLink RX2 18 "BeetleDrive$Finder" "size" "I", Cond.fieldLink RX2 11 "BeetleDrive$Finder" "found" "[I", Cond.methodLink RX2 22 yX1_canLie, Cond.static yX1_canLie, Cond.initialized RX1, Cond.code yX1_canLie cX1_canLie 3 (some .boolean), Cond.static yX11_isWithin, Cond.initialized RX11, Cond.code yX11_isWithin cX11_isWithin 3 (some .boolean), Cond.methodLink RX2 28 yX7_fit, Cond.instanceMethod yX7_fit, Cond.selects RX7 yX7_fit yX7_fit, Cond.initialized RX7, Cond.code yX7_fit cX7_fit 3 (some .boolean), Cond.fieldLink RX7 16 "BeetleDrive$Sights" "size" "I", Cond.fieldLink RX7 9 "BeetleDrive$Sights" "rows" "[I", Cond.fieldLink RX7 13 "BeetleDrive$Sights" "tops" "[I"]
def wsX11_lies_r2 : List Cond := [Cond.methodLink RX7 20 yX1_topAfter, Cond.static yX1_topAfter, Cond.code yX1_topAfter cX1_topAfter 5 (some .int), Cond.methodLink RX1 16 yX1_rolled, Cond.static yX1_rolled, Cond.code yX1_rolled cX1_rolled 4 (some .int), Cond.methodLink RX1 20 yX1_rightOf, Cond.static yX1_rightOf, Cond.code yX1_rightOf cX1_rightOf 7 (some .int), Cond.methodLink RX1 23 Lib.Math.min.name, Cond.static Lib.Math.min.name, Cond.initialized "java/lang/Math", Cond.code Lib.Math.min.name Lib.Math.min.code 2 (some .int), Cond.methodLink RX11 84 yX11_isWithin]
def wsX11_lies : List Cond := .code yX11_lies cX11_lies 2 (some .int) :: ((wsX11_lies_r1 ++ wsX11_lies_r2) ++ wsX110 ++ wsX20 ++ wsX70)
def wsX11_ask_r1 : List Cond := [Cond.fieldLink RX11 54 "BeetleDrive" "finder" "LBeetleDrive$Finder;", Cond.fieldLink RX11 47 "BeetleDrive" "sights" "LBeetleDrive$Sights;", Cond.methodLink RX11 84 yX11_isWithin, Cond.static yX11_isWithin, Cond.initialized RX11, Cond.code yX11_isWithin cX11_isWithin 3 (some .boolean), Cond.methodLink RX11 195 yX2_search, Cond.instanceMethod yX2_search, Cond.selects RX2 yX2_search yX2_search, Cond.initialized RX2, Cond.code yX2_search cX2_search 3 none, Cond.fieldLink RX2 18 "BeetleDrive$Finder" "size" "I", Cond.fieldLink RX2 11 "BeetleDrive$Finder" "found" "[I", Cond.methodLink RX2 22 yX1_canLie, Cond.static yX1_canLie, Cond.initialized RX1, Cond.code yX1_canLie cX1_canLie 3 (some .boolean), Cond.methodLink RX2 28 yX7_fit, Cond.instanceMethod yX7_fit, Cond.selects RX7 yX7_fit yX7_fit, Cond.initialized RX7, Cond.code yX7_fit cX7_fit 3 (some .boolean), Cond.fieldLink RX7 16 "BeetleDrive$Sights" "size" "I", Cond.fieldLink RX7 9 "BeetleDrive$Sights" "rows" "[I"]
def wsX11_ask_r2 : List Cond := [Cond.fieldLink RX7 13 "BeetleDrive$Sights" "tops" "[I", Cond.methodLink RX7 20 yX1_topAfter, Cond.static yX1_topAfter, Cond.code yX1_topAfter cX1_topAfter 5 (some .int), Cond.methodLink RX1 16 yX1_rolled, Cond.static yX1_rolled, Cond.code yX1_rolled cX1_rolled 4 (some .int), Cond.methodLink RX1 20 yX1_rightOf, Cond.static yX1_rightOf, Cond.code yX1_rightOf cX1_rightOf 7 (some .int), Cond.methodLink RX1 23 Lib.Math.min.name, Cond.static Lib.Math.min.name, Cond.initialized "java/lang/Math", Cond.code Lib.Math.min.name Lib.Math.min.code 2 (some .int), Cond.methodLink RX11 203 yX2_bestRow, Cond.instanceMethod yX2_bestRow, Cond.selects RX2 yX2_bestRow yX2_bestRow, Cond.code yX2_bestRow cX2_bestRow 5 (some .int), Cond.methodLink RX2 33 yX2_mostLeft, Cond.instanceMethod yX2_mostLeft, Cond.selects RX2 yX2_mostLeft yX2_mostLeft, Cond.code yX2_mostLeft cX2_mostLeft 5 (some .int), Cond.fieldLink RX2 15 "BeetleDrive$Finder" "tally" "[I", Cond.methodLink RX2 48 Lib.Math.max.name]
def wsX11_ask_r3 : List Cond := [Cond.static Lib.Math.max.name, Cond.code Lib.Math.max.name Lib.Math.max.code 2 (some .int), Cond.methodLink RX2 40 yX1_topAfter, Cond.methodLink RX2 37 yX1_isRow, Cond.static yX1_isRow, Cond.code yX1_isRow cX1_isRow 3 (some .boolean), Cond.constant RX1 15 (1333333), Cond.methodLink RX11 206 yX2_mostLeft]
def wsX11_ask : List Cond := .code yX11_ask cX11_ask 3 (some .int) :: ((wsX11_ask_r1 ++ (wsX11_ask_r2 ++ wsX11_ask_r3)) ++ wsX110 ++ wsX20 ++ wsX70)
def wsX11_turn : List Cond := .code yX11_turn cX11_turn 5 (some .int) :: ([.fieldLink RX11 61 "BeetleDrive" "turns" "LBeetleDrive$Turns;", .methodLink RX11 84 yX11_isWithin, .static yX11_isWithin, .initialized RX11, .code yX11_isWithin cX11_isWithin 3 (some .boolean), .methodLink RX11 209 yX10_winningTurn, .instanceMethod yX10_winningTurn, .selects RX10 yX10_winningTurn yX10_winningTurn, .initialized RX10, .code yX10_winningTurn cX10_winningTurn 5 (some .int), .fieldLink RX10 11 "BeetleDrive$Turns" "wins" "[I"] ++ wsX110 ++ wsX100)
def wsX11_year_r1 : List Cond := [Cond.fieldLink RX11 26 "BeetleDrive" "match" "LBeetleDrive$Match;", Cond.fieldLink RX11 10 "BeetleDrive" "now" "LBeetleDrive$Table;", Cond.methodLink RX11 84 yX11_isWithin, Cond.static yX11_isWithin, Cond.initialized RX11, Cond.code yX11_isWithin cX11_isWithin 3 (some .boolean), Cond.methodLink RX11 212 yX4_playYear, Cond.instanceMethod yX4_playYear, Cond.selects RX4 yX4_playYear yX4_playYear, Cond.initialized RX4, Cond.code yX4_playYear cX4_playYear 7 none, Cond.constant RX4 47 (65537), Cond.methodLink RX4 18 yX4_begin, Cond.instanceMethod yX4_begin, Cond.selects RX4 yX4_begin yX4_begin, Cond.code yX4_begin cX4_begin 2 none, Cond.fieldLink RX4 12 "BeetleDrive$Match" "table" "LBeetleDrive$Table;", Cond.fieldLink RX4 55 "BeetleDrive$Match" "acts" "I", Cond.fieldLink RX4 32 "BeetleDrive$Match" "why" "I", Cond.fieldLink RX4 58 "BeetleDrive$Match" "vain" "I", Cond.fieldLink RX4 61 "BeetleDrive$Match" "wholeAct" "I", Cond.fieldLink RX4 64 "BeetleDrive$Match" "wholeWho" "I", Cond.methodLink RX4 52 yX9_copyFrom, Cond.instanceMethod yX9_copyFrom]
def wsX11_year_r2 : List Cond := [Cond.selects RX9 yX9_copyFrom yX9_copyFrom, Cond.initialized RX9, Cond.code yX9_copyFrom cX9_copyFrom 3 none, Cond.fieldLink RX9 9 "BeetleDrive$Table" "drawn" "[I", Cond.fieldLink RX9 15 "BeetleDrive$Table" "points" "[I", Cond.fieldLink RX9 18 "BeetleDrive$Table" "inBits" "I", Cond.fieldLink RX9 22 "BeetleDrive$Table" "holder" "I", Cond.fieldLink RX9 25 "BeetleDrive$Table" "game" "I", Cond.methodLink RX4 48 yX4_markOfYear, Cond.static yX4_markOfYear, Cond.code yX4_markOfYear cX4_markOfYear 2 (some .int), Cond.methodLink RX4 43 yX4_play, Cond.instanceMethod yX4_play, Cond.selects RX4 yX4_play yX4_play, Cond.code yX4_play cX4_play 3 none, Cond.methodLink RX4 67 yX9_whyNot, Cond.instanceMethod yX9_whyNot, Cond.selects RX9 yX9_whyNot yX9_whyNot, Cond.code yX9_whyNot cX9_whyNot 3 (some .int), Cond.methodLink RX9 31 yX9_isThrow, Cond.static yX9_isThrow, Cond.code yX9_isThrow cX9_isThrow 1 (some .boolean), Cond.methodLink RX9 35 yX9_isWhole, Cond.instanceMethod yX9_isWhole]
def wsX11_year_r3 : List Cond := [Cond.selects RX9 yX9_isWhole yX9_isWhole, Cond.code yX9_isWhole cX9_isWhole 2 (some .boolean), Cond.constant RX9 30 (111622), Cond.methodLink RX9 38 yX9_isIn, Cond.instanceMethod yX9_isIn, Cond.selects RX9 yX9_isIn yX9_isIn, Cond.code yX9_isIn cX9_isIn 2 (some .boolean), Cond.methodLink RX4 70 yX9_countUp, Cond.instanceMethod yX9_countUp, Cond.selects RX9 yX9_countUp yX9_countUp, Cond.code yX9_countUp cX9_countUp 3 none, Cond.methodLink RX9 52 Lib.Math.min.name, Cond.static Lib.Math.min.name, Cond.initialized "java/lang/Math", Cond.code Lib.Math.min.name Lib.Math.min.code 2 (some .int), Cond.methodLink RX9 48 yX9_worth, Cond.instanceMethod yX9_worth, Cond.selects RX9 yX9_worth yX9_worth, Cond.code yX9_worth cX9_worth 2 (some .int), Cond.methodLink RX9 57 yX0_parts, Cond.static yX0_parts, Cond.initialized RX0, Cond.code yX0_parts cX0_parts 3 (some .int), Cond.methodLink RX0 16 yX0_count]
def wsX11_year_r4 : List Cond := [Cond.static yX0_count, Cond.code yX0_count cX0_count 2 (some .int), Cond.fieldLink RX0 28 "BeetleDrive$Beetle" "UNIT" "[I", Cond.methodLink RX4 74 yX9_goOrCome, Cond.instanceMethod yX9_goOrCome, Cond.selects RX9 yX9_goOrCome yX9_goOrCome, Cond.code yX9_goOrCome cX9_goOrCome 2 none, Cond.methodLink RX9 45 yX9_passOn, Cond.instanceMethod yX9_passOn, Cond.selects RX9 yX9_passOn yX9_passOn, Cond.code yX9_passOn cX9_passOn 3 none, Cond.methodLink RX4 77 yX9_passOn, Cond.methodLink RX4 80 yX9_drawBy, Cond.instanceMethod yX9_drawBy, Cond.selects RX9 yX9_drawBy yX9_drawBy, Cond.code yX9_drawBy cX9_drawBy 4 (some .boolean), Cond.methodLink RX9 41 yX0_draw, Cond.static yX0_draw, Cond.code yX0_draw cX0_draw 2 (some .int), Cond.fieldLink RX0 20 "BeetleDrive$Beetle" "MOST" "[I", Cond.methodLink RX0 24 yX0_hasWhatItNeeds, Cond.static yX0_hasWhatItNeeds, Cond.code yX0_hasWhatItNeeds cX0_hasWhatItNeeds 3 (some .boolean), Cond.fieldLink RX0 31 "BeetleDrive$Beetle" "HANGS_ON" "[I"]
def wsX11_year_r5 : List Cond := [Cond.methodLink RX4 83 yX4_noteThrow, Cond.instanceMethod yX4_noteThrow, Cond.selects RX4 yX4_noteThrow yX4_noteThrow, Cond.code yX4_noteThrow cX4_noteThrow 2 none, Cond.methodLink RX4 90 yX9_isWhole, Cond.methodLink RX11 216 yX9_allParts, Cond.instanceMethod yX9_allParts, Cond.selects RX9 yX9_allParts yX9_allParts, Cond.code yX9_allParts cX9_allParts 3 (some .int)]
def wsX11_year : List Cond := .code yX11_year cX11_year 4 (some .int) :: ((wsX11_year_r1 ++ (wsX11_year_r2 ++ (wsX11_year_r3 ++ (wsX11_year_r4 ++ wsX11_year_r5)))) ++ wsX110 ++ wsX40 ++ wsX90)
def wsX11_imageAt : List Cond := .code yX11_imageAt cX11_imageAt 2 (some (.object "BeetleDrive$Image")) :: ([.fieldLink RX11 68 "BeetleDrive" "imageZero" "LBeetleDrive$Image;", .fieldLink RX11 72 "BeetleDrive" "imageOne" "LBeetleDrive$Image;"] ++ wsX110)
def wsX11_image_r1 : List Cond := [Cond.fieldLink RX11 10 "BeetleDrive" "now" "LBeetleDrive$Table;", Cond.fieldLink RX11 47 "BeetleDrive" "sights" "LBeetleDrive$Sights;", Cond.methodLink RX11 84 yX11_isWithin, Cond.static yX11_isWithin, Cond.initialized RX11, Cond.code yX11_isWithin cX11_isWithin 3 (some .boolean), Cond.methodLink RX11 219 yX11_imageAt, Cond.instanceMethod yX11_imageAt, Cond.selects RX11 yX11_imageAt yX11_imageAt, Cond.code yX11_imageAt cX11_imageAt 2 (some (.object "BeetleDrive$Image")), Cond.fieldLink RX11 68 "BeetleDrive" "imageZero" "LBeetleDrive$Image;", Cond.fieldLink RX11 72 "BeetleDrive" "imageOne" "LBeetleDrive$Image;", Cond.methodLink RX11 223 yX3_keep, Cond.instanceMethod yX3_keep, Cond.selects RX3 yX3_keep yX3_keep, Cond.initialized RX3, Cond.code yX3_keep cX3_keep 3 none, Cond.fieldLink RX3 10 "BeetleDrive$Image" "table" "LBeetleDrive$Table;", Cond.fieldLink RX3 19 "BeetleDrive$Image" "sights" "LBeetleDrive$Sights;", Cond.fieldLink RX3 30 "BeetleDrive$Image" "isKept" "Z", Cond.methodLink RX3 23 yX9_copyFrom, Cond.instanceMethod yX9_copyFrom, Cond.selects RX9 yX9_copyFrom yX9_copyFrom, Cond.initialized RX9]
def wsX11_image_r2 : List Cond := [Cond.code yX9_copyFrom cX9_copyFrom 3 none, Cond.fieldLink RX9 9 "BeetleDrive$Table" "drawn" "[I", Cond.fieldLink RX9 15 "BeetleDrive$Table" "points" "[I", Cond.fieldLink RX9 18 "BeetleDrive$Table" "inBits" "I", Cond.fieldLink RX9 22 "BeetleDrive$Table" "holder" "I", Cond.fieldLink RX9 25 "BeetleDrive$Table" "game" "I", Cond.methodLink RX3 27 yX7_copyFrom, Cond.instanceMethod yX7_copyFrom, Cond.selects RX7 yX7_copyFrom yX7_copyFrom, Cond.initialized RX7, Cond.code yX7_copyFrom cX7_copyFrom 3 none, Cond.fieldLink RX7 9 "BeetleDrive$Sights" "rows" "[I", Cond.fieldLink RX7 13 "BeetleDrive$Sights" "tops" "[I", Cond.fieldLink RX7 16 "BeetleDrive$Sights" "size" "I"]
def wsX11_image : List Cond := .code yX11_image cX11_image 2 (some .int) :: ((wsX11_image_r1 ++ wsX11_image_r2) ++ wsX110 ++ wsX30 ++ wsX90 ++ wsX70)
def wsX11_restore_r1 : List Cond := [Cond.fieldLink RX11 10 "BeetleDrive" "now" "LBeetleDrive$Table;", Cond.fieldLink RX11 47 "BeetleDrive" "sights" "LBeetleDrive$Sights;", Cond.methodLink RX11 84 yX11_isWithin, Cond.static yX11_isWithin, Cond.initialized RX11, Cond.code yX11_isWithin cX11_isWithin 3 (some .boolean), Cond.methodLink RX11 219 yX11_imageAt, Cond.instanceMethod yX11_imageAt, Cond.selects RX11 yX11_imageAt yX11_imageAt, Cond.code yX11_imageAt cX11_imageAt 2 (some (.object "BeetleDrive$Image")), Cond.fieldLink RX11 68 "BeetleDrive" "imageZero" "LBeetleDrive$Image;", Cond.fieldLink RX11 72 "BeetleDrive" "imageOne" "LBeetleDrive$Image;", Cond.methodLink RX11 150 yX9_copyFrom, Cond.instanceMethod yX9_copyFrom, Cond.selects RX9 yX9_copyFrom yX9_copyFrom, Cond.initialized RX9, Cond.code yX9_copyFrom cX9_copyFrom 3 none, Cond.fieldLink RX9 9 "BeetleDrive$Table" "drawn" "[I", Cond.fieldLink RX9 15 "BeetleDrive$Table" "points" "[I", Cond.fieldLink RX9 18 "BeetleDrive$Table" "inBits" "I", Cond.fieldLink RX9 22 "BeetleDrive$Table" "holder" "I", Cond.fieldLink RX9 25 "BeetleDrive$Table" "game" "I", Cond.methodLink RX11 233 yX7_copyFrom, Cond.instanceMethod yX7_copyFrom]
def wsX11_restore_r2 : List Cond := [Cond.selects RX7 yX7_copyFrom yX7_copyFrom, Cond.initialized RX7, Cond.code yX7_copyFrom cX7_copyFrom 3 none, Cond.fieldLink RX7 9 "BeetleDrive$Sights" "rows" "[I", Cond.fieldLink RX7 13 "BeetleDrive$Sights" "tops" "[I", Cond.fieldLink RX7 16 "BeetleDrive$Sights" "size" "I"]
def wsX11_restore : List Cond := .code yX11_restore cX11_restore 3 (some .int) :: ((wsX11_restore_r1 ++ wsX11_restore_r2) ++ wsX30 ++ wsX110 ++ wsX90 ++ wsX70)
def wsX11_toldOfAll : List Cond := .code yX11_toldOfAll cX11_toldOfAll 2 (some .int) :: ([.fieldLink RX11 19 "BeetleDrive" "pad" "LBeetleDrive$Pad;", .fieldLink RX11 10 "BeetleDrive" "now" "LBeetleDrive$Table;", .fieldLink RX11 47 "BeetleDrive" "sights" "LBeetleDrive$Sights;"] ++ wsX110 ++ wsX50 ++ wsX90 ++ wsX70)
def wsX11_toldOfPlayer : List Cond := .code yX11_toldOfPlayer cX11_toldOfPlayer 3 (some .int) :: ([.fieldLink RX11 10 "BeetleDrive" "now" "LBeetleDrive$Table;", .methodLink RX11 75 yX11_isPlayer, .static yX11_isPlayer, .initialized RX11, .code yX11_isPlayer cX11_isPlayer 1 (some .boolean), .methodLink RX11 84 yX11_isWithin, .static yX11_isWithin, .code yX11_isWithin cX11_isWithin 3 (some .boolean), .methodLink RX11 95 yX9_isIn, .instanceMethod yX9_isIn, .selects RX9 yX9_isIn yX9_isIn, .initialized RX9, .code yX9_isIn cX9_isIn 2 (some .boolean), .fieldLink RX9 18 "BeetleDrive$Table" "inBits" "I"] ++ wsX110 ++ wsX90)
def wsX11_told : List Cond := .code yX11_told cX11_told 2 (some .int) :: ([.methodLink RX11 235 yX11_toldOfAll, .instanceMethod yX11_toldOfAll, .selects RX11 yX11_toldOfAll yX11_toldOfAll, .initialized RX11, .code yX11_toldOfAll cX11_toldOfAll 2 (some .int), .fieldLink RX11 19 "BeetleDrive" "pad" "LBeetleDrive$Pad;", .fieldLink RX11 10 "BeetleDrive" "now" "LBeetleDrive$Table;", .fieldLink RX11 47 "BeetleDrive" "sights" "LBeetleDrive$Sights;", .methodLink RX11 238 yX11_toldOfPlayer, .instanceMethod yX11_toldOfPlayer, .selects RX11 yX11_toldOfPlayer yX11_toldOfPlayer, .code yX11_toldOfPlayer cX11_toldOfPlayer 3 (some .int), .methodLink RX11 75 yX11_isPlayer, .static yX11_isPlayer, .code yX11_isPlayer cX11_isPlayer 1 (some .boolean), .methodLink RX11 84 yX11_isWithin, .static yX11_isWithin, .code yX11_isWithin cX11_isWithin 3 (some .boolean), .methodLink RX11 95 yX9_isIn, .instanceMethod yX9_isIn, .selects RX9 yX9_isIn yX9_isIn, .initialized RX9, .code yX9_isIn cX9_isIn 2 (some .boolean), .fieldLink RX9 18 "BeetleDrive$Table" "inBits" "I"] ++ wsX110 ++ wsX50 ++ wsX90 ++ wsX70)
def wsX12_init : List Cond := .code yX12_init cX12_init 2 none :: ([.methodLink RX12 1 objectInit, .instanceMethod objectInit, .code objectInit ⟨#[0xb1]⟩ 1 none, .arrayClass .int, .fieldLink RX12 7 "BeetleDriveModel" "most" "[I", .fieldLink RX12 13 "BeetleDriveModel" "beetle" "[I", .fieldLink RX12 16 "BeetleDriveModel" "points" "[I", .fieldLink RX12 19 "BeetleDriveModel" "isIn" "[I", .fieldLink RX12 22 "BeetleDriveModel" "sightRow" "[I", .fieldLink RX12 25 "BeetleDriveModel" "sightTop" "[I", .fieldLink RX12 28 "BeetleDriveModel" "pad" "[I", .fieldLink RX12 31 "BeetleDriveModel" "act" "[I", .fieldLink RX12 34 "BeetleDriveModel" "much" "[I", .fieldLink RX12 37 "BeetleDriveModel" "had" "[I", .arrayClass .long, .fieldLink RX12 40 "BeetleDriveModel" "ways" "[J", .fieldLink RX12 44 "BeetleDriveModel" "ahead" "[J", .fieldLink RX12 47 "BeetleDriveModel" "rows" "[J", .fieldLink RX12 50 "BeetleDriveModel" "byTop" "[I", .arrayClass .boolean, .fieldLink RX12 53 "BeetleDriveModel" "wins" "[Z", .fieldLink RX12 57 "BeetleDriveModel" "kept" "[I", .fieldLink RX12 60 "BeetleDriveModel" "isKept" "[Z"] ++ wsX120)
def wsX12_in : List Cond := .code yX12_in cX12_in 6 (some .boolean) :: ([])
def wsX12_isPlayer : List Cond := .code yX12_isPlayer cX12_isPlayer 1 (some .boolean) :: ([.constantLong RX12 63 (5), .methodLink RX12 65 yX12_in, .static yX12_in, .initialized RX12, .code yX12_in cX12_in 6 (some .boolean)])
def wsX12_less : List Cond := .code yX12_less cX12_less 2 (some .int) :: ([])
def wsX12_tenTo : List Cond := .code yX12_tenTo cX12_tenTo 3 (some .int) :: ([])
def wsX12_figureOf : List Cond := .code yX12_figureOf cX12_figureOf 2 (some .int) :: ([.methodLink RX12 69 yX12_tenTo, .static yX12_tenTo, .initialized RX12, .code yX12_tenTo cX12_tenTo 3 (some .int)])
def wsX12_needOf : List Cond := .code yX12_needOf cX12_needOf 1 (some .int) :: ([])
def wsX12_isBeetle : List Cond := .code yX12_isBeetle cX12_isBeetle 5 (some .boolean) :: ([.constantLong RX12 73 (111622), .fieldLink RX12 7 "BeetleDriveModel" "most" "[I", .methodLink RX12 65 yX12_in, .static yX12_in, .initialized RX12, .code yX12_in cX12_in 6 (some .boolean), .methodLink RX12 75 yX12_figureOf, .static yX12_figureOf, .code yX12_figureOf cX12_figureOf 2 (some .int), .methodLink RX12 69 yX12_tenTo, .static yX12_tenTo, .code yX12_tenTo cX12_tenTo 3 (some .int), .methodLink RX12 79 yX12_needOf, .static yX12_needOf, .code yX12_needOf cX12_needOf 1 (some .int)] ++ wsX120)
def wsX12_partsOf : List Cond := .code yX12_partsOf cX12_partsOf 3 (some .int) :: ([.methodLink RX12 75 yX12_figureOf, .static yX12_figureOf, .initialized RX12, .code yX12_figureOf cX12_figureOf 2 (some .int), .methodLink RX12 69 yX12_tenTo, .static yX12_tenTo, .code yX12_tenTo cX12_tenTo 3 (some .int)])
def wsX12_canDraw : List Cond := .code yX12_canDraw cX12_canDraw 4 (some .boolean) :: ([.fieldLink RX12 7 "BeetleDriveModel" "most" "[I", .methodLink RX12 75 yX12_figureOf, .static yX12_figureOf, .initialized RX12, .code yX12_figureOf cX12_figureOf 2 (some .int), .methodLink RX12 69 yX12_tenTo, .static yX12_tenTo, .code yX12_tenTo cX12_tenTo 3 (some .int), .methodLink RX12 79 yX12_needOf, .static yX12_needOf, .code yX12_needOf cX12_needOf 1 (some .int)] ++ wsX120)
def wsX12_drawnBy : List Cond := .code yX12_drawnBy cX12_drawnBy 2 (some .int) :: ([.methodLink RX12 69 yX12_tenTo, .static yX12_tenTo, .initialized RX12, .code yX12_tenTo cX12_tenTo 3 (some .int)])
def wsX12_player_r1 : List Cond := [Cond.constantLong RX12 89 (999), Cond.fieldLink RX12 16 "BeetleDriveModel" "points" "[I", Cond.fieldLink RX12 13 "BeetleDriveModel" "beetle" "[I", Cond.methodLink RX12 82 yX12_isPlayer, Cond.static yX12_isPlayer, Cond.initialized RX12, Cond.code yX12_isPlayer cX12_isPlayer 1 (some .boolean), Cond.constantLong RX12 63 (5), Cond.methodLink RX12 65 yX12_in, Cond.static yX12_in, Cond.code yX12_in cX12_in 6 (some .boolean), Cond.methodLink RX12 86 yX12_isBeetle, Cond.instanceMethod yX12_isBeetle, Cond.selects RX12 yX12_isBeetle yX12_isBeetle, Cond.code yX12_isBeetle cX12_isBeetle 5 (some .boolean), Cond.constantLong RX12 73 (111622), Cond.fieldLink RX12 7 "BeetleDriveModel" "most" "[I", Cond.methodLink RX12 75 yX12_figureOf, Cond.static yX12_figureOf, Cond.code yX12_figureOf cX12_figureOf 2 (some .int), Cond.methodLink RX12 69 yX12_tenTo, Cond.static yX12_tenTo, Cond.code yX12_tenTo cX12_tenTo 3 (some .int), Cond.methodLink RX12 79 yX12_needOf]
def wsX12_player_r2 : List Cond := [Cond.static yX12_needOf, Cond.code yX12_needOf cX12_needOf 1 (some .int)]
def wsX12_player : List Cond := .code yX12_player cX12_player 5 (some .int) :: ((wsX12_player_r1 ++ wsX12_player_r2) ++ wsX120)
def wsX12_die : List Cond := .code yX12_die cX12_die 3 (some .int) :: ([.fieldLink RX12 19 "BeetleDriveModel" "isIn" "[I", .fieldLink RX12 91 "BeetleDriveModel" "holder" "I", .methodLink RX12 82 yX12_isPlayer, .static yX12_isPlayer, .initialized RX12, .code yX12_isPlayer cX12_isPlayer 1 (some .boolean), .constantLong RX12 63 (5), .methodLink RX12 65 yX12_in, .static yX12_in, .code yX12_in cX12_in 6 (some .boolean)] ++ wsX120)
def wsX12_say : List Cond := .code yX12_say cX12_say 2 (some .int) :: ([.constantLong RX12 95 (33), .constantLong RX12 97 (126), .fieldLink RX12 99 "BeetleDriveModel" "padMany" "I", .fieldLink RX12 28 "BeetleDriveModel" "pad" "[I", .methodLink RX12 65 yX12_in, .static yX12_in, .initialized RX12, .code yX12_in cX12_in 6 (some .boolean)] ++ wsX120)
def wsX12_wipe : List Cond := .code yX12_wipe cX12_wipe 2 (some .int) :: ([.fieldLink RX12 99 "BeetleDriveModel" "padMany" "I"] ++ wsX120)
def wsX12_close : List Cond := .code yX12_close cX12_close 3 (some .int) :: ([.fieldLink RX12 31 "BeetleDriveModel" "act" "[I", .fieldLink RX12 102 "BeetleDriveModel" "acts" "I", .fieldLink RX12 34 "BeetleDriveModel" "much" "[I"] ++ wsX120)
def wsX12_begin : List Cond := .code yX12_begin cX12_begin 2 (some .int) :: ([.constantLong RX12 105 (49), .constantLong RX12 107 (54), .fieldLink RX12 34 "BeetleDriveModel" "much" "[I", .fieldLink RX12 102 "BeetleDriveModel" "acts" "I", .constantLong RX12 112 (65), .constantLong RX12 114 (70), .methodLink RX12 65 yX12_in, .static yX12_in, .initialized RX12, .code yX12_in cX12_in 6 (some .boolean), .methodLink RX12 109 yX12_close, .instanceMethod yX12_close, .selects RX12 yX12_close yX12_close, .code yX12_close cX12_close 3 (some .int), .fieldLink RX12 31 "BeetleDriveModel" "act" "[I"] ++ wsX120)
def wsX12_deed : List Cond := .code yX12_deed cX12_deed 2 (some .int) :: ([.fieldLink RX12 34 "BeetleDriveModel" "much" "[I", .fieldLink RX12 102 "BeetleDriveModel" "acts" "I", .methodLink RX12 109 yX12_close, .instanceMethod yX12_close, .selects RX12 yX12_close yX12_close, .initialized RX12, .code yX12_close cX12_close 3 (some .int), .fieldLink RX12 31 "BeetleDriveModel" "act" "[I"] ++ wsX120)
def wsX12_fault_r1 : List Cond := [Cond.fieldLink RX12 102 "BeetleDriveModel" "acts" "I", Cond.fieldLink RX12 99 "BeetleDriveModel" "padMany" "I", Cond.fieldLink RX12 28 "BeetleDriveModel" "pad" "[I", Cond.methodLink RX12 116 yX12_begin, Cond.instanceMethod yX12_begin, Cond.selects RX12 yX12_begin yX12_begin, Cond.initialized RX12, Cond.code yX12_begin cX12_begin 2 (some .int), Cond.constantLong RX12 105 (49), Cond.constantLong RX12 107 (54), Cond.fieldLink RX12 34 "BeetleDriveModel" "much" "[I", Cond.constantLong RX12 112 (65), Cond.constantLong RX12 114 (70), Cond.methodLink RX12 65 yX12_in, Cond.static yX12_in, Cond.code yX12_in cX12_in 6 (some .boolean), Cond.methodLink RX12 109 yX12_close, Cond.instanceMethod yX12_close, Cond.selects RX12 yX12_close yX12_close, Cond.code yX12_close cX12_close 3 (some .int), Cond.fieldLink RX12 31 "BeetleDriveModel" "act" "[I", Cond.methodLink RX12 119 yX12_deed, Cond.instanceMethod yX12_deed, Cond.selects RX12 yX12_deed yX12_deed]
def wsX12_fault_r2 : List Cond := [Cond.code yX12_deed cX12_deed 2 (some .int)]
def wsX12_fault : List Cond := .code yX12_fault cX12_fault 3 (some .int) :: ((wsX12_fault_r1 ++ wsX12_fault_r2) ++ wsX120)
def wsX12_inMany : List Cond := .code yX12_inMany cX12_inMany 3 (some .int) :: ([.fieldLink RX12 19 "BeetleDriveModel" "isIn" "[I"] ++ wsX120)
def wsX12_whyNot : List Cond := .code yX12_whyNot cX12_whyNot 3 (some .int) :: ([.fieldLink RX12 13 "BeetleDriveModel" "beetle" "[I", .fieldLink RX12 91 "BeetleDriveModel" "holder" "I", .constant RX12 122 (111622), .fieldLink RX12 19 "BeetleDriveModel" "isIn" "[I", .fieldLink RX12 123 "BeetleDriveModel" "games" "I", .methodLink RX12 126 yX12_inMany, .instanceMethod yX12_inMany, .selects RX12 yX12_inMany yX12_inMany, .initialized RX12, .code yX12_inMany cX12_inMany 3 (some .int)] ++ wsX120)
def wsX12_goesOn : List Cond := .code yX12_goesOn cX12_goesOn 1 none :: ([.fieldLink RX12 91 "BeetleDriveModel" "holder" "I", .fieldLink RX12 19 "BeetleDriveModel" "isIn" "[I"] ++ wsX120)
def wsX12_cast_r1 : List Cond := [Cond.fieldLink RX12 13 "BeetleDriveModel" "beetle" "[I", Cond.fieldLink RX12 91 "BeetleDriveModel" "holder" "I", Cond.fieldLink RX12 134 "BeetleDriveModel" "nothings" "I", Cond.constant RX12 122 (111622), Cond.fieldLink RX12 143 "BeetleDriveModel" "wholeNow" "I", Cond.methodLink RX12 130 yX12_canDraw, Cond.instanceMethod yX12_canDraw, Cond.selects RX12 yX12_canDraw yX12_canDraw, Cond.initialized RX12, Cond.code yX12_canDraw cX12_canDraw 4 (some .boolean), Cond.fieldLink RX12 7 "BeetleDriveModel" "most" "[I", Cond.methodLink RX12 75 yX12_figureOf, Cond.static yX12_figureOf, Cond.code yX12_figureOf cX12_figureOf 2 (some .int), Cond.methodLink RX12 69 yX12_tenTo, Cond.static yX12_tenTo, Cond.code yX12_tenTo cX12_tenTo 3 (some .int), Cond.methodLink RX12 79 yX12_needOf, Cond.static yX12_needOf, Cond.code yX12_needOf cX12_needOf 1 (some .int), Cond.methodLink RX12 137 yX12_goesOn, Cond.instanceMethod yX12_goesOn, Cond.selects RX12 yX12_goesOn yX12_goesOn, Cond.code yX12_goesOn cX12_goesOn 1 none]
def wsX12_cast_r2 : List Cond := [Cond.fieldLink RX12 19 "BeetleDriveModel" "isIn" "[I", Cond.methodLink RX12 140 yX12_drawnBy, Cond.static yX12_drawnBy, Cond.code yX12_drawnBy cX12_drawnBy 2 (some .int)]
def wsX12_cast : List Cond := .code yX12_cast cX12_cast 2 none :: ((wsX12_cast_r1 ++ wsX12_cast_r2) ++ wsX120)
def wsX12_cry : List Cond := .code yX12_cry cX12_cry 3 none :: ([.fieldLink RX12 16 "BeetleDriveModel" "points" "[I", .fieldLink RX12 13 "BeetleDriveModel" "beetle" "[I", .fieldLink RX12 91 "BeetleDriveModel" "holder" "I", .fieldLink RX12 123 "BeetleDriveModel" "games" "I", .methodLink RX12 146 yX12_partsOf, .static yX12_partsOf, .initialized RX12, .code yX12_partsOf cX12_partsOf 3 (some .int), .methodLink RX12 75 yX12_figureOf, .static yX12_figureOf, .code yX12_figureOf cX12_figureOf 2 (some .int), .methodLink RX12 69 yX12_tenTo, .static yX12_tenTo, .code yX12_tenTo cX12_tenTo 3 (some .int), .methodLink RX12 149 yX12_less, .static yX12_less, .code yX12_less cX12_less 2 (some .int)] ++ wsX120)
def wsX12_goOrCome : List Cond := .code yX12_goOrCome cX12_goOrCome 2 none :: ([.fieldLink RX12 19 "BeetleDriveModel" "isIn" "[I", .fieldLink RX12 91 "BeetleDriveModel" "holder" "I", .methodLink RX12 137 yX12_goesOn, .instanceMethod yX12_goesOn, .selects RX12 yX12_goesOn yX12_goesOn, .initialized RX12, .code yX12_goesOn cX12_goesOn 1 none] ++ wsX120)
def wsX12_happen_r1 : List Cond := [Cond.fieldLink RX12 143 "BeetleDriveModel" "wholeNow" "I", Cond.methodLink RX12 152 yX12_cast, Cond.instanceMethod yX12_cast, Cond.selects RX12 yX12_cast yX12_cast, Cond.initialized RX12, Cond.code yX12_cast cX12_cast 2 none, Cond.fieldLink RX12 13 "BeetleDriveModel" "beetle" "[I", Cond.fieldLink RX12 91 "BeetleDriveModel" "holder" "I", Cond.fieldLink RX12 134 "BeetleDriveModel" "nothings" "I", Cond.constant RX12 122 (111622), Cond.methodLink RX12 130 yX12_canDraw, Cond.instanceMethod yX12_canDraw, Cond.selects RX12 yX12_canDraw yX12_canDraw, Cond.code yX12_canDraw cX12_canDraw 4 (some .boolean), Cond.fieldLink RX12 7 "BeetleDriveModel" "most" "[I", Cond.methodLink RX12 75 yX12_figureOf, Cond.static yX12_figureOf, Cond.code yX12_figureOf cX12_figureOf 2 (some .int), Cond.methodLink RX12 69 yX12_tenTo, Cond.static yX12_tenTo, Cond.code yX12_tenTo cX12_tenTo 3 (some .int), Cond.methodLink RX12 79 yX12_needOf, Cond.static yX12_needOf, Cond.code yX12_needOf cX12_needOf 1 (some .int)]
def wsX12_happen_r2 : List Cond := [Cond.methodLink RX12 137 yX12_goesOn, Cond.instanceMethod yX12_goesOn, Cond.selects RX12 yX12_goesOn yX12_goesOn, Cond.code yX12_goesOn cX12_goesOn 1 none, Cond.fieldLink RX12 19 "BeetleDriveModel" "isIn" "[I", Cond.methodLink RX12 140 yX12_drawnBy, Cond.static yX12_drawnBy, Cond.code yX12_drawnBy cX12_drawnBy 2 (some .int), Cond.methodLink RX12 156 yX12_cry, Cond.instanceMethod yX12_cry, Cond.selects RX12 yX12_cry yX12_cry, Cond.code yX12_cry cX12_cry 3 none, Cond.fieldLink RX12 16 "BeetleDriveModel" "points" "[I", Cond.fieldLink RX12 123 "BeetleDriveModel" "games" "I", Cond.methodLink RX12 146 yX12_partsOf, Cond.static yX12_partsOf, Cond.code yX12_partsOf cX12_partsOf 3 (some .int), Cond.methodLink RX12 149 yX12_less, Cond.static yX12_less, Cond.code yX12_less cX12_less 2 (some .int), Cond.methodLink RX12 159 yX12_goOrCome, Cond.instanceMethod yX12_goOrCome, Cond.selects RX12 yX12_goOrCome yX12_goOrCome, Cond.code yX12_goOrCome cX12_goOrCome 2 none]
def wsX12_happen : List Cond := .code yX12_happen cX12_happen 3 none :: ((wsX12_happen_r1 ++ wsX12_happen_r2) ++ wsX120)
def wsX12_keepNow : List Cond := .code yX12_keepNow cX12_keepNow 2 none :: ([.fieldLink RX12 37 "BeetleDriveModel" "had" "[I", .fieldLink RX12 13 "BeetleDriveModel" "beetle" "[I", .fieldLink RX12 16 "BeetleDriveModel" "points" "[I", .fieldLink RX12 19 "BeetleDriveModel" "isIn" "[I", .fieldLink RX12 91 "BeetleDriveModel" "holder" "I", .fieldLink RX12 123 "BeetleDriveModel" "games" "I"] ++ wsX120)
def wsX12_back : List Cond := .code yX12_back cX12_back 3 (some .int) :: ([.fieldLink RX12 13 "BeetleDriveModel" "beetle" "[I", .fieldLink RX12 37 "BeetleDriveModel" "had" "[I", .fieldLink RX12 16 "BeetleDriveModel" "points" "[I", .fieldLink RX12 19 "BeetleDriveModel" "isIn" "[I", .fieldLink RX12 91 "BeetleDriveModel" "holder" "I", .fieldLink RX12 123 "BeetleDriveModel" "games" "I"] ++ wsX120)
def wsX12_goOne_r1 : List Cond := [Cond.fieldLink RX12 31 "BeetleDriveModel" "act" "[I", Cond.fieldLink RX12 34 "BeetleDriveModel" "much" "[I", Cond.fieldLink RX12 143 "BeetleDriveModel" "wholeNow" "I", Cond.fieldLink RX12 166 "BeetleDriveModel" "wholeAct" "I", Cond.fieldLink RX12 169 "BeetleDriveModel" "wholeWho" "I", Cond.methodLink RX12 162 yX12_happen, Cond.instanceMethod yX12_happen, Cond.selects RX12 yX12_happen yX12_happen, Cond.initialized RX12, Cond.code yX12_happen cX12_happen 3 none, Cond.methodLink RX12 152 yX12_cast, Cond.instanceMethod yX12_cast, Cond.selects RX12 yX12_cast yX12_cast, Cond.code yX12_cast cX12_cast 2 none, Cond.fieldLink RX12 13 "BeetleDriveModel" "beetle" "[I", Cond.fieldLink RX12 91 "BeetleDriveModel" "holder" "I", Cond.fieldLink RX12 134 "BeetleDriveModel" "nothings" "I", Cond.constant RX12 122 (111622), Cond.methodLink RX12 130 yX12_canDraw, Cond.instanceMethod yX12_canDraw, Cond.selects RX12 yX12_canDraw yX12_canDraw, Cond.code yX12_canDraw cX12_canDraw 4 (some .boolean), Cond.fieldLink RX12 7 "BeetleDriveModel" "most" "[I", Cond.methodLink RX12 75 yX12_figureOf]
def wsX12_goOne_r2 : List Cond := [Cond.static yX12_figureOf, Cond.code yX12_figureOf cX12_figureOf 2 (some .int), Cond.methodLink RX12 69 yX12_tenTo, Cond.static yX12_tenTo, Cond.code yX12_tenTo cX12_tenTo 3 (some .int), Cond.methodLink RX12 79 yX12_needOf, Cond.static yX12_needOf, Cond.code yX12_needOf cX12_needOf 1 (some .int), Cond.methodLink RX12 137 yX12_goesOn, Cond.instanceMethod yX12_goesOn, Cond.selects RX12 yX12_goesOn yX12_goesOn, Cond.code yX12_goesOn cX12_goesOn 1 none, Cond.fieldLink RX12 19 "BeetleDriveModel" "isIn" "[I", Cond.methodLink RX12 140 yX12_drawnBy, Cond.static yX12_drawnBy, Cond.code yX12_drawnBy cX12_drawnBy 2 (some .int), Cond.methodLink RX12 156 yX12_cry, Cond.instanceMethod yX12_cry, Cond.selects RX12 yX12_cry yX12_cry, Cond.code yX12_cry cX12_cry 3 none, Cond.fieldLink RX12 16 "BeetleDriveModel" "points" "[I", Cond.fieldLink RX12 123 "BeetleDriveModel" "games" "I", Cond.methodLink RX12 146 yX12_partsOf, Cond.static yX12_partsOf]
def wsX12_goOne_r3 : List Cond := [Cond.code yX12_partsOf cX12_partsOf 3 (some .int), Cond.methodLink RX12 149 yX12_less, Cond.static yX12_less, Cond.code yX12_less cX12_less 2 (some .int), Cond.methodLink RX12 159 yX12_goOrCome, Cond.instanceMethod yX12_goOrCome, Cond.selects RX12 yX12_goOrCome yX12_goOrCome, Cond.code yX12_goOrCome cX12_goOrCome 2 none]
def wsX12_goOne : List Cond := .code yX12_goOne cX12_goOne 2 none :: ((wsX12_goOne_r1 ++ (wsX12_goOne_r2 ++ wsX12_goOne_r3)) ++ wsX120)
def wsX12_goGames_r1 : List Cond := [Cond.fieldLink RX12 172 "BeetleDriveModel" "badAct" "I", Cond.fieldLink RX12 175 "BeetleDriveModel" "badWhy" "I", Cond.fieldLink RX12 166 "BeetleDriveModel" "wholeAct" "I", Cond.fieldLink RX12 169 "BeetleDriveModel" "wholeWho" "I", Cond.fieldLink RX12 134 "BeetleDriveModel" "nothings" "I", Cond.fieldLink RX12 102 "BeetleDriveModel" "acts" "I", Cond.fieldLink RX12 31 "BeetleDriveModel" "act" "[I", Cond.fieldLink RX12 34 "BeetleDriveModel" "much" "[I", Cond.methodLink RX12 178 yX12_whyNot, Cond.instanceMethod yX12_whyNot, Cond.selects RX12 yX12_whyNot yX12_whyNot, Cond.initialized RX12, Cond.code yX12_whyNot cX12_whyNot 3 (some .int), Cond.fieldLink RX12 13 "BeetleDriveModel" "beetle" "[I", Cond.fieldLink RX12 91 "BeetleDriveModel" "holder" "I", Cond.constant RX12 122 (111622), Cond.fieldLink RX12 19 "BeetleDriveModel" "isIn" "[I", Cond.fieldLink RX12 123 "BeetleDriveModel" "games" "I", Cond.methodLink RX12 126 yX12_inMany, Cond.instanceMethod yX12_inMany, Cond.selects RX12 yX12_inMany yX12_inMany, Cond.code yX12_inMany cX12_inMany 3 (some .int), Cond.methodLink RX12 181 yX12_goOne, Cond.instanceMethod yX12_goOne]
def wsX12_goGames_r2 : List Cond := [Cond.selects RX12 yX12_goOne yX12_goOne, Cond.code yX12_goOne cX12_goOne 2 none, Cond.fieldLink RX12 143 "BeetleDriveModel" "wholeNow" "I", Cond.methodLink RX12 162 yX12_happen, Cond.instanceMethod yX12_happen, Cond.selects RX12 yX12_happen yX12_happen, Cond.code yX12_happen cX12_happen 3 none, Cond.methodLink RX12 152 yX12_cast, Cond.instanceMethod yX12_cast, Cond.selects RX12 yX12_cast yX12_cast, Cond.code yX12_cast cX12_cast 2 none, Cond.methodLink RX12 130 yX12_canDraw, Cond.instanceMethod yX12_canDraw, Cond.selects RX12 yX12_canDraw yX12_canDraw, Cond.code yX12_canDraw cX12_canDraw 4 (some .boolean), Cond.fieldLink RX12 7 "BeetleDriveModel" "most" "[I", Cond.methodLink RX12 75 yX12_figureOf, Cond.static yX12_figureOf, Cond.code yX12_figureOf cX12_figureOf 2 (some .int), Cond.methodLink RX12 69 yX12_tenTo, Cond.static yX12_tenTo, Cond.code yX12_tenTo cX12_tenTo 3 (some .int), Cond.methodLink RX12 79 yX12_needOf, Cond.static yX12_needOf]
def wsX12_goGames_r3 : List Cond := [Cond.code yX12_needOf cX12_needOf 1 (some .int), Cond.methodLink RX12 137 yX12_goesOn, Cond.instanceMethod yX12_goesOn, Cond.selects RX12 yX12_goesOn yX12_goesOn, Cond.code yX12_goesOn cX12_goesOn 1 none, Cond.methodLink RX12 140 yX12_drawnBy, Cond.static yX12_drawnBy, Cond.code yX12_drawnBy cX12_drawnBy 2 (some .int), Cond.methodLink RX12 156 yX12_cry, Cond.instanceMethod yX12_cry, Cond.selects RX12 yX12_cry yX12_cry, Cond.code yX12_cry cX12_cry 3 none, Cond.fieldLink RX12 16 "BeetleDriveModel" "points" "[I", Cond.methodLink RX12 146 yX12_partsOf, Cond.static yX12_partsOf, Cond.code yX12_partsOf cX12_partsOf 3 (some .int), Cond.methodLink RX12 149 yX12_less, Cond.static yX12_less, Cond.code yX12_less cX12_less 2 (some .int), Cond.methodLink RX12 159 yX12_goOrCome, Cond.instanceMethod yX12_goOrCome, Cond.selects RX12 yX12_goOrCome yX12_goOrCome, Cond.code yX12_goOrCome cX12_goOrCome 2 none]
def wsX12_goGames : List Cond := .code yX12_goGames cX12_goGames 3 none :: ((wsX12_goGames_r1 ++ (wsX12_goGames_r2 ++ wsX12_goGames_r3)) ++ wsX120)
def wsX12_refusal_r1 : List Cond := [Cond.fieldLink RX12 172 "BeetleDriveModel" "badAct" "I", Cond.methodLink RX12 184 yX12_keepNow, Cond.instanceMethod yX12_keepNow, Cond.selects RX12 yX12_keepNow yX12_keepNow, Cond.initialized RX12, Cond.code yX12_keepNow cX12_keepNow 2 none, Cond.fieldLink RX12 37 "BeetleDriveModel" "had" "[I", Cond.fieldLink RX12 13 "BeetleDriveModel" "beetle" "[I", Cond.fieldLink RX12 16 "BeetleDriveModel" "points" "[I", Cond.fieldLink RX12 19 "BeetleDriveModel" "isIn" "[I", Cond.fieldLink RX12 91 "BeetleDriveModel" "holder" "I", Cond.fieldLink RX12 123 "BeetleDriveModel" "games" "I", Cond.methodLink RX12 187 yX12_fault, Cond.instanceMethod yX12_fault, Cond.selects RX12 yX12_fault yX12_fault, Cond.code yX12_fault cX12_fault 3 (some .int), Cond.fieldLink RX12 102 "BeetleDriveModel" "acts" "I", Cond.fieldLink RX12 99 "BeetleDriveModel" "padMany" "I", Cond.fieldLink RX12 28 "BeetleDriveModel" "pad" "[I", Cond.methodLink RX12 116 yX12_begin, Cond.instanceMethod yX12_begin, Cond.selects RX12 yX12_begin yX12_begin, Cond.code yX12_begin cX12_begin 2 (some .int), Cond.constantLong RX12 105 (49)]
def wsX12_refusal_r2 : List Cond := [Cond.constantLong RX12 107 (54), Cond.fieldLink RX12 34 "BeetleDriveModel" "much" "[I", Cond.constantLong RX12 112 (65), Cond.constantLong RX12 114 (70), Cond.methodLink RX12 65 yX12_in, Cond.static yX12_in, Cond.code yX12_in cX12_in 6 (some .boolean), Cond.methodLink RX12 109 yX12_close, Cond.instanceMethod yX12_close, Cond.selects RX12 yX12_close yX12_close, Cond.code yX12_close cX12_close 3 (some .int), Cond.fieldLink RX12 31 "BeetleDriveModel" "act" "[I", Cond.methodLink RX12 119 yX12_deed, Cond.instanceMethod yX12_deed, Cond.selects RX12 yX12_deed yX12_deed, Cond.code yX12_deed cX12_deed 2 (some .int), Cond.methodLink RX12 190 yX12_goGames, Cond.instanceMethod yX12_goGames, Cond.selects RX12 yX12_goGames yX12_goGames, Cond.code yX12_goGames cX12_goGames 3 none, Cond.fieldLink RX12 175 "BeetleDriveModel" "badWhy" "I", Cond.fieldLink RX12 166 "BeetleDriveModel" "wholeAct" "I", Cond.fieldLink RX12 169 "BeetleDriveModel" "wholeWho" "I", Cond.fieldLink RX12 134 "BeetleDriveModel" "nothings" "I"]
def wsX12_refusal_r3 : List Cond := [Cond.methodLink RX12 178 yX12_whyNot, Cond.instanceMethod yX12_whyNot, Cond.selects RX12 yX12_whyNot yX12_whyNot, Cond.code yX12_whyNot cX12_whyNot 3 (some .int), Cond.constant RX12 122 (111622), Cond.methodLink RX12 126 yX12_inMany, Cond.instanceMethod yX12_inMany, Cond.selects RX12 yX12_inMany yX12_inMany, Cond.code yX12_inMany cX12_inMany 3 (some .int), Cond.methodLink RX12 181 yX12_goOne, Cond.instanceMethod yX12_goOne, Cond.selects RX12 yX12_goOne yX12_goOne, Cond.code yX12_goOne cX12_goOne 2 none, Cond.fieldLink RX12 143 "BeetleDriveModel" "wholeNow" "I", Cond.methodLink RX12 162 yX12_happen, Cond.instanceMethod yX12_happen, Cond.selects RX12 yX12_happen yX12_happen, Cond.code yX12_happen cX12_happen 3 none, Cond.methodLink RX12 152 yX12_cast, Cond.instanceMethod yX12_cast, Cond.selects RX12 yX12_cast yX12_cast, Cond.code yX12_cast cX12_cast 2 none, Cond.methodLink RX12 130 yX12_canDraw, Cond.instanceMethod yX12_canDraw]
def wsX12_refusal_r4 : List Cond := [Cond.selects RX12 yX12_canDraw yX12_canDraw, Cond.code yX12_canDraw cX12_canDraw 4 (some .boolean), Cond.fieldLink RX12 7 "BeetleDriveModel" "most" "[I", Cond.methodLink RX12 75 yX12_figureOf, Cond.static yX12_figureOf, Cond.code yX12_figureOf cX12_figureOf 2 (some .int), Cond.methodLink RX12 69 yX12_tenTo, Cond.static yX12_tenTo, Cond.code yX12_tenTo cX12_tenTo 3 (some .int), Cond.methodLink RX12 79 yX12_needOf, Cond.static yX12_needOf, Cond.code yX12_needOf cX12_needOf 1 (some .int), Cond.methodLink RX12 137 yX12_goesOn, Cond.instanceMethod yX12_goesOn, Cond.selects RX12 yX12_goesOn yX12_goesOn, Cond.code yX12_goesOn cX12_goesOn 1 none, Cond.methodLink RX12 140 yX12_drawnBy, Cond.static yX12_drawnBy, Cond.code yX12_drawnBy cX12_drawnBy 2 (some .int), Cond.methodLink RX12 156 yX12_cry, Cond.instanceMethod yX12_cry, Cond.selects RX12 yX12_cry yX12_cry, Cond.code yX12_cry cX12_cry 3 none, Cond.methodLink RX12 146 yX12_partsOf]
def wsX12_refusal_r5 : List Cond := [Cond.static yX12_partsOf, Cond.code yX12_partsOf cX12_partsOf 3 (some .int), Cond.methodLink RX12 149 yX12_less, Cond.static yX12_less, Cond.code yX12_less cX12_less 2 (some .int), Cond.methodLink RX12 159 yX12_goOrCome, Cond.instanceMethod yX12_goOrCome, Cond.selects RX12 yX12_goOrCome yX12_goOrCome, Cond.code yX12_goOrCome cX12_goOrCome 2 none]
def wsX12_refusal : List Cond := .code yX12_refusal cX12_refusal 1 (some .int) :: ((wsX12_refusal_r1 ++ (wsX12_refusal_r2 ++ (wsX12_refusal_r3 ++ (wsX12_refusal_r4 ++ wsX12_refusal_r5)))) ++ wsX120)
def wsX12_judge_r1 : List Cond := [Cond.constantLong RX12 193 (2), Cond.fieldLink RX12 172 "BeetleDriveModel" "badAct" "I", Cond.fieldLink RX12 175 "BeetleDriveModel" "badWhy" "I", Cond.fieldLink RX12 134 "BeetleDriveModel" "nothings" "I", Cond.methodLink RX12 65 yX12_in, Cond.static yX12_in, Cond.initialized RX12, Cond.code yX12_in cX12_in 6 (some .boolean), Cond.methodLink RX12 195 yX12_refusal, Cond.instanceMethod yX12_refusal, Cond.selects RX12 yX12_refusal yX12_refusal, Cond.code yX12_refusal cX12_refusal 1 (some .int), Cond.methodLink RX12 184 yX12_keepNow, Cond.instanceMethod yX12_keepNow, Cond.selects RX12 yX12_keepNow yX12_keepNow, Cond.code yX12_keepNow cX12_keepNow 2 none, Cond.fieldLink RX12 37 "BeetleDriveModel" "had" "[I", Cond.fieldLink RX12 13 "BeetleDriveModel" "beetle" "[I", Cond.fieldLink RX12 16 "BeetleDriveModel" "points" "[I", Cond.fieldLink RX12 19 "BeetleDriveModel" "isIn" "[I", Cond.fieldLink RX12 91 "BeetleDriveModel" "holder" "I", Cond.fieldLink RX12 123 "BeetleDriveModel" "games" "I", Cond.methodLink RX12 187 yX12_fault, Cond.instanceMethod yX12_fault]
def wsX12_judge_r2 : List Cond := [Cond.selects RX12 yX12_fault yX12_fault, Cond.code yX12_fault cX12_fault 3 (some .int), Cond.fieldLink RX12 102 "BeetleDriveModel" "acts" "I", Cond.fieldLink RX12 99 "BeetleDriveModel" "padMany" "I", Cond.fieldLink RX12 28 "BeetleDriveModel" "pad" "[I", Cond.methodLink RX12 116 yX12_begin, Cond.instanceMethod yX12_begin, Cond.selects RX12 yX12_begin yX12_begin, Cond.code yX12_begin cX12_begin 2 (some .int), Cond.constantLong RX12 105 (49), Cond.constantLong RX12 107 (54), Cond.fieldLink RX12 34 "BeetleDriveModel" "much" "[I", Cond.constantLong RX12 112 (65), Cond.constantLong RX12 114 (70), Cond.methodLink RX12 109 yX12_close, Cond.instanceMethod yX12_close, Cond.selects RX12 yX12_close yX12_close, Cond.code yX12_close cX12_close 3 (some .int), Cond.fieldLink RX12 31 "BeetleDriveModel" "act" "[I", Cond.methodLink RX12 119 yX12_deed, Cond.instanceMethod yX12_deed, Cond.selects RX12 yX12_deed yX12_deed, Cond.code yX12_deed cX12_deed 2 (some .int), Cond.methodLink RX12 190 yX12_goGames]
def wsX12_judge_r3 : List Cond := [Cond.instanceMethod yX12_goGames, Cond.selects RX12 yX12_goGames yX12_goGames, Cond.code yX12_goGames cX12_goGames 3 none, Cond.fieldLink RX12 166 "BeetleDriveModel" "wholeAct" "I", Cond.fieldLink RX12 169 "BeetleDriveModel" "wholeWho" "I", Cond.methodLink RX12 178 yX12_whyNot, Cond.instanceMethod yX12_whyNot, Cond.selects RX12 yX12_whyNot yX12_whyNot, Cond.code yX12_whyNot cX12_whyNot 3 (some .int), Cond.constant RX12 122 (111622), Cond.methodLink RX12 126 yX12_inMany, Cond.instanceMethod yX12_inMany, Cond.selects RX12 yX12_inMany yX12_inMany, Cond.code yX12_inMany cX12_inMany 3 (some .int), Cond.methodLink RX12 181 yX12_goOne, Cond.instanceMethod yX12_goOne, Cond.selects RX12 yX12_goOne yX12_goOne, Cond.code yX12_goOne cX12_goOne 2 none, Cond.fieldLink RX12 143 "BeetleDriveModel" "wholeNow" "I", Cond.methodLink RX12 162 yX12_happen, Cond.instanceMethod yX12_happen, Cond.selects RX12 yX12_happen yX12_happen, Cond.code yX12_happen cX12_happen 3 none, Cond.methodLink RX12 152 yX12_cast]
def wsX12_judge_r4 : List Cond := [Cond.instanceMethod yX12_cast, Cond.selects RX12 yX12_cast yX12_cast, Cond.code yX12_cast cX12_cast 2 none, Cond.methodLink RX12 130 yX12_canDraw, Cond.instanceMethod yX12_canDraw, Cond.selects RX12 yX12_canDraw yX12_canDraw, Cond.code yX12_canDraw cX12_canDraw 4 (some .boolean), Cond.fieldLink RX12 7 "BeetleDriveModel" "most" "[I", Cond.methodLink RX12 75 yX12_figureOf, Cond.static yX12_figureOf, Cond.code yX12_figureOf cX12_figureOf 2 (some .int), Cond.methodLink RX12 69 yX12_tenTo, Cond.static yX12_tenTo, Cond.code yX12_tenTo cX12_tenTo 3 (some .int), Cond.methodLink RX12 79 yX12_needOf, Cond.static yX12_needOf, Cond.code yX12_needOf cX12_needOf 1 (some .int), Cond.methodLink RX12 137 yX12_goesOn, Cond.instanceMethod yX12_goesOn, Cond.selects RX12 yX12_goesOn yX12_goesOn, Cond.code yX12_goesOn cX12_goesOn 1 none, Cond.methodLink RX12 140 yX12_drawnBy, Cond.static yX12_drawnBy, Cond.code yX12_drawnBy cX12_drawnBy 2 (some .int)]
def wsX12_judge_r5 : List Cond := [Cond.methodLink RX12 156 yX12_cry, Cond.instanceMethod yX12_cry, Cond.selects RX12 yX12_cry yX12_cry, Cond.code yX12_cry cX12_cry 3 none, Cond.methodLink RX12 146 yX12_partsOf, Cond.static yX12_partsOf, Cond.code yX12_partsOf cX12_partsOf 3 (some .int), Cond.methodLink RX12 149 yX12_less, Cond.static yX12_less, Cond.code yX12_less cX12_less 2 (some .int), Cond.methodLink RX12 159 yX12_goOrCome, Cond.instanceMethod yX12_goOrCome, Cond.selects RX12 yX12_goOrCome yX12_goOrCome, Cond.code yX12_goOrCome cX12_goOrCome 2 none, Cond.methodLink RX12 198 yX12_back, Cond.instanceMethod yX12_back, Cond.selects RX12 yX12_back yX12_back, Cond.code yX12_back cX12_back 3 (some .int)]
def wsX12_judge : List Cond := .code yX12_judge cX12_judge 3 (some .int) :: ((wsX12_judge_r1 ++ (wsX12_judge_r2 ++ (wsX12_judge_r3 ++ (wsX12_judge_r4 ++ wsX12_judge_r5)))) ++ wsX120)
def wsX12_ofPlayer : List Cond := .code yX12_ofPlayer cX12_ofPlayer 3 (some .int) :: ([.fieldLink RX12 13 "BeetleDriveModel" "beetle" "[I", .fieldLink RX12 16 "BeetleDriveModel" "points" "[I", .fieldLink RX12 19 "BeetleDriveModel" "isIn" "[I", .methodLink RX12 146 yX12_partsOf, .static yX12_partsOf, .initialized RX12, .code yX12_partsOf cX12_partsOf 3 (some .int), .methodLink RX12 75 yX12_figureOf, .static yX12_figureOf, .code yX12_figureOf cX12_figureOf 2 (some .int), .methodLink RX12 69 yX12_tenTo, .static yX12_tenTo, .code yX12_tenTo cX12_tenTo 3 (some .int)] ++ wsX120)
def wsX12_behind_r1 : List Cond := [Cond.constantLong RX12 201 (3), Cond.methodLink RX12 82 yX12_isPlayer, Cond.static yX12_isPlayer, Cond.initialized RX12, Cond.code yX12_isPlayer cX12_isPlayer 1 (some .boolean), Cond.constantLong RX12 63 (5), Cond.methodLink RX12 65 yX12_in, Cond.static yX12_in, Cond.code yX12_in cX12_in 6 (some .boolean), Cond.methodLink RX12 195 yX12_refusal, Cond.instanceMethod yX12_refusal, Cond.selects RX12 yX12_refusal yX12_refusal, Cond.code yX12_refusal cX12_refusal 1 (some .int), Cond.fieldLink RX12 172 "BeetleDriveModel" "badAct" "I", Cond.methodLink RX12 184 yX12_keepNow, Cond.instanceMethod yX12_keepNow, Cond.selects RX12 yX12_keepNow yX12_keepNow, Cond.code yX12_keepNow cX12_keepNow 2 none, Cond.fieldLink RX12 37 "BeetleDriveModel" "had" "[I", Cond.fieldLink RX12 13 "BeetleDriveModel" "beetle" "[I", Cond.fieldLink RX12 16 "BeetleDriveModel" "points" "[I", Cond.fieldLink RX12 19 "BeetleDriveModel" "isIn" "[I", Cond.fieldLink RX12 91 "BeetleDriveModel" "holder" "I", Cond.fieldLink RX12 123 "BeetleDriveModel" "games" "I"]
def wsX12_behind_r2 : List Cond := [Cond.methodLink RX12 187 yX12_fault, Cond.instanceMethod yX12_fault, Cond.selects RX12 yX12_fault yX12_fault, Cond.code yX12_fault cX12_fault 3 (some .int), Cond.fieldLink RX12 102 "BeetleDriveModel" "acts" "I", Cond.fieldLink RX12 99 "BeetleDriveModel" "padMany" "I", Cond.fieldLink RX12 28 "BeetleDriveModel" "pad" "[I", Cond.methodLink RX12 116 yX12_begin, Cond.instanceMethod yX12_begin, Cond.selects RX12 yX12_begin yX12_begin, Cond.code yX12_begin cX12_begin 2 (some .int), Cond.constantLong RX12 105 (49), Cond.constantLong RX12 107 (54), Cond.fieldLink RX12 34 "BeetleDriveModel" "much" "[I", Cond.constantLong RX12 112 (65), Cond.constantLong RX12 114 (70), Cond.methodLink RX12 109 yX12_close, Cond.instanceMethod yX12_close, Cond.selects RX12 yX12_close yX12_close, Cond.code yX12_close cX12_close 3 (some .int), Cond.fieldLink RX12 31 "BeetleDriveModel" "act" "[I", Cond.methodLink RX12 119 yX12_deed, Cond.instanceMethod yX12_deed, Cond.selects RX12 yX12_deed yX12_deed]
def wsX12_behind_r3 : List Cond := [Cond.code yX12_deed cX12_deed 2 (some .int), Cond.methodLink RX12 190 yX12_goGames, Cond.instanceMethod yX12_goGames, Cond.selects RX12 yX12_goGames yX12_goGames, Cond.code yX12_goGames cX12_goGames 3 none, Cond.fieldLink RX12 175 "BeetleDriveModel" "badWhy" "I", Cond.fieldLink RX12 166 "BeetleDriveModel" "wholeAct" "I", Cond.fieldLink RX12 169 "BeetleDriveModel" "wholeWho" "I", Cond.fieldLink RX12 134 "BeetleDriveModel" "nothings" "I", Cond.methodLink RX12 178 yX12_whyNot, Cond.instanceMethod yX12_whyNot, Cond.selects RX12 yX12_whyNot yX12_whyNot, Cond.code yX12_whyNot cX12_whyNot 3 (some .int), Cond.constant RX12 122 (111622), Cond.methodLink RX12 126 yX12_inMany, Cond.instanceMethod yX12_inMany, Cond.selects RX12 yX12_inMany yX12_inMany, Cond.code yX12_inMany cX12_inMany 3 (some .int), Cond.methodLink RX12 181 yX12_goOne, Cond.instanceMethod yX12_goOne, Cond.selects RX12 yX12_goOne yX12_goOne, Cond.code yX12_goOne cX12_goOne 2 none, Cond.fieldLink RX12 143 "BeetleDriveModel" "wholeNow" "I", Cond.methodLink RX12 162 yX12_happen]
def wsX12_behind_r4 : List Cond := [Cond.instanceMethod yX12_happen, Cond.selects RX12 yX12_happen yX12_happen, Cond.code yX12_happen cX12_happen 3 none, Cond.methodLink RX12 152 yX12_cast, Cond.instanceMethod yX12_cast, Cond.selects RX12 yX12_cast yX12_cast, Cond.code yX12_cast cX12_cast 2 none, Cond.methodLink RX12 130 yX12_canDraw, Cond.instanceMethod yX12_canDraw, Cond.selects RX12 yX12_canDraw yX12_canDraw, Cond.code yX12_canDraw cX12_canDraw 4 (some .boolean), Cond.fieldLink RX12 7 "BeetleDriveModel" "most" "[I", Cond.methodLink RX12 75 yX12_figureOf, Cond.static yX12_figureOf, Cond.code yX12_figureOf cX12_figureOf 2 (some .int), Cond.methodLink RX12 69 yX12_tenTo, Cond.static yX12_tenTo, Cond.code yX12_tenTo cX12_tenTo 3 (some .int), Cond.methodLink RX12 79 yX12_needOf, Cond.static yX12_needOf, Cond.code yX12_needOf cX12_needOf 1 (some .int), Cond.methodLink RX12 137 yX12_goesOn, Cond.instanceMethod yX12_goesOn, Cond.selects RX12 yX12_goesOn yX12_goesOn]
def wsX12_behind_r5 : List Cond := [Cond.code yX12_goesOn cX12_goesOn 1 none, Cond.methodLink RX12 140 yX12_drawnBy, Cond.static yX12_drawnBy, Cond.code yX12_drawnBy cX12_drawnBy 2 (some .int), Cond.methodLink RX12 156 yX12_cry, Cond.instanceMethod yX12_cry, Cond.selects RX12 yX12_cry yX12_cry, Cond.code yX12_cry cX12_cry 3 none, Cond.methodLink RX12 146 yX12_partsOf, Cond.static yX12_partsOf, Cond.code yX12_partsOf cX12_partsOf 3 (some .int), Cond.methodLink RX12 149 yX12_less, Cond.static yX12_less, Cond.code yX12_less cX12_less 2 (some .int), Cond.methodLink RX12 159 yX12_goOrCome, Cond.instanceMethod yX12_goOrCome, Cond.selects RX12 yX12_goOrCome yX12_goOrCome, Cond.code yX12_goOrCome cX12_goOrCome 2 none, Cond.methodLink RX12 203 yX12_ofPlayer, Cond.instanceMethod yX12_ofPlayer, Cond.selects RX12 yX12_ofPlayer yX12_ofPlayer, Cond.code yX12_ofPlayer cX12_ofPlayer 3 (some .int), Cond.methodLink RX12 198 yX12_back, Cond.instanceMethod yX12_back]
def wsX12_behind_r6 : List Cond := [Cond.selects RX12 yX12_back yX12_back, Cond.code yX12_back cX12_back 3 (some .int)]
def wsX12_behind : List Cond := .code yX12_behind cX12_behind 4 (some .int) :: ((wsX12_behind_r1 ++ (wsX12_behind_r2 ++ (wsX12_behind_r3 ++ (wsX12_behind_r4 ++ (wsX12_behind_r5 ++ wsX12_behind_r6))))) ++ wsX120)
def wsX12_wholeOnes : List Cond := .code yX12_wholeOnes cX12_wholeOnes 3 (some .int) :: ([.fieldLink RX12 13 "BeetleDriveModel" "beetle" "[I", .constant RX12 122 (111622)] ++ wsX120)
def wsX12_haveOf : List Cond := .code yX12_haveOf cX12_haveOf 2 (some .int) :: ([.fieldLink RX12 16 "BeetleDriveModel" "points" "[I", .fieldLink RX12 13 "BeetleDriveModel" "beetle" "[I", .methodLink RX12 146 yX12_partsOf, .static yX12_partsOf, .initialized RX12, .code yX12_partsOf cX12_partsOf 3 (some .int), .methodLink RX12 75 yX12_figureOf, .static yX12_figureOf, .code yX12_figureOf cX12_figureOf 2 (some .int), .methodLink RX12 69 yX12_tenTo, .static yX12_tenTo, .code yX12_tenTo cX12_tenTo 3 (some .int)] ++ wsX120)
def wsX12_richest : List Cond := .code yX12_richest cX12_richest 3 (some .int) :: ([.methodLink RX12 206 yX12_haveOf, .instanceMethod yX12_haveOf, .selects RX12 yX12_haveOf yX12_haveOf, .initialized RX12, .code yX12_haveOf cX12_haveOf 2 (some .int), .fieldLink RX12 16 "BeetleDriveModel" "points" "[I", .fieldLink RX12 13 "BeetleDriveModel" "beetle" "[I", .methodLink RX12 146 yX12_partsOf, .static yX12_partsOf, .code yX12_partsOf cX12_partsOf 3 (some .int), .methodLink RX12 75 yX12_figureOf, .static yX12_figureOf, .code yX12_figureOf cX12_figureOf 2 (some .int), .methodLink RX12 69 yX12_tenTo, .static yX12_tenTo, .code yX12_tenTo cX12_tenTo 3 (some .int)] ++ wsX120)
def wsX12_table_r1 : List Cond := [Cond.constantLong RX12 201 (3), Cond.fieldLink RX12 91 "BeetleDriveModel" "holder" "I", Cond.fieldLink RX12 123 "BeetleDriveModel" "games" "I", Cond.methodLink RX12 65 yX12_in, Cond.static yX12_in, Cond.initialized RX12, Cond.code yX12_in cX12_in 6 (some .boolean), Cond.methodLink RX12 195 yX12_refusal, Cond.instanceMethod yX12_refusal, Cond.selects RX12 yX12_refusal yX12_refusal, Cond.code yX12_refusal cX12_refusal 1 (some .int), Cond.fieldLink RX12 172 "BeetleDriveModel" "badAct" "I", Cond.methodLink RX12 184 yX12_keepNow, Cond.instanceMethod yX12_keepNow, Cond.selects RX12 yX12_keepNow yX12_keepNow, Cond.code yX12_keepNow cX12_keepNow 2 none, Cond.fieldLink RX12 37 "BeetleDriveModel" "had" "[I", Cond.fieldLink RX12 13 "BeetleDriveModel" "beetle" "[I", Cond.fieldLink RX12 16 "BeetleDriveModel" "points" "[I", Cond.fieldLink RX12 19 "BeetleDriveModel" "isIn" "[I", Cond.methodLink RX12 187 yX12_fault, Cond.instanceMethod yX12_fault, Cond.selects RX12 yX12_fault yX12_fault, Cond.code yX12_fault cX12_fault 3 (some .int)]
def wsX12_table_r2 : List Cond := [Cond.fieldLink RX12 102 "BeetleDriveModel" "acts" "I", Cond.fieldLink RX12 99 "BeetleDriveModel" "padMany" "I", Cond.fieldLink RX12 28 "BeetleDriveModel" "pad" "[I", Cond.methodLink RX12 116 yX12_begin, Cond.instanceMethod yX12_begin, Cond.selects RX12 yX12_begin yX12_begin, Cond.code yX12_begin cX12_begin 2 (some .int), Cond.constantLong RX12 105 (49), Cond.constantLong RX12 107 (54), Cond.fieldLink RX12 34 "BeetleDriveModel" "much" "[I", Cond.constantLong RX12 112 (65), Cond.constantLong RX12 114 (70), Cond.methodLink RX12 109 yX12_close, Cond.instanceMethod yX12_close, Cond.selects RX12 yX12_close yX12_close, Cond.code yX12_close cX12_close 3 (some .int), Cond.fieldLink RX12 31 "BeetleDriveModel" "act" "[I", Cond.methodLink RX12 119 yX12_deed, Cond.instanceMethod yX12_deed, Cond.selects RX12 yX12_deed yX12_deed, Cond.code yX12_deed cX12_deed 2 (some .int), Cond.methodLink RX12 190 yX12_goGames, Cond.instanceMethod yX12_goGames, Cond.selects RX12 yX12_goGames yX12_goGames]
def wsX12_table_r3 : List Cond := [Cond.code yX12_goGames cX12_goGames 3 none, Cond.fieldLink RX12 175 "BeetleDriveModel" "badWhy" "I", Cond.fieldLink RX12 166 "BeetleDriveModel" "wholeAct" "I", Cond.fieldLink RX12 169 "BeetleDriveModel" "wholeWho" "I", Cond.fieldLink RX12 134 "BeetleDriveModel" "nothings" "I", Cond.methodLink RX12 178 yX12_whyNot, Cond.instanceMethod yX12_whyNot, Cond.selects RX12 yX12_whyNot yX12_whyNot, Cond.code yX12_whyNot cX12_whyNot 3 (some .int), Cond.constant RX12 122 (111622), Cond.methodLink RX12 126 yX12_inMany, Cond.instanceMethod yX12_inMany, Cond.selects RX12 yX12_inMany yX12_inMany, Cond.code yX12_inMany cX12_inMany 3 (some .int), Cond.methodLink RX12 181 yX12_goOne, Cond.instanceMethod yX12_goOne, Cond.selects RX12 yX12_goOne yX12_goOne, Cond.code yX12_goOne cX12_goOne 2 none, Cond.fieldLink RX12 143 "BeetleDriveModel" "wholeNow" "I", Cond.methodLink RX12 162 yX12_happen, Cond.instanceMethod yX12_happen, Cond.selects RX12 yX12_happen yX12_happen, Cond.code yX12_happen cX12_happen 3 none, Cond.methodLink RX12 152 yX12_cast]
def wsX12_table_r4 : List Cond := [Cond.instanceMethod yX12_cast, Cond.selects RX12 yX12_cast yX12_cast, Cond.code yX12_cast cX12_cast 2 none, Cond.methodLink RX12 130 yX12_canDraw, Cond.instanceMethod yX12_canDraw, Cond.selects RX12 yX12_canDraw yX12_canDraw, Cond.code yX12_canDraw cX12_canDraw 4 (some .boolean), Cond.fieldLink RX12 7 "BeetleDriveModel" "most" "[I", Cond.methodLink RX12 75 yX12_figureOf, Cond.static yX12_figureOf, Cond.code yX12_figureOf cX12_figureOf 2 (some .int), Cond.methodLink RX12 69 yX12_tenTo, Cond.static yX12_tenTo, Cond.code yX12_tenTo cX12_tenTo 3 (some .int), Cond.methodLink RX12 79 yX12_needOf, Cond.static yX12_needOf, Cond.code yX12_needOf cX12_needOf 1 (some .int), Cond.methodLink RX12 137 yX12_goesOn, Cond.instanceMethod yX12_goesOn, Cond.selects RX12 yX12_goesOn yX12_goesOn, Cond.code yX12_goesOn cX12_goesOn 1 none, Cond.methodLink RX12 140 yX12_drawnBy, Cond.static yX12_drawnBy, Cond.code yX12_drawnBy cX12_drawnBy 2 (some .int)]
def wsX12_table_r5 : List Cond := [Cond.methodLink RX12 156 yX12_cry, Cond.instanceMethod yX12_cry, Cond.selects RX12 yX12_cry yX12_cry, Cond.code yX12_cry cX12_cry 3 none, Cond.methodLink RX12 146 yX12_partsOf, Cond.static yX12_partsOf, Cond.code yX12_partsOf cX12_partsOf 3 (some .int), Cond.methodLink RX12 149 yX12_less, Cond.static yX12_less, Cond.code yX12_less cX12_less 2 (some .int), Cond.methodLink RX12 159 yX12_goOrCome, Cond.instanceMethod yX12_goOrCome, Cond.selects RX12 yX12_goOrCome yX12_goOrCome, Cond.code yX12_goOrCome cX12_goOrCome 2 none, Cond.methodLink RX12 209 yX12_wholeOnes, Cond.instanceMethod yX12_wholeOnes, Cond.selects RX12 yX12_wholeOnes yX12_wholeOnes, Cond.code yX12_wholeOnes cX12_wholeOnes 3 (some .int), Cond.methodLink RX12 212 yX12_richest, Cond.instanceMethod yX12_richest, Cond.selects RX12 yX12_richest yX12_richest, Cond.code yX12_richest cX12_richest 3 (some .int), Cond.methodLink RX12 206 yX12_haveOf, Cond.instanceMethod yX12_haveOf]
def wsX12_table_r6 : List Cond := [Cond.selects RX12 yX12_haveOf yX12_haveOf, Cond.code yX12_haveOf cX12_haveOf 2 (some .int), Cond.methodLink RX12 198 yX12_back, Cond.instanceMethod yX12_back, Cond.selects RX12 yX12_back yX12_back, Cond.code yX12_back cX12_back 3 (some .int)]
def wsX12_table : List Cond := .code yX12_table cX12_table 3 (some .int) :: ((wsX12_table_r1 ++ (wsX12_table_r2 ++ (wsX12_table_r3 ++ (wsX12_table_r4 ++ (wsX12_table_r5 ++ wsX12_table_r6))))) ++ wsX120)
def wsX12_first_r1 : List Cond := [Cond.fieldLink RX12 166 "BeetleDriveModel" "wholeAct" "I", Cond.fieldLink RX12 169 "BeetleDriveModel" "wholeWho" "I", Cond.methodLink RX12 65 yX12_in, Cond.static yX12_in, Cond.initialized RX12, Cond.code yX12_in cX12_in 6 (some .boolean), Cond.methodLink RX12 195 yX12_refusal, Cond.instanceMethod yX12_refusal, Cond.selects RX12 yX12_refusal yX12_refusal, Cond.code yX12_refusal cX12_refusal 1 (some .int), Cond.fieldLink RX12 172 "BeetleDriveModel" "badAct" "I", Cond.methodLink RX12 184 yX12_keepNow, Cond.instanceMethod yX12_keepNow, Cond.selects RX12 yX12_keepNow yX12_keepNow, Cond.code yX12_keepNow cX12_keepNow 2 none, Cond.fieldLink RX12 37 "BeetleDriveModel" "had" "[I", Cond.fieldLink RX12 13 "BeetleDriveModel" "beetle" "[I", Cond.fieldLink RX12 16 "BeetleDriveModel" "points" "[I", Cond.fieldLink RX12 19 "BeetleDriveModel" "isIn" "[I", Cond.fieldLink RX12 91 "BeetleDriveModel" "holder" "I", Cond.fieldLink RX12 123 "BeetleDriveModel" "games" "I", Cond.methodLink RX12 187 yX12_fault, Cond.instanceMethod yX12_fault, Cond.selects RX12 yX12_fault yX12_fault]
def wsX12_first_r2 : List Cond := [Cond.code yX12_fault cX12_fault 3 (some .int), Cond.fieldLink RX12 102 "BeetleDriveModel" "acts" "I", Cond.fieldLink RX12 99 "BeetleDriveModel" "padMany" "I", Cond.fieldLink RX12 28 "BeetleDriveModel" "pad" "[I", Cond.methodLink RX12 116 yX12_begin, Cond.instanceMethod yX12_begin, Cond.selects RX12 yX12_begin yX12_begin, Cond.code yX12_begin cX12_begin 2 (some .int), Cond.constantLong RX12 105 (49), Cond.constantLong RX12 107 (54), Cond.fieldLink RX12 34 "BeetleDriveModel" "much" "[I", Cond.constantLong RX12 112 (65), Cond.constantLong RX12 114 (70), Cond.methodLink RX12 109 yX12_close, Cond.instanceMethod yX12_close, Cond.selects RX12 yX12_close yX12_close, Cond.code yX12_close cX12_close 3 (some .int), Cond.fieldLink RX12 31 "BeetleDriveModel" "act" "[I", Cond.methodLink RX12 119 yX12_deed, Cond.instanceMethod yX12_deed, Cond.selects RX12 yX12_deed yX12_deed, Cond.code yX12_deed cX12_deed 2 (some .int), Cond.methodLink RX12 190 yX12_goGames, Cond.instanceMethod yX12_goGames]
def wsX12_first_r3 : List Cond := [Cond.selects RX12 yX12_goGames yX12_goGames, Cond.code yX12_goGames cX12_goGames 3 none, Cond.fieldLink RX12 175 "BeetleDriveModel" "badWhy" "I", Cond.fieldLink RX12 134 "BeetleDriveModel" "nothings" "I", Cond.methodLink RX12 178 yX12_whyNot, Cond.instanceMethod yX12_whyNot, Cond.selects RX12 yX12_whyNot yX12_whyNot, Cond.code yX12_whyNot cX12_whyNot 3 (some .int), Cond.constant RX12 122 (111622), Cond.methodLink RX12 126 yX12_inMany, Cond.instanceMethod yX12_inMany, Cond.selects RX12 yX12_inMany yX12_inMany, Cond.code yX12_inMany cX12_inMany 3 (some .int), Cond.methodLink RX12 181 yX12_goOne, Cond.instanceMethod yX12_goOne, Cond.selects RX12 yX12_goOne yX12_goOne, Cond.code yX12_goOne cX12_goOne 2 none, Cond.fieldLink RX12 143 "BeetleDriveModel" "wholeNow" "I", Cond.methodLink RX12 162 yX12_happen, Cond.instanceMethod yX12_happen, Cond.selects RX12 yX12_happen yX12_happen, Cond.code yX12_happen cX12_happen 3 none, Cond.methodLink RX12 152 yX12_cast, Cond.instanceMethod yX12_cast]
def wsX12_first_r4 : List Cond := [Cond.selects RX12 yX12_cast yX12_cast, Cond.code yX12_cast cX12_cast 2 none, Cond.methodLink RX12 130 yX12_canDraw, Cond.instanceMethod yX12_canDraw, Cond.selects RX12 yX12_canDraw yX12_canDraw, Cond.code yX12_canDraw cX12_canDraw 4 (some .boolean), Cond.fieldLink RX12 7 "BeetleDriveModel" "most" "[I", Cond.methodLink RX12 75 yX12_figureOf, Cond.static yX12_figureOf, Cond.code yX12_figureOf cX12_figureOf 2 (some .int), Cond.methodLink RX12 69 yX12_tenTo, Cond.static yX12_tenTo, Cond.code yX12_tenTo cX12_tenTo 3 (some .int), Cond.methodLink RX12 79 yX12_needOf, Cond.static yX12_needOf, Cond.code yX12_needOf cX12_needOf 1 (some .int), Cond.methodLink RX12 137 yX12_goesOn, Cond.instanceMethod yX12_goesOn, Cond.selects RX12 yX12_goesOn yX12_goesOn, Cond.code yX12_goesOn cX12_goesOn 1 none, Cond.methodLink RX12 140 yX12_drawnBy, Cond.static yX12_drawnBy, Cond.code yX12_drawnBy cX12_drawnBy 2 (some .int), Cond.methodLink RX12 156 yX12_cry]
def wsX12_first_r5 : List Cond := [Cond.instanceMethod yX12_cry, Cond.selects RX12 yX12_cry yX12_cry, Cond.code yX12_cry cX12_cry 3 none, Cond.methodLink RX12 146 yX12_partsOf, Cond.static yX12_partsOf, Cond.code yX12_partsOf cX12_partsOf 3 (some .int), Cond.methodLink RX12 149 yX12_less, Cond.static yX12_less, Cond.code yX12_less cX12_less 2 (some .int), Cond.methodLink RX12 159 yX12_goOrCome, Cond.instanceMethod yX12_goOrCome, Cond.selects RX12 yX12_goOrCome yX12_goOrCome, Cond.code yX12_goOrCome cX12_goOrCome 2 none, Cond.methodLink RX12 198 yX12_back, Cond.instanceMethod yX12_back, Cond.selects RX12 yX12_back yX12_back, Cond.code yX12_back cX12_back 3 (some .int)]
def wsX12_first : List Cond := .code yX12_first cX12_first 3 (some .int) :: ((wsX12_first_r1 ++ (wsX12_first_r2 ++ (wsX12_first_r3 ++ (wsX12_first_r4 ++ wsX12_first_r5)))) ++ wsX120)
def wsX12_done_r1 : List Cond := [Cond.fieldLink RX12 99 "BeetleDriveModel" "padMany" "I", Cond.fieldLink RX12 102 "BeetleDriveModel" "acts" "I", Cond.methodLink RX12 195 yX12_refusal, Cond.instanceMethod yX12_refusal, Cond.selects RX12 yX12_refusal yX12_refusal, Cond.initialized RX12, Cond.code yX12_refusal cX12_refusal 1 (some .int), Cond.fieldLink RX12 172 "BeetleDriveModel" "badAct" "I", Cond.methodLink RX12 184 yX12_keepNow, Cond.instanceMethod yX12_keepNow, Cond.selects RX12 yX12_keepNow yX12_keepNow, Cond.code yX12_keepNow cX12_keepNow 2 none, Cond.fieldLink RX12 37 "BeetleDriveModel" "had" "[I", Cond.fieldLink RX12 13 "BeetleDriveModel" "beetle" "[I", Cond.fieldLink RX12 16 "BeetleDriveModel" "points" "[I", Cond.fieldLink RX12 19 "BeetleDriveModel" "isIn" "[I", Cond.fieldLink RX12 91 "BeetleDriveModel" "holder" "I", Cond.fieldLink RX12 123 "BeetleDriveModel" "games" "I", Cond.methodLink RX12 187 yX12_fault, Cond.instanceMethod yX12_fault, Cond.selects RX12 yX12_fault yX12_fault, Cond.code yX12_fault cX12_fault 3 (some .int), Cond.fieldLink RX12 28 "BeetleDriveModel" "pad" "[I", Cond.methodLink RX12 116 yX12_begin]
def wsX12_done_r2 : List Cond := [Cond.instanceMethod yX12_begin, Cond.selects RX12 yX12_begin yX12_begin, Cond.code yX12_begin cX12_begin 2 (some .int), Cond.constantLong RX12 105 (49), Cond.constantLong RX12 107 (54), Cond.fieldLink RX12 34 "BeetleDriveModel" "much" "[I", Cond.constantLong RX12 112 (65), Cond.constantLong RX12 114 (70), Cond.methodLink RX12 65 yX12_in, Cond.static yX12_in, Cond.code yX12_in cX12_in 6 (some .boolean), Cond.methodLink RX12 109 yX12_close, Cond.instanceMethod yX12_close, Cond.selects RX12 yX12_close yX12_close, Cond.code yX12_close cX12_close 3 (some .int), Cond.fieldLink RX12 31 "BeetleDriveModel" "act" "[I", Cond.methodLink RX12 119 yX12_deed, Cond.instanceMethod yX12_deed, Cond.selects RX12 yX12_deed yX12_deed, Cond.code yX12_deed cX12_deed 2 (some .int), Cond.methodLink RX12 190 yX12_goGames, Cond.instanceMethod yX12_goGames, Cond.selects RX12 yX12_goGames yX12_goGames, Cond.code yX12_goGames cX12_goGames 3 none]
def wsX12_done_r3 : List Cond := [Cond.fieldLink RX12 175 "BeetleDriveModel" "badWhy" "I", Cond.fieldLink RX12 166 "BeetleDriveModel" "wholeAct" "I", Cond.fieldLink RX12 169 "BeetleDriveModel" "wholeWho" "I", Cond.fieldLink RX12 134 "BeetleDriveModel" "nothings" "I", Cond.methodLink RX12 178 yX12_whyNot, Cond.instanceMethod yX12_whyNot, Cond.selects RX12 yX12_whyNot yX12_whyNot, Cond.code yX12_whyNot cX12_whyNot 3 (some .int), Cond.constant RX12 122 (111622), Cond.methodLink RX12 126 yX12_inMany, Cond.instanceMethod yX12_inMany, Cond.selects RX12 yX12_inMany yX12_inMany, Cond.code yX12_inMany cX12_inMany 3 (some .int), Cond.methodLink RX12 181 yX12_goOne, Cond.instanceMethod yX12_goOne, Cond.selects RX12 yX12_goOne yX12_goOne, Cond.code yX12_goOne cX12_goOne 2 none, Cond.fieldLink RX12 143 "BeetleDriveModel" "wholeNow" "I", Cond.methodLink RX12 162 yX12_happen, Cond.instanceMethod yX12_happen, Cond.selects RX12 yX12_happen yX12_happen, Cond.code yX12_happen cX12_happen 3 none, Cond.methodLink RX12 152 yX12_cast, Cond.instanceMethod yX12_cast]
def wsX12_done_r4 : List Cond := [Cond.selects RX12 yX12_cast yX12_cast, Cond.code yX12_cast cX12_cast 2 none, Cond.methodLink RX12 130 yX12_canDraw, Cond.instanceMethod yX12_canDraw, Cond.selects RX12 yX12_canDraw yX12_canDraw, Cond.code yX12_canDraw cX12_canDraw 4 (some .boolean), Cond.fieldLink RX12 7 "BeetleDriveModel" "most" "[I", Cond.methodLink RX12 75 yX12_figureOf, Cond.static yX12_figureOf, Cond.code yX12_figureOf cX12_figureOf 2 (some .int), Cond.methodLink RX12 69 yX12_tenTo, Cond.static yX12_tenTo, Cond.code yX12_tenTo cX12_tenTo 3 (some .int), Cond.methodLink RX12 79 yX12_needOf, Cond.static yX12_needOf, Cond.code yX12_needOf cX12_needOf 1 (some .int), Cond.methodLink RX12 137 yX12_goesOn, Cond.instanceMethod yX12_goesOn, Cond.selects RX12 yX12_goesOn yX12_goesOn, Cond.code yX12_goesOn cX12_goesOn 1 none, Cond.methodLink RX12 140 yX12_drawnBy, Cond.static yX12_drawnBy, Cond.code yX12_drawnBy cX12_drawnBy 2 (some .int), Cond.methodLink RX12 156 yX12_cry]
def wsX12_done_r5 : List Cond := [Cond.instanceMethod yX12_cry, Cond.selects RX12 yX12_cry yX12_cry, Cond.code yX12_cry cX12_cry 3 none, Cond.methodLink RX12 146 yX12_partsOf, Cond.static yX12_partsOf, Cond.code yX12_partsOf cX12_partsOf 3 (some .int), Cond.methodLink RX12 149 yX12_less, Cond.static yX12_less, Cond.code yX12_less cX12_less 2 (some .int), Cond.methodLink RX12 159 yX12_goOrCome, Cond.instanceMethod yX12_goOrCome, Cond.selects RX12 yX12_goOrCome yX12_goOrCome, Cond.code yX12_goOrCome cX12_goOrCome 2 none, Cond.methodLink RX12 198 yX12_back, Cond.instanceMethod yX12_back, Cond.selects RX12 yX12_back yX12_back, Cond.code yX12_back cX12_back 3 (some .int)]
def wsX12_done : List Cond := .code yX12_done cX12_done 2 (some .int) :: ((wsX12_done_r1 ++ (wsX12_done_r2 ++ (wsX12_done_r3 ++ (wsX12_done_r4 ++ wsX12_done_r5)))) ++ wsX120)
def wsX12_placeOf : List Cond := .code yX12_placeOf cX12_placeOf 4 (some .int) :: ([.fieldLink RX12 7 "BeetleDriveModel" "most" "[I", .methodLink RX12 75 yX12_figureOf, .static yX12_figureOf, .initialized RX12, .code yX12_figureOf cX12_figureOf 2 (some .int), .methodLink RX12 69 yX12_tenTo, .static yX12_tenTo, .code yX12_tenTo cX12_tenTo 3 (some .int)] ++ wsX120)
def wsX12_drawnAt : List Cond := .code yX12_drawnAt cX12_drawnAt 5 (some .int) :: ([.fieldLink RX12 7 "BeetleDriveModel" "most" "[I", .methodLink RX12 69 yX12_tenTo, .static yX12_tenTo, .initialized RX12, .code yX12_tenTo cX12_tenTo 3 (some .int)] ++ wsX120)
def wsX12_ordersFrom : List Cond := .code yX12_ordersFrom cX12_ordersFrom 5 (some .long) :: ([.constant RX12 122 (111622), .fieldLink RX12 40 "BeetleDriveModel" "ways" "[J", .methodLink RX12 130 yX12_canDraw, .instanceMethod yX12_canDraw, .selects RX12 yX12_canDraw yX12_canDraw, .initialized RX12, .code yX12_canDraw cX12_canDraw 4 (some .boolean), .fieldLink RX12 7 "BeetleDriveModel" "most" "[I", .methodLink RX12 75 yX12_figureOf, .static yX12_figureOf, .code yX12_figureOf cX12_figureOf 2 (some .int), .methodLink RX12 69 yX12_tenTo, .static yX12_tenTo, .code yX12_tenTo cX12_tenTo 3 (some .int), .methodLink RX12 79 yX12_needOf, .static yX12_needOf, .code yX12_needOf cX12_needOf 1 (some .int), .methodLink RX12 140 yX12_drawnBy, .static yX12_drawnBy, .code yX12_drawnBy cX12_drawnBy 2 (some .int), .methodLink RX12 215 yX12_placeOf, .instanceMethod yX12_placeOf, .selects RX12 yX12_placeOf yX12_placeOf, .code yX12_placeOf cX12_placeOf 4 (some .int)] ++ wsX120)
def wsX12_orders_r1 : List Cond := [Cond.fieldLink RX12 40 "BeetleDriveModel" "ways" "[J", Cond.methodLink RX12 86 yX12_isBeetle, Cond.instanceMethod yX12_isBeetle, Cond.selects RX12 yX12_isBeetle yX12_isBeetle, Cond.initialized RX12, Cond.code yX12_isBeetle cX12_isBeetle 5 (some .boolean), Cond.constantLong RX12 73 (111622), Cond.fieldLink RX12 7 "BeetleDriveModel" "most" "[I", Cond.methodLink RX12 65 yX12_in, Cond.static yX12_in, Cond.code yX12_in cX12_in 6 (some .boolean), Cond.methodLink RX12 75 yX12_figureOf, Cond.static yX12_figureOf, Cond.code yX12_figureOf cX12_figureOf 2 (some .int), Cond.methodLink RX12 69 yX12_tenTo, Cond.static yX12_tenTo, Cond.code yX12_tenTo cX12_tenTo 3 (some .int), Cond.methodLink RX12 79 yX12_needOf, Cond.static yX12_needOf, Cond.code yX12_needOf cX12_needOf 1 (some .int), Cond.methodLink RX12 218 yX12_drawnAt, Cond.instanceMethod yX12_drawnAt, Cond.selects RX12 yX12_drawnAt yX12_drawnAt, Cond.code yX12_drawnAt cX12_drawnAt 5 (some .int)]
def wsX12_orders_r2 : List Cond := [Cond.methodLink RX12 221 yX12_ordersFrom, Cond.instanceMethod yX12_ordersFrom, Cond.selects RX12 yX12_ordersFrom yX12_ordersFrom, Cond.code yX12_ordersFrom cX12_ordersFrom 5 (some .long), Cond.constant RX12 122 (111622), Cond.methodLink RX12 130 yX12_canDraw, Cond.instanceMethod yX12_canDraw, Cond.selects RX12 yX12_canDraw yX12_canDraw, Cond.code yX12_canDraw cX12_canDraw 4 (some .boolean), Cond.methodLink RX12 140 yX12_drawnBy, Cond.static yX12_drawnBy, Cond.code yX12_drawnBy cX12_drawnBy 2 (some .int), Cond.methodLink RX12 215 yX12_placeOf, Cond.instanceMethod yX12_placeOf, Cond.selects RX12 yX12_placeOf yX12_placeOf, Cond.code yX12_placeOf cX12_placeOf 4 (some .int)]
def wsX12_orders : List Cond := .code yX12_orders cX12_orders 5 (some .int) :: ((wsX12_orders_r1 ++ wsX12_orders_r2) ++ wsX120)
def wsX12_castsFrom_r1 : List Cond := [Cond.fieldLink RX12 44 "BeetleDriveModel" "ahead" "[J", Cond.methodLink RX12 218 yX12_drawnAt, Cond.instanceMethod yX12_drawnAt, Cond.selects RX12 yX12_drawnAt yX12_drawnAt, Cond.initialized RX12, Cond.code yX12_drawnAt cX12_drawnAt 5 (some .int), Cond.fieldLink RX12 7 "BeetleDriveModel" "most" "[I", Cond.methodLink RX12 69 yX12_tenTo, Cond.static yX12_tenTo, Cond.code yX12_tenTo cX12_tenTo 3 (some .int), Cond.methodLink RX12 130 yX12_canDraw, Cond.instanceMethod yX12_canDraw, Cond.selects RX12 yX12_canDraw yX12_canDraw, Cond.code yX12_canDraw cX12_canDraw 4 (some .boolean), Cond.methodLink RX12 75 yX12_figureOf, Cond.static yX12_figureOf, Cond.code yX12_figureOf cX12_figureOf 2 (some .int), Cond.methodLink RX12 79 yX12_needOf, Cond.static yX12_needOf, Cond.code yX12_needOf cX12_needOf 1 (some .int), Cond.methodLink RX12 140 yX12_drawnBy, Cond.static yX12_drawnBy, Cond.code yX12_drawnBy cX12_drawnBy 2 (some .int), Cond.methodLink RX12 215 yX12_placeOf]
def wsX12_castsFrom_r2 : List Cond := [Cond.instanceMethod yX12_placeOf, Cond.selects RX12 yX12_placeOf yX12_placeOf, Cond.code yX12_placeOf cX12_placeOf 4 (some .int)]
def wsX12_castsFrom : List Cond := .code yX12_castsFrom cX12_castsFrom 7 (some .long) :: ((wsX12_castsFrom_r1 ++ wsX12_castsFrom_r2) ++ wsX120)
def wsX12_divisor : List Cond := .code yX12_divisor cX12_divisor 10 (some .long) :: ([])
def wsX12_whole_r1 : List Cond := [Cond.constantLong RX12 225 (24), Cond.constantLong RX12 227 (-1000000000000000002), Cond.fieldLink RX12 40 "BeetleDriveModel" "ways" "[J", Cond.constant RX12 122 (111622), Cond.constantLong RX12 229 (6), Cond.fieldLink RX12 44 "BeetleDriveModel" "ahead" "[J", Cond.methodLink RX12 86 yX12_isBeetle, Cond.instanceMethod yX12_isBeetle, Cond.selects RX12 yX12_isBeetle yX12_isBeetle, Cond.initialized RX12, Cond.code yX12_isBeetle cX12_isBeetle 5 (some .boolean), Cond.constantLong RX12 73 (111622), Cond.fieldLink RX12 7 "BeetleDriveModel" "most" "[I", Cond.methodLink RX12 65 yX12_in, Cond.static yX12_in, Cond.code yX12_in cX12_in 6 (some .boolean), Cond.methodLink RX12 75 yX12_figureOf, Cond.static yX12_figureOf, Cond.code yX12_figureOf cX12_figureOf 2 (some .int), Cond.methodLink RX12 69 yX12_tenTo, Cond.static yX12_tenTo, Cond.code yX12_tenTo cX12_tenTo 3 (some .int), Cond.methodLink RX12 79 yX12_needOf, Cond.static yX12_needOf]
def wsX12_whole_r2 : List Cond := [Cond.code yX12_needOf cX12_needOf 1 (some .int), Cond.methodLink RX12 218 yX12_drawnAt, Cond.instanceMethod yX12_drawnAt, Cond.selects RX12 yX12_drawnAt yX12_drawnAt, Cond.code yX12_drawnAt cX12_drawnAt 5 (some .int), Cond.methodLink RX12 231 yX12_castsFrom, Cond.instanceMethod yX12_castsFrom, Cond.selects RX12 yX12_castsFrom yX12_castsFrom, Cond.code yX12_castsFrom cX12_castsFrom 7 (some .long), Cond.methodLink RX12 130 yX12_canDraw, Cond.instanceMethod yX12_canDraw, Cond.selects RX12 yX12_canDraw yX12_canDraw, Cond.code yX12_canDraw cX12_canDraw 4 (some .boolean), Cond.methodLink RX12 140 yX12_drawnBy, Cond.static yX12_drawnBy, Cond.code yX12_drawnBy cX12_drawnBy 2 (some .int), Cond.methodLink RX12 215 yX12_placeOf, Cond.instanceMethod yX12_placeOf, Cond.selects RX12 yX12_placeOf yX12_placeOf, Cond.code yX12_placeOf cX12_placeOf 4 (some .int), Cond.methodLink RX12 234 yX12_divisor, Cond.static yX12_divisor, Cond.code yX12_divisor cX12_divisor 10 (some .long)]
def wsX12_whole : List Cond := .code yX12_whole cX12_whole 10 (some .long) :: ((wsX12_whole_r1 ++ wsX12_whole_r2) ++ wsX120)
def wsX12_sums : List Cond := .code yX12_sums cX12_sums 8 (some .long) :: ([.constantLong RX12 238 (12), .constantLong RX12 240 (99), .constantLong RX12 242 (-2), .fieldLink RX12 47 "BeetleDriveModel" "rows" "[J", .methodLink RX12 65 yX12_in, .static yX12_in, .initialized RX12, .code yX12_in cX12_in 6 (some .boolean)] ++ wsX120)
def wsX12_baseOf : List Cond := .code yX12_baseOf cX12_baseOf 1 (some .int) :: ([])
def wsX12_rightOf : List Cond := .code yX12_rightOf cX12_rightOf 4 (some .int) :: ([.methodLink RX12 244 yX12_baseOf, .static yX12_baseOf, .initialized RX12, .code yX12_baseOf cX12_baseOf 1 (some .int)])
def wsX12_isLying : List Cond := .code yX12_isLying cX12_isLying 3 (some .boolean) :: ([.constantLong RX12 247 (11), .constantLong RX12 249 (66), .constantLong RX12 229 (6), .methodLink RX12 65 yX12_in, .static yX12_in, .initialized RX12, .code yX12_in cX12_in 6 (some .boolean)])
def wsX12_rolled : List Cond := .code yX12_rolled cX12_rolled 5 (some .int) :: ([.methodLink RX12 251 yX12_rightOf, .static yX12_rightOf, .initialized RX12, .code yX12_rightOf cX12_rightOf 4 (some .int), .methodLink RX12 244 yX12_baseOf, .static yX12_baseOf, .code yX12_baseOf cX12_baseOf 1 (some .int)])
def wsX12_waysOf : List Cond := .code yX12_waysOf cX12_waysOf 3 (some .int) :: ([])
def wsX12_isRow : List Cond := .code yX12_isRow cX12_isRow 4 (some .boolean) :: ([])
def wsX12_topBy : List Cond := .code yX12_topBy cX12_topBy 4 (some .int) :: ([.methodLink RX12 254 yX12_waysOf, .static yX12_waysOf, .initialized RX12, .code yX12_waysOf cX12_waysOf 3 (some .int), .methodLink RX12 69 yX12_tenTo, .static yX12_tenTo, .code yX12_tenTo cX12_tenTo 3 (some .int), .methodLink RX12 257 yX12_rolled, .static yX12_rolled, .code yX12_rolled cX12_rolled 5 (some .int), .methodLink RX12 251 yX12_rightOf, .static yX12_rightOf, .code yX12_rightOf cX12_rightOf 4 (some .int), .methodLink RX12 244 yX12_baseOf, .static yX12_baseOf, .code yX12_baseOf cX12_baseOf 1 (some .int)])
def wsX12_roll_r1 : List Cond := [Cond.methodLink RX12 260 yX12_isLying, Cond.static yX12_isLying, Cond.initialized RX12, Cond.code yX12_isLying cX12_isLying 3 (some .boolean), Cond.constantLong RX12 247 (11), Cond.constantLong RX12 249 (66), Cond.constantLong RX12 229 (6), Cond.methodLink RX12 65 yX12_in, Cond.static yX12_in, Cond.code yX12_in cX12_in 6 (some .boolean), Cond.methodLink RX12 263 yX12_isRow, Cond.static yX12_isRow, Cond.code yX12_isRow cX12_isRow 4 (some .boolean), Cond.methodLink RX12 266 yX12_topBy, Cond.static yX12_topBy, Cond.code yX12_topBy cX12_topBy 4 (some .int), Cond.methodLink RX12 254 yX12_waysOf, Cond.static yX12_waysOf, Cond.code yX12_waysOf cX12_waysOf 3 (some .int), Cond.methodLink RX12 69 yX12_tenTo, Cond.static yX12_tenTo, Cond.code yX12_tenTo cX12_tenTo 3 (some .int), Cond.methodLink RX12 257 yX12_rolled, Cond.static yX12_rolled]
def wsX12_roll_r2 : List Cond := [Cond.code yX12_rolled cX12_rolled 5 (some .int), Cond.methodLink RX12 251 yX12_rightOf, Cond.static yX12_rightOf, Cond.code yX12_rightOf cX12_rightOf 4 (some .int), Cond.methodLink RX12 244 yX12_baseOf, Cond.static yX12_baseOf, Cond.code yX12_baseOf cX12_baseOf 1 (some .int)]
def wsX12_roll : List Cond := .code yX12_roll cX12_roll 3 (some .int) :: ((wsX12_roll_r1 ++ wsX12_roll_r2))
def wsX12_shown : List Cond := .code yX12_shown cX12_shown 3 (some .int) :: ([.constantLong RX12 229 (6), .fieldLink RX12 269 "BeetleDriveModel" "sights" "I", .fieldLink RX12 22 "BeetleDriveModel" "sightRow" "[I", .fieldLink RX12 25 "BeetleDriveModel" "sightTop" "[I", .methodLink RX12 263 yX12_isRow, .static yX12_isRow, .initialized RX12, .code yX12_isRow cX12_isRow 4 (some .boolean), .methodLink RX12 65 yX12_in, .static yX12_in, .code yX12_in cX12_in 6 (some .boolean)] ++ wsX120)
def wsX12_forget : List Cond := .code yX12_forget cX12_forget 2 (some .int) :: ([.fieldLink RX12 269 "BeetleDriveModel" "sights" "I"] ++ wsX120)
def wsX12_isFit_r1 : List Cond := [Cond.fieldLink RX12 269 "BeetleDriveModel" "sights" "I", Cond.fieldLink RX12 22 "BeetleDriveModel" "sightRow" "[I", Cond.fieldLink RX12 25 "BeetleDriveModel" "sightTop" "[I", Cond.methodLink RX12 260 yX12_isLying, Cond.static yX12_isLying, Cond.initialized RX12, Cond.code yX12_isLying cX12_isLying 3 (some .boolean), Cond.constantLong RX12 247 (11), Cond.constantLong RX12 249 (66), Cond.constantLong RX12 229 (6), Cond.methodLink RX12 65 yX12_in, Cond.static yX12_in, Cond.code yX12_in cX12_in 6 (some .boolean), Cond.methodLink RX12 266 yX12_topBy, Cond.static yX12_topBy, Cond.code yX12_topBy cX12_topBy 4 (some .int), Cond.methodLink RX12 254 yX12_waysOf, Cond.static yX12_waysOf, Cond.code yX12_waysOf cX12_waysOf 3 (some .int), Cond.methodLink RX12 69 yX12_tenTo, Cond.static yX12_tenTo, Cond.code yX12_tenTo cX12_tenTo 3 (some .int), Cond.methodLink RX12 257 yX12_rolled, Cond.static yX12_rolled]
def wsX12_isFit_r2 : List Cond := [Cond.code yX12_rolled cX12_rolled 5 (some .int), Cond.methodLink RX12 251 yX12_rightOf, Cond.static yX12_rightOf, Cond.code yX12_rightOf cX12_rightOf 4 (some .int), Cond.methodLink RX12 244 yX12_baseOf, Cond.static yX12_baseOf, Cond.code yX12_baseOf cX12_baseOf 1 (some .int)]
def wsX12_isFit : List Cond := .code yX12_isFit cX12_isFit 4 (some .boolean) :: ((wsX12_isFit_r1 ++ wsX12_isFit_r2) ++ wsX120)
def wsX12_lies_r1 : List Cond := [Cond.methodLink RX12 272 yX12_isFit, Cond.instanceMethod yX12_isFit, Cond.selects RX12 yX12_isFit yX12_isFit, Cond.initialized RX12, Cond.code yX12_isFit cX12_isFit 4 (some .boolean), Cond.fieldLink RX12 269 "BeetleDriveModel" "sights" "I", Cond.fieldLink RX12 22 "BeetleDriveModel" "sightRow" "[I", Cond.fieldLink RX12 25 "BeetleDriveModel" "sightTop" "[I", Cond.methodLink RX12 260 yX12_isLying, Cond.static yX12_isLying, Cond.code yX12_isLying cX12_isLying 3 (some .boolean), Cond.constantLong RX12 247 (11), Cond.constantLong RX12 249 (66), Cond.constantLong RX12 229 (6), Cond.methodLink RX12 65 yX12_in, Cond.static yX12_in, Cond.code yX12_in cX12_in 6 (some .boolean), Cond.methodLink RX12 266 yX12_topBy, Cond.static yX12_topBy, Cond.code yX12_topBy cX12_topBy 4 (some .int), Cond.methodLink RX12 254 yX12_waysOf, Cond.static yX12_waysOf, Cond.code yX12_waysOf cX12_waysOf 3 (some .int), Cond.methodLink RX12 69 yX12_tenTo]
def wsX12_lies_r2 : List Cond := [Cond.static yX12_tenTo, Cond.code yX12_tenTo cX12_tenTo 3 (some .int), Cond.methodLink RX12 257 yX12_rolled, Cond.static yX12_rolled, Cond.code yX12_rolled cX12_rolled 5 (some .int), Cond.methodLink RX12 251 yX12_rightOf, Cond.static yX12_rightOf, Cond.code yX12_rightOf cX12_rightOf 4 (some .int), Cond.methodLink RX12 244 yX12_baseOf, Cond.static yX12_baseOf, Cond.code yX12_baseOf cX12_baseOf 1 (some .int)]
def wsX12_lies : List Cond := .code yX12_lies cX12_lies 4 (some .int) :: ((wsX12_lies_r1 ++ wsX12_lies_r2) ++ wsX120)
def wsX12_mostLeft_r1 : List Cond := [Cond.fieldLink RX12 50 "BeetleDriveModel" "byTop" "[I", Cond.methodLink RX12 272 yX12_isFit, Cond.instanceMethod yX12_isFit, Cond.selects RX12 yX12_isFit yX12_isFit, Cond.initialized RX12, Cond.code yX12_isFit cX12_isFit 4 (some .boolean), Cond.fieldLink RX12 269 "BeetleDriveModel" "sights" "I", Cond.fieldLink RX12 22 "BeetleDriveModel" "sightRow" "[I", Cond.fieldLink RX12 25 "BeetleDriveModel" "sightTop" "[I", Cond.methodLink RX12 260 yX12_isLying, Cond.static yX12_isLying, Cond.code yX12_isLying cX12_isLying 3 (some .boolean), Cond.constantLong RX12 247 (11), Cond.constantLong RX12 249 (66), Cond.constantLong RX12 229 (6), Cond.methodLink RX12 65 yX12_in, Cond.static yX12_in, Cond.code yX12_in cX12_in 6 (some .boolean), Cond.methodLink RX12 266 yX12_topBy, Cond.static yX12_topBy, Cond.code yX12_topBy cX12_topBy 4 (some .int), Cond.methodLink RX12 254 yX12_waysOf, Cond.static yX12_waysOf, Cond.code yX12_waysOf cX12_waysOf 3 (some .int)]
def wsX12_mostLeft_r2 : List Cond := [Cond.methodLink RX12 69 yX12_tenTo, Cond.static yX12_tenTo, Cond.code yX12_tenTo cX12_tenTo 3 (some .int), Cond.methodLink RX12 257 yX12_rolled, Cond.static yX12_rolled, Cond.code yX12_rolled cX12_rolled 5 (some .int), Cond.methodLink RX12 251 yX12_rightOf, Cond.static yX12_rightOf, Cond.code yX12_rightOf cX12_rightOf 4 (some .int), Cond.methodLink RX12 244 yX12_baseOf, Cond.static yX12_baseOf, Cond.code yX12_baseOf cX12_baseOf 1 (some .int)]
def wsX12_mostLeft : List Cond := .code yX12_mostLeft cX12_mostLeft 5 (some .int) :: ((wsX12_mostLeft_r1 ++ wsX12_mostLeft_r2) ++ wsX120)
def wsX12_ask_r1 : List Cond := [Cond.methodLink RX12 65 yX12_in, Cond.static yX12_in, Cond.initialized RX12, Cond.code yX12_in cX12_in 6 (some .boolean), Cond.methodLink RX12 275 yX12_mostLeft, Cond.instanceMethod yX12_mostLeft, Cond.selects RX12 yX12_mostLeft yX12_mostLeft, Cond.code yX12_mostLeft cX12_mostLeft 5 (some .int), Cond.fieldLink RX12 50 "BeetleDriveModel" "byTop" "[I", Cond.methodLink RX12 272 yX12_isFit, Cond.instanceMethod yX12_isFit, Cond.selects RX12 yX12_isFit yX12_isFit, Cond.code yX12_isFit cX12_isFit 4 (some .boolean), Cond.fieldLink RX12 269 "BeetleDriveModel" "sights" "I", Cond.fieldLink RX12 22 "BeetleDriveModel" "sightRow" "[I", Cond.fieldLink RX12 25 "BeetleDriveModel" "sightTop" "[I", Cond.methodLink RX12 260 yX12_isLying, Cond.static yX12_isLying, Cond.code yX12_isLying cX12_isLying 3 (some .boolean), Cond.constantLong RX12 247 (11), Cond.constantLong RX12 249 (66), Cond.constantLong RX12 229 (6), Cond.methodLink RX12 266 yX12_topBy, Cond.static yX12_topBy]
def wsX12_ask_r2 : List Cond := [Cond.code yX12_topBy cX12_topBy 4 (some .int), Cond.methodLink RX12 254 yX12_waysOf, Cond.static yX12_waysOf, Cond.code yX12_waysOf cX12_waysOf 3 (some .int), Cond.methodLink RX12 69 yX12_tenTo, Cond.static yX12_tenTo, Cond.code yX12_tenTo cX12_tenTo 3 (some .int), Cond.methodLink RX12 257 yX12_rolled, Cond.static yX12_rolled, Cond.code yX12_rolled cX12_rolled 5 (some .int), Cond.methodLink RX12 251 yX12_rightOf, Cond.static yX12_rightOf, Cond.code yX12_rightOf cX12_rightOf 4 (some .int), Cond.methodLink RX12 244 yX12_baseOf, Cond.static yX12_baseOf, Cond.code yX12_baseOf cX12_baseOf 1 (some .int), Cond.methodLink RX12 263 yX12_isRow, Cond.static yX12_isRow, Cond.code yX12_isRow cX12_isRow 4 (some .boolean), Cond.methodLink RX12 149 yX12_less, Cond.static yX12_less, Cond.code yX12_less cX12_less 2 (some .int)]
def wsX12_ask : List Cond := .code yX12_ask cX12_ask 6 (some .int) :: ((wsX12_ask_r1 ++ wsX12_ask_r2) ++ wsX120)
def wsX12_leastTurn : List Cond := .code yX12_leastTurn cX12_leastTurn 6 (some .int) :: ([.fieldLink RX12 53 "BeetleDriveModel" "wins" "[Z"] ++ wsX120)
def wsX12_turn : List Cond := .code yX12_turn cX12_turn 6 (some .int) :: ([.constantLong RX12 240 (99), .constantLong RX12 229 (6), .fieldLink RX12 53 "BeetleDriveModel" "wins" "[Z", .methodLink RX12 65 yX12_in, .static yX12_in, .initialized RX12, .code yX12_in cX12_in 6 (some .boolean), .methodLink RX12 278 yX12_leastTurn, .instanceMethod yX12_leastTurn, .selects RX12 yX12_leastTurn yX12_leastTurn, .code yX12_leastTurn cX12_leastTurn 6 (some .int)] ++ wsX120)
def wsX12_drawn_r1 : List Cond := [Cond.methodLink RX12 178 yX12_whyNot, Cond.instanceMethod yX12_whyNot, Cond.selects RX12 yX12_whyNot yX12_whyNot, Cond.initialized RX12, Cond.code yX12_whyNot cX12_whyNot 3 (some .int), Cond.fieldLink RX12 13 "BeetleDriveModel" "beetle" "[I", Cond.fieldLink RX12 91 "BeetleDriveModel" "holder" "I", Cond.constant RX12 122 (111622), Cond.fieldLink RX12 19 "BeetleDriveModel" "isIn" "[I", Cond.fieldLink RX12 123 "BeetleDriveModel" "games" "I", Cond.methodLink RX12 126 yX12_inMany, Cond.instanceMethod yX12_inMany, Cond.selects RX12 yX12_inMany yX12_inMany, Cond.code yX12_inMany cX12_inMany 3 (some .int), Cond.methodLink RX12 162 yX12_happen, Cond.instanceMethod yX12_happen, Cond.selects RX12 yX12_happen yX12_happen, Cond.code yX12_happen cX12_happen 3 none, Cond.fieldLink RX12 143 "BeetleDriveModel" "wholeNow" "I", Cond.methodLink RX12 152 yX12_cast, Cond.instanceMethod yX12_cast, Cond.selects RX12 yX12_cast yX12_cast, Cond.code yX12_cast cX12_cast 2 none, Cond.fieldLink RX12 134 "BeetleDriveModel" "nothings" "I"]
def wsX12_drawn_r2 : List Cond := [Cond.methodLink RX12 130 yX12_canDraw, Cond.instanceMethod yX12_canDraw, Cond.selects RX12 yX12_canDraw yX12_canDraw, Cond.code yX12_canDraw cX12_canDraw 4 (some .boolean), Cond.fieldLink RX12 7 "BeetleDriveModel" "most" "[I", Cond.methodLink RX12 75 yX12_figureOf, Cond.static yX12_figureOf, Cond.code yX12_figureOf cX12_figureOf 2 (some .int), Cond.methodLink RX12 69 yX12_tenTo, Cond.static yX12_tenTo, Cond.code yX12_tenTo cX12_tenTo 3 (some .int), Cond.methodLink RX12 79 yX12_needOf, Cond.static yX12_needOf, Cond.code yX12_needOf cX12_needOf 1 (some .int), Cond.methodLink RX12 137 yX12_goesOn, Cond.instanceMethod yX12_goesOn, Cond.selects RX12 yX12_goesOn yX12_goesOn, Cond.code yX12_goesOn cX12_goesOn 1 none, Cond.methodLink RX12 140 yX12_drawnBy, Cond.static yX12_drawnBy, Cond.code yX12_drawnBy cX12_drawnBy 2 (some .int), Cond.methodLink RX12 156 yX12_cry, Cond.instanceMethod yX12_cry, Cond.selects RX12 yX12_cry yX12_cry]
def wsX12_drawn_r3 : List Cond := [Cond.code yX12_cry cX12_cry 3 none, Cond.fieldLink RX12 16 "BeetleDriveModel" "points" "[I", Cond.methodLink RX12 146 yX12_partsOf, Cond.static yX12_partsOf, Cond.code yX12_partsOf cX12_partsOf 3 (some .int), Cond.methodLink RX12 149 yX12_less, Cond.static yX12_less, Cond.code yX12_less cX12_less 2 (some .int), Cond.methodLink RX12 159 yX12_goOrCome, Cond.instanceMethod yX12_goOrCome, Cond.selects RX12 yX12_goOrCome yX12_goOrCome, Cond.code yX12_goOrCome cX12_goOrCome 2 none]
def wsX12_drawn : List Cond := .code yX12_drawn cX12_drawn 5 none :: ((wsX12_drawn_r1 ++ (wsX12_drawn_r2 ++ wsX12_drawn_r3)) ++ wsX120)
def wsX12_allParts : List Cond := .code yX12_allParts cX12_allParts 3 (some .int) :: ([.fieldLink RX12 13 "BeetleDriveModel" "beetle" "[I", .methodLink RX12 146 yX12_partsOf, .static yX12_partsOf, .initialized RX12, .code yX12_partsOf cX12_partsOf 3 (some .int), .methodLink RX12 75 yX12_figureOf, .static yX12_figureOf, .code yX12_figureOf cX12_figureOf 2 (some .int), .methodLink RX12 69 yX12_tenTo, .static yX12_tenTo, .code yX12_tenTo cX12_tenTo 3 (some .int)] ++ wsX120)
def wsX12_year_r1 : List Cond := [Cond.constantLong RX12 281 (9999), Cond.constantLong RX12 240 (99), Cond.constantLong RX12 193 (2), Cond.constantLong RX12 283 (75), Cond.constantLong RX12 285 (74), Cond.constantLong RX12 287 (65537), Cond.fieldLink RX12 91 "BeetleDriveModel" "holder" "I", Cond.fieldLink RX12 16 "BeetleDriveModel" "points" "[I", Cond.methodLink RX12 65 yX12_in, Cond.static yX12_in, Cond.initialized RX12, Cond.code yX12_in cX12_in 6 (some .boolean), Cond.methodLink RX12 184 yX12_keepNow, Cond.instanceMethod yX12_keepNow, Cond.selects RX12 yX12_keepNow yX12_keepNow, Cond.code yX12_keepNow cX12_keepNow 2 none, Cond.fieldLink RX12 37 "BeetleDriveModel" "had" "[I", Cond.fieldLink RX12 13 "BeetleDriveModel" "beetle" "[I", Cond.fieldLink RX12 19 "BeetleDriveModel" "isIn" "[I", Cond.fieldLink RX12 123 "BeetleDriveModel" "games" "I", Cond.methodLink RX12 289 yX12_drawn, Cond.instanceMethod yX12_drawn, Cond.selects RX12 yX12_drawn yX12_drawn, Cond.code yX12_drawn cX12_drawn 5 none]
def wsX12_year_r2 : List Cond := [Cond.methodLink RX12 178 yX12_whyNot, Cond.instanceMethod yX12_whyNot, Cond.selects RX12 yX12_whyNot yX12_whyNot, Cond.code yX12_whyNot cX12_whyNot 3 (some .int), Cond.constant RX12 122 (111622), Cond.methodLink RX12 126 yX12_inMany, Cond.instanceMethod yX12_inMany, Cond.selects RX12 yX12_inMany yX12_inMany, Cond.code yX12_inMany cX12_inMany 3 (some .int), Cond.methodLink RX12 162 yX12_happen, Cond.instanceMethod yX12_happen, Cond.selects RX12 yX12_happen yX12_happen, Cond.code yX12_happen cX12_happen 3 none, Cond.fieldLink RX12 143 "BeetleDriveModel" "wholeNow" "I", Cond.methodLink RX12 152 yX12_cast, Cond.instanceMethod yX12_cast, Cond.selects RX12 yX12_cast yX12_cast, Cond.code yX12_cast cX12_cast 2 none, Cond.fieldLink RX12 134 "BeetleDriveModel" "nothings" "I", Cond.methodLink RX12 130 yX12_canDraw, Cond.instanceMethod yX12_canDraw, Cond.selects RX12 yX12_canDraw yX12_canDraw, Cond.code yX12_canDraw cX12_canDraw 4 (some .boolean), Cond.fieldLink RX12 7 "BeetleDriveModel" "most" "[I"]
def wsX12_year_r3 : List Cond := [Cond.methodLink RX12 75 yX12_figureOf, Cond.static yX12_figureOf, Cond.code yX12_figureOf cX12_figureOf 2 (some .int), Cond.methodLink RX12 69 yX12_tenTo, Cond.static yX12_tenTo, Cond.code yX12_tenTo cX12_tenTo 3 (some .int), Cond.methodLink RX12 79 yX12_needOf, Cond.static yX12_needOf, Cond.code yX12_needOf cX12_needOf 1 (some .int), Cond.methodLink RX12 137 yX12_goesOn, Cond.instanceMethod yX12_goesOn, Cond.selects RX12 yX12_goesOn yX12_goesOn, Cond.code yX12_goesOn cX12_goesOn 1 none, Cond.methodLink RX12 140 yX12_drawnBy, Cond.static yX12_drawnBy, Cond.code yX12_drawnBy cX12_drawnBy 2 (some .int), Cond.methodLink RX12 156 yX12_cry, Cond.instanceMethod yX12_cry, Cond.selects RX12 yX12_cry yX12_cry, Cond.code yX12_cry cX12_cry 3 none, Cond.methodLink RX12 146 yX12_partsOf, Cond.static yX12_partsOf, Cond.code yX12_partsOf cX12_partsOf 3 (some .int), Cond.methodLink RX12 149 yX12_less]
def wsX12_year_r4 : List Cond := [Cond.static yX12_less, Cond.code yX12_less cX12_less 2 (some .int), Cond.methodLink RX12 159 yX12_goOrCome, Cond.instanceMethod yX12_goOrCome, Cond.selects RX12 yX12_goOrCome yX12_goOrCome, Cond.code yX12_goOrCome cX12_goOrCome 2 none, Cond.methodLink RX12 292 yX12_allParts, Cond.instanceMethod yX12_allParts, Cond.selects RX12 yX12_allParts yX12_allParts, Cond.code yX12_allParts cX12_allParts 3 (some .int), Cond.methodLink RX12 198 yX12_back, Cond.instanceMethod yX12_back, Cond.selects RX12 yX12_back yX12_back, Cond.code yX12_back cX12_back 3 (some .int)]
def wsX12_year : List Cond := .code yX12_year cX12_year 6 (some .int) :: ((wsX12_year_r1 ++ (wsX12_year_r2 ++ (wsX12_year_r3 ++ wsX12_year_r4))) ++ wsX120)
def wsX12_pass : List Cond := .code yX12_pass cX12_pass 3 (some .int) :: ([.fieldLink RX12 295 "BeetleDriveModel" "isWriting" "Z", .fieldLink RX12 57 "BeetleDriveModel" "kept" "[I", .fieldLink RX12 299 "BeetleDriveModel" "keptAt" "I"] ++ wsX120)
def wsX12_passRow : List Cond := .code yX12_passRow cX12_passRow 4 none :: ([.methodLink RX12 302 yX12_pass, .instanceMethod yX12_pass, .selects RX12 yX12_pass yX12_pass, .initialized RX12, .code yX12_pass cX12_pass 3 (some .int), .fieldLink RX12 295 "BeetleDriveModel" "isWriting" "Z", .fieldLink RX12 57 "BeetleDriveModel" "kept" "[I", .fieldLink RX12 299 "BeetleDriveModel" "keptAt" "I"] ++ wsX120)
def wsX12_passAll : List Cond := .code yX12_passAll cX12_passAll 1 none :: ([.fieldLink RX12 91 "BeetleDriveModel" "holder" "I", .fieldLink RX12 123 "BeetleDriveModel" "games" "I", .fieldLink RX12 269 "BeetleDriveModel" "sights" "I", .fieldLink RX12 13 "BeetleDriveModel" "beetle" "[I", .fieldLink RX12 16 "BeetleDriveModel" "points" "[I", .fieldLink RX12 19 "BeetleDriveModel" "isIn" "[I", .fieldLink RX12 22 "BeetleDriveModel" "sightRow" "[I", .fieldLink RX12 25 "BeetleDriveModel" "sightTop" "[I", .methodLink RX12 302 yX12_pass, .instanceMethod yX12_pass, .selects RX12 yX12_pass yX12_pass, .initialized RX12, .code yX12_pass cX12_pass 3 (some .int), .fieldLink RX12 295 "BeetleDriveModel" "isWriting" "Z", .fieldLink RX12 57 "BeetleDriveModel" "kept" "[I", .fieldLink RX12 299 "BeetleDriveModel" "keptAt" "I", .methodLink RX12 305 yX12_passRow, .instanceMethod yX12_passRow, .selects RX12 yX12_passRow yX12_passRow, .code yX12_passRow cX12_passRow 4 none] ++ wsX120)
def wsX12_image_r1 : List Cond := [Cond.fieldLink RX12 299 "BeetleDriveModel" "keptAt" "I", Cond.fieldLink RX12 295 "BeetleDriveModel" "isWriting" "Z", Cond.fieldLink RX12 60 "BeetleDriveModel" "isKept" "[Z", Cond.methodLink RX12 65 yX12_in, Cond.static yX12_in, Cond.initialized RX12, Cond.code yX12_in cX12_in 6 (some .boolean), Cond.methodLink RX12 309 yX12_passAll, Cond.instanceMethod yX12_passAll, Cond.selects RX12 yX12_passAll yX12_passAll, Cond.code yX12_passAll cX12_passAll 1 none, Cond.fieldLink RX12 91 "BeetleDriveModel" "holder" "I", Cond.fieldLink RX12 123 "BeetleDriveModel" "games" "I", Cond.fieldLink RX12 269 "BeetleDriveModel" "sights" "I", Cond.fieldLink RX12 13 "BeetleDriveModel" "beetle" "[I", Cond.fieldLink RX12 16 "BeetleDriveModel" "points" "[I", Cond.fieldLink RX12 19 "BeetleDriveModel" "isIn" "[I", Cond.fieldLink RX12 22 "BeetleDriveModel" "sightRow" "[I", Cond.fieldLink RX12 25 "BeetleDriveModel" "sightTop" "[I", Cond.methodLink RX12 302 yX12_pass, Cond.instanceMethod yX12_pass, Cond.selects RX12 yX12_pass yX12_pass, Cond.code yX12_pass cX12_pass 3 (some .int), Cond.fieldLink RX12 57 "BeetleDriveModel" "kept" "[I"]
def wsX12_image_r2 : List Cond := [Cond.methodLink RX12 305 yX12_passRow, Cond.instanceMethod yX12_passRow, Cond.selects RX12 yX12_passRow yX12_passRow, Cond.code yX12_passRow cX12_passRow 4 none]
def wsX12_image : List Cond := .code yX12_image cX12_image 2 (some .int) :: ((wsX12_image_r1 ++ wsX12_image_r2) ++ wsX120)
def wsX12_restore_r1 : List Cond := [Cond.fieldLink RX12 60 "BeetleDriveModel" "isKept" "[Z", Cond.fieldLink RX12 299 "BeetleDriveModel" "keptAt" "I", Cond.fieldLink RX12 295 "BeetleDriveModel" "isWriting" "Z", Cond.methodLink RX12 65 yX12_in, Cond.static yX12_in, Cond.initialized RX12, Cond.code yX12_in cX12_in 6 (some .boolean), Cond.methodLink RX12 309 yX12_passAll, Cond.instanceMethod yX12_passAll, Cond.selects RX12 yX12_passAll yX12_passAll, Cond.code yX12_passAll cX12_passAll 1 none, Cond.fieldLink RX12 91 "BeetleDriveModel" "holder" "I", Cond.fieldLink RX12 123 "BeetleDriveModel" "games" "I", Cond.fieldLink RX12 269 "BeetleDriveModel" "sights" "I", Cond.fieldLink RX12 13 "BeetleDriveModel" "beetle" "[I", Cond.fieldLink RX12 16 "BeetleDriveModel" "points" "[I", Cond.fieldLink RX12 19 "BeetleDriveModel" "isIn" "[I", Cond.fieldLink RX12 22 "BeetleDriveModel" "sightRow" "[I", Cond.fieldLink RX12 25 "BeetleDriveModel" "sightTop" "[I", Cond.methodLink RX12 302 yX12_pass, Cond.instanceMethod yX12_pass, Cond.selects RX12 yX12_pass yX12_pass, Cond.code yX12_pass cX12_pass 3 (some .int), Cond.fieldLink RX12 57 "BeetleDriveModel" "kept" "[I"]
def wsX12_restore_r2 : List Cond := [Cond.methodLink RX12 305 yX12_passRow, Cond.instanceMethod yX12_passRow, Cond.selects RX12 yX12_passRow yX12_passRow, Cond.code yX12_passRow cX12_passRow 4 none]
def wsX12_restore : List Cond := .code yX12_restore cX12_restore 2 (some .int) :: ((wsX12_restore_r1 ++ wsX12_restore_r2) ++ wsX120)
def wsX12_toldOfPlayer : List Cond := .code yX12_toldOfPlayer cX12_toldOfPlayer 3 (some .int) :: ([.fieldLink RX12 13 "BeetleDriveModel" "beetle" "[I", .fieldLink RX12 16 "BeetleDriveModel" "points" "[I", .fieldLink RX12 19 "BeetleDriveModel" "isIn" "[I", .methodLink RX12 82 yX12_isPlayer, .static yX12_isPlayer, .initialized RX12, .code yX12_isPlayer cX12_isPlayer 1 (some .boolean), .constantLong RX12 63 (5), .methodLink RX12 65 yX12_in, .static yX12_in, .code yX12_in cX12_in 6 (some .boolean)] ++ wsX120)
def wsX12_told : List Cond := .code yX12_told cX12_told 2 (some .int) :: ([.constantLong RX12 312 (10), .constantLong RX12 314 (39), .fieldLink RX12 99 "BeetleDriveModel" "padMany" "I", .fieldLink RX12 91 "BeetleDriveModel" "holder" "I", .fieldLink RX12 123 "BeetleDriveModel" "games" "I", .fieldLink RX12 269 "BeetleDriveModel" "sights" "I", .methodLink RX12 65 yX12_in, .static yX12_in, .initialized RX12, .code yX12_in cX12_in 6 (some .boolean), .methodLink RX12 316 yX12_toldOfPlayer, .instanceMethod yX12_toldOfPlayer, .selects RX12 yX12_toldOfPlayer yX12_toldOfPlayer, .code yX12_toldOfPlayer cX12_toldOfPlayer 3 (some .int), .fieldLink RX12 13 "BeetleDriveModel" "beetle" "[I", .fieldLink RX12 16 "BeetleDriveModel" "points" "[I", .fieldLink RX12 19 "BeetleDriveModel" "isIn" "[I", .methodLink RX12 82 yX12_isPlayer, .static yX12_isPlayer, .code yX12_isPlayer cX12_isPlayer 1 (some .boolean), .constantLong RX12 63 (5)] ++ wsX120)
def wsJ9_max_7cf53 : List Cond := .code yJ9_max_7cf53 cJ9_max_7cf53 2 (some .int) :: ([])
def wsJ9_min_7cf53 : List Cond := .code yJ9_min_7cf53 cJ9_min_7cf53 2 (some .int) :: ([])
def wsL_law_r1 : List Cond := [Cond.classLink RL 7 RX11, Cond.instantiable RX11 10, Cond.initialized RX11, Cond.classLink RL 10 RX12, Cond.instantiable RX12 30, Cond.initialized RX12, Cond.methodLink RL 9 yX11_init, Cond.instanceMethod yX11_init, Cond.code yX11_init cX11_init 1 none, Cond.methodLink RX11 1 objectInit, Cond.instanceMethod objectInit, Cond.code objectInit ⟨#[0xb1]⟩ 1 none, Cond.classLink RX11 7 RX9, Cond.instantiable RX9 5, Cond.initialized RX9, Cond.fieldLink RX11 10 "BeetleDrive" "now" "LBeetleDrive$Table;", Cond.classLink RX11 16 RX5, Cond.instantiable RX5 2, Cond.initialized RX5, Cond.fieldLink RX11 19 "BeetleDrive" "pad" "LBeetleDrive$Pad;", Cond.classLink RX11 23 RX4, Cond.instantiable RX4 6, Cond.initialized RX4, Cond.fieldLink RX11 26 "BeetleDrive" "match" "LBeetleDrive$Match;"]
def wsL_law_r2 : List Cond := [Cond.classLink RX11 30 RX6, Cond.instantiable RX6 4, Cond.initialized RX6, Cond.fieldLink RX11 33 "BeetleDrive" "sheets" "LBeetleDrive$Sheets;", Cond.classLink RX11 37 RX8, Cond.instantiable RX8 1, Cond.initialized RX8, Cond.fieldLink RX11 40 "BeetleDrive" "dice" "LBeetleDrive$Sums;", Cond.classLink RX11 44 RX7, Cond.instantiable RX7 3, Cond.initialized RX7, Cond.fieldLink RX11 47 "BeetleDrive" "sights" "LBeetleDrive$Sights;", Cond.classLink RX11 51 RX2, Cond.instantiable RX2 3, Cond.initialized RX2, Cond.fieldLink RX11 54 "BeetleDrive" "finder" "LBeetleDrive$Finder;", Cond.classLink RX11 58 RX10, Cond.instantiable RX10 1, Cond.initialized RX10, Cond.fieldLink RX11 61 "BeetleDrive" "turns" "LBeetleDrive$Turns;", Cond.classLink RX11 65 RX3, Cond.instantiable RX3 3, Cond.initialized RX3, Cond.fieldLink RX11 68 "BeetleDrive" "imageZero" "LBeetleDrive$Image;"]
def wsL_law_r3 : List Cond := [Cond.fieldLink RX11 72 "BeetleDrive" "imageOne" "LBeetleDrive$Image;", Cond.instanceMethod yX9_init, Cond.code yX9_init cX9_init 1 none, Cond.methodLink RX9 3 objectInit, Cond.arrayClass .int, Cond.fieldLink RX9 9 "BeetleDrive$Table" "drawn" "[I", Cond.fieldLink RX9 15 "BeetleDrive$Table" "points" "[I", Cond.fieldLink RX9 18 "BeetleDrive$Table" "inBits" "I", Cond.instanceMethod yX5_init, Cond.code yX5_init cX5_init 1 none, Cond.methodLink RX5 3 objectInit, Cond.fieldLink RX5 11 "BeetleDrive$Pad" "signs" "[I", Cond.instanceMethod yX4_init, Cond.code yX4_init cX4_init 1 none, Cond.methodLink RX4 3 objectInit, Cond.classLink RX4 9 RX9, Cond.fieldLink RX4 12 "BeetleDrive$Match" "table" "LBeetleDrive$Table;", Cond.methodLink RX11 32 yX6_init, Cond.instanceMethod yX6_init, Cond.code yX6_init cX6_init 2 none, Cond.methodLink RX6 3 objectInit, Cond.fieldLink RX6 11 "BeetleDrive$Sheets" "drawn" "[I", Cond.fieldLink RX6 15 "BeetleDrive$Sheets" "next" "[I", Cond.fieldLink RX6 18 "BeetleDrive$Sheets" "orders" "[I"]
def wsL_law_r4 : List Cond := [Cond.arrayClass .long, Cond.fieldLink RX6 21 "BeetleDrive$Sheets" "ways" "[J", Cond.methodLink RX6 25 yX6_listBeetles, Cond.instanceMethod yX6_listBeetles, Cond.selects RX6 yX6_listBeetles yX6_listBeetles, Cond.code yX6_listBeetles cX6_listBeetles 4 none, Cond.methodLink RX6 39 yX6_figuresAt, Cond.static yX6_figuresAt, Cond.code yX6_figuresAt cX6_figuresAt 2 (some .int), Cond.constant RX6 49 (100000), Cond.methodLink RX6 43 yX0_canBe, Cond.static yX0_canBe, Cond.initialized RX0, Cond.code yX0_canBe cX0_canBe 3 (some .boolean), Cond.constant RX0 11 (111622), Cond.fieldLink RX0 20 "BeetleDrive$Beetle" "MOST" "[I", Cond.static yX11_isWithin, Cond.code yX11_isWithin cX11_isWithin 3 (some .boolean), Cond.methodLink RX0 16 yX0_count, Cond.static yX0_count, Cond.code yX0_count cX0_count 2 (some .int), Cond.fieldLink RX0 28 "BeetleDrive$Beetle" "UNIT" "[I", Cond.methodLink RX0 24 yX0_hasWhatItNeeds, Cond.static yX0_hasWhatItNeeds]
def wsL_law_r5 : List Cond := [Cond.code yX0_hasWhatItNeeds cX0_hasWhatItNeeds 3 (some .boolean), Cond.fieldLink RX0 31 "BeetleDrive$Beetle" "HANGS_ON" "[I", Cond.methodLink RX6 28 yX6_linkAndCount, Cond.instanceMethod yX6_linkAndCount, Cond.selects RX6 yX6_linkAndCount yX6_linkAndCount, Cond.code yX6_linkAndCount cX6_linkAndCount 6 none, Cond.constant RX6 56 (111622), Cond.methodLink RX6 50 yX0_draw, Cond.static yX0_draw, Cond.code yX0_draw cX0_draw 2 (some .int), Cond.methodLink RX6 53 yX6_find, Cond.instanceMethod yX6_find, Cond.selects RX6 yX6_find yX6_find, Cond.code yX6_find cX6_find 6 (some .int), Cond.instanceMethod yX8_init, Cond.code yX8_init cX8_init 1 none, Cond.methodLink RX8 3 objectInit, Cond.fieldLink RX8 11 "BeetleDrive$Sums" "row" "[J", Cond.instanceMethod yX7_init, Cond.code yX7_init cX7_init 1 none, Cond.methodLink RX7 1 objectInit, Cond.fieldLink RX7 9 "BeetleDrive$Sights" "rows" "[I", Cond.fieldLink RX7 13 "BeetleDrive$Sights" "tops" "[I", Cond.instanceMethod yX2_init]
def wsL_law_r6 : List Cond := [Cond.code yX2_init cX2_init 1 none, Cond.methodLink RX2 3 objectInit, Cond.fieldLink RX2 11 "BeetleDrive$Finder" "found" "[I", Cond.fieldLink RX2 15 "BeetleDrive$Finder" "tally" "[I", Cond.methodLink RX11 60 yX10_init, Cond.instanceMethod yX10_init, Cond.code yX10_init cX10_init 4 none, Cond.methodLink RX10 3 objectInit, Cond.fieldLink RX10 11 "BeetleDrive$Turns" "wins" "[I", Cond.methodLink RX10 15 yX10_winningTurn, Cond.instanceMethod yX10_winningTurn, Cond.selects RX10 yX10_winningTurn yX10_winningTurn, Cond.code yX10_winningTurn cX10_winningTurn 5 (some .int), Cond.instanceMethod yX3_init, Cond.code yX3_init cX3_init 1 none, Cond.methodLink RX3 1 objectInit, Cond.classLink RX3 7 RX9, Cond.fieldLink RX3 10 "BeetleDrive$Image" "table" "LBeetleDrive$Table;", Cond.classLink RX3 16 RX7, Cond.fieldLink RX3 19 "BeetleDrive$Image" "sights" "LBeetleDrive$Sights;", Cond.methodLink RL 12 yX12_init, Cond.instanceMethod yX12_init, Cond.code yX12_init cX12_init 2 none, Cond.methodLink RX12 1 objectInit]
def wsL_law_r7 : List Cond := [Cond.fieldLink RX12 7 "BeetleDriveModel" "most" "[I", Cond.fieldLink RX12 13 "BeetleDriveModel" "beetle" "[I", Cond.fieldLink RX12 16 "BeetleDriveModel" "points" "[I", Cond.fieldLink RX12 19 "BeetleDriveModel" "isIn" "[I", Cond.fieldLink RX12 22 "BeetleDriveModel" "sightRow" "[I", Cond.fieldLink RX12 25 "BeetleDriveModel" "sightTop" "[I", Cond.fieldLink RX12 28 "BeetleDriveModel" "pad" "[I", Cond.fieldLink RX12 31 "BeetleDriveModel" "act" "[I", Cond.fieldLink RX12 34 "BeetleDriveModel" "much" "[I", Cond.fieldLink RX12 37 "BeetleDriveModel" "had" "[I", Cond.fieldLink RX12 40 "BeetleDriveModel" "ways" "[J", Cond.fieldLink RX12 44 "BeetleDriveModel" "ahead" "[J", Cond.fieldLink RX12 47 "BeetleDriveModel" "rows" "[J", Cond.fieldLink RX12 50 "BeetleDriveModel" "byTop" "[I", Cond.arrayClass .boolean, Cond.fieldLink RX12 53 "BeetleDriveModel" "wins" "[Z", Cond.fieldLink RX12 57 "BeetleDriveModel" "kept" "[I", Cond.fieldLink RX12 60 "BeetleDriveModel" "isKept" "[Z", Cond.methodLink RL 13 yX11_player, Cond.instanceMethod yX11_player, Cond.selects RX11 yX11_player yX11_player, Cond.code yX11_player cX11_player 5 (some .int), Cond.methodLink RX11 75 yX11_isPlayer, Cond.static yX11_isPlayer]
def wsL_law_r8 : List Cond := [Cond.code yX11_isPlayer cX11_isPlayer 1 (some .boolean), Cond.methodLink RX11 84 yX11_isWithin, Cond.methodLink RX11 79 yX0_canBe, Cond.methodLink RL 17 yX12_player, Cond.instanceMethod yX12_player, Cond.selects RX12 yX12_player yX12_player, Cond.code yX12_player cX12_player 5 (some .int), Cond.constantLong RX12 89 (999), Cond.methodLink RX12 82 yX12_isPlayer, Cond.static yX12_isPlayer, Cond.code yX12_isPlayer cX12_isPlayer 1 (some .boolean), Cond.constantLong RX12 63 (5), Cond.methodLink RX12 65 yX12_in, Cond.static yX12_in, Cond.code yX12_in cX12_in 6 (some .boolean), Cond.methodLink RX12 86 yX12_isBeetle, Cond.instanceMethod yX12_isBeetle, Cond.selects RX12 yX12_isBeetle yX12_isBeetle, Cond.code yX12_isBeetle cX12_isBeetle 5 (some .boolean), Cond.constantLong RX12 73 (111622), Cond.methodLink RX12 75 yX12_figureOf, Cond.static yX12_figureOf, Cond.code yX12_figureOf cX12_figureOf 2 (some .int), Cond.methodLink RX12 69 yX12_tenTo]
def wsL_law_r9 : List Cond := [Cond.static yX12_tenTo, Cond.code yX12_tenTo cX12_tenTo 3 (some .int), Cond.methodLink RX12 79 yX12_needOf, Cond.static yX12_needOf, Cond.code yX12_needOf cX12_needOf 1 (some .int), Cond.methodLink RL 18 yX11_die, Cond.instanceMethod yX11_die, Cond.selects RX11 yX11_die yX11_die, Cond.code yX11_die cX11_die 3 (some .int), Cond.methodLink RX11 95 yX9_isIn, Cond.instanceMethod yX9_isIn, Cond.selects RX9 yX9_isIn yX9_isIn, Cond.code yX9_isIn cX9_isIn 2 (some .boolean), Cond.methodLink RL 22 yX12_die, Cond.instanceMethod yX12_die, Cond.selects RX12 yX12_die yX12_die, Cond.code yX12_die cX12_die 3 (some .int), Cond.fieldLink RX12 91 "BeetleDriveModel" "holder" "I", Cond.methodLink RL 23 yX11_say, Cond.instanceMethod yX11_say, Cond.selects RX11 yX11_say yX11_say, Cond.code yX11_say cX11_say 2 (some .int), Cond.methodLink RX11 102 yX5_add, Cond.instanceMethod yX5_add]
def wsL_law_r10 : List Cond := [Cond.selects RX5 yX5_add yX5_add, Cond.code yX5_add cX5_add 2 (some .boolean), Cond.fieldLink RX5 15 "BeetleDrive$Pad" "size" "I", Cond.methodLink RL 26 yX12_say, Cond.instanceMethod yX12_say, Cond.selects RX12 yX12_say yX12_say, Cond.code yX12_say cX12_say 2 (some .int), Cond.constantLong RX12 95 (33), Cond.constantLong RX12 97 (126), Cond.fieldLink RX12 99 "BeetleDriveModel" "padMany" "I", Cond.methodLink RL 27 yX11_wipe, Cond.instanceMethod yX11_wipe, Cond.selects RX11 yX11_wipe yX11_wipe, Cond.code yX11_wipe cX11_wipe 1 (some .int), Cond.methodLink RX11 108 yX5_clear, Cond.instanceMethod yX5_clear, Cond.selects RX5 yX5_clear yX5_clear, Cond.code yX5_clear cX5_clear 2 (some .int), Cond.methodLink RL 31 yX12_wipe, Cond.instanceMethod yX12_wipe, Cond.selects RX12 yX12_wipe yX12_wipe, Cond.code yX12_wipe cX12_wipe 2 (some .int), Cond.methodLink RL 32 yX11_fault, Cond.instanceMethod yX11_fault]
def wsL_law_r11 : List Cond := [Cond.selects RX11 yX11_fault yX11_fault, Cond.code yX11_fault cX11_fault 1 (some .int), Cond.methodLink RX11 112 yX5_firstFault, Cond.instanceMethod yX5_firstFault, Cond.selects RX5 yX5_firstFault yX5_firstFault, Cond.code yX5_firstFault cX5_firstFault 3 (some .int), Cond.methodLink RX5 19 yX5_canStand, Cond.static yX5_canStand, Cond.code yX5_canStand cX5_canStand 2 (some .boolean), Cond.methodLink RX5 31 yX9_isThrow, Cond.static yX9_isThrow, Cond.code yX9_isThrow cX9_isThrow 1 (some .boolean), Cond.methodLink RX5 23 yX5_isLetter, Cond.static yX5_isLetter, Cond.code yX5_isLetter cX5_isLetter 1 (some .boolean), Cond.methodLink RL 35 yX12_fault, Cond.instanceMethod yX12_fault, Cond.selects RX12 yX12_fault yX12_fault, Cond.code yX12_fault cX12_fault 3 (some .int), Cond.fieldLink RX12 102 "BeetleDriveModel" "acts" "I", Cond.methodLink RX12 116 yX12_begin, Cond.instanceMethod yX12_begin, Cond.selects RX12 yX12_begin yX12_begin, Cond.code yX12_begin cX12_begin 2 (some .int)]
def wsL_law_r12 : List Cond := [Cond.constantLong RX12 105 (49), Cond.constantLong RX12 107 (54), Cond.constantLong RX12 112 (65), Cond.constantLong RX12 114 (70), Cond.methodLink RX12 109 yX12_close, Cond.instanceMethod yX12_close, Cond.selects RX12 yX12_close yX12_close, Cond.code yX12_close cX12_close 3 (some .int), Cond.methodLink RX12 119 yX12_deed, Cond.instanceMethod yX12_deed, Cond.selects RX12 yX12_deed yX12_deed, Cond.code yX12_deed cX12_deed 2 (some .int), Cond.methodLink RL 36 yX11_judge, Cond.instanceMethod yX11_judge, Cond.selects RX11 yX11_judge yX11_judge, Cond.code yX11_judge cX11_judge 3 (some .int), Cond.methodLink RX11 115 yX4_playText, Cond.instanceMethod yX4_playText, Cond.selects RX4 yX4_playText yX4_playText, Cond.code yX4_playText cX4_playText 6 (some .int), Cond.fieldLink RX4 32 "BeetleDrive$Match" "why" "I", Cond.methodLink RX4 18 yX4_begin, Cond.instanceMethod yX4_begin, Cond.selects RX4 yX4_begin yX4_begin]
def wsL_law_r13 : List Cond := [Cond.code yX4_begin cX4_begin 2 none, Cond.fieldLink RX4 55 "BeetleDrive$Match" "acts" "I", Cond.fieldLink RX4 58 "BeetleDrive$Match" "vain" "I", Cond.fieldLink RX4 61 "BeetleDrive$Match" "wholeAct" "I", Cond.fieldLink RX4 64 "BeetleDrive$Match" "wholeWho" "I", Cond.methodLink RX4 52 yX9_copyFrom, Cond.instanceMethod yX9_copyFrom, Cond.selects RX9 yX9_copyFrom yX9_copyFrom, Cond.code yX9_copyFrom cX9_copyFrom 3 none, Cond.fieldLink RX9 22 "BeetleDrive$Table" "holder" "I", Cond.fieldLink RX9 25 "BeetleDrive$Table" "game" "I", Cond.methodLink RX4 22 yX5_firstFault, Cond.methodLink RX4 39 yX5_isLetter, Cond.methodLink RX4 43 yX4_play, Cond.instanceMethod yX4_play, Cond.selects RX4 yX4_play yX4_play, Cond.code yX4_play cX4_play 3 none, Cond.methodLink RX4 67 yX9_whyNot, Cond.instanceMethod yX9_whyNot, Cond.selects RX9 yX9_whyNot yX9_whyNot, Cond.code yX9_whyNot cX9_whyNot 3 (some .int), Cond.methodLink RX9 31 yX9_isThrow, Cond.methodLink RX9 35 yX9_isWhole, Cond.instanceMethod yX9_isWhole]
def wsL_law_r14 : List Cond := [Cond.selects RX9 yX9_isWhole yX9_isWhole, Cond.code yX9_isWhole cX9_isWhole 2 (some .boolean), Cond.constant RX9 30 (111622), Cond.methodLink RX9 38 yX9_isIn, Cond.methodLink RX4 70 yX9_countUp, Cond.instanceMethod yX9_countUp, Cond.selects RX9 yX9_countUp yX9_countUp, Cond.code yX9_countUp cX9_countUp 3 none, Cond.methodLink RX9 52 Lib.Math.min.name, Cond.static Lib.Math.min.name, Cond.initialized "java/lang/Math", Cond.code Lib.Math.min.name Lib.Math.min.code 2 (some .int), Cond.methodLink RX9 48 yX9_worth, Cond.instanceMethod yX9_worth, Cond.selects RX9 yX9_worth yX9_worth, Cond.code yX9_worth cX9_worth 2 (some .int), Cond.methodLink RX9 57 yX0_parts, Cond.static yX0_parts, Cond.code yX0_parts cX0_parts 3 (some .int), Cond.methodLink RX4 74 yX9_goOrCome, Cond.instanceMethod yX9_goOrCome, Cond.selects RX9 yX9_goOrCome yX9_goOrCome, Cond.code yX9_goOrCome cX9_goOrCome 2 none, Cond.methodLink RX9 45 yX9_passOn]
def wsL_law_r15 : List Cond := [Cond.instanceMethod yX9_passOn, Cond.selects RX9 yX9_passOn yX9_passOn, Cond.code yX9_passOn cX9_passOn 3 none, Cond.methodLink RX4 77 yX9_passOn, Cond.methodLink RX4 80 yX9_drawBy, Cond.instanceMethod yX9_drawBy, Cond.selects RX9 yX9_drawBy yX9_drawBy, Cond.code yX9_drawBy cX9_drawBy 4 (some .boolean), Cond.methodLink RX9 41 yX0_draw, Cond.methodLink RX4 83 yX4_noteThrow, Cond.instanceMethod yX4_noteThrow, Cond.selects RX4 yX4_noteThrow yX4_noteThrow, Cond.code yX4_noteThrow cX4_noteThrow 2 none, Cond.methodLink RX4 90 yX9_isWhole, Cond.methodLink RL 39 yX12_judge, Cond.instanceMethod yX12_judge, Cond.selects RX12 yX12_judge yX12_judge, Cond.code yX12_judge cX12_judge 3 (some .int), Cond.constantLong RX12 193 (2), Cond.fieldLink RX12 172 "BeetleDriveModel" "badAct" "I", Cond.fieldLink RX12 175 "BeetleDriveModel" "badWhy" "I", Cond.fieldLink RX12 134 "BeetleDriveModel" "nothings" "I", Cond.methodLink RX12 195 yX12_refusal, Cond.instanceMethod yX12_refusal]
def wsL_law_r16 : List Cond := [Cond.selects RX12 yX12_refusal yX12_refusal, Cond.code yX12_refusal cX12_refusal 1 (some .int), Cond.methodLink RX12 184 yX12_keepNow, Cond.instanceMethod yX12_keepNow, Cond.selects RX12 yX12_keepNow yX12_keepNow, Cond.code yX12_keepNow cX12_keepNow 2 none, Cond.fieldLink RX12 123 "BeetleDriveModel" "games" "I", Cond.methodLink RX12 187 yX12_fault, Cond.methodLink RX12 190 yX12_goGames, Cond.instanceMethod yX12_goGames, Cond.selects RX12 yX12_goGames yX12_goGames, Cond.code yX12_goGames cX12_goGames 3 none, Cond.fieldLink RX12 166 "BeetleDriveModel" "wholeAct" "I", Cond.fieldLink RX12 169 "BeetleDriveModel" "wholeWho" "I", Cond.methodLink RX12 178 yX12_whyNot, Cond.instanceMethod yX12_whyNot, Cond.selects RX12 yX12_whyNot yX12_whyNot, Cond.code yX12_whyNot cX12_whyNot 3 (some .int), Cond.constant RX12 122 (111622), Cond.methodLink RX12 126 yX12_inMany, Cond.instanceMethod yX12_inMany, Cond.selects RX12 yX12_inMany yX12_inMany, Cond.code yX12_inMany cX12_inMany 3 (some .int), Cond.methodLink RX12 181 yX12_goOne]
def wsL_law_r17 : List Cond := [Cond.instanceMethod yX12_goOne, Cond.selects RX12 yX12_goOne yX12_goOne, Cond.code yX12_goOne cX12_goOne 2 none, Cond.fieldLink RX12 143 "BeetleDriveModel" "wholeNow" "I", Cond.methodLink RX12 162 yX12_happen, Cond.instanceMethod yX12_happen, Cond.selects RX12 yX12_happen yX12_happen, Cond.code yX12_happen cX12_happen 3 none, Cond.methodLink RX12 152 yX12_cast, Cond.instanceMethod yX12_cast, Cond.selects RX12 yX12_cast yX12_cast, Cond.code yX12_cast cX12_cast 2 none, Cond.methodLink RX12 130 yX12_canDraw, Cond.instanceMethod yX12_canDraw, Cond.selects RX12 yX12_canDraw yX12_canDraw, Cond.code yX12_canDraw cX12_canDraw 4 (some .boolean), Cond.methodLink RX12 137 yX12_goesOn, Cond.instanceMethod yX12_goesOn, Cond.selects RX12 yX12_goesOn yX12_goesOn, Cond.code yX12_goesOn cX12_goesOn 1 none, Cond.methodLink RX12 140 yX12_drawnBy, Cond.static yX12_drawnBy, Cond.code yX12_drawnBy cX12_drawnBy 2 (some .int), Cond.methodLink RX12 156 yX12_cry]
def wsL_law_r18 : List Cond := [Cond.instanceMethod yX12_cry, Cond.selects RX12 yX12_cry yX12_cry, Cond.code yX12_cry cX12_cry 3 none, Cond.methodLink RX12 146 yX12_partsOf, Cond.static yX12_partsOf, Cond.code yX12_partsOf cX12_partsOf 3 (some .int), Cond.methodLink RX12 149 yX12_less, Cond.static yX12_less, Cond.code yX12_less cX12_less 2 (some .int), Cond.methodLink RX12 159 yX12_goOrCome, Cond.instanceMethod yX12_goOrCome, Cond.selects RX12 yX12_goOrCome yX12_goOrCome, Cond.code yX12_goOrCome cX12_goOrCome 2 none, Cond.methodLink RX12 198 yX12_back, Cond.instanceMethod yX12_back, Cond.selects RX12 yX12_back yX12_back, Cond.code yX12_back cX12_back 3 (some .int), Cond.methodLink RL 40 yX11_behind, Cond.instanceMethod yX11_behind, Cond.selects RX11 yX11_behind yX11_behind, Cond.code yX11_behind cX11_behind 4 (some .int), Cond.methodLink RX11 131 yX0_parts, Cond.methodLink RL 44 yX12_behind, Cond.instanceMethod yX12_behind]
def wsL_law_r19 : List Cond := [Cond.selects RX12 yX12_behind yX12_behind, Cond.code yX12_behind cX12_behind 4 (some .int), Cond.constantLong RX12 201 (3), Cond.methodLink RX12 203 yX12_ofPlayer, Cond.instanceMethod yX12_ofPlayer, Cond.selects RX12 yX12_ofPlayer yX12_ofPlayer, Cond.code yX12_ofPlayer cX12_ofPlayer 3 (some .int), Cond.methodLink RL 45 yX11_table, Cond.instanceMethod yX11_table, Cond.selects RX11 yX11_table yX11_table, Cond.code yX11_table cX11_table 3 (some .int), Cond.methodLink RX11 138 yX9_wholeOnes, Cond.instanceMethod yX9_wholeOnes, Cond.selects RX9 yX9_wholeOnes yX9_wholeOnes, Cond.code yX9_wholeOnes cX9_wholeOnes 3 (some .int), Cond.methodLink RX11 141 yX9_leader, Cond.instanceMethod yX9_leader, Cond.selects RX9 yX9_leader yX9_leader, Cond.code yX9_leader cX9_leader 3 (some .int), Cond.methodLink RL 48 yX12_table, Cond.instanceMethod yX12_table, Cond.selects RX12 yX12_table yX12_table, Cond.code yX12_table cX12_table 3 (some .int), Cond.methodLink RX12 209 yX12_wholeOnes]
def wsL_law_r20 : List Cond := [Cond.instanceMethod yX12_wholeOnes, Cond.selects RX12 yX12_wholeOnes yX12_wholeOnes, Cond.code yX12_wholeOnes cX12_wholeOnes 3 (some .int), Cond.methodLink RX12 212 yX12_richest, Cond.instanceMethod yX12_richest, Cond.selects RX12 yX12_richest yX12_richest, Cond.code yX12_richest cX12_richest 3 (some .int), Cond.methodLink RX12 206 yX12_haveOf, Cond.instanceMethod yX12_haveOf, Cond.selects RX12 yX12_haveOf yX12_haveOf, Cond.code yX12_haveOf cX12_haveOf 2 (some .int), Cond.methodLink RL 49 yX11_first, Cond.instanceMethod yX11_first, Cond.selects RX11 yX11_first yX11_first, Cond.code yX11_first cX11_first 3 (some .int), Cond.methodLink RL 52 yX12_first, Cond.instanceMethod yX12_first, Cond.selects RX12 yX12_first yX12_first, Cond.code yX12_first cX12_first 3 (some .int), Cond.methodLink RL 53 yX11_done, Cond.instanceMethod yX11_done, Cond.selects RX11 yX11_done yX11_done, Cond.code yX11_done cX11_done 2 (some .int), Cond.methodLink RX11 150 yX9_copyFrom]
def wsL_law_r21 : List Cond := [Cond.methodLink RL 56 yX12_done, Cond.instanceMethod yX12_done, Cond.selects RX12 yX12_done yX12_done, Cond.code yX12_done cX12_done 2 (some .int), Cond.methodLink RL 57 yX11_orders, Cond.instanceMethod yX11_orders, Cond.selects RX11 yX11_orders yX11_orders, Cond.code yX11_orders cX11_orders 4 (some .int), Cond.methodLink RX11 154 yX6_find, Cond.methodLink RX11 160 yX6_leastThrow, Cond.instanceMethod yX6_leastThrow, Cond.selects RX6 yX6_leastThrow yX6_leastThrow, Cond.code yX6_leastThrow cX6_leastThrow 3 (some .int), Cond.methodLink RX6 32 yX6_after, Cond.instanceMethod yX6_after, Cond.selects RX6 yX6_after yX6_after, Cond.code yX6_after cX6_after 3 (some .int), Cond.methodLink RL 60 yX12_orders, Cond.instanceMethod yX12_orders, Cond.selects RX12 yX12_orders yX12_orders, Cond.code yX12_orders cX12_orders 5 (some .int), Cond.methodLink RX12 218 yX12_drawnAt, Cond.instanceMethod yX12_drawnAt, Cond.selects RX12 yX12_drawnAt yX12_drawnAt]
def wsL_law_r22 : List Cond := [Cond.code yX12_drawnAt cX12_drawnAt 5 (some .int), Cond.methodLink RX12 221 yX12_ordersFrom, Cond.instanceMethod yX12_ordersFrom, Cond.selects RX12 yX12_ordersFrom yX12_ordersFrom, Cond.code yX12_ordersFrom cX12_ordersFrom 5 (some .long), Cond.methodLink RX12 215 yX12_placeOf, Cond.instanceMethod yX12_placeOf, Cond.selects RX12 yX12_placeOf yX12_placeOf, Cond.code yX12_placeOf cX12_placeOf 4 (some .int), Cond.methodLink RL 61 yX11_whole, Cond.instanceMethod yX11_whole, Cond.selects RX11 yX11_whole yX11_whole, Cond.code yX11_whole cX11_whole 5 (some .long), Cond.constantLong RX11 163 (-1000000000000000002), Cond.methodLink RX11 165 yX6_waysToWhole, Cond.instanceMethod yX6_waysToWhole, Cond.selects RX6 yX6_waysToWhole yX6_waysToWhole, Cond.code yX6_waysToWhole cX6_waysToWhole 5 (some .long), Cond.methodLink RX6 36 yX6_spread, Cond.instanceMethod yX6_spread, Cond.selects RX6 yX6_spread yX6_spread, Cond.code yX6_spread cX6_spread 5 none, Cond.methodLink RX11 169 yX11_lowestTerms, Cond.static yX11_lowestTerms]
def wsL_law_r23 : List Cond := [Cond.code yX11_lowestTerms cX11_lowestTerms 9 (some .long), Cond.constantLong RX11 241 (6), Cond.constantLong RX11 243 (2), Cond.constantLong RX11 245 (3), Cond.methodLink RL 65 yX12_whole, Cond.instanceMethod yX12_whole, Cond.selects RX12 yX12_whole yX12_whole, Cond.code yX12_whole cX12_whole 10 (some .long), Cond.constantLong RX12 225 (24), Cond.constantLong RX12 227 (-1000000000000000002), Cond.constantLong RX12 229 (6), Cond.methodLink RX12 231 yX12_castsFrom, Cond.instanceMethod yX12_castsFrom, Cond.selects RX12 yX12_castsFrom yX12_castsFrom, Cond.code yX12_castsFrom cX12_castsFrom 7 (some .long), Cond.methodLink RX12 234 yX12_divisor, Cond.static yX12_divisor, Cond.code yX12_divisor cX12_divisor 10 (some .long), Cond.methodLink RL 66 yX11_sums, Cond.instanceMethod yX11_sums, Cond.selects RX11 yX11_sums yX11_sums, Cond.code yX11_sums cX11_sums 3 (some .long), Cond.constantLong RX11 173 (-2), Cond.methodLink RX11 175 yX8_ways]
def wsL_law_r24 : List Cond := [Cond.instanceMethod yX8_ways, Cond.selects RX8 yX8_ways yX8_ways, Cond.code yX8_ways cX8_ways 4 (some .long), Cond.methodLink RX8 15 yX8_addDie, Cond.instanceMethod yX8_addDie, Cond.selects RX8 yX8_addDie yX8_addDie, Cond.code yX8_addDie cX8_addDie 6 none, Cond.methodLink RL 70 yX12_sums, Cond.instanceMethod yX12_sums, Cond.selects RX12 yX12_sums yX12_sums, Cond.code yX12_sums cX12_sums 8 (some .long), Cond.constantLong RX12 238 (12), Cond.constantLong RX12 240 (99), Cond.constantLong RX12 242 (-2), Cond.methodLink RL 71 yX11_roll, Cond.instanceMethod yX11_roll, Cond.selects RX11 yX11_roll yX11_roll, Cond.code yX11_roll cX11_roll 3 (some .int), Cond.methodLink RX11 178 yX1_canLie, Cond.static yX1_canLie, Cond.initialized RX1, Cond.code yX1_canLie cX1_canLie 3 (some .boolean), Cond.methodLink RX11 183 yX1_isRow, Cond.static yX1_isRow]
def wsL_law_r25 : List Cond := [Cond.code yX1_isRow cX1_isRow 3 (some .boolean), Cond.constant RX1 15 (1333333), Cond.methodLink RX11 186 yX1_topAfter, Cond.static yX1_topAfter, Cond.code yX1_topAfter cX1_topAfter 5 (some .int), Cond.methodLink RX1 16 yX1_rolled, Cond.static yX1_rolled, Cond.code yX1_rolled cX1_rolled 4 (some .int), Cond.methodLink RX1 20 yX1_rightOf, Cond.static yX1_rightOf, Cond.code yX1_rightOf cX1_rightOf 7 (some .int), Cond.methodLink RX1 23 Lib.Math.min.name, Cond.methodLink RL 74 yX12_roll, Cond.instanceMethod yX12_roll, Cond.selects RX12 yX12_roll yX12_roll, Cond.code yX12_roll cX12_roll 3 (some .int), Cond.methodLink RX12 260 yX12_isLying, Cond.static yX12_isLying, Cond.code yX12_isLying cX12_isLying 3 (some .boolean), Cond.constantLong RX12 247 (11), Cond.constantLong RX12 249 (66), Cond.methodLink RX12 263 yX12_isRow, Cond.static yX12_isRow, Cond.code yX12_isRow cX12_isRow 4 (some .boolean)]
def wsL_law_r26 : List Cond := [Cond.methodLink RX12 266 yX12_topBy, Cond.static yX12_topBy, Cond.code yX12_topBy cX12_topBy 4 (some .int), Cond.methodLink RX12 254 yX12_waysOf, Cond.static yX12_waysOf, Cond.code yX12_waysOf cX12_waysOf 3 (some .int), Cond.methodLink RX12 257 yX12_rolled, Cond.static yX12_rolled, Cond.code yX12_rolled cX12_rolled 5 (some .int), Cond.methodLink RX12 251 yX12_rightOf, Cond.static yX12_rightOf, Cond.code yX12_rightOf cX12_rightOf 4 (some .int), Cond.methodLink RX12 244 yX12_baseOf, Cond.static yX12_baseOf, Cond.code yX12_baseOf cX12_baseOf 1 (some .int), Cond.methodLink RL 75 yX11_shown, Cond.instanceMethod yX11_shown, Cond.selects RX11 yX11_shown yX11_shown, Cond.code yX11_shown cX11_shown 3 (some .int), Cond.methodLink RX11 190 yX7_add, Cond.instanceMethod yX7_add, Cond.selects RX7 yX7_add yX7_add, Cond.code yX7_add cX7_add 3 (some .boolean), Cond.fieldLink RX7 16 "BeetleDrive$Sights" "size" "I"]
def wsL_law_r27 : List Cond := [Cond.methodLink RL 78 yX12_shown, Cond.instanceMethod yX12_shown, Cond.selects RX12 yX12_shown yX12_shown, Cond.code yX12_shown cX12_shown 3 (some .int), Cond.fieldLink RX12 269 "BeetleDriveModel" "sights" "I", Cond.methodLink RL 79 yX11_forget, Cond.instanceMethod yX11_forget, Cond.selects RX11 yX11_forget yX11_forget, Cond.code yX11_forget cX11_forget 1 (some .int), Cond.methodLink RX11 194 yX7_clear, Cond.instanceMethod yX7_clear, Cond.selects RX7 yX7_clear yX7_clear, Cond.code yX7_clear cX7_clear 2 (some .int), Cond.methodLink RL 82 yX12_forget, Cond.instanceMethod yX12_forget, Cond.selects RX12 yX12_forget yX12_forget, Cond.code yX12_forget cX12_forget 2 (some .int), Cond.methodLink RL 83 yX11_lies, Cond.instanceMethod yX11_lies, Cond.selects RX11 yX11_lies yX11_lies, Cond.code yX11_lies cX11_lies 2 (some .int), Cond.methodLink RX11 195 yX2_search, Cond.instanceMethod yX2_search, Cond.selects RX2 yX2_search yX2_search]
def wsL_law_r28 : List Cond := [Cond.code yX2_search cX2_search 3 none, Cond.fieldLink RX2 18 "BeetleDrive$Finder" "size" "I", Cond.methodLink RX2 22 yX1_canLie, Cond.methodLink RX2 28 yX7_fit, Cond.instanceMethod yX7_fit, Cond.selects RX7 yX7_fit yX7_fit, Cond.code yX7_fit cX7_fit 3 (some .boolean), Cond.methodLink RX7 20 yX1_topAfter, Cond.methodLink RL 86 yX12_lies, Cond.instanceMethod yX12_lies, Cond.selects RX12 yX12_lies yX12_lies, Cond.code yX12_lies cX12_lies 4 (some .int), Cond.methodLink RX12 272 yX12_isFit, Cond.instanceMethod yX12_isFit, Cond.selects RX12 yX12_isFit yX12_isFit, Cond.code yX12_isFit cX12_isFit 4 (some .boolean), Cond.methodLink RL 87 yX11_ask, Cond.instanceMethod yX11_ask, Cond.selects RX11 yX11_ask yX11_ask, Cond.code yX11_ask cX11_ask 3 (some .int), Cond.methodLink RX11 203 yX2_bestRow, Cond.instanceMethod yX2_bestRow, Cond.selects RX2 yX2_bestRow yX2_bestRow, Cond.code yX2_bestRow cX2_bestRow 5 (some .int)]
def wsL_law_r29 : List Cond := [Cond.methodLink RX2 33 yX2_mostLeft, Cond.instanceMethod yX2_mostLeft, Cond.selects RX2 yX2_mostLeft yX2_mostLeft, Cond.code yX2_mostLeft cX2_mostLeft 5 (some .int), Cond.methodLink RX2 48 Lib.Math.max.name, Cond.static Lib.Math.max.name, Cond.code Lib.Math.max.name Lib.Math.max.code 2 (some .int), Cond.methodLink RX2 40 yX1_topAfter, Cond.methodLink RX2 37 yX1_isRow, Cond.methodLink RX11 206 yX2_mostLeft, Cond.methodLink RL 90 yX12_ask, Cond.instanceMethod yX12_ask, Cond.selects RX12 yX12_ask yX12_ask, Cond.code yX12_ask cX12_ask 6 (some .int), Cond.methodLink RX12 275 yX12_mostLeft, Cond.instanceMethod yX12_mostLeft, Cond.selects RX12 yX12_mostLeft yX12_mostLeft, Cond.code yX12_mostLeft cX12_mostLeft 5 (some .int), Cond.methodLink RL 91 yX11_turn, Cond.instanceMethod yX11_turn, Cond.selects RX11 yX11_turn yX11_turn, Cond.code yX11_turn cX11_turn 5 (some .int), Cond.methodLink RX11 209 yX10_winningTurn, Cond.methodLink RL 94 yX12_turn]
def wsL_law_r30 : List Cond := [Cond.instanceMethod yX12_turn, Cond.selects RX12 yX12_turn yX12_turn, Cond.code yX12_turn cX12_turn 6 (some .int), Cond.methodLink RX12 278 yX12_leastTurn, Cond.instanceMethod yX12_leastTurn, Cond.selects RX12 yX12_leastTurn yX12_leastTurn, Cond.code yX12_leastTurn cX12_leastTurn 6 (some .int), Cond.methodLink RL 95 yX11_year, Cond.instanceMethod yX11_year, Cond.selects RX11 yX11_year yX11_year, Cond.code yX11_year cX11_year 4 (some .int), Cond.methodLink RX11 212 yX4_playYear, Cond.instanceMethod yX4_playYear, Cond.selects RX4 yX4_playYear yX4_playYear, Cond.code yX4_playYear cX4_playYear 7 none, Cond.constant RX4 47 (65537), Cond.methodLink RX4 48 yX4_markOfYear, Cond.static yX4_markOfYear, Cond.code yX4_markOfYear cX4_markOfYear 2 (some .int), Cond.methodLink RX11 216 yX9_allParts, Cond.instanceMethod yX9_allParts, Cond.selects RX9 yX9_allParts yX9_allParts, Cond.code yX9_allParts cX9_allParts 3 (some .int), Cond.methodLink RL 98 yX12_year]
def wsL_law_r31 : List Cond := [Cond.instanceMethod yX12_year, Cond.selects RX12 yX12_year yX12_year, Cond.code yX12_year cX12_year 6 (some .int), Cond.constantLong RX12 281 (9999), Cond.constantLong RX12 283 (75), Cond.constantLong RX12 285 (74), Cond.constantLong RX12 287 (65537), Cond.methodLink RX12 289 yX12_drawn, Cond.instanceMethod yX12_drawn, Cond.selects RX12 yX12_drawn yX12_drawn, Cond.code yX12_drawn cX12_drawn 5 none, Cond.methodLink RX12 292 yX12_allParts, Cond.instanceMethod yX12_allParts, Cond.selects RX12 yX12_allParts yX12_allParts, Cond.code yX12_allParts cX12_allParts 3 (some .int), Cond.methodLink RL 99 yX11_image, Cond.instanceMethod yX11_image, Cond.selects RX11 yX11_image yX11_image, Cond.code yX11_image cX11_image 2 (some .int), Cond.methodLink RX11 219 yX11_imageAt, Cond.instanceMethod yX11_imageAt, Cond.selects RX11 yX11_imageAt yX11_imageAt, Cond.code yX11_imageAt cX11_imageAt 2 (some (.object "BeetleDrive$Image")), Cond.methodLink RX11 223 yX3_keep]
def wsL_law_r32 : List Cond := [Cond.instanceMethod yX3_keep, Cond.selects RX3 yX3_keep yX3_keep, Cond.code yX3_keep cX3_keep 3 none, Cond.fieldLink RX3 30 "BeetleDrive$Image" "isKept" "Z", Cond.methodLink RX3 23 yX9_copyFrom, Cond.methodLink RX3 27 yX7_copyFrom, Cond.instanceMethod yX7_copyFrom, Cond.selects RX7 yX7_copyFrom yX7_copyFrom, Cond.code yX7_copyFrom cX7_copyFrom 3 none, Cond.methodLink RL 102 yX12_image, Cond.instanceMethod yX12_image, Cond.selects RX12 yX12_image yX12_image, Cond.code yX12_image cX12_image 2 (some .int), Cond.fieldLink RX12 299 "BeetleDriveModel" "keptAt" "I", Cond.fieldLink RX12 295 "BeetleDriveModel" "isWriting" "Z", Cond.methodLink RX12 309 yX12_passAll, Cond.instanceMethod yX12_passAll, Cond.selects RX12 yX12_passAll yX12_passAll, Cond.code yX12_passAll cX12_passAll 1 none, Cond.methodLink RX12 302 yX12_pass, Cond.instanceMethod yX12_pass, Cond.selects RX12 yX12_pass yX12_pass, Cond.code yX12_pass cX12_pass 3 (some .int), Cond.methodLink RX12 305 yX12_passRow]
def wsL_law_r33 : List Cond := [Cond.instanceMethod yX12_passRow, Cond.selects RX12 yX12_passRow yX12_passRow, Cond.code yX12_passRow cX12_passRow 4 none, Cond.methodLink RL 103 yX11_restore, Cond.instanceMethod yX11_restore, Cond.selects RX11 yX11_restore yX11_restore, Cond.code yX11_restore cX11_restore 3 (some .int), Cond.methodLink RX11 233 yX7_copyFrom, Cond.methodLink RL 106 yX12_restore, Cond.instanceMethod yX12_restore, Cond.selects RX12 yX12_restore yX12_restore, Cond.code yX12_restore cX12_restore 2 (some .int), Cond.methodLink RL 107 yX11_told, Cond.instanceMethod yX11_told, Cond.selects RX11 yX11_told yX11_told, Cond.code yX11_told cX11_told 2 (some .int), Cond.methodLink RX11 235 yX11_toldOfAll, Cond.instanceMethod yX11_toldOfAll, Cond.selects RX11 yX11_toldOfAll yX11_toldOfAll, Cond.code yX11_toldOfAll cX11_toldOfAll 2 (some .int), Cond.methodLink RX11 238 yX11_toldOfPlayer, Cond.instanceMethod yX11_toldOfPlayer, Cond.selects RX11 yX11_toldOfPlayer yX11_toldOfPlayer, Cond.code yX11_toldOfPlayer cX11_toldOfPlayer 3 (some .int)]
def wsL_law_r34 : List Cond := [Cond.methodLink RL 110 yX12_told, Cond.instanceMethod yX12_told, Cond.selects RX12 yX12_told yX12_told, Cond.code yX12_told cX12_told 2 (some .int), Cond.constantLong RX12 312 (10), Cond.constantLong RX12 314 (39), Cond.methodLink RX12 316 yX12_toldOfPlayer, Cond.instanceMethod yX12_toldOfPlayer, Cond.selects RX12 yX12_toldOfPlayer yX12_toldOfPlayer, Cond.code yX12_toldOfPlayer cX12_toldOfPlayer 3 (some .int)]
def wsL_law : List Cond := (wsL_law_r1 ++ (wsL_law_r2 ++ (wsL_law_r3 ++ (wsL_law_r4 ++ (wsL_law_r5 ++ (wsL_law_r6 ++ (wsL_law_r7 ++ (wsL_law_r8 ++ (wsL_law_r9 ++ (wsL_law_r10 ++ (wsL_law_r11 ++ (wsL_law_r12 ++ (wsL_law_r13 ++ (wsL_law_r14 ++ (wsL_law_r15 ++ (wsL_law_r16 ++ (wsL_law_r17 ++ (wsL_law_r18 ++ (wsL_law_r19 ++ (wsL_law_r20 ++ (wsL_law_r21 ++ (wsL_law_r22 ++ (wsL_law_r23 ++ (wsL_law_r24 ++ (wsL_law_r25 ++ (wsL_law_r26 ++ (wsL_law_r27 ++ (wsL_law_r28 ++ (wsL_law_r29 ++ (wsL_law_r30 ++ (wsL_law_r31 ++ (wsL_law_r32 ++ (wsL_law_r33 ++ wsL_law_r34))))))))))))))))))))))))))))))))) ++ wsX110 ++ wsX120 ++ wsX90 ++ wsX50 ++ wsX40 ++ wsX60 ++ wsX80 ++ wsX70 ++ wsX20 ++ wsX100 ++ wsX30 ++ ([] : List Cond)
abbrev vwCl : List vw_C := [(RX2, TX2, 3), (RX3, TX3, 3), (RX4, TX4, 6), (RX5, TX5, 2), (RX6, TX6, 4), (RX7, TX7, 3), (RX8, TX8, 1), (RX9, TX9, 5), (RX10, TX10, 1), (RX11, TX11, 10), (RX12, TX12, 30)]
end
section
set_option maxRecDepth 20000 in
theorem ggX0_canBe_X11_isWithin : GoodIn wsX0_canBe wsX11_isWithin := goodIn_r _ [5] (by decide +kernel) (by decide +kernel)
set_option maxRecDepth 20000 in
theorem gX0_canBe_X11_isWithin_n12 : GoodIn wsX0_canBe (wsX11_isWithin) := ggX0_canBe_X11_isWithin
set_option maxRecDepth 20000 in
theorem ggX0_canBe_X0_count : GoodIn wsX0_canBe wsX0_count := goodIn_r _ [9, 10] (by decide +kernel) (by decide +kernel)
set_option maxRecDepth 20000 in
theorem gX0_canBe_X0_count : GoodIn wsX0_canBe (va_wsS RX0 16 yX0_count wsX0_count) := goodIn_app (goodIn_of _ (by decide +kernel)) ggX0_canBe_X0_count
set_option maxRecDepth 20000 in
theorem ggX0_canBe_X0_hasWhatItNeeds : GoodIn wsX0_canBe wsX0_hasWhatItNeeds := goodIn_r _ [13, 14, 6, 7, 8, 9, 10] (by decide +kernel) (by decide +kernel)
set_option maxRecDepth 20000 in
theorem gX0_canBe_X0_hasWhatItNeeds : GoodIn wsX0_canBe (va_wsS RX0 24 yX0_hasWhatItNeeds wsX0_hasWhatItNeeds) := goodIn_app (goodIn_of _ (by decide +kernel)) ggX0_canBe_X0_hasWhatItNeeds
theorem dX0_canBe_0 : decode cX0_canBe 0 = .ok (.iload_n 0, 1) := by decide +kernel
theorem dX0_canBe_1 : decode cX0_canBe 1 = .ok (.iconst 0, 1) := by decide +kernel
theorem dX0_canBe_2 : decode cX0_canBe 2 = .ok (.ldc 11, 2) := by decide +kernel
theorem dX0_canBe_4 : decode cX0_canBe 4 = .ok (.invokestatic 12, 3) := by decide +kernel
theorem dX0_canBe_7 : decode cX0_canBe 7 = .ok (.ifCond .ne 5, 3) := by decide +kernel
theorem dX0_canBe_10 : decode cX0_canBe 10 = .ok (.iconst 0, 1) := by decide +kernel
theorem dX0_canBe_11 : decode cX0_canBe 11 = .ok (.ireturn, 1) := by decide +kernel
theorem dX0_canBe_12 : decode cX0_canBe 12 = .ok (.iconst 1, 1) := by decide +kernel
theorem dX0_canBe_13 : decode cX0_canBe 13 = .ok (.istore_n 1, 1) := by decide +kernel
theorem dX0_canBe_14 : decode cX0_canBe 14 = .ok (.iload_n 1, 1) := by decide +kernel
theorem dX0_canBe_15 : decode cX0_canBe 15 = .ok (.bipush 6, 2) := by decide +kernel
theorem dX0_canBe_17 : decode cX0_canBe 17 = .ok (.if_icmp .gt 38, 3) := by decide +kernel
theorem dX0_canBe_20 : decode cX0_canBe 20 = .ok (.iload_n 0, 1) := by decide +kernel
theorem dX0_canBe_21 : decode cX0_canBe 21 = .ok (.iload_n 1, 1) := by decide +kernel
theorem dX0_canBe_22 : decode cX0_canBe 22 = .ok (.invokestatic 16, 3) := by decide +kernel
theorem dX0_canBe_25 : decode cX0_canBe 25 = .ok (.istore_n 2, 1) := by decide +kernel
theorem dX0_canBe_26 : decode cX0_canBe 26 = .ok (.iload_n 2, 1) := by decide +kernel
theorem dX0_canBe_27 : decode cX0_canBe 27 = .ok (.getstatic 20, 3) := by decide +kernel
theorem dX0_canBe_30 : decode cX0_canBe 30 = .ok (.iload_n 1, 1) := by decide +kernel
theorem dX0_canBe_31 : decode cX0_canBe 31 = .ok (.iaload, 1) := by decide +kernel
theorem dX0_canBe_32 : decode cX0_canBe 32 = .ok (.if_icmp .gt 15, 3) := by decide +kernel
theorem dX0_canBe_35 : decode cX0_canBe 35 = .ok (.iload_n 2, 1) := by decide +kernel
theorem dX0_canBe_36 : decode cX0_canBe 36 = .ok (.ifCond .le 13, 3) := by decide +kernel
theorem dX0_canBe_39 : decode cX0_canBe 39 = .ok (.iload_n 0, 1) := by decide +kernel
theorem dX0_canBe_40 : decode cX0_canBe 40 = .ok (.iload_n 1, 1) := by decide +kernel
theorem dX0_canBe_41 : decode cX0_canBe 41 = .ok (.invokestatic 24, 3) := by decide +kernel
theorem dX0_canBe_44 : decode cX0_canBe 44 = .ok (.ifCond .ne 5, 3) := by decide +kernel
theorem dX0_canBe_47 : decode cX0_canBe 47 = .ok (.iconst 0, 1) := by decide +kernel
theorem dX0_canBe_48 : decode cX0_canBe 48 = .ok (.ireturn, 1) := by decide +kernel
theorem dX0_canBe_49 : decode cX0_canBe 49 = .ok (.iinc 1 1, 3) := by decide +kernel
theorem dX0_canBe_52 : decode cX0_canBe 52 = .ok (.goto (-38), 3) := by decide +kernel
theorem dX0_canBe_55 : decode cX0_canBe 55 = .ok (.iconst 1, 1) := by decide +kernel
theorem dX0_canBe_56 : decode cX0_canBe 56 = .ok (.ireturn, 1) := by decide +kernel
set_option maxRecDepth 20000 in
theorem ggX0_draw_X11_isWithin : GoodIn wsX0_draw wsX11_isWithin := goodIn_r _ [5] (by decide +kernel) (by decide +kernel)
set_option maxRecDepth 20000 in
theorem gX0_draw_X11_isWithin_n12 : GoodIn wsX0_draw (wsX11_isWithin) := ggX0_draw_X11_isWithin
set_option maxRecDepth 20000 in
theorem ggX0_draw_X0_count : GoodIn wsX0_draw wsX0_count := goodIn_r _ [9, 2] (by decide +kernel) (by decide +kernel)
set_option maxRecDepth 20000 in
theorem gX0_draw_X0_count : GoodIn wsX0_draw (va_wsS RX0 16 yX0_count wsX0_count) := goodIn_app (goodIn_of _ (by decide +kernel)) ggX0_draw_X0_count
set_option maxRecDepth 20000 in
theorem ggX0_draw_X0_hasWhatItNeeds : GoodIn wsX0_draw wsX0_hasWhatItNeeds := goodIn_r _ [12, 13, 6, 7, 8, 9, 2] (by decide +kernel) (by decide +kernel)
set_option maxRecDepth 20000 in
theorem gX0_draw_X0_hasWhatItNeeds : GoodIn wsX0_draw (va_wsS RX0 24 yX0_hasWhatItNeeds wsX0_hasWhatItNeeds) := goodIn_app (goodIn_of _ (by decide +kernel)) ggX0_draw_X0_hasWhatItNeeds
theorem dX0_draw_0 : decode cX0_draw 0 = .ok (.iload_n 1, 1) := by decide +kernel
theorem dX0_draw_1 : decode cX0_draw 1 = .ok (.iconst 1, 1) := by decide +kernel
theorem dX0_draw_2 : decode cX0_draw 2 = .ok (.bipush 6, 2) := by decide +kernel
theorem dX0_draw_4 : decode cX0_draw 4 = .ok (.invokestatic 12, 3) := by decide +kernel
theorem dX0_draw_7 : decode cX0_draw 7 = .ok (.ifCond .eq 16, 3) := by decide +kernel
theorem dX0_draw_10 : decode cX0_draw 10 = .ok (.iload_n 0, 1) := by decide +kernel
theorem dX0_draw_11 : decode cX0_draw 11 = .ok (.iload_n 1, 1) := by decide +kernel
theorem dX0_draw_12 : decode cX0_draw 12 = .ok (.invokestatic 16, 3) := by decide +kernel
theorem dX0_draw_15 : decode cX0_draw 15 = .ok (.getstatic 20, 3) := by decide +kernel
theorem dX0_draw_18 : decode cX0_draw 18 = .ok (.iload_n 1, 1) := by decide +kernel
theorem dX0_draw_19 : decode cX0_draw 19 = .ok (.iaload, 1) := by decide +kernel
theorem dX0_draw_20 : decode cX0_draw 20 = .ok (.if_icmp .lt 5, 3) := by decide +kernel
theorem dX0_draw_23 : decode cX0_draw 23 = .ok (.iload_n 0, 1) := by decide +kernel
theorem dX0_draw_24 : decode cX0_draw 24 = .ok (.ireturn, 1) := by decide +kernel
theorem dX0_draw_25 : decode cX0_draw 25 = .ok (.iload_n 0, 1) := by decide +kernel
theorem dX0_draw_26 : decode cX0_draw 26 = .ok (.iload_n 1, 1) := by decide +kernel
theorem dX0_draw_27 : decode cX0_draw 27 = .ok (.invokestatic 24, 3) := by decide +kernel
theorem dX0_draw_30 : decode cX0_draw 30 = .ok (.ifCond .eq 13, 3) := by decide +kernel
theorem dX0_draw_33 : decode cX0_draw 33 = .ok (.iload_n 0, 1) := by decide +kernel
theorem dX0_draw_34 : decode cX0_draw 34 = .ok (.getstatic 28, 3) := by decide +kernel
theorem dX0_draw_37 : decode cX0_draw 37 = .ok (.iload_n 1, 1) := by decide +kernel
theorem dX0_draw_38 : decode cX0_draw 38 = .ok (.iaload, 1) := by decide +kernel
theorem dX0_draw_39 : decode cX0_draw 39 = .ok (.iadd, 1) := by decide +kernel
theorem dX0_draw_40 : decode cX0_draw 40 = .ok (.goto 4, 3) := by decide +kernel
theorem dX0_draw_43 : decode cX0_draw 43 = .ok (.iload_n 0, 1) := by decide +kernel
theorem dX0_draw_44 : decode cX0_draw 44 = .ok (.ireturn, 1) := by decide +kernel
set_option maxRecDepth 20000 in
theorem ggX0_parts_X0_count : GoodIn wsX0_parts wsX0_count := goodIn_r _ [4, 5] (by decide +kernel) (by decide +kernel)
set_option maxRecDepth 20000 in
theorem gX0_parts_X0_count : GoodIn wsX0_parts (va_wsS RX0 16 yX0_count wsX0_count) := goodIn_app (goodIn_of _ (by decide +kernel)) ggX0_parts_X0_count
theorem dX0_parts_0 : decode cX0_parts 0 = .ok (.iconst 0, 1) := by decide +kernel
theorem dX0_parts_1 : decode cX0_parts 1 = .ok (.istore_n 1, 1) := by decide +kernel
theorem dX0_parts_2 : decode cX0_parts 2 = .ok (.iconst 1, 1) := by decide +kernel
theorem dX0_parts_3 : decode cX0_parts 3 = .ok (.istore_n 2, 1) := by decide +kernel
theorem dX0_parts_4 : decode cX0_parts 4 = .ok (.iload_n 2, 1) := by decide +kernel
theorem dX0_parts_5 : decode cX0_parts 5 = .ok (.bipush 6, 2) := by decide +kernel
theorem dX0_parts_7 : decode cX0_parts 7 = .ok (.if_icmp .gt 17, 3) := by decide +kernel
theorem dX0_parts_10 : decode cX0_parts 10 = .ok (.iload_n 1, 1) := by decide +kernel
theorem dX0_parts_11 : decode cX0_parts 11 = .ok (.iload_n 0, 1) := by decide +kernel
theorem dX0_parts_12 : decode cX0_parts 12 = .ok (.iload_n 2, 1) := by decide +kernel
theorem dX0_parts_13 : decode cX0_parts 13 = .ok (.invokestatic 16, 3) := by decide +kernel
theorem dX0_parts_16 : decode cX0_parts 16 = .ok (.iadd, 1) := by decide +kernel
theorem dX0_parts_17 : decode cX0_parts 17 = .ok (.istore_n 1, 1) := by decide +kernel
theorem dX0_parts_18 : decode cX0_parts 18 = .ok (.iinc 2 1, 3) := by decide +kernel
theorem dX0_parts_21 : decode cX0_parts 21 = .ok (.goto (-17), 3) := by decide +kernel
theorem dX0_parts_24 : decode cX0_parts 24 = .ok (.iload_n 1, 1) := by decide +kernel
theorem dX0_parts_25 : decode cX0_parts 25 = .ok (.ireturn, 1) := by decide +kernel
theorem dX0_count_0 : decode cX0_count 0 = .ok (.iload_n 0, 1) := by decide +kernel
theorem dX0_count_1 : decode cX0_count 1 = .ok (.getstatic 28, 3) := by decide +kernel
theorem dX0_count_4 : decode cX0_count 4 = .ok (.iload_n 1, 1) := by decide +kernel
theorem dX0_count_5 : decode cX0_count 5 = .ok (.iaload, 1) := by decide +kernel
theorem dX0_count_6 : decode cX0_count 6 = .ok (.idiv, 1) := by decide +kernel
theorem dX0_count_7 : decode cX0_count 7 = .ok (.bipush 10, 2) := by decide +kernel
theorem dX0_count_9 : decode cX0_count 9 = .ok (.irem, 1) := by decide +kernel
theorem dX0_count_10 : decode cX0_count 10 = .ok (.ireturn, 1) := by decide +kernel
set_option maxRecDepth 20000 in
theorem ggX0_hasWhatItNeeds_X0_count : GoodIn wsX0_hasWhatItNeeds wsX0_count := goodIn_r _ [5, 6] (by decide +kernel) (by decide +kernel)
set_option maxRecDepth 20000 in
theorem gX0_hasWhatItNeeds_X0_count : GoodIn wsX0_hasWhatItNeeds (va_wsS RX0 16 yX0_count wsX0_count) := goodIn_app (goodIn_of _ (by decide +kernel)) ggX0_hasWhatItNeeds_X0_count
theorem dX0_hasWhatItNeeds_0 : decode cX0_hasWhatItNeeds 0 = .ok (.getstatic 31, 3) := by decide +kernel
theorem dX0_hasWhatItNeeds_3 : decode cX0_hasWhatItNeeds 3 = .ok (.iload_n 1, 1) := by decide +kernel
theorem dX0_hasWhatItNeeds_4 : decode cX0_hasWhatItNeeds 4 = .ok (.iaload, 1) := by decide +kernel
theorem dX0_hasWhatItNeeds_5 : decode cX0_hasWhatItNeeds 5 = .ok (.istore_n 2, 1) := by decide +kernel
theorem dX0_hasWhatItNeeds_6 : decode cX0_hasWhatItNeeds 6 = .ok (.iload_n 2, 1) := by decide +kernel
theorem dX0_hasWhatItNeeds_7 : decode cX0_hasWhatItNeeds 7 = .ok (.ifCond .eq 11, 3) := by decide +kernel
theorem dX0_hasWhatItNeeds_10 : decode cX0_hasWhatItNeeds 10 = .ok (.iload_n 0, 1) := by decide +kernel
theorem dX0_hasWhatItNeeds_11 : decode cX0_hasWhatItNeeds 11 = .ok (.iload_n 2, 1) := by decide +kernel
theorem dX0_hasWhatItNeeds_12 : decode cX0_hasWhatItNeeds 12 = .ok (.invokestatic 16, 3) := by decide +kernel
theorem dX0_hasWhatItNeeds_15 : decode cX0_hasWhatItNeeds 15 = .ok (.ifCond .le 7, 3) := by decide +kernel
theorem dX0_hasWhatItNeeds_18 : decode cX0_hasWhatItNeeds 18 = .ok (.iconst 1, 1) := by decide +kernel
theorem dX0_hasWhatItNeeds_19 : decode cX0_hasWhatItNeeds 19 = .ok (.goto 4, 3) := by decide +kernel
theorem dX0_hasWhatItNeeds_22 : decode cX0_hasWhatItNeeds 22 = .ok (.iconst 0, 1) := by decide +kernel
theorem dX0_hasWhatItNeeds_23 : decode cX0_hasWhatItNeeds 23 = .ok (.ireturn, 1) := by decide +kernel
set_option maxRecDepth 20000 in
theorem ggX1_canLie_X11_isWithin : GoodIn wsX1_canLie wsX11_isWithin := goodIn_r _ [3] (by decide +kernel) (by decide +kernel)
set_option maxRecDepth 20000 in
theorem gX1_canLie_X11_isWithin_n9 : GoodIn wsX1_canLie (wsX11_isWithin) := ggX1_canLie_X11_isWithin
theorem dX1_canLie_0 : decode cX1_canLie 0 = .ok (.iload_n 0, 1) := by decide +kernel
theorem dX1_canLie_1 : decode cX1_canLie 1 = .ok (.bipush 10, 2) := by decide +kernel
theorem dX1_canLie_3 : decode cX1_canLie 3 = .ok (.idiv, 1) := by decide +kernel
theorem dX1_canLie_4 : decode cX1_canLie 4 = .ok (.istore_n 1, 1) := by decide +kernel
theorem dX1_canLie_5 : decode cX1_canLie 5 = .ok (.iload_n 0, 1) := by decide +kernel
theorem dX1_canLie_6 : decode cX1_canLie 6 = .ok (.bipush 10, 2) := by decide +kernel
theorem dX1_canLie_8 : decode cX1_canLie 8 = .ok (.irem, 1) := by decide +kernel
theorem dX1_canLie_9 : decode cX1_canLie 9 = .ok (.istore_n 2, 1) := by decide +kernel
theorem dX1_canLie_10 : decode cX1_canLie 10 = .ok (.iload_n 1, 1) := by decide +kernel
theorem dX1_canLie_11 : decode cX1_canLie 11 = .ok (.iconst 1, 1) := by decide +kernel
theorem dX1_canLie_12 : decode cX1_canLie 12 = .ok (.bipush 6, 2) := by decide +kernel
theorem dX1_canLie_14 : decode cX1_canLie 14 = .ok (.invokestatic 9, 3) := by decide +kernel
theorem dX1_canLie_17 : decode cX1_canLie 17 = .ok (.ifCond .eq 30, 3) := by decide +kernel
theorem dX1_canLie_20 : decode cX1_canLie 20 = .ok (.iload_n 2, 1) := by decide +kernel
theorem dX1_canLie_21 : decode cX1_canLie 21 = .ok (.iconst 1, 1) := by decide +kernel
theorem dX1_canLie_22 : decode cX1_canLie 22 = .ok (.bipush 6, 2) := by decide +kernel
theorem dX1_canLie_24 : decode cX1_canLie 24 = .ok (.invokestatic 9, 3) := by decide +kernel
theorem dX1_canLie_27 : decode cX1_canLie 27 = .ok (.ifCond .eq 20, 3) := by decide +kernel
theorem dX1_canLie_30 : decode cX1_canLie 30 = .ok (.iload_n 2, 1) := by decide +kernel
theorem dX1_canLie_31 : decode cX1_canLie 31 = .ok (.iload_n 1, 1) := by decide +kernel
theorem dX1_canLie_32 : decode cX1_canLie 32 = .ok (.if_icmp .eq 15, 3) := by decide +kernel
theorem dX1_canLie_35 : decode cX1_canLie 35 = .ok (.iload_n 2, 1) := by decide +kernel
theorem dX1_canLie_36 : decode cX1_canLie 36 = .ok (.bipush 7, 2) := by decide +kernel
theorem dX1_canLie_38 : decode cX1_canLie 38 = .ok (.iload_n 1, 1) := by decide +kernel
theorem dX1_canLie_39 : decode cX1_canLie 39 = .ok (.isub, 1) := by decide +kernel
theorem dX1_canLie_40 : decode cX1_canLie 40 = .ok (.if_icmp .eq 7, 3) := by decide +kernel
theorem dX1_canLie_43 : decode cX1_canLie 43 = .ok (.iconst 1, 1) := by decide +kernel
theorem dX1_canLie_44 : decode cX1_canLie 44 = .ok (.goto 4, 3) := by decide +kernel
theorem dX1_canLie_47 : decode cX1_canLie 47 = .ok (.iconst 0, 1) := by decide +kernel
theorem dX1_canLie_48 : decode cX1_canLie 48 = .ok (.ireturn, 1) := by decide +kernel
set_option maxRecDepth 20000 in
theorem ggX1_isRow_X11_isWithin : GoodIn wsX1_isRow wsX11_isWithin := goodIn_r _ [4] (by decide +kernel) (by decide +kernel)
set_option maxRecDepth 20000 in
theorem gX1_isRow_X11_isWithin_n9 : GoodIn wsX1_isRow (wsX11_isWithin) := ggX1_isRow_X11_isWithin
theorem dX1_isRow_0 : decode cX1_isRow 0 = .ok (.iload_n 0, 1) := by decide +kernel
theorem dX1_isRow_1 : decode cX1_isRow 1 = .ok (.iconst 1, 1) := by decide +kernel
theorem dX1_isRow_2 : decode cX1_isRow 2 = .ok (.ldc 15, 2) := by decide +kernel
theorem dX1_isRow_4 : decode cX1_isRow 4 = .ok (.invokestatic 9, 3) := by decide +kernel
theorem dX1_isRow_7 : decode cX1_isRow 7 = .ok (.ifCond .ne 5, 3) := by decide +kernel
theorem dX1_isRow_10 : decode cX1_isRow 10 = .ok (.iconst 0, 1) := by decide +kernel
theorem dX1_isRow_11 : decode cX1_isRow 11 = .ok (.ireturn, 1) := by decide +kernel
theorem dX1_isRow_12 : decode cX1_isRow 12 = .ok (.iload_n 0, 1) := by decide +kernel
theorem dX1_isRow_13 : decode cX1_isRow 13 = .ok (.istore_n 1, 1) := by decide +kernel
theorem dX1_isRow_14 : decode cX1_isRow 14 = .ok (.iconst 0, 1) := by decide +kernel
theorem dX1_isRow_15 : decode cX1_isRow 15 = .ok (.istore_n 2, 1) := by decide +kernel
theorem dX1_isRow_16 : decode cX1_isRow 16 = .ok (.iload_n 2, 1) := by decide +kernel
theorem dX1_isRow_17 : decode cX1_isRow 17 = .ok (.bipush 6, 2) := by decide +kernel
theorem dX1_isRow_19 : decode cX1_isRow 19 = .ok (.if_icmp .ge 30, 3) := by decide +kernel
theorem dX1_isRow_22 : decode cX1_isRow 22 = .ok (.iload_n 1, 1) := by decide +kernel
theorem dX1_isRow_23 : decode cX1_isRow 23 = .ok (.bipush 10, 2) := by decide +kernel
theorem dX1_isRow_25 : decode cX1_isRow 25 = .ok (.if_icmp .lt 24, 3) := by decide +kernel
theorem dX1_isRow_28 : decode cX1_isRow 28 = .ok (.iload_n 1, 1) := by decide +kernel
theorem dX1_isRow_29 : decode cX1_isRow 29 = .ok (.bipush 10, 2) := by decide +kernel
theorem dX1_isRow_31 : decode cX1_isRow 31 = .ok (.irem, 1) := by decide +kernel
theorem dX1_isRow_32 : decode cX1_isRow 32 = .ok (.iconst 3, 1) := by decide +kernel
theorem dX1_isRow_33 : decode cX1_isRow 33 = .ok (.if_icmp .le 5, 3) := by decide +kernel
theorem dX1_isRow_36 : decode cX1_isRow 36 = .ok (.iconst 0, 1) := by decide +kernel
theorem dX1_isRow_37 : decode cX1_isRow 37 = .ok (.ireturn, 1) := by decide +kernel
theorem dX1_isRow_38 : decode cX1_isRow 38 = .ok (.iload_n 1, 1) := by decide +kernel
theorem dX1_isRow_39 : decode cX1_isRow 39 = .ok (.bipush 10, 2) := by decide +kernel
theorem dX1_isRow_41 : decode cX1_isRow 41 = .ok (.idiv, 1) := by decide +kernel
theorem dX1_isRow_42 : decode cX1_isRow 42 = .ok (.istore_n 1, 1) := by decide +kernel
theorem dX1_isRow_43 : decode cX1_isRow 43 = .ok (.iinc 2 1, 3) := by decide +kernel
theorem dX1_isRow_46 : decode cX1_isRow 46 = .ok (.goto (-30), 3) := by decide +kernel
theorem dX1_isRow_49 : decode cX1_isRow 49 = .ok (.iload_n 1, 1) := by decide +kernel
theorem dX1_isRow_50 : decode cX1_isRow 50 = .ok (.iconst 1, 1) := by decide +kernel
theorem dX1_isRow_51 : decode cX1_isRow 51 = .ok (.if_icmp .ne 7, 3) := by decide +kernel
theorem dX1_isRow_54 : decode cX1_isRow 54 = .ok (.iconst 1, 1) := by decide +kernel
theorem dX1_isRow_55 : decode cX1_isRow 55 = .ok (.goto 4, 3) := by decide +kernel
theorem dX1_isRow_58 : decode cX1_isRow 58 = .ok (.iconst 0, 1) := by decide +kernel
theorem dX1_isRow_59 : decode cX1_isRow 59 = .ok (.ireturn, 1) := by decide +kernel
set_option maxRecDepth 20000 in
theorem ggX1_topAfter_X1_rolled : GoodIn wsX1_topAfter wsX1_rolled := goodIn_r _ [4, 5, 6, 3, 7, 8, 9, 10, 11] (by decide +kernel) (by decide +kernel)
set_option maxRecDepth 20000 in
theorem gX1_topAfter_X1_rolled : GoodIn wsX1_topAfter (va_wsS RX1 16 yX1_rolled wsX1_rolled) := goodIn_app (goodIn_of _ (by decide +kernel)) ggX1_topAfter_X1_rolled
theorem dX1_topAfter_0 : decode cX1_topAfter 0 = .ok (.iconst 1, 1) := by decide +kernel
theorem dX1_topAfter_1 : decode cX1_topAfter 1 = .ok (.istore_n 2, 1) := by decide +kernel
theorem dX1_topAfter_2 : decode cX1_topAfter 2 = .ok (.iconst 0, 1) := by decide +kernel
theorem dX1_topAfter_3 : decode cX1_topAfter 3 = .ok (.istore_n 3, 1) := by decide +kernel
theorem dX1_topAfter_4 : decode cX1_topAfter 4 = .ok (.iload_n 3, 1) := by decide +kernel
theorem dX1_topAfter_5 : decode cX1_topAfter 5 = .ok (.bipush 6, 2) := by decide +kernel
theorem dX1_topAfter_7 : decode cX1_topAfter 7 = .ok (.if_icmp .ge 22, 3) := by decide +kernel
theorem dX1_topAfter_10 : decode cX1_topAfter 10 = .ok (.iload_n 1, 1) := by decide +kernel
theorem dX1_topAfter_11 : decode cX1_topAfter 11 = .ok (.iload_n 2, 1) := by decide +kernel
theorem dX1_topAfter_12 : decode cX1_topAfter 12 = .ok (.idiv, 1) := by decide +kernel
theorem dX1_topAfter_13 : decode cX1_topAfter 13 = .ok (.bipush 10, 2) := by decide +kernel
theorem dX1_topAfter_15 : decode cX1_topAfter 15 = .ok (.if_icmp .lt 14, 3) := by decide +kernel
theorem dX1_topAfter_18 : decode cX1_topAfter 18 = .ok (.iload_n 2, 1) := by decide +kernel
theorem dX1_topAfter_19 : decode cX1_topAfter 19 = .ok (.bipush 10, 2) := by decide +kernel
theorem dX1_topAfter_21 : decode cX1_topAfter 21 = .ok (.imul, 1) := by decide +kernel
theorem dX1_topAfter_22 : decode cX1_topAfter 22 = .ok (.istore_n 2, 1) := by decide +kernel
theorem dX1_topAfter_23 : decode cX1_topAfter 23 = .ok (.iinc 3 1, 3) := by decide +kernel
theorem dX1_topAfter_26 : decode cX1_topAfter 26 = .ok (.goto (-22), 3) := by decide +kernel
theorem dX1_topAfter_29 : decode cX1_topAfter 29 = .ok (.iload_n 0, 1) := by decide +kernel
theorem dX1_topAfter_30 : decode cX1_topAfter 30 = .ok (.istore_n 3, 1) := by decide +kernel
theorem dX1_topAfter_31 : decode cX1_topAfter 31 = .ok (.iload_n 2, 1) := by decide +kernel
theorem dX1_topAfter_32 : decode cX1_topAfter 32 = .ok (.bipush 10, 2) := by decide +kernel
theorem dX1_topAfter_34 : decode cX1_topAfter 34 = .ok (.idiv, 1) := by decide +kernel
theorem dX1_topAfter_35 : decode cX1_topAfter 35 = .ok (.istore 4, 2) := by decide +kernel
theorem dX1_topAfter_37 : decode cX1_topAfter 37 = .ok (.iload 4, 2) := by decide +kernel
theorem dX1_topAfter_39 : decode cX1_topAfter 39 = .ok (.ifCond .le 25, 3) := by decide +kernel
theorem dX1_topAfter_42 : decode cX1_topAfter 42 = .ok (.iload_n 3, 1) := by decide +kernel
theorem dX1_topAfter_43 : decode cX1_topAfter 43 = .ok (.iload_n 1, 1) := by decide +kernel
theorem dX1_topAfter_44 : decode cX1_topAfter 44 = .ok (.iload 4, 2) := by decide +kernel
theorem dX1_topAfter_46 : decode cX1_topAfter 46 = .ok (.idiv, 1) := by decide +kernel
theorem dX1_topAfter_47 : decode cX1_topAfter 47 = .ok (.bipush 10, 2) := by decide +kernel
theorem dX1_topAfter_49 : decode cX1_topAfter 49 = .ok (.irem, 1) := by decide +kernel
theorem dX1_topAfter_50 : decode cX1_topAfter 50 = .ok (.invokestatic 16, 3) := by decide +kernel
theorem dX1_topAfter_53 : decode cX1_topAfter 53 = .ok (.istore_n 3, 1) := by decide +kernel
theorem dX1_topAfter_54 : decode cX1_topAfter 54 = .ok (.iload 4, 2) := by decide +kernel
theorem dX1_topAfter_56 : decode cX1_topAfter 56 = .ok (.bipush 10, 2) := by decide +kernel
theorem dX1_topAfter_58 : decode cX1_topAfter 58 = .ok (.idiv, 1) := by decide +kernel
theorem dX1_topAfter_59 : decode cX1_topAfter 59 = .ok (.istore 4, 2) := by decide +kernel
theorem dX1_topAfter_61 : decode cX1_topAfter 61 = .ok (.goto (-24), 3) := by decide +kernel
theorem dX1_topAfter_64 : decode cX1_topAfter 64 = .ok (.iload_n 3, 1) := by decide +kernel
theorem dX1_topAfter_65 : decode cX1_topAfter 65 = .ok (.bipush 10, 2) := by decide +kernel
theorem dX1_topAfter_67 : decode cX1_topAfter 67 = .ok (.idiv, 1) := by decide +kernel
theorem dX1_topAfter_68 : decode cX1_topAfter 68 = .ok (.ireturn, 1) := by decide +kernel
set_option maxRecDepth 20000 in
theorem ggX1_rolled_X1_rightOf : GoodIn wsX1_rolled wsX1_rightOf := goodIn_r _ [4, 5, 6, 7, 8] (by decide +kernel) (by decide +kernel)
set_option maxRecDepth 20000 in
theorem gX1_rolled_X1_rightOf : GoodIn wsX1_rolled (va_wsS RX1 20 yX1_rightOf wsX1_rightOf) := goodIn_app (goodIn_of _ (by decide +kernel)) ggX1_rolled_X1_rightOf
theorem dX1_rolled_0 : decode cX1_rolled 0 = .ok (.iload_n 0, 1) := by decide +kernel
theorem dX1_rolled_1 : decode cX1_rolled 1 = .ok (.bipush 10, 2) := by decide +kernel
theorem dX1_rolled_3 : decode cX1_rolled 3 = .ok (.idiv, 1) := by decide +kernel
theorem dX1_rolled_4 : decode cX1_rolled 4 = .ok (.istore_n 2, 1) := by decide +kernel
theorem dX1_rolled_5 : decode cX1_rolled 5 = .ok (.iload_n 0, 1) := by decide +kernel
theorem dX1_rolled_6 : decode cX1_rolled 6 = .ok (.bipush 10, 2) := by decide +kernel
theorem dX1_rolled_8 : decode cX1_rolled 8 = .ok (.irem, 1) := by decide +kernel
theorem dX1_rolled_9 : decode cX1_rolled 9 = .ok (.istore_n 3, 1) := by decide +kernel
theorem dX1_rolled_10 : decode cX1_rolled 10 = .ok (.iload_n 1, 1) := by decide +kernel
theorem dX1_rolled_11 : decode cX1_rolled 11 = .ok (.tableswitch 59 0 2 #[25, 35, 49], 25) := by decide +kernel
theorem dX1_rolled_36 : decode cX1_rolled 36 = .ok (.bipush 7, 2) := by decide +kernel
theorem dX1_rolled_38 : decode cX1_rolled 38 = .ok (.iload_n 3, 1) := by decide +kernel
theorem dX1_rolled_39 : decode cX1_rolled 39 = .ok (.isub, 1) := by decide +kernel
theorem dX1_rolled_40 : decode cX1_rolled 40 = .ok (.bipush 10, 2) := by decide +kernel
theorem dX1_rolled_42 : decode cX1_rolled 42 = .ok (.imul, 1) := by decide +kernel
theorem dX1_rolled_43 : decode cX1_rolled 43 = .ok (.iload_n 2, 1) := by decide +kernel
theorem dX1_rolled_44 : decode cX1_rolled 44 = .ok (.iadd, 1) := by decide +kernel
theorem dX1_rolled_45 : decode cX1_rolled 45 = .ok (.ireturn, 1) := by decide +kernel
theorem dX1_rolled_46 : decode cX1_rolled 46 = .ok (.bipush 7, 2) := by decide +kernel
theorem dX1_rolled_48 : decode cX1_rolled 48 = .ok (.iload_n 2, 1) := by decide +kernel
theorem dX1_rolled_49 : decode cX1_rolled 49 = .ok (.iload_n 3, 1) := by decide +kernel
theorem dX1_rolled_50 : decode cX1_rolled 50 = .ok (.invokestatic 20, 3) := by decide +kernel
theorem dX1_rolled_53 : decode cX1_rolled 53 = .ok (.isub, 1) := by decide +kernel
theorem dX1_rolled_54 : decode cX1_rolled 54 = .ok (.bipush 10, 2) := by decide +kernel
theorem dX1_rolled_56 : decode cX1_rolled 56 = .ok (.imul, 1) := by decide +kernel
theorem dX1_rolled_57 : decode cX1_rolled 57 = .ok (.iload_n 3, 1) := by decide +kernel
theorem dX1_rolled_58 : decode cX1_rolled 58 = .ok (.iadd, 1) := by decide +kernel
theorem dX1_rolled_59 : decode cX1_rolled 59 = .ok (.ireturn, 1) := by decide +kernel
theorem dX1_rolled_60 : decode cX1_rolled 60 = .ok (.iload_n 3, 1) := by decide +kernel
theorem dX1_rolled_61 : decode cX1_rolled 61 = .ok (.bipush 10, 2) := by decide +kernel
theorem dX1_rolled_63 : decode cX1_rolled 63 = .ok (.imul, 1) := by decide +kernel
theorem dX1_rolled_64 : decode cX1_rolled 64 = .ok (.bipush 7, 2) := by decide +kernel
theorem dX1_rolled_66 : decode cX1_rolled 66 = .ok (.iadd, 1) := by decide +kernel
theorem dX1_rolled_67 : decode cX1_rolled 67 = .ok (.iload_n 2, 1) := by decide +kernel
theorem dX1_rolled_68 : decode cX1_rolled 68 = .ok (.isub, 1) := by decide +kernel
theorem dX1_rolled_69 : decode cX1_rolled 69 = .ok (.ireturn, 1) := by decide +kernel
theorem dX1_rolled_70 : decode cX1_rolled 70 = .ok (.iload_n 2, 1) := by decide +kernel
theorem dX1_rolled_71 : decode cX1_rolled 71 = .ok (.iload_n 3, 1) := by decide +kernel
theorem dX1_rolled_72 : decode cX1_rolled 72 = .ok (.invokestatic 20, 3) := by decide +kernel
theorem dX1_rolled_75 : decode cX1_rolled 75 = .ok (.bipush 10, 2) := by decide +kernel
theorem dX1_rolled_77 : decode cX1_rolled 77 = .ok (.imul, 1) := by decide +kernel
theorem dX1_rolled_78 : decode cX1_rolled 78 = .ok (.iload_n 3, 1) := by decide +kernel
theorem dX1_rolled_79 : decode cX1_rolled 79 = .ok (.iadd, 1) := by decide +kernel
theorem dX1_rolled_80 : decode cX1_rolled 80 = .ok (.ireturn, 1) := by decide +kernel
theorem dX1_rightOf_0 : decode cX1_rightOf 0 = .ok (.iload_n 0, 1) := by decide +kernel
theorem dX1_rightOf_1 : decode cX1_rightOf 1 = .ok (.bipush 7, 2) := by decide +kernel
theorem dX1_rightOf_3 : decode cX1_rightOf 3 = .ok (.iload_n 0, 1) := by decide +kernel
theorem dX1_rightOf_4 : decode cX1_rightOf 4 = .ok (.isub, 1) := by decide +kernel
theorem dX1_rightOf_5 : decode cX1_rightOf 5 = .ok (.invokestatic 23, 3) := by decide +kernel
theorem dX1_rightOf_8 : decode cX1_rightOf 8 = .ok (.istore_n 2, 1) := by decide +kernel
theorem dX1_rightOf_9 : decode cX1_rightOf 9 = .ok (.iload_n 1, 1) := by decide +kernel
theorem dX1_rightOf_10 : decode cX1_rightOf 10 = .ok (.bipush 7, 2) := by decide +kernel
theorem dX1_rightOf_12 : decode cX1_rightOf 12 = .ok (.iload_n 1, 1) := by decide +kernel
theorem dX1_rightOf_13 : decode cX1_rightOf 13 = .ok (.isub, 1) := by decide +kernel
theorem dX1_rightOf_14 : decode cX1_rightOf 14 = .ok (.invokestatic 23, 3) := by decide +kernel
theorem dX1_rightOf_17 : decode cX1_rightOf 17 = .ok (.istore_n 3, 1) := by decide +kernel
theorem dX1_rightOf_18 : decode cX1_rightOf 18 = .ok (.bipush 6, 2) := by decide +kernel
theorem dX1_rightOf_20 : decode cX1_rightOf 20 = .ok (.iload_n 2, 1) := by decide +kernel
theorem dX1_rightOf_21 : decode cX1_rightOf 21 = .ok (.isub, 1) := by decide +kernel
theorem dX1_rightOf_22 : decode cX1_rightOf 22 = .ok (.iload_n 3, 1) := by decide +kernel
theorem dX1_rightOf_23 : decode cX1_rightOf 23 = .ok (.isub, 1) := by decide +kernel
theorem dX1_rightOf_24 : decode cX1_rightOf 24 = .ok (.istore 4, 2) := by decide +kernel
theorem dX1_rightOf_26 : decode cX1_rightOf 26 = .ok (.iload_n 3, 1) := by decide +kernel
theorem dX1_rightOf_27 : decode cX1_rightOf 27 = .ok (.iload_n 2, 1) := by decide +kernel
theorem dX1_rightOf_28 : decode cX1_rightOf 28 = .ok (.isub, 1) := by decide +kernel
theorem dX1_rightOf_29 : decode cX1_rightOf 29 = .ok (.iconst 3, 1) := by decide +kernel
theorem dX1_rightOf_30 : decode cX1_rightOf 30 = .ok (.iadd, 1) := by decide +kernel
theorem dX1_rightOf_31 : decode cX1_rightOf 31 = .ok (.iconst 3, 1) := by decide +kernel
theorem dX1_rightOf_32 : decode cX1_rightOf 32 = .ok (.irem, 1) := by decide +kernel
theorem dX1_rightOf_33 : decode cX1_rightOf 33 = .ok (.iconst 1, 1) := by decide +kernel
theorem dX1_rightOf_34 : decode cX1_rightOf 34 = .ok (.if_icmp .ne 7, 3) := by decide +kernel
theorem dX1_rightOf_37 : decode cX1_rightOf 37 = .ok (.iconst 1, 1) := by decide +kernel
theorem dX1_rightOf_38 : decode cX1_rightOf 38 = .ok (.goto 4, 3) := by decide +kernel
theorem dX1_rightOf_41 : decode cX1_rightOf 41 = .ok (.iconst 0, 1) := by decide +kernel
theorem dX1_rightOf_42 : decode cX1_rightOf 42 = .ok (.istore 5, 2) := by decide +kernel
theorem dX1_rightOf_44 : decode cX1_rightOf 44 = .ok (.iload_n 0, 1) := by decide +kernel
theorem dX1_rightOf_45 : decode cX1_rightOf 45 = .ok (.iconst 3, 1) := by decide +kernel
theorem dX1_rightOf_46 : decode cX1_rightOf 46 = .ok (.if_icmp .le 7, 3) := by decide +kernel
theorem dX1_rightOf_49 : decode cX1_rightOf 49 = .ok (.iconst 1, 1) := by decide +kernel
theorem dX1_rightOf_50 : decode cX1_rightOf 50 = .ok (.goto 4, 3) := by decide +kernel
theorem dX1_rightOf_53 : decode cX1_rightOf 53 = .ok (.iconst 0, 1) := by decide +kernel
theorem dX1_rightOf_54 : decode cX1_rightOf 54 = .ok (.iload_n 1, 1) := by decide +kernel
theorem dX1_rightOf_55 : decode cX1_rightOf 55 = .ok (.iconst 3, 1) := by decide +kernel
theorem dX1_rightOf_56 : decode cX1_rightOf 56 = .ok (.if_icmp .le 7, 3) := by decide +kernel
theorem dX1_rightOf_59 : decode cX1_rightOf 59 = .ok (.iconst 1, 1) := by decide +kernel
theorem dX1_rightOf_60 : decode cX1_rightOf 60 = .ok (.goto 4, 3) := by decide +kernel
theorem dX1_rightOf_63 : decode cX1_rightOf 63 = .ok (.iconst 0, 1) := by decide +kernel
theorem dX1_rightOf_64 : decode cX1_rightOf 64 = .ok (.if_icmp .ne 7, 3) := by decide +kernel
theorem dX1_rightOf_67 : decode cX1_rightOf 67 = .ok (.iconst 1, 1) := by decide +kernel
theorem dX1_rightOf_68 : decode cX1_rightOf 68 = .ok (.goto 4, 3) := by decide +kernel
theorem dX1_rightOf_71 : decode cX1_rightOf 71 = .ok (.iconst 0, 1) := by decide +kernel
theorem dX1_rightOf_72 : decode cX1_rightOf 72 = .ok (.istore 6, 2) := by decide +kernel
theorem dX1_rightOf_74 : decode cX1_rightOf 74 = .ok (.iload 5, 2) := by decide +kernel
theorem dX1_rightOf_76 : decode cX1_rightOf 76 = .ok (.iload 6, 2) := by decide +kernel
theorem dX1_rightOf_78 : decode cX1_rightOf 78 = .ok (.if_icmp .ne 8, 3) := by decide +kernel
theorem dX1_rightOf_81 : decode cX1_rightOf 81 = .ok (.iload 4, 2) := by decide +kernel
theorem dX1_rightOf_83 : decode cX1_rightOf 83 = .ok (.goto 8, 3) := by decide +kernel
theorem dX1_rightOf_86 : decode cX1_rightOf 86 = .ok (.bipush 7, 2) := by decide +kernel
theorem dX1_rightOf_88 : decode cX1_rightOf 88 = .ok (.iload 4, 2) := by decide +kernel
theorem dX1_rightOf_90 : decode cX1_rightOf 90 = .ok (.isub, 1) := by decide +kernel
theorem dX1_rightOf_91 : decode cX1_rightOf 91 = .ok (.ireturn, 1) := by decide +kernel
theorem dX2_init_0 : decode cX2_init 0 = .ok (.aload_n 0, 1) := by decide +kernel
theorem dX2_init_1 : decode cX2_init 1 = .ok (.invokespecial 3, 3) := by decide +kernel
theorem dX2_init_4 : decode cX2_init 4 = .ok (.aload_n 0, 1) := by decide +kernel
theorem dX2_init_5 : decode cX2_init 5 = .ok (.bipush 24, 2) := by decide +kernel
theorem dX2_init_7 : decode cX2_init 7 = .ok (.newarray .int, 2) := by decide +kernel
theorem dX2_init_9 : decode cX2_init 9 = .ok (.putfield 11, 3) := by decide +kernel
theorem dX2_init_12 : decode cX2_init 12 = .ok (.aload_n 0, 1) := by decide +kernel
theorem dX2_init_13 : decode cX2_init 13 = .ok (.bipush 7, 2) := by decide +kernel
theorem dX2_init_15 : decode cX2_init 15 = .ok (.newarray .int, 2) := by decide +kernel
theorem dX2_init_17 : decode cX2_init 17 = .ok (.putfield 15, 3) := by decide +kernel
theorem dX2_init_20 : decode cX2_init 20 = .ok (.return_, 1) := by decide +kernel
set_option maxRecDepth 20000 in
theorem ggX2_search_X1_canLie : GoodIn wsX2_search wsX1_canLie := goodIn_r _ [6, 7, 8, 9] (by decide +kernel) (by decide +kernel)
set_option maxRecDepth 20000 in
theorem gX2_search_X1_canLie : GoodIn wsX2_search (va_wsS RX2 22 yX1_canLie wsX1_canLie) := goodIn_app (goodIn_of _ (by decide +kernel)) ggX2_search_X1_canLie
set_option maxRecDepth 20000 in
theorem ggX2_search_X7_fit : GoodIn wsX2_search wsX7_fit := goodIn_r _ [14, 15, 16, 17, 18, 19, 5, 20, 21, 22, 23, 24, 25, 26, 27, 28, 29, 30, 34, 35, 36] (by decide +kernel) (by decide +kernel)
set_option maxRecDepth 20000 in
theorem gX2_search_X7_fit : GoodIn wsX2_search (wsV RX2 28 RX7 yX7_fit wsX7_fit) := goodIn_app (goodIn_of _ (by decide +kernel)) ggX2_search_X7_fit
theorem dX2_search_0 : decode cX2_search 0 = .ok (.aload_n 0, 1) := by decide +kernel
theorem dX2_search_1 : decode cX2_search 1 = .ok (.iconst 0, 1) := by decide +kernel
theorem dX2_search_2 : decode cX2_search 2 = .ok (.putfield 18, 3) := by decide +kernel
theorem dX2_search_5 : decode cX2_search 5 = .ok (.bipush 12, 2) := by decide +kernel
theorem dX2_search_7 : decode cX2_search 7 = .ok (.istore_n 2, 1) := by decide +kernel
theorem dX2_search_8 : decode cX2_search 8 = .ok (.iload_n 2, 1) := by decide +kernel
theorem dX2_search_9 : decode cX2_search 9 = .ok (.bipush 65, 2) := by decide +kernel
theorem dX2_search_11 : decode cX2_search 11 = .ok (.if_icmp .gt 53, 3) := by decide +kernel
theorem dX2_search_14 : decode cX2_search 14 = .ok (.aload_n 0, 1) := by decide +kernel
theorem dX2_search_15 : decode cX2_search 15 = .ok (.getfield 18, 3) := by decide +kernel
theorem dX2_search_18 : decode cX2_search 18 = .ok (.bipush 24, 2) := by decide +kernel
theorem dX2_search_20 : decode cX2_search 20 = .ok (.if_icmp .ge 44, 3) := by decide +kernel
theorem dX2_search_23 : decode cX2_search 23 = .ok (.iload_n 2, 1) := by decide +kernel
theorem dX2_search_24 : decode cX2_search 24 = .ok (.invokestatic 22, 3) := by decide +kernel
theorem dX2_search_27 : decode cX2_search 27 = .ok (.ifCond .eq 31, 3) := by decide +kernel
theorem dX2_search_30 : decode cX2_search 30 = .ok (.aload_n 1, 1) := by decide +kernel
theorem dX2_search_31 : decode cX2_search 31 = .ok (.iload_n 2, 1) := by decide +kernel
theorem dX2_search_32 : decode cX2_search 32 = .ok (.invokevirtual 28, 3) := by decide +kernel
theorem dX2_search_35 : decode cX2_search 35 = .ok (.ifCond .eq 23, 3) := by decide +kernel
theorem dX2_search_38 : decode cX2_search 38 = .ok (.aload_n 0, 1) := by decide +kernel
theorem dX2_search_39 : decode cX2_search 39 = .ok (.getfield 11, 3) := by decide +kernel
theorem dX2_search_42 : decode cX2_search 42 = .ok (.aload_n 0, 1) := by decide +kernel
theorem dX2_search_43 : decode cX2_search 43 = .ok (.getfield 18, 3) := by decide +kernel
theorem dX2_search_46 : decode cX2_search 46 = .ok (.iload_n 2, 1) := by decide +kernel
theorem dX2_search_47 : decode cX2_search 47 = .ok (.iastore, 1) := by decide +kernel
theorem dX2_search_48 : decode cX2_search 48 = .ok (.aload_n 0, 1) := by decide +kernel
theorem dX2_search_49 : decode cX2_search 49 = .ok (.dup, 1) := by decide +kernel
theorem dX2_search_50 : decode cX2_search 50 = .ok (.getfield 18, 3) := by decide +kernel
theorem dX2_search_53 : decode cX2_search 53 = .ok (.iconst 1, 1) := by decide +kernel
theorem dX2_search_54 : decode cX2_search 54 = .ok (.iadd, 1) := by decide +kernel
theorem dX2_search_55 : decode cX2_search 55 = .ok (.putfield 18, 3) := by decide +kernel
theorem dX2_search_58 : decode cX2_search 58 = .ok (.iinc 2 1, 3) := by decide +kernel
theorem dX2_search_61 : decode cX2_search 61 = .ok (.goto (-53), 3) := by decide +kernel
theorem dX2_search_64 : decode cX2_search 64 = .ok (.return_, 1) := by decide +kernel
set_option maxRecDepth 20000 in
theorem ggX2_bestRow_X2_mostLeft : GoodIn wsX2_bestRow wsX2_mostLeft := goodIn_r _ [5, 6, 7, 8, 9, 10, 11, 12, 13, 14, 15, 16, 17, 18, 19, 20, 21, 22, 23, 24, 25, 26, 27, 28, 33, 34, 35] (by decide +kernel) (by decide +kernel)
set_option maxRecDepth 20000 in
theorem gX2_bestRow_X2_mostLeft : GoodIn wsX2_bestRow (wsV RX2 33 RX2 yX2_mostLeft wsX2_mostLeft) := goodIn_app (goodIn_of _ (by decide +kernel)) ggX2_bestRow_X2_mostLeft
set_option maxRecDepth 20000 in
theorem ggX2_bestRow_X1_isRow : GoodIn wsX2_bestRow wsX1_isRow := goodIn_r _ [31, 32, 26, 27, 28] (by decide +kernel) (by decide +kernel)
set_option maxRecDepth 20000 in
theorem gX2_bestRow_X1_isRow : GoodIn wsX2_bestRow (va_wsS RX2 37 yX1_isRow wsX1_isRow) := goodIn_app (goodIn_of _ (by decide +kernel)) ggX2_bestRow_X1_isRow
theorem dX2_bestRow_0 : decode cX2_bestRow 0 = .ok (.iconst 1, 1) := by decide +kernel
theorem dX2_bestRow_1 : decode cX2_bestRow 1 = .ok (.istore_n 1, 1) := by decide +kernel
theorem dX2_bestRow_2 : decode cX2_bestRow 2 = .ok (.aload_n 0, 1) := by decide +kernel
theorem dX2_bestRow_3 : decode cX2_bestRow 3 = .ok (.iload_n 1, 1) := by decide +kernel
theorem dX2_bestRow_4 : decode cX2_bestRow 4 = .ok (.invokevirtual 33, 3) := by decide +kernel
theorem dX2_bestRow_7 : decode cX2_bestRow 7 = .ok (.istore_n 2, 1) := by decide +kernel
theorem dX2_bestRow_8 : decode cX2_bestRow 8 = .ok (.iconst 2, 1) := by decide +kernel
theorem dX2_bestRow_9 : decode cX2_bestRow 9 = .ok (.istore_n 3, 1) := by decide +kernel
theorem dX2_bestRow_10 : decode cX2_bestRow 10 = .ok (.iload_n 3, 1) := by decide +kernel
theorem dX2_bestRow_11 : decode cX2_bestRow 11 = .ok (.sipush 133, 3) := by decide +kernel
theorem dX2_bestRow_14 : decode cX2_bestRow 14 = .ok (.if_icmp .gt 37, 3) := by decide +kernel
theorem dX2_bestRow_17 : decode cX2_bestRow 17 = .ok (.iload_n 3, 1) := by decide +kernel
theorem dX2_bestRow_18 : decode cX2_bestRow 18 = .ok (.invokestatic 37, 3) := by decide +kernel
theorem dX2_bestRow_21 : decode cX2_bestRow 21 = .ok (.ifCond .ne 6, 3) := by decide +kernel
theorem dX2_bestRow_24 : decode cX2_bestRow 24 = .ok (.goto 21, 3) := by decide +kernel
theorem dX2_bestRow_27 : decode cX2_bestRow 27 = .ok (.aload_n 0, 1) := by decide +kernel
theorem dX2_bestRow_28 : decode cX2_bestRow 28 = .ok (.iload_n 3, 1) := by decide +kernel
theorem dX2_bestRow_29 : decode cX2_bestRow 29 = .ok (.invokevirtual 33, 3) := by decide +kernel
theorem dX2_bestRow_32 : decode cX2_bestRow 32 = .ok (.istore 4, 2) := by decide +kernel
theorem dX2_bestRow_34 : decode cX2_bestRow 34 = .ok (.iload 4, 2) := by decide +kernel
theorem dX2_bestRow_36 : decode cX2_bestRow 36 = .ok (.iload_n 2, 1) := by decide +kernel
theorem dX2_bestRow_37 : decode cX2_bestRow 37 = .ok (.if_icmp .ge 8, 3) := by decide +kernel
theorem dX2_bestRow_40 : decode cX2_bestRow 40 = .ok (.iload_n 3, 1) := by decide +kernel
theorem dX2_bestRow_41 : decode cX2_bestRow 41 = .ok (.istore_n 1, 1) := by decide +kernel
theorem dX2_bestRow_42 : decode cX2_bestRow 42 = .ok (.iload 4, 2) := by decide +kernel
theorem dX2_bestRow_44 : decode cX2_bestRow 44 = .ok (.istore_n 2, 1) := by decide +kernel
theorem dX2_bestRow_45 : decode cX2_bestRow 45 = .ok (.iinc 3 1, 3) := by decide +kernel
theorem dX2_bestRow_48 : decode cX2_bestRow 48 = .ok (.goto (-38), 3) := by decide +kernel
theorem dX2_bestRow_51 : decode cX2_bestRow 51 = .ok (.iload_n 1, 1) := by decide +kernel
theorem dX2_bestRow_52 : decode cX2_bestRow 52 = .ok (.ireturn, 1) := by decide +kernel
set_option maxRecDepth 20000 in
theorem ggX2_mostLeft_X1_topAfter : GoodIn wsX2_mostLeft wsX1_topAfter := goodIn_r _ [11, 12, 13, 10, 14, 15, 16, 17, 18, 19, 6, 20] (by decide +kernel) (by decide +kernel)
set_option maxRecDepth 20000 in
theorem gX2_mostLeft_X1_topAfter : GoodIn wsX2_mostLeft (va_wsS RX2 40 yX1_topAfter wsX1_topAfter) := goodIn_app (goodIn_of _ (by decide +kernel)) ggX2_mostLeft_X1_topAfter
set_option maxRecDepth 20000 in
theorem ggX2_mostLeft_X11_isWithin : GoodIn wsX2_mostLeft wsX11_isWithin := goodIn_r _ [23] (by decide +kernel) (by decide +kernel)
set_option maxRecDepth 20000 in
theorem gX2_mostLeft_X11_isWithin_n44 : GoodIn wsX2_mostLeft (wsX11_isWithin) := ggX2_mostLeft_X11_isWithin
theorem dX2_mostLeft_0 : decode cX2_mostLeft 0 = .ok (.iconst 0, 1) := by decide +kernel
theorem dX2_mostLeft_1 : decode cX2_mostLeft 1 = .ok (.istore_n 2, 1) := by decide +kernel
theorem dX2_mostLeft_2 : decode cX2_mostLeft 2 = .ok (.iload_n 2, 1) := by decide +kernel
theorem dX2_mostLeft_3 : decode cX2_mostLeft 3 = .ok (.bipush 6, 2) := by decide +kernel
theorem dX2_mostLeft_5 : decode cX2_mostLeft 5 = .ok (.if_icmp .gt 16, 3) := by decide +kernel
theorem dX2_mostLeft_8 : decode cX2_mostLeft 8 = .ok (.aload_n 0, 1) := by decide +kernel
theorem dX2_mostLeft_9 : decode cX2_mostLeft 9 = .ok (.getfield 15, 3) := by decide +kernel
theorem dX2_mostLeft_12 : decode cX2_mostLeft 12 = .ok (.iload_n 2, 1) := by decide +kernel
theorem dX2_mostLeft_13 : decode cX2_mostLeft 13 = .ok (.iconst 0, 1) := by decide +kernel
theorem dX2_mostLeft_14 : decode cX2_mostLeft 14 = .ok (.iastore, 1) := by decide +kernel
theorem dX2_mostLeft_15 : decode cX2_mostLeft 15 = .ok (.iinc 2 1, 3) := by decide +kernel
theorem dX2_mostLeft_18 : decode cX2_mostLeft 18 = .ok (.goto (-16), 3) := by decide +kernel
theorem dX2_mostLeft_21 : decode cX2_mostLeft 21 = .ok (.iconst 0, 1) := by decide +kernel
theorem dX2_mostLeft_22 : decode cX2_mostLeft 22 = .ok (.istore_n 2, 1) := by decide +kernel
theorem dX2_mostLeft_23 : decode cX2_mostLeft 23 = .ok (.iconst 0, 1) := by decide +kernel
theorem dX2_mostLeft_24 : decode cX2_mostLeft 24 = .ok (.istore_n 3, 1) := by decide +kernel
theorem dX2_mostLeft_25 : decode cX2_mostLeft 25 = .ok (.iload_n 3, 1) := by decide +kernel
theorem dX2_mostLeft_26 : decode cX2_mostLeft 26 = .ok (.aload_n 0, 1) := by decide +kernel
theorem dX2_mostLeft_27 : decode cX2_mostLeft 27 = .ok (.getfield 18, 3) := by decide +kernel
theorem dX2_mostLeft_30 : decode cX2_mostLeft 30 = .ok (.if_icmp .ge 55, 3) := by decide +kernel
theorem dX2_mostLeft_33 : decode cX2_mostLeft 33 = .ok (.aload_n 0, 1) := by decide +kernel
theorem dX2_mostLeft_34 : decode cX2_mostLeft 34 = .ok (.getfield 11, 3) := by decide +kernel
theorem dX2_mostLeft_37 : decode cX2_mostLeft 37 = .ok (.iload_n 3, 1) := by decide +kernel
theorem dX2_mostLeft_38 : decode cX2_mostLeft 38 = .ok (.iaload, 1) := by decide +kernel
theorem dX2_mostLeft_39 : decode cX2_mostLeft 39 = .ok (.iload_n 1, 1) := by decide +kernel
theorem dX2_mostLeft_40 : decode cX2_mostLeft 40 = .ok (.invokestatic 40, 3) := by decide +kernel
theorem dX2_mostLeft_43 : decode cX2_mostLeft 43 = .ok (.istore 4, 2) := by decide +kernel
theorem dX2_mostLeft_45 : decode cX2_mostLeft 45 = .ok (.iload 4, 2) := by decide +kernel
theorem dX2_mostLeft_47 : decode cX2_mostLeft 47 = .ok (.iconst 1, 1) := by decide +kernel
theorem dX2_mostLeft_48 : decode cX2_mostLeft 48 = .ok (.bipush 6, 2) := by decide +kernel
theorem dX2_mostLeft_50 : decode cX2_mostLeft 50 = .ok (.invokestatic 44, 3) := by decide +kernel
theorem dX2_mostLeft_53 : decode cX2_mostLeft 53 = .ok (.ifCond .eq 26, 3) := by decide +kernel
theorem dX2_mostLeft_56 : decode cX2_mostLeft 56 = .ok (.aload_n 0, 1) := by decide +kernel
theorem dX2_mostLeft_57 : decode cX2_mostLeft 57 = .ok (.getfield 15, 3) := by decide +kernel
theorem dX2_mostLeft_60 : decode cX2_mostLeft 60 = .ok (.iload 4, 2) := by decide +kernel
theorem dX2_mostLeft_62 : decode cX2_mostLeft 62 = .ok (.dup2, 1) := by decide +kernel
theorem dX2_mostLeft_63 : decode cX2_mostLeft 63 = .ok (.iaload, 1) := by decide +kernel
theorem dX2_mostLeft_64 : decode cX2_mostLeft 64 = .ok (.iconst 1, 1) := by decide +kernel
theorem dX2_mostLeft_65 : decode cX2_mostLeft 65 = .ok (.iadd, 1) := by decide +kernel
theorem dX2_mostLeft_66 : decode cX2_mostLeft 66 = .ok (.iastore, 1) := by decide +kernel
theorem dX2_mostLeft_67 : decode cX2_mostLeft 67 = .ok (.iload_n 2, 1) := by decide +kernel
theorem dX2_mostLeft_68 : decode cX2_mostLeft 68 = .ok (.aload_n 0, 1) := by decide +kernel
theorem dX2_mostLeft_69 : decode cX2_mostLeft 69 = .ok (.getfield 15, 3) := by decide +kernel
theorem dX2_mostLeft_72 : decode cX2_mostLeft 72 = .ok (.iload 4, 2) := by decide +kernel
theorem dX2_mostLeft_74 : decode cX2_mostLeft 74 = .ok (.iaload, 1) := by decide +kernel
theorem dX2_mostLeft_75 : decode cX2_mostLeft 75 = .ok (.invokestatic 48, 3) := by decide +kernel
theorem dX2_mostLeft_78 : decode cX2_mostLeft 78 = .ok (.istore_n 2, 1) := by decide +kernel
theorem dX2_mostLeft_79 : decode cX2_mostLeft 79 = .ok (.iinc 3 1, 3) := by decide +kernel
theorem dX2_mostLeft_82 : decode cX2_mostLeft 82 = .ok (.goto (-57), 3) := by decide +kernel
theorem dX2_mostLeft_85 : decode cX2_mostLeft 85 = .ok (.iload_n 2, 1) := by decide +kernel
theorem dX2_mostLeft_86 : decode cX2_mostLeft 86 = .ok (.ireturn, 1) := by decide +kernel
set_option maxRecDepth 20000 in
theorem ggX3_init_X9_init : GoodIn wsX3_init wsX9_init := goodIn_r _ [13, 14, 2, 3, 15, 16, 17, 18, 24, 25, 26, 27, 28] (by decide +kernel) (by decide +kernel)
set_option maxRecDepth 20000 in
theorem gX3_init_X9_init_n9 : GoodIn wsX3_init (wsX9_init) := ggX3_init_X9_init
set_option maxRecDepth 20000 in
theorem ggX3_init_X7_init : GoodIn wsX3_init wsX7_init := goodIn_r _ [20, 21, 2, 3, 15, 22, 23, 32, 33, 34] (by decide +kernel) (by decide +kernel)
set_option maxRecDepth 20000 in
theorem gX3_init_X7_init_n18 : GoodIn wsX3_init (wsX7_init) := ggX3_init_X7_init
theorem dX3_init_0 : decode cX3_init 0 = .ok (.aload_n 0, 1) := by decide +kernel
theorem dX3_init_1 : decode cX3_init 1 = .ok (.invokespecial 1, 3) := by decide +kernel
theorem dX3_init_4 : decode cX3_init 4 = .ok (.aload_n 0, 1) := by decide +kernel
theorem dX3_init_5 : decode cX3_init 5 = .ok (.new 7, 3) := by decide +kernel
theorem dX3_init_8 : decode cX3_init 8 = .ok (.dup, 1) := by decide +kernel
theorem dX3_init_9 : decode cX3_init 9 = .ok (.invokespecial 9, 3) := by decide +kernel
theorem dX3_init_12 : decode cX3_init 12 = .ok (.putfield 10, 3) := by decide +kernel
theorem dX3_init_15 : decode cX3_init 15 = .ok (.aload_n 0, 1) := by decide +kernel
theorem dX3_init_16 : decode cX3_init 16 = .ok (.new 16, 3) := by decide +kernel
theorem dX3_init_19 : decode cX3_init 19 = .ok (.dup, 1) := by decide +kernel
theorem dX3_init_20 : decode cX3_init 20 = .ok (.invokespecial 18, 3) := by decide +kernel
theorem dX3_init_23 : decode cX3_init 23 = .ok (.putfield 19, 3) := by decide +kernel
theorem dX3_init_26 : decode cX3_init 26 = .ok (.return_, 1) := by decide +kernel
set_option maxRecDepth 20000 in
theorem ggX3_keep_X9_copyFrom : GoodIn wsX3_keep wsX9_copyFrom := goodIn_r _ [8, 9, 10, 11, 12, 13, 25, 26, 27, 28, 29] (by decide +kernel) (by decide +kernel)
set_option maxRecDepth 20000 in
theorem gX3_keep_X9_copyFrom : GoodIn wsX3_keep (wsV RX3 23 RX9 yX9_copyFrom wsX9_copyFrom) := goodIn_app (goodIn_of _ (by decide +kernel)) ggX3_keep_X9_copyFrom
set_option maxRecDepth 20000 in
theorem ggX3_keep_X7_copyFrom : GoodIn wsX3_keep wsX7_copyFrom := goodIn_r _ [18, 19, 20, 21, 30, 31, 32] (by decide +kernel) (by decide +kernel)
set_option maxRecDepth 20000 in
theorem gX3_keep_X7_copyFrom : GoodIn wsX3_keep (wsV RX3 27 RX7 yX7_copyFrom wsX7_copyFrom) := goodIn_app (goodIn_of _ (by decide +kernel)) ggX3_keep_X7_copyFrom
theorem dX3_keep_0 : decode cX3_keep 0 = .ok (.aload_n 0, 1) := by decide +kernel
theorem dX3_keep_1 : decode cX3_keep 1 = .ok (.getfield 10, 3) := by decide +kernel
theorem dX3_keep_4 : decode cX3_keep 4 = .ok (.aload_n 1, 1) := by decide +kernel
theorem dX3_keep_5 : decode cX3_keep 5 = .ok (.invokevirtual 23, 3) := by decide +kernel
theorem dX3_keep_8 : decode cX3_keep 8 = .ok (.aload_n 0, 1) := by decide +kernel
theorem dX3_keep_9 : decode cX3_keep 9 = .ok (.getfield 19, 3) := by decide +kernel
theorem dX3_keep_12 : decode cX3_keep 12 = .ok (.aload_n 2, 1) := by decide +kernel
theorem dX3_keep_13 : decode cX3_keep 13 = .ok (.invokevirtual 27, 3) := by decide +kernel
theorem dX3_keep_16 : decode cX3_keep 16 = .ok (.aload_n 0, 1) := by decide +kernel
theorem dX3_keep_17 : decode cX3_keep 17 = .ok (.iconst 1, 1) := by decide +kernel
theorem dX3_keep_18 : decode cX3_keep 18 = .ok (.putfield 30, 3) := by decide +kernel
theorem dX3_keep_21 : decode cX3_keep 21 = .ok (.return_, 1) := by decide +kernel
set_option maxRecDepth 20000 in
theorem ggX4_init_X9_init : GoodIn wsX4_init wsX9_init := goodIn_r _ [9, 10, 2, 3, 11, 12, 13, 14, 15, 16, 17, 18, 19] (by decide +kernel) (by decide +kernel)
set_option maxRecDepth 20000 in
theorem gX4_init_X9_init_n11 : GoodIn wsX4_init (wsX9_init) := ggX4_init_X9_init
theorem dX4_init_0 : decode cX4_init 0 = .ok (.aload_n 0, 1) := by decide +kernel
theorem dX4_init_1 : decode cX4_init 1 = .ok (.invokespecial 3, 3) := by decide +kernel
theorem dX4_init_4 : decode cX4_init 4 = .ok (.aload_n 0, 1) := by decide +kernel
theorem dX4_init_5 : decode cX4_init 5 = .ok (.new 9, 3) := by decide +kernel
theorem dX4_init_8 : decode cX4_init 8 = .ok (.dup, 1) := by decide +kernel
theorem dX4_init_9 : decode cX4_init 9 = .ok (.invokespecial 11, 3) := by decide +kernel
theorem dX4_init_12 : decode cX4_init 12 = .ok (.putfield 12, 3) := by decide +kernel
theorem dX4_init_15 : decode cX4_init 15 = .ok (.return_, 1) := by decide +kernel
set_option maxRecDepth 20000 in
theorem ggX4_playText_X4_begin : GoodIn wsX4_playText wsX4_begin := goodIn_r _ [6, 7, 8, 1, 9, 10, 11, 12, 13, 14, 15, 16, 17, 18, 19, 20, 21, 108, 109, 110, 111, 112, 113, 114, 115, 116, 117, 118] (by decide +kernel) (by decide +kernel)
set_option maxRecDepth 20000 in
theorem gX4_playText_X4_begin : GoodIn wsX4_playText (wsV RX4 18 RX4 yX4_begin wsX4_begin) := goodIn_app (goodIn_of _ (by decide +kernel)) ggX4_playText_X4_begin
set_option maxRecDepth 20000 in
theorem ggX4_playText_X5_firstFault : GoodIn wsX4_playText wsX5_firstFault := goodIn_r _ [26, 27, 28, 29, 30, 25, 31, 32, 33, 15, 34, 35, 36, 37, 38, 39, 40, 106, 107] (by decide +kernel) (by decide +kernel)
set_option maxRecDepth 20000 in
theorem gX4_playText_X5_firstFault : GoodIn wsX4_playText (wsV RX4 22 RX5 yX5_firstFault wsX5_firstFault) := goodIn_app (goodIn_of _ (by decide +kernel)) ggX4_playText_X5_firstFault
set_option maxRecDepth 20000 in
theorem ggX4_playText_X5_isLetter : GoodIn wsX4_playText wsX5_isLetter := goodIn_r _ [40, 35, 36, 37] (by decide +kernel) (by decide +kernel)
set_option maxRecDepth 20000 in
theorem gX4_playText_X5_isLetter : GoodIn wsX4_playText (va_wsS RX4 39 yX5_isLetter wsX5_isLetter) := goodIn_app (goodIn_of _ (by decide +kernel)) ggX4_playText_X5_isLetter
set_option maxRecDepth 20000 in
theorem ggX4_playText_X4_play : GoodIn wsX4_playText wsX4_play := goodIn_r _ [45, 7, 1, 8, 46, 47, 48, 15, 49, 20, 19, 21, 50, 33, 34, 35, 36, 37, 51, 52, 53, 54, 17, 55, 56, 57, 58, 59, 60, 61, 62, 63, 18, 64, 65, 66, 67, 68, 69, 70, 71, 72, 73, 74, 75, 76, 77, 78, 79, 80, 81, 82, 83, 84, 85, 86, 87, 88, 89, 90, 91, 92, 93, 94, 95, 96, 97, 98, 99, 100, 101, 102, 103, 5, 104, 9, 10, 11, 105, 108, 109, 110, 111, 112, 113, 114, 115, 116, 117, 118] (by decide +kernel) (by decide +kernel)
set_option maxRecDepth 20000 in
theorem gX4_playText_X4_play : GoodIn wsX4_playText (wsV RX4 43 RX4 yX4_play wsX4_play) := goodIn_app (goodIn_of _ (by decide +kernel)) ggX4_playText_X4_play
theorem dX4_playText_0 : decode cX4_playText 0 = .ok (.aload_n 0, 1) := by decide +kernel
theorem dX4_playText_1 : decode cX4_playText 1 = .ok (.aload_n 2, 1) := by decide +kernel
theorem dX4_playText_2 : decode cX4_playText 2 = .ok (.invokevirtual 18, 3) := by decide +kernel
theorem dX4_playText_5 : decode cX4_playText 5 = .ok (.aload_n 1, 1) := by decide +kernel
theorem dX4_playText_6 : decode cX4_playText 6 = .ok (.invokevirtual 22, 3) := by decide +kernel
theorem dX4_playText_9 : decode cX4_playText 9 = .ok (.bipush (-6), 2) := by decide +kernel
theorem dX4_playText_11 : decode cX4_playText 11 = .ok (.if_icmp .eq 6, 3) := by decide +kernel
theorem dX4_playText_14 : decode cX4_playText 14 = .ok (.bipush (-5), 2) := by decide +kernel
theorem dX4_playText_16 : decode cX4_playText 16 = .ok (.ireturn, 1) := by decide +kernel
theorem dX4_playText_17 : decode cX4_playText 17 = .ok (.iconst 0, 1) := by decide +kernel
theorem dX4_playText_18 : decode cX4_playText 18 = .ok (.istore_n 3, 1) := by decide +kernel
theorem dX4_playText_19 : decode cX4_playText 19 = .ok (.iconst 0, 1) := by decide +kernel
theorem dX4_playText_20 : decode cX4_playText 20 = .ok (.istore 4, 2) := by decide +kernel
theorem dX4_playText_22 : decode cX4_playText 22 = .ok (.iload 4, 2) := by decide +kernel
theorem dX4_playText_24 : decode cX4_playText 24 = .ok (.aload_n 1, 1) := by decide +kernel
theorem dX4_playText_25 : decode cX4_playText 25 = .ok (.getfield 28, 3) := by decide +kernel
theorem dX4_playText_28 : decode cX4_playText 28 = .ok (.if_icmp .ge 49, 3) := by decide +kernel
theorem dX4_playText_31 : decode cX4_playText 31 = .ok (.aload_n 0, 1) := by decide +kernel
theorem dX4_playText_32 : decode cX4_playText 32 = .ok (.getfield 32, 3) := by decide +kernel
theorem dX4_playText_35 : decode cX4_playText 35 = .ok (.ifCond .ne 42, 3) := by decide +kernel
theorem dX4_playText_38 : decode cX4_playText 38 = .ok (.aload_n 1, 1) := by decide +kernel
theorem dX4_playText_39 : decode cX4_playText 39 = .ok (.getfield 35, 3) := by decide +kernel
theorem dX4_playText_42 : decode cX4_playText 42 = .ok (.iload 4, 2) := by decide +kernel
theorem dX4_playText_44 : decode cX4_playText 44 = .ok (.iaload, 1) := by decide +kernel
theorem dX4_playText_45 : decode cX4_playText 45 = .ok (.istore 5, 2) := by decide +kernel
theorem dX4_playText_47 : decode cX4_playText 47 = .ok (.iload 5, 2) := by decide +kernel
theorem dX4_playText_49 : decode cX4_playText 49 = .ok (.invokestatic 39, 3) := by decide +kernel
theorem dX4_playText_52 : decode cX4_playText 52 = .ok (.ifCond .eq 12, 3) := by decide +kernel
theorem dX4_playText_55 : decode cX4_playText 55 = .ok (.iload 5, 2) := by decide +kernel
theorem dX4_playText_57 : decode cX4_playText 57 = .ok (.bipush 65, 2) := by decide +kernel
theorem dX4_playText_59 : decode cX4_playText 59 = .ok (.isub, 1) := by decide +kernel
theorem dX4_playText_60 : decode cX4_playText 60 = .ok (.istore_n 3, 1) := by decide +kernel
theorem dX4_playText_61 : decode cX4_playText 61 = .ok (.goto 10, 3) := by decide +kernel
theorem dX4_playText_64 : decode cX4_playText 64 = .ok (.aload_n 0, 1) := by decide +kernel
theorem dX4_playText_65 : decode cX4_playText 65 = .ok (.iload 5, 2) := by decide +kernel
theorem dX4_playText_67 : decode cX4_playText 67 = .ok (.iload_n 3, 1) := by decide +kernel
theorem dX4_playText_68 : decode cX4_playText 68 = .ok (.invokevirtual 43, 3) := by decide +kernel
theorem dX4_playText_71 : decode cX4_playText 71 = .ok (.iinc 4 1, 3) := by decide +kernel
theorem dX4_playText_74 : decode cX4_playText 74 = .ok (.goto (-52), 3) := by decide +kernel
theorem dX4_playText_77 : decode cX4_playText 77 = .ok (.aload_n 0, 1) := by decide +kernel
theorem dX4_playText_78 : decode cX4_playText 78 = .ok (.getfield 32, 3) := by decide +kernel
theorem dX4_playText_81 : decode cX4_playText 81 = .ok (.ifCond .ne 7, 3) := by decide +kernel
theorem dX4_playText_84 : decode cX4_playText 84 = .ok (.iconst 0, 1) := by decide +kernel
theorem dX4_playText_85 : decode cX4_playText 85 = .ok (.goto 5, 3) := by decide +kernel
theorem dX4_playText_88 : decode cX4_playText 88 = .ok (.bipush (-3), 2) := by decide +kernel
theorem dX4_playText_90 : decode cX4_playText 90 = .ok (.ireturn, 1) := by decide +kernel
set_option maxRecDepth 20000 in
theorem ggX4_playYear_X4_begin : GoodIn wsX4_playYear wsX4_begin := goodIn_r _ [6, 7, 8, 9, 10, 11, 12, 13, 14, 15, 16, 17, 18, 19, 20, 21, 22, 95, 96, 97, 98, 99, 100, 101, 102, 103, 104, 105] (by decide +kernel) (by decide +kernel)
set_option maxRecDepth 20000 in
theorem gX4_playYear_X4_begin : GoodIn wsX4_playYear (wsV RX4 18 RX4 yX4_begin wsX4_begin) := goodIn_app (goodIn_of _ (by decide +kernel)) ggX4_playYear_X4_begin
set_option maxRecDepth 20000 in
theorem ggX4_playYear_X4_markOfYear : GoodIn wsX4_playYear wsX4_markOfYear := goodIn_r _ [25] (by decide +kernel) (by decide +kernel)
set_option maxRecDepth 20000 in
theorem gX4_playYear_X4_markOfYear : GoodIn wsX4_playYear (va_wsS RX4 48 yX4_markOfYear wsX4_markOfYear) := goodIn_app (goodIn_of _ (by decide +kernel)) ggX4_playYear_X4_markOfYear
set_option maxRecDepth 20000 in
theorem ggX4_playYear_X4_play : GoodIn wsX4_playYear wsX4_play := goodIn_r _ [29, 7, 9, 8, 30, 31, 32, 16, 33, 21, 20, 22, 34, 35, 36, 37, 38, 39, 40, 41, 42, 43, 18, 44, 45, 46, 47, 48, 49, 50, 51, 52, 19, 53, 54, 55, 56, 57, 58, 59, 60, 61, 62, 63, 64, 65, 66, 67, 68, 69, 70, 71, 72, 73, 74, 75, 76, 77, 78, 79, 80, 81, 82, 83, 84, 85, 86, 87, 88, 89, 90, 91, 92, 5, 93, 10, 11, 12, 94, 95, 96, 97, 98, 99, 100, 101, 102, 103, 104, 105] (by decide +kernel) (by decide +kernel)
set_option maxRecDepth 20000 in
theorem gX4_playYear_X4_play : GoodIn wsX4_playYear (wsV RX4 43 RX4 yX4_play wsX4_play) := goodIn_app (goodIn_of _ (by decide +kernel)) ggX4_playYear_X4_play
theorem dX4_playYear_0 : decode cX4_playYear 0 = .ok (.aload_n 0, 1) := by decide +kernel
theorem dX4_playYear_1 : decode cX4_playYear 1 = .ok (.aload_n 3, 1) := by decide +kernel
theorem dX4_playYear_2 : decode cX4_playYear 2 = .ok (.invokevirtual 18, 3) := by decide +kernel
theorem dX4_playYear_5 : decode cX4_playYear 5 = .ok (.iload_n 1, 1) := by decide +kernel
theorem dX4_playYear_6 : decode cX4_playYear 6 = .ok (.istore 4, 2) := by decide +kernel
theorem dX4_playYear_8 : decode cX4_playYear 8 = .ok (.iconst 0, 1) := by decide +kernel
theorem dX4_playYear_9 : decode cX4_playYear 9 = .ok (.istore 5, 2) := by decide +kernel
theorem dX4_playYear_11 : decode cX4_playYear 11 = .ok (.iload 5, 2) := by decide +kernel
theorem dX4_playYear_13 : decode cX4_playYear 13 = .ok (.iload_n 2, 1) := by decide +kernel
theorem dX4_playYear_14 : decode cX4_playYear 14 = .ok (.if_icmp .ge 48, 3) := by decide +kernel
theorem dX4_playYear_17 : decode cX4_playYear 17 = .ok (.bipush 75, 2) := by decide +kernel
theorem dX4_playYear_19 : decode cX4_playYear 19 = .ok (.iload 4, 2) := by decide +kernel
theorem dX4_playYear_21 : decode cX4_playYear 21 = .ok (.imul, 1) := by decide +kernel
theorem dX4_playYear_22 : decode cX4_playYear 22 = .ok (.bipush 74, 2) := by decide +kernel
theorem dX4_playYear_24 : decode cX4_playYear 24 = .ok (.iadd, 1) := by decide +kernel
theorem dX4_playYear_25 : decode cX4_playYear 25 = .ok (.ldc 47, 2) := by decide +kernel
theorem dX4_playYear_27 : decode cX4_playYear 27 = .ok (.irem, 1) := by decide +kernel
theorem dX4_playYear_28 : decode cX4_playYear 28 = .ok (.istore 4, 2) := by decide +kernel
theorem dX4_playYear_30 : decode cX4_playYear 30 = .ok (.iload 4, 2) := by decide +kernel
theorem dX4_playYear_32 : decode cX4_playYear 32 = .ok (.bipush 8, 2) := by decide +kernel
theorem dX4_playYear_34 : decode cX4_playYear 34 = .ok (.idiv, 1) := by decide +kernel
theorem dX4_playYear_35 : decode cX4_playYear 35 = .ok (.istore 6, 2) := by decide +kernel
theorem dX4_playYear_37 : decode cX4_playYear 37 = .ok (.aload_n 0, 1) := by decide +kernel
theorem dX4_playYear_38 : decode cX4_playYear 38 = .ok (.iload 4, 2) := by decide +kernel
theorem dX4_playYear_40 : decode cX4_playYear 40 = .ok (.bipush 8, 2) := by decide +kernel
theorem dX4_playYear_42 : decode cX4_playYear 42 = .ok (.irem, 1) := by decide +kernel
theorem dX4_playYear_43 : decode cX4_playYear 43 = .ok (.iload 6, 2) := by decide +kernel
theorem dX4_playYear_45 : decode cX4_playYear 45 = .ok (.invokestatic 48, 3) := by decide +kernel
theorem dX4_playYear_48 : decode cX4_playYear 48 = .ok (.iload 6, 2) := by decide +kernel
theorem dX4_playYear_50 : decode cX4_playYear 50 = .ok (.bipush 6, 2) := by decide +kernel
theorem dX4_playYear_52 : decode cX4_playYear 52 = .ok (.irem, 1) := by decide +kernel
theorem dX4_playYear_53 : decode cX4_playYear 53 = .ok (.invokevirtual 43, 3) := by decide +kernel
theorem dX4_playYear_56 : decode cX4_playYear 56 = .ok (.iinc 5 1, 3) := by decide +kernel
theorem dX4_playYear_59 : decode cX4_playYear 59 = .ok (.goto (-48), 3) := by decide +kernel
theorem dX4_playYear_62 : decode cX4_playYear 62 = .ok (.return_, 1) := by decide +kernel
theorem dX4_markOfYear_0 : decode cX4_markOfYear 0 = .ok (.iload_n 0, 1) := by decide +kernel
theorem dX4_markOfYear_1 : decode cX4_markOfYear 1 = .ok (.iconst 5, 1) := by decide +kernel
theorem dX4_markOfYear_2 : decode cX4_markOfYear 2 = .ok (.if_icmp .gt 11, 3) := by decide +kernel
theorem dX4_markOfYear_5 : decode cX4_markOfYear 5 = .ok (.bipush 49, 2) := by decide +kernel
theorem dX4_markOfYear_7 : decode cX4_markOfYear 7 = .ok (.iload_n 1, 1) := by decide +kernel
theorem dX4_markOfYear_8 : decode cX4_markOfYear 8 = .ok (.bipush 6, 2) := by decide +kernel
theorem dX4_markOfYear_10 : decode cX4_markOfYear 10 = .ok (.irem, 1) := by decide +kernel
theorem dX4_markOfYear_11 : decode cX4_markOfYear 11 = .ok (.iadd, 1) := by decide +kernel
theorem dX4_markOfYear_12 : decode cX4_markOfYear 12 = .ok (.ireturn, 1) := by decide +kernel
theorem dX4_markOfYear_13 : decode cX4_markOfYear 13 = .ok (.iload_n 0, 1) := by decide +kernel
theorem dX4_markOfYear_14 : decode cX4_markOfYear 14 = .ok (.bipush 7, 2) := by decide +kernel
theorem dX4_markOfYear_16 : decode cX4_markOfYear 16 = .ok (.if_icmp .ne 6, 3) := by decide +kernel
theorem dX4_markOfYear_19 : decode cX4_markOfYear 19 = .ok (.bipush 33, 2) := by decide +kernel
theorem dX4_markOfYear_21 : decode cX4_markOfYear 21 = .ok (.ireturn, 1) := by decide +kernel
theorem dX4_markOfYear_22 : decode cX4_markOfYear 22 = .ok (.iload_n 1, 1) := by decide +kernel
theorem dX4_markOfYear_23 : decode cX4_markOfYear 23 = .ok (.bipush 6, 2) := by decide +kernel
theorem dX4_markOfYear_25 : decode cX4_markOfYear 25 = .ok (.idiv, 1) := by decide +kernel
theorem dX4_markOfYear_26 : decode cX4_markOfYear 26 = .ok (.iconst 4, 1) := by decide +kernel
theorem dX4_markOfYear_27 : decode cX4_markOfYear 27 = .ok (.irem, 1) := by decide +kernel
theorem dX4_markOfYear_28 : decode cX4_markOfYear 28 = .ok (.ifCond .ne 8, 3) := by decide +kernel
theorem dX4_markOfYear_31 : decode cX4_markOfYear 31 = .ok (.bipush 35, 2) := by decide +kernel
theorem dX4_markOfYear_33 : decode cX4_markOfYear 33 = .ok (.goto 5, 3) := by decide +kernel
theorem dX4_markOfYear_36 : decode cX4_markOfYear 36 = .ok (.bipush 46, 2) := by decide +kernel
theorem dX4_markOfYear_38 : decode cX4_markOfYear 38 = .ok (.ireturn, 1) := by decide +kernel
set_option maxRecDepth 20000 in
theorem ggX4_begin_X9_copyFrom : GoodIn wsX4_begin wsX9_copyFrom := goodIn_r _ [11, 12, 13, 14, 15, 16, 23, 24, 25, 26, 27] (by decide +kernel) (by decide +kernel)
set_option maxRecDepth 20000 in
theorem gX4_begin_X9_copyFrom : GoodIn wsX4_begin (wsV RX4 52 RX9 yX9_copyFrom wsX9_copyFrom) := goodIn_app (goodIn_of _ (by decide +kernel)) ggX4_begin_X9_copyFrom
theorem dX4_begin_0 : decode cX4_begin 0 = .ok (.aload_n 0, 1) := by decide +kernel
theorem dX4_begin_1 : decode cX4_begin 1 = .ok (.getfield 12, 3) := by decide +kernel
theorem dX4_begin_4 : decode cX4_begin 4 = .ok (.aload_n 1, 1) := by decide +kernel
theorem dX4_begin_5 : decode cX4_begin 5 = .ok (.invokevirtual 52, 3) := by decide +kernel
theorem dX4_begin_8 : decode cX4_begin 8 = .ok (.aload_n 0, 1) := by decide +kernel
theorem dX4_begin_9 : decode cX4_begin 9 = .ok (.iconst 0, 1) := by decide +kernel
theorem dX4_begin_10 : decode cX4_begin 10 = .ok (.putfield 55, 3) := by decide +kernel
theorem dX4_begin_13 : decode cX4_begin 13 = .ok (.aload_n 0, 1) := by decide +kernel
theorem dX4_begin_14 : decode cX4_begin 14 = .ok (.iconst 0, 1) := by decide +kernel
theorem dX4_begin_15 : decode cX4_begin 15 = .ok (.putfield 32, 3) := by decide +kernel
theorem dX4_begin_18 : decode cX4_begin 18 = .ok (.aload_n 0, 1) := by decide +kernel
theorem dX4_begin_19 : decode cX4_begin 19 = .ok (.iconst 0, 1) := by decide +kernel
theorem dX4_begin_20 : decode cX4_begin 20 = .ok (.putfield 58, 3) := by decide +kernel
theorem dX4_begin_23 : decode cX4_begin 23 = .ok (.aload_n 0, 1) := by decide +kernel
theorem dX4_begin_24 : decode cX4_begin 24 = .ok (.bipush (-6), 2) := by decide +kernel
theorem dX4_begin_26 : decode cX4_begin 26 = .ok (.putfield 61, 3) := by decide +kernel
theorem dX4_begin_29 : decode cX4_begin 29 = .ok (.aload_n 0, 1) := by decide +kernel
theorem dX4_begin_30 : decode cX4_begin 30 = .ok (.bipush (-6), 2) := by decide +kernel
theorem dX4_begin_32 : decode cX4_begin 32 = .ok (.putfield 64, 3) := by decide +kernel
theorem dX4_begin_35 : decode cX4_begin 35 = .ok (.return_, 1) := by decide +kernel
set_option maxRecDepth 20000 in
theorem ggX4_play_X9_whyNot : GoodIn wsX4_play wsX9_whyNot := goodIn_r _ [8, 9, 10, 11, 12, 13, 7, 14, 15, 16, 17, 18, 19, 20, 21, 22, 23, 24, 25, 26, 27, 85, 86, 87, 88, 89] (by decide +kernel) (by decide +kernel)
set_option maxRecDepth 20000 in
theorem gX4_play_X9_whyNot : GoodIn wsX4_play (wsV RX4 67 RX9 yX9_whyNot wsX9_whyNot) := goodIn_app (goodIn_of _ (by decide +kernel)) ggX4_play_X9_whyNot
set_option maxRecDepth 20000 in
theorem ggX4_play_X9_countUp : GoodIn wsX4_play wsX9_countUp := goodIn_r _ [31, 32, 33, 34, 35, 36, 22, 9, 11, 37, 38, 39, 7, 40, 41, 42, 43, 44, 45, 46, 47, 48, 85, 86, 87, 88, 89] (by decide +kernel) (by decide +kernel)
set_option maxRecDepth 20000 in
theorem gX4_play_X9_countUp : GoodIn wsX4_play (wsV RX4 70 RX9 yX9_countUp wsX9_countUp) := goodIn_app (goodIn_of _ (by decide +kernel)) ggX4_play_X9_countUp
set_option maxRecDepth 20000 in
theorem ggX4_play_X9_goOrCome : GoodIn wsX4_play wsX9_goOrCome := goodIn_r _ [52, 10, 9, 53, 54, 55, 7, 56, 24, 25, 26, 27, 85, 86, 87, 88, 89] (by decide +kernel) (by decide +kernel)
set_option maxRecDepth 20000 in
theorem gX4_play_X9_goOrCome : GoodIn wsX4_play (wsV RX4 74 RX9 yX9_goOrCome wsX9_goOrCome) := goodIn_app (goodIn_of _ (by decide +kernel)) ggX4_play_X9_goOrCome
set_option maxRecDepth 20000 in
theorem ggX4_play_X9_passOn : GoodIn wsX4_play wsX9_passOn := goodIn_r _ [56, 9, 24, 25, 26, 7, 27, 10, 85, 86, 87, 88, 89] (by decide +kernel) (by decide +kernel)
set_option maxRecDepth 20000 in
theorem gX4_play_X9_passOn : GoodIn wsX4_play (wsV RX4 77 RX9 yX9_passOn wsX9_passOn) := goodIn_app (goodIn_of _ (by decide +kernel)) ggX4_play_X9_passOn
set_option maxRecDepth 20000 in
theorem ggX4_play_X9_drawBy : GoodIn wsX4_play wsX9_drawBy := goodIn_r _ [61, 22, 9, 62, 63, 43, 64, 65, 48, 15, 16, 17, 45, 46, 47, 66, 67, 68, 69, 53, 54, 55, 7, 56, 24, 25, 26, 27, 10, 85, 86, 87, 88, 89] (by decide +kernel) (by decide +kernel)
set_option maxRecDepth 20000 in
theorem gX4_play_X9_drawBy : GoodIn wsX4_play (wsV RX4 80 RX9 yX9_drawBy wsX9_drawBy) := goodIn_app (goodIn_of _ (by decide +kernel)) ggX4_play_X9_drawBy
set_option maxRecDepth 20000 in
theorem ggX4_play_X4_noteThrow : GoodIn wsX4_play wsX4_noteThrow := goodIn_r _ [74, 75, 76, 1, 3, 77, 78, 19, 20, 7, 21, 22, 23, 79, 80, 81, 82, 83, 84, 85, 86, 87, 88, 89] (by decide +kernel) (by decide +kernel)
set_option maxRecDepth 20000 in
theorem gX4_play_X4_noteThrow : GoodIn wsX4_play (wsV RX4 83 RX4 yX4_noteThrow wsX4_noteThrow) := goodIn_app (goodIn_of _ (by decide +kernel)) ggX4_play_X4_noteThrow
theorem dX4_play_0 : decode cX4_play 0 = .ok (.aload_n 0, 1) := by decide +kernel
theorem dX4_play_1 : decode cX4_play 1 = .ok (.aload_n 0, 1) := by decide +kernel
theorem dX4_play_2 : decode cX4_play 2 = .ok (.getfield 12, 3) := by decide +kernel
theorem dX4_play_5 : decode cX4_play 5 = .ok (.iload_n 1, 1) := by decide +kernel
theorem dX4_play_6 : decode cX4_play 6 = .ok (.iload_n 2, 1) := by decide +kernel
theorem dX4_play_7 : decode cX4_play 7 = .ok (.invokevirtual 67, 3) := by decide +kernel
theorem dX4_play_10 : decode cX4_play 10 = .ok (.putfield 32, 3) := by decide +kernel
theorem dX4_play_13 : decode cX4_play 13 = .ok (.aload_n 0, 1) := by decide +kernel
theorem dX4_play_14 : decode cX4_play 14 = .ok (.getfield 32, 3) := by decide +kernel
theorem dX4_play_17 : decode cX4_play 17 = .ok (.ifCond .eq 4, 3) := by decide +kernel
theorem dX4_play_20 : decode cX4_play 20 = .ok (.return_, 1) := by decide +kernel
theorem dX4_play_21 : decode cX4_play 21 = .ok (.iload_n 1, 1) := by decide +kernel
theorem dX4_play_22 : decode cX4_play 22 = .ok (.bipush 33, 2) := by decide +kernel
theorem dX4_play_24 : decode cX4_play 24 = .ok (.if_icmp .ne 14, 3) := by decide +kernel
theorem dX4_play_27 : decode cX4_play 27 = .ok (.aload_n 0, 1) := by decide +kernel
theorem dX4_play_28 : decode cX4_play 28 = .ok (.getfield 12, 3) := by decide +kernel
theorem dX4_play_31 : decode cX4_play 31 = .ok (.iload_n 2, 1) := by decide +kernel
theorem dX4_play_32 : decode cX4_play 32 = .ok (.invokevirtual 70, 3) := by decide +kernel
theorem dX4_play_35 : decode cX4_play 35 = .ok (.goto 53, 3) := by decide +kernel
theorem dX4_play_38 : decode cX4_play 38 = .ok (.iload_n 1, 1) := by decide +kernel
theorem dX4_play_39 : decode cX4_play 39 = .ok (.bipush 35, 2) := by decide +kernel
theorem dX4_play_41 : decode cX4_play 41 = .ok (.if_icmp .ne 14, 3) := by decide +kernel
theorem dX4_play_44 : decode cX4_play 44 = .ok (.aload_n 0, 1) := by decide +kernel
theorem dX4_play_45 : decode cX4_play 45 = .ok (.getfield 12, 3) := by decide +kernel
theorem dX4_play_48 : decode cX4_play 48 = .ok (.iload_n 2, 1) := by decide +kernel
theorem dX4_play_49 : decode cX4_play 49 = .ok (.invokevirtual 74, 3) := by decide +kernel
theorem dX4_play_52 : decode cX4_play 52 = .ok (.goto 36, 3) := by decide +kernel
theorem dX4_play_55 : decode cX4_play 55 = .ok (.iload_n 1, 1) := by decide +kernel
theorem dX4_play_56 : decode cX4_play 56 = .ok (.bipush 46, 2) := by decide +kernel
theorem dX4_play_58 : decode cX4_play 58 = .ok (.if_icmp .ne 13, 3) := by decide +kernel
theorem dX4_play_61 : decode cX4_play 61 = .ok (.aload_n 0, 1) := by decide +kernel
theorem dX4_play_62 : decode cX4_play 62 = .ok (.getfield 12, 3) := by decide +kernel
theorem dX4_play_65 : decode cX4_play 65 = .ok (.invokevirtual 77, 3) := by decide +kernel
theorem dX4_play_68 : decode cX4_play 68 = .ok (.goto 20, 3) := by decide +kernel
theorem dX4_play_71 : decode cX4_play 71 = .ok (.aload_n 0, 1) := by decide +kernel
theorem dX4_play_72 : decode cX4_play 72 = .ok (.aload_n 0, 1) := by decide +kernel
theorem dX4_play_73 : decode cX4_play 73 = .ok (.getfield 12, 3) := by decide +kernel
theorem dX4_play_76 : decode cX4_play 76 = .ok (.iload_n 1, 1) := by decide +kernel
theorem dX4_play_77 : decode cX4_play 77 = .ok (.bipush 49, 2) := by decide +kernel
theorem dX4_play_79 : decode cX4_play 79 = .ok (.isub, 1) := by decide +kernel
theorem dX4_play_80 : decode cX4_play 80 = .ok (.iconst 1, 1) := by decide +kernel
theorem dX4_play_81 : decode cX4_play 81 = .ok (.iadd, 1) := by decide +kernel
theorem dX4_play_82 : decode cX4_play 82 = .ok (.invokevirtual 80, 3) := by decide +kernel
theorem dX4_play_85 : decode cX4_play 85 = .ok (.invokevirtual 83, 3) := by decide +kernel
theorem dX4_play_88 : decode cX4_play 88 = .ok (.aload_n 0, 1) := by decide +kernel
theorem dX4_play_89 : decode cX4_play 89 = .ok (.dup, 1) := by decide +kernel
theorem dX4_play_90 : decode cX4_play 90 = .ok (.getfield 55, 3) := by decide +kernel
theorem dX4_play_93 : decode cX4_play 93 = .ok (.iconst 1, 1) := by decide +kernel
theorem dX4_play_94 : decode cX4_play 94 = .ok (.iadd, 1) := by decide +kernel
theorem dX4_play_95 : decode cX4_play 95 = .ok (.putfield 55, 3) := by decide +kernel
theorem dX4_play_98 : decode cX4_play 98 = .ok (.return_, 1) := by decide +kernel
set_option maxRecDepth 20000 in
theorem ggX4_noteThrow_X9_isWhole : GoodIn wsX4_noteThrow wsX9_isWhole := goodIn_r _ [10, 11, 12, 19, 20, 21, 22, 23] (by decide +kernel) (by decide +kernel)
set_option maxRecDepth 20000 in
theorem gX4_noteThrow_X9_isWhole : GoodIn wsX4_noteThrow (wsV RX4 90 RX9 yX9_isWhole wsX9_isWhole) := goodIn_app (goodIn_of _ (by decide +kernel)) ggX4_noteThrow_X9_isWhole
theorem dX4_noteThrow_0 : decode cX4_noteThrow 0 = .ok (.iload_n 1, 1) := by decide +kernel
theorem dX4_noteThrow_1 : decode cX4_noteThrow 1 = .ok (.ifCond .ne 16, 3) := by decide +kernel
theorem dX4_noteThrow_4 : decode cX4_noteThrow 4 = .ok (.aload_n 0, 1) := by decide +kernel
theorem dX4_noteThrow_5 : decode cX4_noteThrow 5 = .ok (.dup, 1) := by decide +kernel
theorem dX4_noteThrow_6 : decode cX4_noteThrow 6 = .ok (.getfield 58, 3) := by decide +kernel
theorem dX4_noteThrow_9 : decode cX4_noteThrow 9 = .ok (.iconst 1, 1) := by decide +kernel
theorem dX4_noteThrow_10 : decode cX4_noteThrow 10 = .ok (.iadd, 1) := by decide +kernel
theorem dX4_noteThrow_11 : decode cX4_noteThrow 11 = .ok (.putfield 58, 3) := by decide +kernel
theorem dX4_noteThrow_14 : decode cX4_noteThrow 14 = .ok (.goto 48, 3) := by decide +kernel
theorem dX4_noteThrow_17 : decode cX4_noteThrow 17 = .ok (.aload_n 0, 1) := by decide +kernel
theorem dX4_noteThrow_18 : decode cX4_noteThrow 18 = .ok (.getfield 61, 3) := by decide +kernel
theorem dX4_noteThrow_21 : decode cX4_noteThrow 21 = .ok (.bipush (-6), 2) := by decide +kernel
theorem dX4_noteThrow_23 : decode cX4_noteThrow 23 = .ok (.if_icmp .ne 39, 3) := by decide +kernel
theorem dX4_noteThrow_26 : decode cX4_noteThrow 26 = .ok (.aload_n 0, 1) := by decide +kernel
theorem dX4_noteThrow_27 : decode cX4_noteThrow 27 = .ok (.getfield 12, 3) := by decide +kernel
theorem dX4_noteThrow_30 : decode cX4_noteThrow 30 = .ok (.aload_n 0, 1) := by decide +kernel
theorem dX4_noteThrow_31 : decode cX4_noteThrow 31 = .ok (.getfield 12, 3) := by decide +kernel
theorem dX4_noteThrow_34 : decode cX4_noteThrow 34 = .ok (.getfield 87, 3) := by decide +kernel
theorem dX4_noteThrow_37 : decode cX4_noteThrow 37 = .ok (.invokevirtual 90, 3) := by decide +kernel
theorem dX4_noteThrow_40 : decode cX4_noteThrow 40 = .ok (.ifCond .eq 22, 3) := by decide +kernel
theorem dX4_noteThrow_43 : decode cX4_noteThrow 43 = .ok (.aload_n 0, 1) := by decide +kernel
theorem dX4_noteThrow_44 : decode cX4_noteThrow 44 = .ok (.aload_n 0, 1) := by decide +kernel
theorem dX4_noteThrow_45 : decode cX4_noteThrow 45 = .ok (.getfield 55, 3) := by decide +kernel
theorem dX4_noteThrow_48 : decode cX4_noteThrow 48 = .ok (.putfield 61, 3) := by decide +kernel
theorem dX4_noteThrow_51 : decode cX4_noteThrow 51 = .ok (.aload_n 0, 1) := by decide +kernel
theorem dX4_noteThrow_52 : decode cX4_noteThrow 52 = .ok (.aload_n 0, 1) := by decide +kernel
theorem dX4_noteThrow_53 : decode cX4_noteThrow 53 = .ok (.getfield 12, 3) := by decide +kernel
theorem dX4_noteThrow_56 : decode cX4_noteThrow 56 = .ok (.getfield 87, 3) := by decide +kernel
theorem dX4_noteThrow_59 : decode cX4_noteThrow 59 = .ok (.putfield 64, 3) := by decide +kernel
theorem dX4_noteThrow_62 : decode cX4_noteThrow 62 = .ok (.return_, 1) := by decide +kernel
theorem dX5_init_0 : decode cX5_init 0 = .ok (.aload_n 0, 1) := by decide +kernel
theorem dX5_init_1 : decode cX5_init 1 = .ok (.invokespecial 3, 3) := by decide +kernel
theorem dX5_init_4 : decode cX5_init 4 = .ok (.aload_n 0, 1) := by decide +kernel
theorem dX5_init_5 : decode cX5_init 5 = .ok (.bipush 60, 2) := by decide +kernel
theorem dX5_init_7 : decode cX5_init 7 = .ok (.newarray .int, 2) := by decide +kernel
theorem dX5_init_9 : decode cX5_init 9 = .ok (.putfield 11, 3) := by decide +kernel
theorem dX5_init_12 : decode cX5_init 12 = .ok (.return_, 1) := by decide +kernel
theorem dX5_add_0 : decode cX5_add 0 = .ok (.aload_n 0, 1) := by decide +kernel
theorem dX5_add_1 : decode cX5_add 1 = .ok (.getfield 15, 3) := by decide +kernel
theorem dX5_add_4 : decode cX5_add 4 = .ok (.bipush 60, 2) := by decide +kernel
theorem dX5_add_6 : decode cX5_add 6 = .ok (.if_icmp .lt 5, 3) := by decide +kernel
theorem dX5_add_9 : decode cX5_add 9 = .ok (.iconst 0, 1) := by decide +kernel
theorem dX5_add_10 : decode cX5_add 10 = .ok (.ireturn, 1) := by decide +kernel
theorem dX5_add_11 : decode cX5_add 11 = .ok (.aload_n 0, 1) := by decide +kernel
theorem dX5_add_12 : decode cX5_add 12 = .ok (.getfield 11, 3) := by decide +kernel
theorem dX5_add_15 : decode cX5_add 15 = .ok (.aload_n 0, 1) := by decide +kernel
theorem dX5_add_16 : decode cX5_add 16 = .ok (.getfield 15, 3) := by decide +kernel
theorem dX5_add_19 : decode cX5_add 19 = .ok (.iload_n 1, 1) := by decide +kernel
theorem dX5_add_20 : decode cX5_add 20 = .ok (.iastore, 1) := by decide +kernel
theorem dX5_add_21 : decode cX5_add 21 = .ok (.aload_n 0, 1) := by decide +kernel
theorem dX5_add_22 : decode cX5_add 22 = .ok (.dup, 1) := by decide +kernel
theorem dX5_add_23 : decode cX5_add 23 = .ok (.getfield 15, 3) := by decide +kernel
theorem dX5_add_26 : decode cX5_add 26 = .ok (.iconst 1, 1) := by decide +kernel
theorem dX5_add_27 : decode cX5_add 27 = .ok (.iadd, 1) := by decide +kernel
theorem dX5_add_28 : decode cX5_add 28 = .ok (.putfield 15, 3) := by decide +kernel
theorem dX5_add_31 : decode cX5_add 31 = .ok (.iconst 1, 1) := by decide +kernel
theorem dX5_add_32 : decode cX5_add 32 = .ok (.ireturn, 1) := by decide +kernel
theorem dX5_clear_0 : decode cX5_clear 0 = .ok (.aload_n 0, 1) := by decide +kernel
theorem dX5_clear_1 : decode cX5_clear 1 = .ok (.getfield 15, 3) := by decide +kernel
theorem dX5_clear_4 : decode cX5_clear 4 = .ok (.istore_n 1, 1) := by decide +kernel
theorem dX5_clear_5 : decode cX5_clear 5 = .ok (.aload_n 0, 1) := by decide +kernel
theorem dX5_clear_6 : decode cX5_clear 6 = .ok (.iconst 0, 1) := by decide +kernel
theorem dX5_clear_7 : decode cX5_clear 7 = .ok (.putfield 15, 3) := by decide +kernel
theorem dX5_clear_10 : decode cX5_clear 10 = .ok (.iload_n 1, 1) := by decide +kernel
theorem dX5_clear_11 : decode cX5_clear 11 = .ok (.ireturn, 1) := by decide +kernel
set_option maxRecDepth 20000 in
theorem ggX5_firstFault_X5_canStand : GoodIn wsX5_firstFault wsX5_canStand := goodIn_r _ [6, 7, 8, 9, 10, 11, 12, 13, 14, 15, 5, 16] (by decide +kernel) (by decide +kernel)
set_option maxRecDepth 20000 in
theorem gX5_firstFault_X5_canStand : GoodIn wsX5_firstFault (va_wsS RX5 19 yX5_canStand wsX5_canStand) := goodIn_app (goodIn_of _ (by decide +kernel)) ggX5_firstFault_X5_canStand
set_option maxRecDepth 20000 in
theorem ggX5_firstFault_X5_isLetter : GoodIn wsX5_firstFault wsX5_isLetter := goodIn_r _ [16, 11, 12, 13] (by decide +kernel) (by decide +kernel)
set_option maxRecDepth 20000 in
theorem gX5_firstFault_X5_isLetter : GoodIn wsX5_firstFault (va_wsS RX5 23 yX5_isLetter wsX5_isLetter) := goodIn_app (goodIn_of _ (by decide +kernel)) ggX5_firstFault_X5_isLetter
theorem dX5_firstFault_0 : decode cX5_firstFault 0 = .ok (.iconst 0, 1) := by decide +kernel
theorem dX5_firstFault_1 : decode cX5_firstFault 1 = .ok (.istore_n 1, 1) := by decide +kernel
theorem dX5_firstFault_2 : decode cX5_firstFault 2 = .ok (.iconst 0, 1) := by decide +kernel
theorem dX5_firstFault_3 : decode cX5_firstFault 3 = .ok (.istore_n 2, 1) := by decide +kernel
theorem dX5_firstFault_4 : decode cX5_firstFault 4 = .ok (.iload_n 2, 1) := by decide +kernel
theorem dX5_firstFault_5 : decode cX5_firstFault 5 = .ok (.aload_n 0, 1) := by decide +kernel
theorem dX5_firstFault_6 : decode cX5_firstFault 6 = .ok (.getfield 15, 3) := by decide +kernel
theorem dX5_firstFault_9 : decode cX5_firstFault 9 = .ok (.if_icmp .ge 34, 3) := by decide +kernel
theorem dX5_firstFault_12 : decode cX5_firstFault 12 = .ok (.aload_n 0, 1) := by decide +kernel
theorem dX5_firstFault_13 : decode cX5_firstFault 13 = .ok (.getfield 11, 3) := by decide +kernel
theorem dX5_firstFault_16 : decode cX5_firstFault 16 = .ok (.iload_n 2, 1) := by decide +kernel
theorem dX5_firstFault_17 : decode cX5_firstFault 17 = .ok (.iaload, 1) := by decide +kernel
theorem dX5_firstFault_18 : decode cX5_firstFault 18 = .ok (.iload_n 1, 1) := by decide +kernel
theorem dX5_firstFault_19 : decode cX5_firstFault 19 = .ok (.invokestatic 19, 3) := by decide +kernel
theorem dX5_firstFault_22 : decode cX5_firstFault 22 = .ok (.ifCond .ne 5, 3) := by decide +kernel
theorem dX5_firstFault_25 : decode cX5_firstFault 25 = .ok (.iload_n 2, 1) := by decide +kernel
theorem dX5_firstFault_26 : decode cX5_firstFault 26 = .ok (.ireturn, 1) := by decide +kernel
theorem dX5_firstFault_27 : decode cX5_firstFault 27 = .ok (.aload_n 0, 1) := by decide +kernel
theorem dX5_firstFault_28 : decode cX5_firstFault 28 = .ok (.getfield 11, 3) := by decide +kernel
theorem dX5_firstFault_31 : decode cX5_firstFault 31 = .ok (.iload_n 2, 1) := by decide +kernel
theorem dX5_firstFault_32 : decode cX5_firstFault 32 = .ok (.iaload, 1) := by decide +kernel
theorem dX5_firstFault_33 : decode cX5_firstFault 33 = .ok (.invokestatic 23, 3) := by decide +kernel
theorem dX5_firstFault_36 : decode cX5_firstFault 36 = .ok (.istore_n 1, 1) := by decide +kernel
theorem dX5_firstFault_37 : decode cX5_firstFault 37 = .ok (.iinc 2 1, 3) := by decide +kernel
theorem dX5_firstFault_40 : decode cX5_firstFault 40 = .ok (.goto (-36), 3) := by decide +kernel
theorem dX5_firstFault_43 : decode cX5_firstFault 43 = .ok (.iload_n 1, 1) := by decide +kernel
theorem dX5_firstFault_44 : decode cX5_firstFault 44 = .ok (.ifCond .eq 10, 3) := by decide +kernel
theorem dX5_firstFault_47 : decode cX5_firstFault 47 = .ok (.aload_n 0, 1) := by decide +kernel
theorem dX5_firstFault_48 : decode cX5_firstFault 48 = .ok (.getfield 15, 3) := by decide +kernel
theorem dX5_firstFault_51 : decode cX5_firstFault 51 = .ok (.goto 5, 3) := by decide +kernel
theorem dX5_firstFault_54 : decode cX5_firstFault 54 = .ok (.bipush (-6), 2) := by decide +kernel
theorem dX5_firstFault_56 : decode cX5_firstFault 56 = .ok (.ireturn, 1) := by decide +kernel
set_option maxRecDepth 20000 in
theorem ggX5_isLetter_X11_isWithin : GoodIn wsX5_isLetter wsX11_isWithin := goodIn_r _ [3] (by decide +kernel) (by decide +kernel)
set_option maxRecDepth 20000 in
theorem gX5_isLetter_X11_isWithin_n27 : GoodIn wsX5_isLetter (wsX11_isWithin) := ggX5_isLetter_X11_isWithin
theorem dX5_isLetter_0 : decode cX5_isLetter 0 = .ok (.iload_n 0, 1) := by decide +kernel
theorem dX5_isLetter_1 : decode cX5_isLetter 1 = .ok (.bipush 65, 2) := by decide +kernel
theorem dX5_isLetter_3 : decode cX5_isLetter 3 = .ok (.bipush 70, 2) := by decide +kernel
theorem dX5_isLetter_5 : decode cX5_isLetter 5 = .ok (.invokestatic 27, 3) := by decide +kernel
theorem dX5_isLetter_8 : decode cX5_isLetter 8 = .ok (.ireturn, 1) := by decide +kernel
set_option maxRecDepth 20000 in
theorem ggX5_canStand_X9_isThrow : GoodIn wsX5_canStand wsX9_isThrow := goodIn_r _ [4, 5, 6, 7] (by decide +kernel) (by decide +kernel)
set_option maxRecDepth 20000 in
theorem gX5_canStand_X9_isThrow : GoodIn wsX5_canStand (va_wsS RX5 31 yX9_isThrow wsX9_isThrow) := goodIn_app (goodIn_of _ (by decide +kernel)) ggX5_canStand_X9_isThrow
set_option maxRecDepth 20000 in
theorem ggX5_canStand_X5_isLetter : GoodIn wsX5_canStand wsX5_isLetter := goodIn_r _ [11, 5, 6, 7] (by decide +kernel) (by decide +kernel)
set_option maxRecDepth 20000 in
theorem gX5_canStand_X5_isLetter : GoodIn wsX5_canStand (va_wsS RX5 23 yX5_isLetter wsX5_isLetter) := goodIn_app (goodIn_of _ (by decide +kernel)) ggX5_canStand_X5_isLetter
theorem dX5_canStand_0 : decode cX5_canStand 0 = .ok (.iload_n 1, 1) := by decide +kernel
theorem dX5_canStand_1 : decode cX5_canStand 1 = .ok (.ifCond .eq 21, 3) := by decide +kernel
theorem dX5_canStand_4 : decode cX5_canStand 4 = .ok (.iload_n 0, 1) := by decide +kernel
theorem dX5_canStand_5 : decode cX5_canStand 5 = .ok (.bipush 33, 2) := by decide +kernel
theorem dX5_canStand_7 : decode cX5_canStand 7 = .ok (.if_icmp .eq 9, 3) := by decide +kernel
theorem dX5_canStand_10 : decode cX5_canStand 10 = .ok (.iload_n 0, 1) := by decide +kernel
theorem dX5_canStand_11 : decode cX5_canStand 11 = .ok (.bipush 35, 2) := by decide +kernel
theorem dX5_canStand_13 : decode cX5_canStand 13 = .ok (.if_icmp .ne 7, 3) := by decide +kernel
theorem dX5_canStand_16 : decode cX5_canStand 16 = .ok (.iconst 1, 1) := by decide +kernel
theorem dX5_canStand_17 : decode cX5_canStand 17 = .ok (.goto 4, 3) := by decide +kernel
theorem dX5_canStand_20 : decode cX5_canStand 20 = .ok (.iconst 0, 1) := by decide +kernel
theorem dX5_canStand_21 : decode cX5_canStand 21 = .ok (.ireturn, 1) := by decide +kernel
theorem dX5_canStand_22 : decode cX5_canStand 22 = .ok (.iload_n 0, 1) := by decide +kernel
theorem dX5_canStand_23 : decode cX5_canStand 23 = .ok (.bipush 46, 2) := by decide +kernel
theorem dX5_canStand_25 : decode cX5_canStand 25 = .ok (.if_icmp .eq 17, 3) := by decide +kernel
theorem dX5_canStand_28 : decode cX5_canStand 28 = .ok (.iload_n 0, 1) := by decide +kernel
theorem dX5_canStand_29 : decode cX5_canStand 29 = .ok (.invokestatic 31, 3) := by decide +kernel
theorem dX5_canStand_32 : decode cX5_canStand 32 = .ok (.ifCond .ne 10, 3) := by decide +kernel
theorem dX5_canStand_35 : decode cX5_canStand 35 = .ok (.iload_n 0, 1) := by decide +kernel
theorem dX5_canStand_36 : decode cX5_canStand 36 = .ok (.invokestatic 23, 3) := by decide +kernel
theorem dX5_canStand_39 : decode cX5_canStand 39 = .ok (.ifCond .eq 7, 3) := by decide +kernel
theorem dX5_canStand_42 : decode cX5_canStand 42 = .ok (.iconst 1, 1) := by decide +kernel
theorem dX5_canStand_43 : decode cX5_canStand 43 = .ok (.goto 4, 3) := by decide +kernel
theorem dX5_canStand_46 : decode cX5_canStand 46 = .ok (.iconst 0, 1) := by decide +kernel
theorem dX5_canStand_47 : decode cX5_canStand 47 = .ok (.ireturn, 1) := by decide +kernel
set_option maxRecDepth 20000 in
theorem ggX6_init_X6_listBeetles : GoodIn wsX6_init wsX6_listBeetles := goodIn_r _ [14, 5, 15, 16, 13, 17, 18, 19, 20, 21, 22, 23, 24, 25, 26, 27, 28, 29, 30, 31, 32, 33, 34, 35, 48, 49, 50, 51] (by decide +kernel) (by decide +kernel)
set_option maxRecDepth 20000 in
theorem gX6_init_X6_listBeetles : GoodIn wsX6_init (wsV RX6 25 RX6 yX6_listBeetles wsX6_listBeetles) := goodIn_app (goodIn_of _ (by decide +kernel)) ggX6_init_X6_listBeetles
set_option maxRecDepth 20000 in
theorem ggX6_init_X6_linkAndCount : GoodIn wsX6_init wsX6_linkAndCount := goodIn_r _ [39, 5, 6, 7, 40, 41, 42, 21, 43, 24, 31, 25, 26, 27, 28, 29, 30, 32, 33, 34, 35, 44, 45, 46, 13, 47, 48, 49, 50, 51] (by decide +kernel) (by decide +kernel)
set_option maxRecDepth 20000 in
theorem gX6_init_X6_linkAndCount : GoodIn wsX6_init (wsV RX6 28 RX6 yX6_linkAndCount wsX6_linkAndCount) := goodIn_app (goodIn_of _ (by decide +kernel)) ggX6_init_X6_linkAndCount
theorem dX6_init_0 : decode cX6_init 0 = .ok (.aload_n 0, 1) := by decide +kernel
theorem dX6_init_1 : decode cX6_init 1 = .ok (.invokespecial 3, 3) := by decide +kernel
theorem dX6_init_4 : decode cX6_init 4 = .ok (.aload_n 0, 1) := by decide +kernel
theorem dX6_init_5 : decode cX6_init 5 = .ok (.sipush 141, 3) := by decide +kernel
theorem dX6_init_8 : decode cX6_init 8 = .ok (.newarray .int, 2) := by decide +kernel
theorem dX6_init_10 : decode cX6_init 10 = .ok (.putfield 11, 3) := by decide +kernel
theorem dX6_init_13 : decode cX6_init 13 = .ok (.aload_n 0, 1) := by decide +kernel
theorem dX6_init_14 : decode cX6_init 14 = .ok (.sipush 846, 3) := by decide +kernel
theorem dX6_init_17 : decode cX6_init 17 = .ok (.newarray .int, 2) := by decide +kernel
theorem dX6_init_19 : decode cX6_init 19 = .ok (.putfield 15, 3) := by decide +kernel
theorem dX6_init_22 : decode cX6_init 22 = .ok (.aload_n 0, 1) := by decide +kernel
theorem dX6_init_23 : decode cX6_init 23 = .ok (.sipush 141, 3) := by decide +kernel
theorem dX6_init_26 : decode cX6_init 26 = .ok (.newarray .int, 2) := by decide +kernel
theorem dX6_init_28 : decode cX6_init 28 = .ok (.putfield 18, 3) := by decide +kernel
theorem dX6_init_31 : decode cX6_init 31 = .ok (.aload_n 0, 1) := by decide +kernel
theorem dX6_init_32 : decode cX6_init 32 = .ok (.sipush 141, 3) := by decide +kernel
theorem dX6_init_35 : decode cX6_init 35 = .ok (.newarray .long, 2) := by decide +kernel
theorem dX6_init_37 : decode cX6_init 37 = .ok (.putfield 21, 3) := by decide +kernel
theorem dX6_init_40 : decode cX6_init 40 = .ok (.aload_n 0, 1) := by decide +kernel
theorem dX6_init_41 : decode cX6_init 41 = .ok (.invokevirtual 25, 3) := by decide +kernel
theorem dX6_init_44 : decode cX6_init 44 = .ok (.sipush 140, 3) := by decide +kernel
theorem dX6_init_47 : decode cX6_init 47 = .ok (.istore_n 1, 1) := by decide +kernel
theorem dX6_init_48 : decode cX6_init 48 = .ok (.iload_n 1, 1) := by decide +kernel
theorem dX6_init_49 : decode cX6_init 49 = .ok (.ifCond .lt 14, 3) := by decide +kernel
theorem dX6_init_52 : decode cX6_init 52 = .ok (.aload_n 0, 1) := by decide +kernel
theorem dX6_init_53 : decode cX6_init 53 = .ok (.iload_n 1, 1) := by decide +kernel
theorem dX6_init_54 : decode cX6_init 54 = .ok (.invokevirtual 28, 3) := by decide +kernel
theorem dX6_init_57 : decode cX6_init 57 = .ok (.iinc 1 (-1), 3) := by decide +kernel
theorem dX6_init_60 : decode cX6_init 60 = .ok (.goto (-12), 3) := by decide +kernel
theorem dX6_init_63 : decode cX6_init 63 = .ok (.return_, 1) := by decide +kernel
theorem dX6_find_0 : decode cX6_find 0 = .ok (.iconst 0, 1) := by decide +kernel
theorem dX6_find_1 : decode cX6_find 1 = .ok (.istore_n 2, 1) := by decide +kernel
theorem dX6_find_2 : decode cX6_find 2 = .ok (.sipush 140, 3) := by decide +kernel
theorem dX6_find_5 : decode cX6_find 5 = .ok (.istore_n 3, 1) := by decide +kernel
theorem dX6_find_6 : decode cX6_find 6 = .ok (.iconst 0, 1) := by decide +kernel
theorem dX6_find_7 : decode cX6_find 7 = .ok (.istore 4, 2) := by decide +kernel
theorem dX6_find_9 : decode cX6_find 9 = .ok (.iload 4, 2) := by decide +kernel
theorem dX6_find_11 : decode cX6_find 11 = .ok (.sipush 141, 3) := by decide +kernel
theorem dX6_find_14 : decode cX6_find 14 = .ok (.if_icmp .ge 43, 3) := by decide +kernel
theorem dX6_find_17 : decode cX6_find 17 = .ok (.iload_n 2, 1) := by decide +kernel
theorem dX6_find_18 : decode cX6_find 18 = .ok (.iload_n 3, 1) := by decide +kernel
theorem dX6_find_19 : decode cX6_find 19 = .ok (.if_icmp .ge 38, 3) := by decide +kernel
theorem dX6_find_22 : decode cX6_find 22 = .ok (.iload_n 2, 1) := by decide +kernel
theorem dX6_find_23 : decode cX6_find 23 = .ok (.iload_n 3, 1) := by decide +kernel
theorem dX6_find_24 : decode cX6_find 24 = .ok (.iadd, 1) := by decide +kernel
theorem dX6_find_25 : decode cX6_find 25 = .ok (.iconst 2, 1) := by decide +kernel
theorem dX6_find_26 : decode cX6_find 26 = .ok (.idiv, 1) := by decide +kernel
theorem dX6_find_27 : decode cX6_find 27 = .ok (.istore 5, 2) := by decide +kernel
theorem dX6_find_29 : decode cX6_find 29 = .ok (.aload_n 0, 1) := by decide +kernel
theorem dX6_find_30 : decode cX6_find 30 = .ok (.getfield 11, 3) := by decide +kernel
theorem dX6_find_33 : decode cX6_find 33 = .ok (.iload 5, 2) := by decide +kernel
theorem dX6_find_35 : decode cX6_find 35 = .ok (.iaload, 1) := by decide +kernel
theorem dX6_find_36 : decode cX6_find 36 = .ok (.iload_n 1, 1) := by decide +kernel
theorem dX6_find_37 : decode cX6_find 37 = .ok (.if_icmp .ge 11, 3) := by decide +kernel
theorem dX6_find_40 : decode cX6_find 40 = .ok (.iload 5, 2) := by decide +kernel
theorem dX6_find_42 : decode cX6_find 42 = .ok (.iconst 1, 1) := by decide +kernel
theorem dX6_find_43 : decode cX6_find 43 = .ok (.iadd, 1) := by decide +kernel
theorem dX6_find_44 : decode cX6_find 44 = .ok (.istore_n 2, 1) := by decide +kernel
theorem dX6_find_45 : decode cX6_find 45 = .ok (.goto 6, 3) := by decide +kernel
theorem dX6_find_48 : decode cX6_find 48 = .ok (.iload 5, 2) := by decide +kernel
theorem dX6_find_50 : decode cX6_find 50 = .ok (.istore_n 3, 1) := by decide +kernel
theorem dX6_find_51 : decode cX6_find 51 = .ok (.iinc 4 1, 3) := by decide +kernel
theorem dX6_find_54 : decode cX6_find 54 = .ok (.goto (-45), 3) := by decide +kernel
theorem dX6_find_57 : decode cX6_find 57 = .ok (.aload_n 0, 1) := by decide +kernel
theorem dX6_find_58 : decode cX6_find 58 = .ok (.getfield 11, 3) := by decide +kernel
theorem dX6_find_61 : decode cX6_find 61 = .ok (.iload_n 2, 1) := by decide +kernel
theorem dX6_find_62 : decode cX6_find 62 = .ok (.iaload, 1) := by decide +kernel
theorem dX6_find_63 : decode cX6_find 63 = .ok (.iload_n 1, 1) := by decide +kernel
theorem dX6_find_64 : decode cX6_find 64 = .ok (.if_icmp .ne 7, 3) := by decide +kernel
theorem dX6_find_67 : decode cX6_find 67 = .ok (.iload_n 2, 1) := by decide +kernel
theorem dX6_find_68 : decode cX6_find 68 = .ok (.goto 5, 3) := by decide +kernel
theorem dX6_find_71 : decode cX6_find 71 = .ok (.bipush (-6), 2) := by decide +kernel
theorem dX6_find_73 : decode cX6_find 73 = .ok (.ireturn, 1) := by decide +kernel
set_option maxRecDepth 20000 in
theorem ggX6_leastThrow_X6_after : GoodIn wsX6_leastThrow wsX6_after := goodIn_r _ [5, 6, 7, 8, 9, 10] (by decide +kernel) (by decide +kernel)
set_option maxRecDepth 20000 in
theorem gX6_leastThrow_X6_after : GoodIn wsX6_leastThrow (wsV RX6 32 RX6 yX6_after wsX6_after) := goodIn_app (goodIn_of _ (by decide +kernel)) ggX6_leastThrow_X6_after
theorem dX6_leastThrow_0 : decode cX6_leastThrow 0 = .ok (.iconst 1, 1) := by decide +kernel
theorem dX6_leastThrow_1 : decode cX6_leastThrow 1 = .ok (.istore_n 2, 1) := by decide +kernel
theorem dX6_leastThrow_2 : decode cX6_leastThrow 2 = .ok (.iload_n 2, 1) := by decide +kernel
theorem dX6_leastThrow_3 : decode cX6_leastThrow 3 = .ok (.bipush 6, 2) := by decide +kernel
theorem dX6_leastThrow_5 : decode cX6_leastThrow 5 = .ok (.if_icmp .gt 21, 3) := by decide +kernel
theorem dX6_leastThrow_8 : decode cX6_leastThrow 8 = .ok (.aload_n 0, 1) := by decide +kernel
theorem dX6_leastThrow_9 : decode cX6_leastThrow 9 = .ok (.iload_n 1, 1) := by decide +kernel
theorem dX6_leastThrow_10 : decode cX6_leastThrow 10 = .ok (.iload_n 2, 1) := by decide +kernel
theorem dX6_leastThrow_11 : decode cX6_leastThrow 11 = .ok (.invokevirtual 32, 3) := by decide +kernel
theorem dX6_leastThrow_14 : decode cX6_leastThrow 14 = .ok (.iload_n 1, 1) := by decide +kernel
theorem dX6_leastThrow_15 : decode cX6_leastThrow 15 = .ok (.if_icmp .eq 5, 3) := by decide +kernel
theorem dX6_leastThrow_18 : decode cX6_leastThrow 18 = .ok (.iload_n 2, 1) := by decide +kernel
theorem dX6_leastThrow_19 : decode cX6_leastThrow 19 = .ok (.ireturn, 1) := by decide +kernel
theorem dX6_leastThrow_20 : decode cX6_leastThrow 20 = .ok (.iinc 2 1, 3) := by decide +kernel
theorem dX6_leastThrow_23 : decode cX6_leastThrow 23 = .ok (.goto (-21), 3) := by decide +kernel
theorem dX6_leastThrow_26 : decode cX6_leastThrow 26 = .ok (.bipush (-6), 2) := by decide +kernel
theorem dX6_leastThrow_28 : decode cX6_leastThrow 28 = .ok (.ireturn, 1) := by decide +kernel
set_option maxRecDepth 20000 in
theorem ggX6_waysToWhole_X6_spread : GoodIn wsX6_waysToWhole wsX6_spread := goodIn_r _ [6, 1, 7, 8, 9, 5, 10, 11, 12, 13, 14, 15] (by decide +kernel) (by decide +kernel)
set_option maxRecDepth 20000 in
theorem gX6_waysToWhole_X6_spread : GoodIn wsX6_waysToWhole (wsV RX6 36 RX6 yX6_spread wsX6_spread) := goodIn_app (goodIn_of _ (by decide +kernel)) ggX6_waysToWhole_X6_spread
theorem dX6_waysToWhole_0 : decode cX6_waysToWhole 0 = .ok (.iconst 0, 1) := by decide +kernel
theorem dX6_waysToWhole_1 : decode cX6_waysToWhole 1 = .ok (.istore_n 3, 1) := by decide +kernel
theorem dX6_waysToWhole_2 : decode cX6_waysToWhole 2 = .ok (.iload_n 3, 1) := by decide +kernel
theorem dX6_waysToWhole_3 : decode cX6_waysToWhole 3 = .ok (.sipush 141, 3) := by decide +kernel
theorem dX6_waysToWhole_6 : decode cX6_waysToWhole 6 = .ok (.if_icmp .ge 25, 3) := by decide +kernel
theorem dX6_waysToWhole_9 : decode cX6_waysToWhole 9 = .ok (.aload_n 0, 1) := by decide +kernel
theorem dX6_waysToWhole_10 : decode cX6_waysToWhole 10 = .ok (.getfield 21, 3) := by decide +kernel
theorem dX6_waysToWhole_13 : decode cX6_waysToWhole 13 = .ok (.iload_n 3, 1) := by decide +kernel
theorem dX6_waysToWhole_14 : decode cX6_waysToWhole 14 = .ok (.iload_n 3, 1) := by decide +kernel
theorem dX6_waysToWhole_15 : decode cX6_waysToWhole 15 = .ok (.iload_n 1, 1) := by decide +kernel
theorem dX6_waysToWhole_16 : decode cX6_waysToWhole 16 = .ok (.if_icmp .ne 7, 3) := by decide +kernel
theorem dX6_waysToWhole_19 : decode cX6_waysToWhole 19 = .ok (.lconst 1, 1) := by decide +kernel
theorem dX6_waysToWhole_20 : decode cX6_waysToWhole 20 = .ok (.goto 4, 3) := by decide +kernel
theorem dX6_waysToWhole_23 : decode cX6_waysToWhole 23 = .ok (.lconst 0, 1) := by decide +kernel
theorem dX6_waysToWhole_24 : decode cX6_waysToWhole 24 = .ok (.lastore, 1) := by decide +kernel
theorem dX6_waysToWhole_25 : decode cX6_waysToWhole 25 = .ok (.iinc 3 1, 3) := by decide +kernel
theorem dX6_waysToWhole_28 : decode cX6_waysToWhole 28 = .ok (.goto (-26), 3) := by decide +kernel
theorem dX6_waysToWhole_31 : decode cX6_waysToWhole 31 = .ok (.iconst 0, 1) := by decide +kernel
theorem dX6_waysToWhole_32 : decode cX6_waysToWhole 32 = .ok (.istore_n 3, 1) := by decide +kernel
theorem dX6_waysToWhole_33 : decode cX6_waysToWhole 33 = .ok (.iload_n 3, 1) := by decide +kernel
theorem dX6_waysToWhole_34 : decode cX6_waysToWhole 34 = .ok (.iload_n 2, 1) := by decide +kernel
theorem dX6_waysToWhole_35 : decode cX6_waysToWhole 35 = .ok (.if_icmp .ge 32, 3) := by decide +kernel
theorem dX6_waysToWhole_38 : decode cX6_waysToWhole 38 = .ok (.sipush 140, 3) := by decide +kernel
theorem dX6_waysToWhole_41 : decode cX6_waysToWhole 41 = .ok (.istore 4, 2) := by decide +kernel
theorem dX6_waysToWhole_43 : decode cX6_waysToWhole 43 = .ok (.iload 4, 2) := by decide +kernel
theorem dX6_waysToWhole_45 : decode cX6_waysToWhole 45 = .ok (.iload_n 1, 1) := by decide +kernel
theorem dX6_waysToWhole_46 : decode cX6_waysToWhole 46 = .ok (.if_icmp .lt 15, 3) := by decide +kernel
theorem dX6_waysToWhole_49 : decode cX6_waysToWhole 49 = .ok (.aload_n 0, 1) := by decide +kernel
theorem dX6_waysToWhole_50 : decode cX6_waysToWhole 50 = .ok (.iload 4, 2) := by decide +kernel
theorem dX6_waysToWhole_52 : decode cX6_waysToWhole 52 = .ok (.invokevirtual 36, 3) := by decide +kernel
theorem dX6_waysToWhole_55 : decode cX6_waysToWhole 55 = .ok (.iinc 4 (-1), 3) := by decide +kernel
theorem dX6_waysToWhole_58 : decode cX6_waysToWhole 58 = .ok (.goto (-15), 3) := by decide +kernel
theorem dX6_waysToWhole_61 : decode cX6_waysToWhole 61 = .ok (.iinc 3 1, 3) := by decide +kernel
theorem dX6_waysToWhole_64 : decode cX6_waysToWhole 64 = .ok (.goto (-31), 3) := by decide +kernel
theorem dX6_waysToWhole_67 : decode cX6_waysToWhole 67 = .ok (.aload_n 0, 1) := by decide +kernel
theorem dX6_waysToWhole_68 : decode cX6_waysToWhole 68 = .ok (.getfield 21, 3) := by decide +kernel
theorem dX6_waysToWhole_71 : decode cX6_waysToWhole 71 = .ok (.sipush 140, 3) := by decide +kernel
theorem dX6_waysToWhole_74 : decode cX6_waysToWhole 74 = .ok (.laload, 1) := by decide +kernel
theorem dX6_waysToWhole_75 : decode cX6_waysToWhole 75 = .ok (.lreturn, 1) := by decide +kernel
set_option maxRecDepth 20000 in
theorem ggX6_spread_X6_after : GoodIn wsX6_spread wsX6_after := goodIn_r _ [6, 7, 8, 9, 10, 11] (by decide +kernel) (by decide +kernel)
set_option maxRecDepth 20000 in
theorem gX6_spread_X6_after : GoodIn wsX6_spread (wsV RX6 32 RX6 yX6_after wsX6_after) := goodIn_app (goodIn_of _ (by decide +kernel)) ggX6_spread_X6_after
theorem dX6_spread_0 : decode cX6_spread 0 = .ok (.aload_n 0, 1) := by decide +kernel
theorem dX6_spread_1 : decode cX6_spread 1 = .ok (.getfield 21, 3) := by decide +kernel
theorem dX6_spread_4 : decode cX6_spread 4 = .ok (.iload_n 1, 1) := by decide +kernel
theorem dX6_spread_5 : decode cX6_spread 5 = .ok (.laload, 1) := by decide +kernel
theorem dX6_spread_6 : decode cX6_spread 6 = .ok (.lstore_n 2, 1) := by decide +kernel
theorem dX6_spread_7 : decode cX6_spread 7 = .ok (.lload_n 2, 1) := by decide +kernel
theorem dX6_spread_8 : decode cX6_spread 8 = .ok (.lconst 0, 1) := by decide +kernel
theorem dX6_spread_9 : decode cX6_spread 9 = .ok (.lcmp, 1) := by decide +kernel
theorem dX6_spread_10 : decode cX6_spread 10 = .ok (.ifCond .ne 4, 3) := by decide +kernel
theorem dX6_spread_13 : decode cX6_spread 13 = .ok (.return_, 1) := by decide +kernel
theorem dX6_spread_14 : decode cX6_spread 14 = .ok (.aload_n 0, 1) := by decide +kernel
theorem dX6_spread_15 : decode cX6_spread 15 = .ok (.getfield 21, 3) := by decide +kernel
theorem dX6_spread_18 : decode cX6_spread 18 = .ok (.iload_n 1, 1) := by decide +kernel
theorem dX6_spread_19 : decode cX6_spread 19 = .ok (.lconst 0, 1) := by decide +kernel
theorem dX6_spread_20 : decode cX6_spread 20 = .ok (.lastore, 1) := by decide +kernel
theorem dX6_spread_21 : decode cX6_spread 21 = .ok (.iconst 1, 1) := by decide +kernel
theorem dX6_spread_22 : decode cX6_spread 22 = .ok (.istore 4, 2) := by decide +kernel
theorem dX6_spread_24 : decode cX6_spread 24 = .ok (.iload 4, 2) := by decide +kernel
theorem dX6_spread_26 : decode cX6_spread 26 = .ok (.bipush 6, 2) := by decide +kernel
theorem dX6_spread_28 : decode cX6_spread 28 = .ok (.if_icmp .gt 25, 3) := by decide +kernel
theorem dX6_spread_31 : decode cX6_spread 31 = .ok (.aload_n 0, 1) := by decide +kernel
theorem dX6_spread_32 : decode cX6_spread 32 = .ok (.getfield 21, 3) := by decide +kernel
theorem dX6_spread_35 : decode cX6_spread 35 = .ok (.aload_n 0, 1) := by decide +kernel
theorem dX6_spread_36 : decode cX6_spread 36 = .ok (.iload_n 1, 1) := by decide +kernel
theorem dX6_spread_37 : decode cX6_spread 37 = .ok (.iload 4, 2) := by decide +kernel
theorem dX6_spread_39 : decode cX6_spread 39 = .ok (.invokevirtual 32, 3) := by decide +kernel
theorem dX6_spread_42 : decode cX6_spread 42 = .ok (.dup2, 1) := by decide +kernel
theorem dX6_spread_43 : decode cX6_spread 43 = .ok (.laload, 1) := by decide +kernel
theorem dX6_spread_44 : decode cX6_spread 44 = .ok (.lload_n 2, 1) := by decide +kernel
theorem dX6_spread_45 : decode cX6_spread 45 = .ok (.ladd, 1) := by decide +kernel
theorem dX6_spread_46 : decode cX6_spread 46 = .ok (.lastore, 1) := by decide +kernel
theorem dX6_spread_47 : decode cX6_spread 47 = .ok (.iinc 4 1, 3) := by decide +kernel
theorem dX6_spread_50 : decode cX6_spread 50 = .ok (.goto (-26), 3) := by decide +kernel
theorem dX6_spread_53 : decode cX6_spread 53 = .ok (.return_, 1) := by decide +kernel
theorem dX6_after_0 : decode cX6_after 0 = .ok (.aload_n 0, 1) := by decide +kernel
theorem dX6_after_1 : decode cX6_after 1 = .ok (.getfield 15, 3) := by decide +kernel
theorem dX6_after_4 : decode cX6_after 4 = .ok (.iload_n 1, 1) := by decide +kernel
theorem dX6_after_5 : decode cX6_after 5 = .ok (.bipush 6, 2) := by decide +kernel
theorem dX6_after_7 : decode cX6_after 7 = .ok (.imul, 1) := by decide +kernel
theorem dX6_after_8 : decode cX6_after 8 = .ok (.iload_n 2, 1) := by decide +kernel
theorem dX6_after_9 : decode cX6_after 9 = .ok (.iadd, 1) := by decide +kernel
theorem dX6_after_10 : decode cX6_after 10 = .ok (.iconst 1, 1) := by decide +kernel
theorem dX6_after_11 : decode cX6_after 11 = .ok (.isub, 1) := by decide +kernel
theorem dX6_after_12 : decode cX6_after 12 = .ok (.iaload, 1) := by decide +kernel
theorem dX6_after_13 : decode cX6_after 13 = .ok (.ireturn, 1) := by decide +kernel
set_option maxRecDepth 20000 in
theorem ggX6_listBeetles_X6_figuresAt : GoodIn wsX6_listBeetles wsX6_figuresAt := goodIn_r _ [5, 6] (by decide +kernel) (by decide +kernel)
set_option maxRecDepth 20000 in
theorem gX6_listBeetles_X6_figuresAt : GoodIn wsX6_listBeetles (va_wsS RX6 39 yX6_figuresAt wsX6_figuresAt) := goodIn_app (goodIn_of _ (by decide +kernel)) ggX6_listBeetles_X6_figuresAt
set_option maxRecDepth 20000 in
theorem ggX6_listBeetles_X0_canBe : GoodIn wsX6_listBeetles wsX0_canBe := goodIn_r _ [10, 11, 12, 13, 14, 15, 16, 17, 9, 18, 19, 20, 21, 22, 23] (by decide +kernel) (by decide +kernel)
set_option maxRecDepth 20000 in
theorem gX6_listBeetles_X0_canBe : GoodIn wsX6_listBeetles (va_wsS RX6 43 yX0_canBe wsX0_canBe) := goodIn_app (goodIn_of _ (by decide +kernel)) ggX6_listBeetles_X0_canBe
theorem dX6_listBeetles_0 : decode cX6_listBeetles 0 = .ok (.iconst 0, 1) := by decide +kernel
theorem dX6_listBeetles_1 : decode cX6_listBeetles 1 = .ok (.istore_n 1, 1) := by decide +kernel
theorem dX6_listBeetles_2 : decode cX6_listBeetles 2 = .ok (.iconst 0, 1) := by decide +kernel
theorem dX6_listBeetles_3 : decode cX6_listBeetles 3 = .ok (.istore_n 2, 1) := by decide +kernel
theorem dX6_listBeetles_4 : decode cX6_listBeetles 4 = .ok (.iload_n 2, 1) := by decide +kernel
theorem dX6_listBeetles_5 : decode cX6_listBeetles 5 = .ok (.sipush 504, 3) := by decide +kernel
theorem dX6_listBeetles_8 : decode cX6_listBeetles 8 = .ok (.if_icmp .ge 38, 3) := by decide +kernel
theorem dX6_listBeetles_11 : decode cX6_listBeetles 11 = .ok (.iload_n 1, 1) := by decide +kernel
theorem dX6_listBeetles_12 : decode cX6_listBeetles 12 = .ok (.sipush 141, 3) := by decide +kernel
theorem dX6_listBeetles_15 : decode cX6_listBeetles 15 = .ok (.if_icmp .ge 31, 3) := by decide +kernel
theorem dX6_listBeetles_18 : decode cX6_listBeetles 18 = .ok (.iload_n 2, 1) := by decide +kernel
theorem dX6_listBeetles_19 : decode cX6_listBeetles 19 = .ok (.invokestatic 39, 3) := by decide +kernel
theorem dX6_listBeetles_22 : decode cX6_listBeetles 22 = .ok (.istore_n 3, 1) := by decide +kernel
theorem dX6_listBeetles_23 : decode cX6_listBeetles 23 = .ok (.iload_n 3, 1) := by decide +kernel
theorem dX6_listBeetles_24 : decode cX6_listBeetles 24 = .ok (.invokestatic 43, 3) := by decide +kernel
theorem dX6_listBeetles_27 : decode cX6_listBeetles 27 = .ok (.ifCond .eq 13, 3) := by decide +kernel
theorem dX6_listBeetles_30 : decode cX6_listBeetles 30 = .ok (.aload_n 0, 1) := by decide +kernel
theorem dX6_listBeetles_31 : decode cX6_listBeetles 31 = .ok (.getfield 11, 3) := by decide +kernel
theorem dX6_listBeetles_34 : decode cX6_listBeetles 34 = .ok (.iload_n 1, 1) := by decide +kernel
theorem dX6_listBeetles_35 : decode cX6_listBeetles 35 = .ok (.iload_n 3, 1) := by decide +kernel
theorem dX6_listBeetles_36 : decode cX6_listBeetles 36 = .ok (.iastore, 1) := by decide +kernel
theorem dX6_listBeetles_37 : decode cX6_listBeetles 37 = .ok (.iinc 1 1, 3) := by decide +kernel
theorem dX6_listBeetles_40 : decode cX6_listBeetles 40 = .ok (.iinc 2 1, 3) := by decide +kernel
theorem dX6_listBeetles_43 : decode cX6_listBeetles 43 = .ok (.goto (-39), 3) := by decide +kernel
theorem dX6_listBeetles_46 : decode cX6_listBeetles 46 = .ok (.return_, 1) := by decide +kernel
theorem dX6_figuresAt_0 : decode cX6_figuresAt 0 = .ok (.iload_n 0, 1) := by decide +kernel
theorem dX6_figuresAt_1 : decode cX6_figuresAt 1 = .ok (.bipush 9, 2) := by decide +kernel
theorem dX6_figuresAt_3 : decode cX6_figuresAt 3 = .ok (.idiv, 1) := by decide +kernel
theorem dX6_figuresAt_4 : decode cX6_figuresAt 4 = .ok (.bipush 7, 2) := by decide +kernel
theorem dX6_figuresAt_6 : decode cX6_figuresAt 6 = .ok (.irem, 1) := by decide +kernel
theorem dX6_figuresAt_7 : decode cX6_figuresAt 7 = .ok (.bipush 100, 2) := by decide +kernel
theorem dX6_figuresAt_9 : decode cX6_figuresAt 9 = .ok (.imul, 1) := by decide +kernel
theorem dX6_figuresAt_10 : decode cX6_figuresAt 10 = .ok (.iload_n 0, 1) := by decide +kernel
theorem dX6_figuresAt_11 : decode cX6_figuresAt 11 = .ok (.iconst 3, 1) := by decide +kernel
theorem dX6_figuresAt_12 : decode cX6_figuresAt 12 = .ok (.idiv, 1) := by decide +kernel
theorem dX6_figuresAt_13 : decode cX6_figuresAt 13 = .ok (.iconst 3, 1) := by decide +kernel
theorem dX6_figuresAt_14 : decode cX6_figuresAt 14 = .ok (.irem, 1) := by decide +kernel
theorem dX6_figuresAt_15 : decode cX6_figuresAt 15 = .ok (.bipush 10, 2) := by decide +kernel
theorem dX6_figuresAt_17 : decode cX6_figuresAt 17 = .ok (.imul, 1) := by decide +kernel
theorem dX6_figuresAt_18 : decode cX6_figuresAt 18 = .ok (.iadd, 1) := by decide +kernel
theorem dX6_figuresAt_19 : decode cX6_figuresAt 19 = .ok (.iload_n 0, 1) := by decide +kernel
theorem dX6_figuresAt_20 : decode cX6_figuresAt 20 = .ok (.iconst 3, 1) := by decide +kernel
theorem dX6_figuresAt_21 : decode cX6_figuresAt 21 = .ok (.irem, 1) := by decide +kernel
theorem dX6_figuresAt_22 : decode cX6_figuresAt 22 = .ok (.iadd, 1) := by decide +kernel
theorem dX6_figuresAt_23 : decode cX6_figuresAt 23 = .ok (.istore_n 1, 1) := by decide +kernel
theorem dX6_figuresAt_24 : decode cX6_figuresAt 24 = .ok (.iload_n 0, 1) := by decide +kernel
theorem dX6_figuresAt_25 : decode cX6_figuresAt 25 = .ok (.sipush 252, 3) := by decide +kernel
theorem dX6_figuresAt_28 : decode cX6_figuresAt 28 = .ok (.idiv, 1) := by decide +kernel
theorem dX6_figuresAt_29 : decode cX6_figuresAt 29 = .ok (.ldc 49, 2) := by decide +kernel
theorem dX6_figuresAt_31 : decode cX6_figuresAt 31 = .ok (.imul, 1) := by decide +kernel
theorem dX6_figuresAt_32 : decode cX6_figuresAt 32 = .ok (.iload_n 0, 1) := by decide +kernel
theorem dX6_figuresAt_33 : decode cX6_figuresAt 33 = .ok (.bipush 126, 2) := by decide +kernel
theorem dX6_figuresAt_35 : decode cX6_figuresAt 35 = .ok (.idiv, 1) := by decide +kernel
theorem dX6_figuresAt_36 : decode cX6_figuresAt 36 = .ok (.iconst 2, 1) := by decide +kernel
theorem dX6_figuresAt_37 : decode cX6_figuresAt 37 = .ok (.irem, 1) := by decide +kernel
theorem dX6_figuresAt_38 : decode cX6_figuresAt 38 = .ok (.sipush 10000, 3) := by decide +kernel
theorem dX6_figuresAt_41 : decode cX6_figuresAt 41 = .ok (.imul, 1) := by decide +kernel
theorem dX6_figuresAt_42 : decode cX6_figuresAt 42 = .ok (.iadd, 1) := by decide +kernel
theorem dX6_figuresAt_43 : decode cX6_figuresAt 43 = .ok (.iload_n 0, 1) := by decide +kernel
theorem dX6_figuresAt_44 : decode cX6_figuresAt 44 = .ok (.bipush 63, 2) := by decide +kernel
theorem dX6_figuresAt_46 : decode cX6_figuresAt 46 = .ok (.idiv, 1) := by decide +kernel
theorem dX6_figuresAt_47 : decode cX6_figuresAt 47 = .ok (.iconst 2, 1) := by decide +kernel
theorem dX6_figuresAt_48 : decode cX6_figuresAt 48 = .ok (.irem, 1) := by decide +kernel
theorem dX6_figuresAt_49 : decode cX6_figuresAt 49 = .ok (.sipush 1000, 3) := by decide +kernel
theorem dX6_figuresAt_52 : decode cX6_figuresAt 52 = .ok (.imul, 1) := by decide +kernel
theorem dX6_figuresAt_53 : decode cX6_figuresAt 53 = .ok (.iadd, 1) := by decide +kernel
theorem dX6_figuresAt_54 : decode cX6_figuresAt 54 = .ok (.iload_n 1, 1) := by decide +kernel
theorem dX6_figuresAt_55 : decode cX6_figuresAt 55 = .ok (.iadd, 1) := by decide +kernel
theorem dX6_figuresAt_56 : decode cX6_figuresAt 56 = .ok (.ireturn, 1) := by decide +kernel
set_option maxRecDepth 20000 in
theorem ggX6_linkAndCount_X0_draw : GoodIn wsX6_linkAndCount wsX0_draw := goodIn_r _ [8, 9, 10, 11, 12, 13, 14, 15, 7, 16, 17, 18, 19, 20] (by decide +kernel) (by decide +kernel)
set_option maxRecDepth 20000 in
theorem gX6_linkAndCount_X0_draw : GoodIn wsX6_linkAndCount (va_wsS RX6 50 yX0_draw wsX0_draw) := goodIn_app (goodIn_of _ (by decide +kernel)) ggX6_linkAndCount_X0_draw
set_option maxRecDepth 20000 in
theorem ggX6_linkAndCount_X6_find : GoodIn wsX6_linkAndCount wsX6_find := goodIn_r _ [25, 1, 26, 27, 28, 29] (by decide +kernel) (by decide +kernel)
set_option maxRecDepth 20000 in
theorem gX6_linkAndCount_X6_find : GoodIn wsX6_linkAndCount (wsV RX6 53 RX6 yX6_find wsX6_find) := goodIn_app (goodIn_of _ (by decide +kernel)) ggX6_linkAndCount_X6_find
theorem dX6_linkAndCount_0 : decode cX6_linkAndCount 0 = .ok (.iconst 0, 1) := by decide +kernel
theorem dX6_linkAndCount_1 : decode cX6_linkAndCount 1 = .ok (.istore_n 2, 1) := by decide +kernel
theorem dX6_linkAndCount_2 : decode cX6_linkAndCount 2 = .ok (.iconst 1, 1) := by decide +kernel
theorem dX6_linkAndCount_3 : decode cX6_linkAndCount 3 = .ok (.istore_n 3, 1) := by decide +kernel
theorem dX6_linkAndCount_4 : decode cX6_linkAndCount 4 = .ok (.iload_n 3, 1) := by decide +kernel
theorem dX6_linkAndCount_5 : decode cX6_linkAndCount 5 = .ok (.bipush 6, 2) := by decide +kernel
theorem dX6_linkAndCount_7 : decode cX6_linkAndCount 7 = .ok (.if_icmp .gt 75, 3) := by decide +kernel
theorem dX6_linkAndCount_10 : decode cX6_linkAndCount 10 = .ok (.aload_n 0, 1) := by decide +kernel
theorem dX6_linkAndCount_11 : decode cX6_linkAndCount 11 = .ok (.aload_n 0, 1) := by decide +kernel
theorem dX6_linkAndCount_12 : decode cX6_linkAndCount 12 = .ok (.getfield 11, 3) := by decide +kernel
theorem dX6_linkAndCount_15 : decode cX6_linkAndCount 15 = .ok (.iload_n 1, 1) := by decide +kernel
theorem dX6_linkAndCount_16 : decode cX6_linkAndCount 16 = .ok (.iaload, 1) := by decide +kernel
theorem dX6_linkAndCount_17 : decode cX6_linkAndCount 17 = .ok (.iload_n 3, 1) := by decide +kernel
theorem dX6_linkAndCount_18 : decode cX6_linkAndCount 18 = .ok (.invokestatic 50, 3) := by decide +kernel
theorem dX6_linkAndCount_21 : decode cX6_linkAndCount 21 = .ok (.invokevirtual 53, 3) := by decide +kernel
theorem dX6_linkAndCount_24 : decode cX6_linkAndCount 24 = .ok (.istore 4, 2) := by decide +kernel
theorem dX6_linkAndCount_26 : decode cX6_linkAndCount 26 = .ok (.iload 4, 2) := by decide +kernel
theorem dX6_linkAndCount_28 : decode cX6_linkAndCount 28 = .ok (.bipush (-6), 2) := by decide +kernel
theorem dX6_linkAndCount_30 : decode cX6_linkAndCount 30 = .ok (.if_icmp .ne 7, 3) := by decide +kernel
theorem dX6_linkAndCount_33 : decode cX6_linkAndCount 33 = .ok (.iload_n 1, 1) := by decide +kernel
theorem dX6_linkAndCount_34 : decode cX6_linkAndCount 34 = .ok (.goto 5, 3) := by decide +kernel
theorem dX6_linkAndCount_37 : decode cX6_linkAndCount 37 = .ok (.iload 4, 2) := by decide +kernel
theorem dX6_linkAndCount_39 : decode cX6_linkAndCount 39 = .ok (.istore 5, 2) := by decide +kernel
theorem dX6_linkAndCount_41 : decode cX6_linkAndCount 41 = .ok (.aload_n 0, 1) := by decide +kernel
theorem dX6_linkAndCount_42 : decode cX6_linkAndCount 42 = .ok (.getfield 15, 3) := by decide +kernel
theorem dX6_linkAndCount_45 : decode cX6_linkAndCount 45 = .ok (.iload_n 1, 1) := by decide +kernel
theorem dX6_linkAndCount_46 : decode cX6_linkAndCount 46 = .ok (.bipush 6, 2) := by decide +kernel
theorem dX6_linkAndCount_48 : decode cX6_linkAndCount 48 = .ok (.imul, 1) := by decide +kernel
theorem dX6_linkAndCount_49 : decode cX6_linkAndCount 49 = .ok (.iload_n 3, 1) := by decide +kernel
theorem dX6_linkAndCount_50 : decode cX6_linkAndCount 50 = .ok (.iadd, 1) := by decide +kernel
theorem dX6_linkAndCount_51 : decode cX6_linkAndCount 51 = .ok (.iconst 1, 1) := by decide +kernel
theorem dX6_linkAndCount_52 : decode cX6_linkAndCount 52 = .ok (.isub, 1) := by decide +kernel
theorem dX6_linkAndCount_53 : decode cX6_linkAndCount 53 = .ok (.iload 5, 2) := by decide +kernel
theorem dX6_linkAndCount_55 : decode cX6_linkAndCount 55 = .ok (.iastore, 1) := by decide +kernel
theorem dX6_linkAndCount_56 : decode cX6_linkAndCount 56 = .ok (.iload_n 2, 1) := by decide +kernel
theorem dX6_linkAndCount_57 : decode cX6_linkAndCount 57 = .ok (.iload 5, 2) := by decide +kernel
theorem dX6_linkAndCount_59 : decode cX6_linkAndCount 59 = .ok (.iload_n 1, 1) := by decide +kernel
theorem dX6_linkAndCount_60 : decode cX6_linkAndCount 60 = .ok (.if_icmp .ne 7, 3) := by decide +kernel
theorem dX6_linkAndCount_63 : decode cX6_linkAndCount 63 = .ok (.iconst 0, 1) := by decide +kernel
theorem dX6_linkAndCount_64 : decode cX6_linkAndCount 64 = .ok (.goto 10, 3) := by decide +kernel
theorem dX6_linkAndCount_67 : decode cX6_linkAndCount 67 = .ok (.aload_n 0, 1) := by decide +kernel
theorem dX6_linkAndCount_68 : decode cX6_linkAndCount 68 = .ok (.getfield 18, 3) := by decide +kernel
theorem dX6_linkAndCount_71 : decode cX6_linkAndCount 71 = .ok (.iload 5, 2) := by decide +kernel
theorem dX6_linkAndCount_73 : decode cX6_linkAndCount 73 = .ok (.iaload, 1) := by decide +kernel
theorem dX6_linkAndCount_74 : decode cX6_linkAndCount 74 = .ok (.iadd, 1) := by decide +kernel
theorem dX6_linkAndCount_75 : decode cX6_linkAndCount 75 = .ok (.istore_n 2, 1) := by decide +kernel
theorem dX6_linkAndCount_76 : decode cX6_linkAndCount 76 = .ok (.iinc 3 1, 3) := by decide +kernel
theorem dX6_linkAndCount_79 : decode cX6_linkAndCount 79 = .ok (.goto (-75), 3) := by decide +kernel
theorem dX6_linkAndCount_82 : decode cX6_linkAndCount 82 = .ok (.aload_n 0, 1) := by decide +kernel
theorem dX6_linkAndCount_83 : decode cX6_linkAndCount 83 = .ok (.getfield 18, 3) := by decide +kernel
theorem dX6_linkAndCount_86 : decode cX6_linkAndCount 86 = .ok (.iload_n 1, 1) := by decide +kernel
theorem dX6_linkAndCount_87 : decode cX6_linkAndCount 87 = .ok (.aload_n 0, 1) := by decide +kernel
theorem dX6_linkAndCount_88 : decode cX6_linkAndCount 88 = .ok (.getfield 11, 3) := by decide +kernel
theorem dX6_linkAndCount_91 : decode cX6_linkAndCount 91 = .ok (.iload_n 1, 1) := by decide +kernel
theorem dX6_linkAndCount_92 : decode cX6_linkAndCount 92 = .ok (.iaload, 1) := by decide +kernel
theorem dX6_linkAndCount_93 : decode cX6_linkAndCount 93 = .ok (.ldc 56, 2) := by decide +kernel
theorem dX6_linkAndCount_95 : decode cX6_linkAndCount 95 = .ok (.if_icmp .ne 7, 3) := by decide +kernel
theorem dX6_linkAndCount_98 : decode cX6_linkAndCount 98 = .ok (.iconst 1, 1) := by decide +kernel
theorem dX6_linkAndCount_99 : decode cX6_linkAndCount 99 = .ok (.goto 4, 3) := by decide +kernel
theorem dX6_linkAndCount_102 : decode cX6_linkAndCount 102 = .ok (.iload_n 2, 1) := by decide +kernel
theorem dX6_linkAndCount_103 : decode cX6_linkAndCount 103 = .ok (.iastore, 1) := by decide +kernel
theorem dX6_linkAndCount_104 : decode cX6_linkAndCount 104 = .ok (.return_, 1) := by decide +kernel
theorem dX7_init_0 : decode cX7_init 0 = .ok (.aload_n 0, 1) := by decide +kernel
theorem dX7_init_1 : decode cX7_init 1 = .ok (.invokespecial 1, 3) := by decide +kernel
theorem dX7_init_4 : decode cX7_init 4 = .ok (.aload_n 0, 1) := by decide +kernel
theorem dX7_init_5 : decode cX7_init 5 = .ok (.bipush 8, 2) := by decide +kernel
theorem dX7_init_7 : decode cX7_init 7 = .ok (.newarray .int, 2) := by decide +kernel
theorem dX7_init_9 : decode cX7_init 9 = .ok (.putfield 9, 3) := by decide +kernel
theorem dX7_init_12 : decode cX7_init 12 = .ok (.aload_n 0, 1) := by decide +kernel
theorem dX7_init_13 : decode cX7_init 13 = .ok (.bipush 8, 2) := by decide +kernel
theorem dX7_init_15 : decode cX7_init 15 = .ok (.newarray .int, 2) := by decide +kernel
theorem dX7_init_17 : decode cX7_init 17 = .ok (.putfield 13, 3) := by decide +kernel
theorem dX7_init_20 : decode cX7_init 20 = .ok (.return_, 1) := by decide +kernel
theorem dX7_copyFrom_0 : decode cX7_copyFrom 0 = .ok (.iconst 0, 1) := by decide +kernel
theorem dX7_copyFrom_1 : decode cX7_copyFrom 1 = .ok (.istore_n 2, 1) := by decide +kernel
theorem dX7_copyFrom_2 : decode cX7_copyFrom 2 = .ok (.iload_n 2, 1) := by decide +kernel
theorem dX7_copyFrom_3 : decode cX7_copyFrom 3 = .ok (.bipush 8, 2) := by decide +kernel
theorem dX7_copyFrom_5 : decode cX7_copyFrom 5 = .ok (.if_icmp .ge 33, 3) := by decide +kernel
theorem dX7_copyFrom_8 : decode cX7_copyFrom 8 = .ok (.aload_n 0, 1) := by decide +kernel
theorem dX7_copyFrom_9 : decode cX7_copyFrom 9 = .ok (.getfield 9, 3) := by decide +kernel
theorem dX7_copyFrom_12 : decode cX7_copyFrom 12 = .ok (.iload_n 2, 1) := by decide +kernel
theorem dX7_copyFrom_13 : decode cX7_copyFrom 13 = .ok (.aload_n 1, 1) := by decide +kernel
theorem dX7_copyFrom_14 : decode cX7_copyFrom 14 = .ok (.getfield 9, 3) := by decide +kernel
theorem dX7_copyFrom_17 : decode cX7_copyFrom 17 = .ok (.iload_n 2, 1) := by decide +kernel
theorem dX7_copyFrom_18 : decode cX7_copyFrom 18 = .ok (.iaload, 1) := by decide +kernel
theorem dX7_copyFrom_19 : decode cX7_copyFrom 19 = .ok (.iastore, 1) := by decide +kernel
theorem dX7_copyFrom_20 : decode cX7_copyFrom 20 = .ok (.aload_n 0, 1) := by decide +kernel
theorem dX7_copyFrom_21 : decode cX7_copyFrom 21 = .ok (.getfield 13, 3) := by decide +kernel
theorem dX7_copyFrom_24 : decode cX7_copyFrom 24 = .ok (.iload_n 2, 1) := by decide +kernel
theorem dX7_copyFrom_25 : decode cX7_copyFrom 25 = .ok (.aload_n 1, 1) := by decide +kernel
theorem dX7_copyFrom_26 : decode cX7_copyFrom 26 = .ok (.getfield 13, 3) := by decide +kernel
theorem dX7_copyFrom_29 : decode cX7_copyFrom 29 = .ok (.iload_n 2, 1) := by decide +kernel
theorem dX7_copyFrom_30 : decode cX7_copyFrom 30 = .ok (.iaload, 1) := by decide +kernel
theorem dX7_copyFrom_31 : decode cX7_copyFrom 31 = .ok (.iastore, 1) := by decide +kernel
theorem dX7_copyFrom_32 : decode cX7_copyFrom 32 = .ok (.iinc 2 1, 3) := by decide +kernel
theorem dX7_copyFrom_35 : decode cX7_copyFrom 35 = .ok (.goto (-33), 3) := by decide +kernel
theorem dX7_copyFrom_38 : decode cX7_copyFrom 38 = .ok (.aload_n 0, 1) := by decide +kernel
theorem dX7_copyFrom_39 : decode cX7_copyFrom 39 = .ok (.aload_n 1, 1) := by decide +kernel
theorem dX7_copyFrom_40 : decode cX7_copyFrom 40 = .ok (.getfield 16, 3) := by decide +kernel
theorem dX7_copyFrom_43 : decode cX7_copyFrom 43 = .ok (.putfield 16, 3) := by decide +kernel
theorem dX7_copyFrom_46 : decode cX7_copyFrom 46 = .ok (.return_, 1) := by decide +kernel
theorem dX7_add_0 : decode cX7_add 0 = .ok (.aload_n 0, 1) := by decide +kernel
theorem dX7_add_1 : decode cX7_add 1 = .ok (.getfield 16, 3) := by decide +kernel
theorem dX7_add_4 : decode cX7_add 4 = .ok (.bipush 8, 2) := by decide +kernel
theorem dX7_add_6 : decode cX7_add 6 = .ok (.if_icmp .lt 5, 3) := by decide +kernel
theorem dX7_add_9 : decode cX7_add 9 = .ok (.iconst 0, 1) := by decide +kernel
theorem dX7_add_10 : decode cX7_add 10 = .ok (.ireturn, 1) := by decide +kernel
theorem dX7_add_11 : decode cX7_add 11 = .ok (.aload_n 0, 1) := by decide +kernel
theorem dX7_add_12 : decode cX7_add 12 = .ok (.getfield 9, 3) := by decide +kernel
theorem dX7_add_15 : decode cX7_add 15 = .ok (.aload_n 0, 1) := by decide +kernel
theorem dX7_add_16 : decode cX7_add 16 = .ok (.getfield 16, 3) := by decide +kernel
theorem dX7_add_19 : decode cX7_add 19 = .ok (.iload_n 1, 1) := by decide +kernel
theorem dX7_add_20 : decode cX7_add 20 = .ok (.iastore, 1) := by decide +kernel
theorem dX7_add_21 : decode cX7_add 21 = .ok (.aload_n 0, 1) := by decide +kernel
theorem dX7_add_22 : decode cX7_add 22 = .ok (.getfield 13, 3) := by decide +kernel
theorem dX7_add_25 : decode cX7_add 25 = .ok (.aload_n 0, 1) := by decide +kernel
theorem dX7_add_26 : decode cX7_add 26 = .ok (.getfield 16, 3) := by decide +kernel
theorem dX7_add_29 : decode cX7_add 29 = .ok (.iload_n 2, 1) := by decide +kernel
theorem dX7_add_30 : decode cX7_add 30 = .ok (.iastore, 1) := by decide +kernel
theorem dX7_add_31 : decode cX7_add 31 = .ok (.aload_n 0, 1) := by decide +kernel
theorem dX7_add_32 : decode cX7_add 32 = .ok (.dup, 1) := by decide +kernel
theorem dX7_add_33 : decode cX7_add 33 = .ok (.getfield 16, 3) := by decide +kernel
theorem dX7_add_36 : decode cX7_add 36 = .ok (.iconst 1, 1) := by decide +kernel
theorem dX7_add_37 : decode cX7_add 37 = .ok (.iadd, 1) := by decide +kernel
theorem dX7_add_38 : decode cX7_add 38 = .ok (.putfield 16, 3) := by decide +kernel
theorem dX7_add_41 : decode cX7_add 41 = .ok (.iconst 1, 1) := by decide +kernel
theorem dX7_add_42 : decode cX7_add 42 = .ok (.ireturn, 1) := by decide +kernel
theorem dX7_clear_0 : decode cX7_clear 0 = .ok (.aload_n 0, 1) := by decide +kernel
theorem dX7_clear_1 : decode cX7_clear 1 = .ok (.getfield 16, 3) := by decide +kernel
theorem dX7_clear_4 : decode cX7_clear 4 = .ok (.istore_n 1, 1) := by decide +kernel
theorem dX7_clear_5 : decode cX7_clear 5 = .ok (.aload_n 0, 1) := by decide +kernel
theorem dX7_clear_6 : decode cX7_clear 6 = .ok (.iconst 0, 1) := by decide +kernel
theorem dX7_clear_7 : decode cX7_clear 7 = .ok (.putfield 16, 3) := by decide +kernel
theorem dX7_clear_10 : decode cX7_clear 10 = .ok (.iload_n 1, 1) := by decide +kernel
theorem dX7_clear_11 : decode cX7_clear 11 = .ok (.ireturn, 1) := by decide +kernel
set_option maxRecDepth 20000 in
theorem ggX7_fit_X1_topAfter : GoodIn wsX7_fit wsX1_topAfter := goodIn_r _ [7, 8, 9, 6, 10, 11, 12, 13, 14, 15, 16, 17] (by decide +kernel) (by decide +kernel)
set_option maxRecDepth 20000 in
theorem gX7_fit_X1_topAfter : GoodIn wsX7_fit (va_wsS RX7 20 yX1_topAfter wsX1_topAfter) := goodIn_app (goodIn_of _ (by decide +kernel)) ggX7_fit_X1_topAfter
theorem dX7_fit_0 : decode cX7_fit 0 = .ok (.iconst 0, 1) := by decide +kernel
theorem dX7_fit_1 : decode cX7_fit 1 = .ok (.istore_n 2, 1) := by decide +kernel
theorem dX7_fit_2 : decode cX7_fit 2 = .ok (.iload_n 2, 1) := by decide +kernel
theorem dX7_fit_3 : decode cX7_fit 3 = .ok (.aload_n 0, 1) := by decide +kernel
theorem dX7_fit_4 : decode cX7_fit 4 = .ok (.getfield 16, 3) := by decide +kernel
theorem dX7_fit_7 : decode cX7_fit 7 = .ok (.if_icmp .ge 30, 3) := by decide +kernel
theorem dX7_fit_10 : decode cX7_fit 10 = .ok (.iload_n 1, 1) := by decide +kernel
theorem dX7_fit_11 : decode cX7_fit 11 = .ok (.aload_n 0, 1) := by decide +kernel
theorem dX7_fit_12 : decode cX7_fit 12 = .ok (.getfield 9, 3) := by decide +kernel
theorem dX7_fit_15 : decode cX7_fit 15 = .ok (.iload_n 2, 1) := by decide +kernel
theorem dX7_fit_16 : decode cX7_fit 16 = .ok (.iaload, 1) := by decide +kernel
theorem dX7_fit_17 : decode cX7_fit 17 = .ok (.invokestatic 20, 3) := by decide +kernel
theorem dX7_fit_20 : decode cX7_fit 20 = .ok (.aload_n 0, 1) := by decide +kernel
theorem dX7_fit_21 : decode cX7_fit 21 = .ok (.getfield 13, 3) := by decide +kernel
theorem dX7_fit_24 : decode cX7_fit 24 = .ok (.iload_n 2, 1) := by decide +kernel
theorem dX7_fit_25 : decode cX7_fit 25 = .ok (.iaload, 1) := by decide +kernel
theorem dX7_fit_26 : decode cX7_fit 26 = .ok (.if_icmp .eq 5, 3) := by decide +kernel
theorem dX7_fit_29 : decode cX7_fit 29 = .ok (.iconst 0, 1) := by decide +kernel
theorem dX7_fit_30 : decode cX7_fit 30 = .ok (.ireturn, 1) := by decide +kernel
theorem dX7_fit_31 : decode cX7_fit 31 = .ok (.iinc 2 1, 3) := by decide +kernel
theorem dX7_fit_34 : decode cX7_fit 34 = .ok (.goto (-32), 3) := by decide +kernel
theorem dX7_fit_37 : decode cX7_fit 37 = .ok (.iconst 1, 1) := by decide +kernel
theorem dX7_fit_38 : decode cX7_fit 38 = .ok (.ireturn, 1) := by decide +kernel
theorem dX8_init_0 : decode cX8_init 0 = .ok (.aload_n 0, 1) := by decide +kernel
theorem dX8_init_1 : decode cX8_init 1 = .ok (.invokespecial 3, 3) := by decide +kernel
theorem dX8_init_4 : decode cX8_init 4 = .ok (.aload_n 0, 1) := by decide +kernel
theorem dX8_init_5 : decode cX8_init 5 = .ok (.bipush 100, 2) := by decide +kernel
theorem dX8_init_7 : decode cX8_init 7 = .ok (.newarray .long, 2) := by decide +kernel
theorem dX8_init_9 : decode cX8_init 9 = .ok (.putfield 11, 3) := by decide +kernel
theorem dX8_init_12 : decode cX8_init 12 = .ok (.return_, 1) := by decide +kernel
set_option maxRecDepth 20000 in
theorem ggX8_ways_X8_addDie : GoodIn wsX8_ways wsX8_addDie := goodIn_r _ [6, 1, 7] (by decide +kernel) (by decide +kernel)
set_option maxRecDepth 20000 in
theorem gX8_ways_X8_addDie : GoodIn wsX8_ways (wsV RX8 15 RX8 yX8_addDie wsX8_addDie) := goodIn_app (goodIn_of _ (by decide +kernel)) ggX8_ways_X8_addDie
theorem dX8_ways_0 : decode cX8_ways 0 = .ok (.iconst 0, 1) := by decide +kernel
theorem dX8_ways_1 : decode cX8_ways 1 = .ok (.istore_n 3, 1) := by decide +kernel
theorem dX8_ways_2 : decode cX8_ways 2 = .ok (.iload_n 3, 1) := by decide +kernel
theorem dX8_ways_3 : decode cX8_ways 3 = .ok (.iload_n 2, 1) := by decide +kernel
theorem dX8_ways_4 : decode cX8_ways 4 = .ok (.if_icmp .gt 24, 3) := by decide +kernel
theorem dX8_ways_7 : decode cX8_ways 7 = .ok (.aload_n 0, 1) := by decide +kernel
theorem dX8_ways_8 : decode cX8_ways 8 = .ok (.getfield 11, 3) := by decide +kernel
theorem dX8_ways_11 : decode cX8_ways 11 = .ok (.iload_n 3, 1) := by decide +kernel
theorem dX8_ways_12 : decode cX8_ways 12 = .ok (.iload_n 3, 1) := by decide +kernel
theorem dX8_ways_13 : decode cX8_ways 13 = .ok (.ifCond .ne 7, 3) := by decide +kernel
theorem dX8_ways_16 : decode cX8_ways 16 = .ok (.lconst 1, 1) := by decide +kernel
theorem dX8_ways_17 : decode cX8_ways 17 = .ok (.goto 4, 3) := by decide +kernel
theorem dX8_ways_20 : decode cX8_ways 20 = .ok (.lconst 0, 1) := by decide +kernel
theorem dX8_ways_21 : decode cX8_ways 21 = .ok (.lastore, 1) := by decide +kernel
theorem dX8_ways_22 : decode cX8_ways 22 = .ok (.iinc 3 1, 3) := by decide +kernel
theorem dX8_ways_25 : decode cX8_ways 25 = .ok (.goto (-23), 3) := by decide +kernel
theorem dX8_ways_28 : decode cX8_ways 28 = .ok (.iconst 0, 1) := by decide +kernel
theorem dX8_ways_29 : decode cX8_ways 29 = .ok (.istore_n 3, 1) := by decide +kernel
theorem dX8_ways_30 : decode cX8_ways 30 = .ok (.iload_n 3, 1) := by decide +kernel
theorem dX8_ways_31 : decode cX8_ways 31 = .ok (.iload_n 1, 1) := by decide +kernel
theorem dX8_ways_32 : decode cX8_ways 32 = .ok (.if_icmp .ge 14, 3) := by decide +kernel
theorem dX8_ways_35 : decode cX8_ways 35 = .ok (.aload_n 0, 1) := by decide +kernel
theorem dX8_ways_36 : decode cX8_ways 36 = .ok (.iload_n 2, 1) := by decide +kernel
theorem dX8_ways_37 : decode cX8_ways 37 = .ok (.invokevirtual 15, 3) := by decide +kernel
theorem dX8_ways_40 : decode cX8_ways 40 = .ok (.iinc 3 1, 3) := by decide +kernel
theorem dX8_ways_43 : decode cX8_ways 43 = .ok (.goto (-13), 3) := by decide +kernel
theorem dX8_ways_46 : decode cX8_ways 46 = .ok (.aload_n 0, 1) := by decide +kernel
theorem dX8_ways_47 : decode cX8_ways 47 = .ok (.getfield 11, 3) := by decide +kernel
theorem dX8_ways_50 : decode cX8_ways 50 = .ok (.iload_n 2, 1) := by decide +kernel
theorem dX8_ways_51 : decode cX8_ways 51 = .ok (.laload, 1) := by decide +kernel
theorem dX8_ways_52 : decode cX8_ways 52 = .ok (.lreturn, 1) := by decide +kernel
theorem dX8_addDie_0 : decode cX8_addDie 0 = .ok (.iload_n 1, 1) := by decide +kernel
theorem dX8_addDie_1 : decode cX8_addDie 1 = .ok (.istore_n 2, 1) := by decide +kernel
theorem dX8_addDie_2 : decode cX8_addDie 2 = .ok (.iload_n 2, 1) := by decide +kernel
theorem dX8_addDie_3 : decode cX8_addDie 3 = .ok (.ifCond .lt 52, 3) := by decide +kernel
theorem dX8_addDie_6 : decode cX8_addDie 6 = .ok (.lconst 0, 1) := by decide +kernel
theorem dX8_addDie_7 : decode cX8_addDie 7 = .ok (.lstore_n 3, 1) := by decide +kernel
theorem dX8_addDie_8 : decode cX8_addDie 8 = .ok (.iconst 1, 1) := by decide +kernel
theorem dX8_addDie_9 : decode cX8_addDie 9 = .ok (.istore 5, 2) := by decide +kernel
theorem dX8_addDie_11 : decode cX8_addDie 11 = .ok (.iload 5, 2) := by decide +kernel
theorem dX8_addDie_13 : decode cX8_addDie 13 = .ok (.bipush 6, 2) := by decide +kernel
theorem dX8_addDie_15 : decode cX8_addDie 15 = .ok (.if_icmp .gt 27, 3) := by decide +kernel
theorem dX8_addDie_18 : decode cX8_addDie 18 = .ok (.iload 5, 2) := by decide +kernel
theorem dX8_addDie_20 : decode cX8_addDie 20 = .ok (.iload_n 2, 1) := by decide +kernel
theorem dX8_addDie_21 : decode cX8_addDie 21 = .ok (.if_icmp .gt 21, 3) := by decide +kernel
theorem dX8_addDie_24 : decode cX8_addDie 24 = .ok (.lload_n 3, 1) := by decide +kernel
theorem dX8_addDie_25 : decode cX8_addDie 25 = .ok (.aload_n 0, 1) := by decide +kernel
theorem dX8_addDie_26 : decode cX8_addDie 26 = .ok (.getfield 11, 3) := by decide +kernel
theorem dX8_addDie_29 : decode cX8_addDie 29 = .ok (.iload_n 2, 1) := by decide +kernel
theorem dX8_addDie_30 : decode cX8_addDie 30 = .ok (.iload 5, 2) := by decide +kernel
theorem dX8_addDie_32 : decode cX8_addDie 32 = .ok (.isub, 1) := by decide +kernel
theorem dX8_addDie_33 : decode cX8_addDie 33 = .ok (.laload, 1) := by decide +kernel
theorem dX8_addDie_34 : decode cX8_addDie 34 = .ok (.ladd, 1) := by decide +kernel
theorem dX8_addDie_35 : decode cX8_addDie 35 = .ok (.lstore_n 3, 1) := by decide +kernel
theorem dX8_addDie_36 : decode cX8_addDie 36 = .ok (.iinc 5 1, 3) := by decide +kernel
theorem dX8_addDie_39 : decode cX8_addDie 39 = .ok (.goto (-28), 3) := by decide +kernel
theorem dX8_addDie_42 : decode cX8_addDie 42 = .ok (.aload_n 0, 1) := by decide +kernel
theorem dX8_addDie_43 : decode cX8_addDie 43 = .ok (.getfield 11, 3) := by decide +kernel
theorem dX8_addDie_46 : decode cX8_addDie 46 = .ok (.iload_n 2, 1) := by decide +kernel
theorem dX8_addDie_47 : decode cX8_addDie 47 = .ok (.lload_n 3, 1) := by decide +kernel
theorem dX8_addDie_48 : decode cX8_addDie 48 = .ok (.lastore, 1) := by decide +kernel
theorem dX8_addDie_49 : decode cX8_addDie 49 = .ok (.iinc 2 (-1), 3) := by decide +kernel
theorem dX8_addDie_52 : decode cX8_addDie 52 = .ok (.goto (-50), 3) := by decide +kernel
theorem dX8_addDie_55 : decode cX8_addDie 55 = .ok (.return_, 1) := by decide +kernel
theorem dX9_init_0 : decode cX9_init 0 = .ok (.aload_n 0, 1) := by decide +kernel
theorem dX9_init_1 : decode cX9_init 1 = .ok (.invokespecial 3, 3) := by decide +kernel
theorem dX9_init_4 : decode cX9_init 4 = .ok (.aload_n 0, 1) := by decide +kernel
theorem dX9_init_5 : decode cX9_init 5 = .ok (.bipush 6, 2) := by decide +kernel
theorem dX9_init_7 : decode cX9_init 7 = .ok (.newarray .int, 2) := by decide +kernel
theorem dX9_init_9 : decode cX9_init 9 = .ok (.putfield 9, 3) := by decide +kernel
theorem dX9_init_12 : decode cX9_init 12 = .ok (.aload_n 0, 1) := by decide +kernel
theorem dX9_init_13 : decode cX9_init 13 = .ok (.bipush 6, 2) := by decide +kernel
theorem dX9_init_15 : decode cX9_init 15 = .ok (.newarray .int, 2) := by decide +kernel
theorem dX9_init_17 : decode cX9_init 17 = .ok (.putfield 15, 3) := by decide +kernel
theorem dX9_init_20 : decode cX9_init 20 = .ok (.aload_n 0, 1) := by decide +kernel
theorem dX9_init_21 : decode cX9_init 21 = .ok (.bipush 63, 2) := by decide +kernel
theorem dX9_init_23 : decode cX9_init 23 = .ok (.putfield 18, 3) := by decide +kernel
theorem dX9_init_26 : decode cX9_init 26 = .ok (.return_, 1) := by decide +kernel
theorem dX9_copyFrom_0 : decode cX9_copyFrom 0 = .ok (.iconst 0, 1) := by decide +kernel
theorem dX9_copyFrom_1 : decode cX9_copyFrom 1 = .ok (.istore_n 2, 1) := by decide +kernel
theorem dX9_copyFrom_2 : decode cX9_copyFrom 2 = .ok (.iload_n 2, 1) := by decide +kernel
theorem dX9_copyFrom_3 : decode cX9_copyFrom 3 = .ok (.bipush 6, 2) := by decide +kernel
theorem dX9_copyFrom_5 : decode cX9_copyFrom 5 = .ok (.if_icmp .ge 33, 3) := by decide +kernel
theorem dX9_copyFrom_8 : decode cX9_copyFrom 8 = .ok (.aload_n 0, 1) := by decide +kernel
theorem dX9_copyFrom_9 : decode cX9_copyFrom 9 = .ok (.getfield 9, 3) := by decide +kernel
theorem dX9_copyFrom_12 : decode cX9_copyFrom 12 = .ok (.iload_n 2, 1) := by decide +kernel
theorem dX9_copyFrom_13 : decode cX9_copyFrom 13 = .ok (.aload_n 1, 1) := by decide +kernel
theorem dX9_copyFrom_14 : decode cX9_copyFrom 14 = .ok (.getfield 9, 3) := by decide +kernel
theorem dX9_copyFrom_17 : decode cX9_copyFrom 17 = .ok (.iload_n 2, 1) := by decide +kernel
theorem dX9_copyFrom_18 : decode cX9_copyFrom 18 = .ok (.iaload, 1) := by decide +kernel
theorem dX9_copyFrom_19 : decode cX9_copyFrom 19 = .ok (.iastore, 1) := by decide +kernel
theorem dX9_copyFrom_20 : decode cX9_copyFrom 20 = .ok (.aload_n 0, 1) := by decide +kernel
theorem dX9_copyFrom_21 : decode cX9_copyFrom 21 = .ok (.getfield 15, 3) := by decide +kernel
theorem dX9_copyFrom_24 : decode cX9_copyFrom 24 = .ok (.iload_n 2, 1) := by decide +kernel
theorem dX9_copyFrom_25 : decode cX9_copyFrom 25 = .ok (.aload_n 1, 1) := by decide +kernel
theorem dX9_copyFrom_26 : decode cX9_copyFrom 26 = .ok (.getfield 15, 3) := by decide +kernel
theorem dX9_copyFrom_29 : decode cX9_copyFrom 29 = .ok (.iload_n 2, 1) := by decide +kernel
theorem dX9_copyFrom_30 : decode cX9_copyFrom 30 = .ok (.iaload, 1) := by decide +kernel
theorem dX9_copyFrom_31 : decode cX9_copyFrom 31 = .ok (.iastore, 1) := by decide +kernel
theorem dX9_copyFrom_32 : decode cX9_copyFrom 32 = .ok (.iinc 2 1, 3) := by decide +kernel
theorem dX9_copyFrom_35 : decode cX9_copyFrom 35 = .ok (.goto (-33), 3) := by decide +kernel
theorem dX9_copyFrom_38 : decode cX9_copyFrom 38 = .ok (.aload_n 0, 1) := by decide +kernel
theorem dX9_copyFrom_39 : decode cX9_copyFrom 39 = .ok (.aload_n 1, 1) := by decide +kernel
theorem dX9_copyFrom_40 : decode cX9_copyFrom 40 = .ok (.getfield 18, 3) := by decide +kernel
theorem dX9_copyFrom_43 : decode cX9_copyFrom 43 = .ok (.putfield 18, 3) := by decide +kernel
theorem dX9_copyFrom_46 : decode cX9_copyFrom 46 = .ok (.aload_n 0, 1) := by decide +kernel
theorem dX9_copyFrom_47 : decode cX9_copyFrom 47 = .ok (.aload_n 1, 1) := by decide +kernel
theorem dX9_copyFrom_48 : decode cX9_copyFrom 48 = .ok (.getfield 22, 3) := by decide +kernel
theorem dX9_copyFrom_51 : decode cX9_copyFrom 51 = .ok (.putfield 22, 3) := by decide +kernel
theorem dX9_copyFrom_54 : decode cX9_copyFrom 54 = .ok (.aload_n 0, 1) := by decide +kernel
theorem dX9_copyFrom_55 : decode cX9_copyFrom 55 = .ok (.aload_n 1, 1) := by decide +kernel
theorem dX9_copyFrom_56 : decode cX9_copyFrom 56 = .ok (.getfield 25, 3) := by decide +kernel
theorem dX9_copyFrom_59 : decode cX9_copyFrom 59 = .ok (.putfield 25, 3) := by decide +kernel
theorem dX9_copyFrom_62 : decode cX9_copyFrom 62 = .ok (.return_, 1) := by decide +kernel
theorem dX9_isIn_0 : decode cX9_isIn 0 = .ok (.aload_n 0, 1) := by decide +kernel
theorem dX9_isIn_1 : decode cX9_isIn 1 = .ok (.getfield 18, 3) := by decide +kernel
theorem dX9_isIn_4 : decode cX9_isIn 4 = .ok (.iconst 1, 1) := by decide +kernel
theorem dX9_isIn_5 : decode cX9_isIn 5 = .ok (.iload_n 1, 1) := by decide +kernel
theorem dX9_isIn_6 : decode cX9_isIn 6 = .ok (.ishl, 1) := by decide +kernel
theorem dX9_isIn_7 : decode cX9_isIn 7 = .ok (.iand, 1) := by decide +kernel
theorem dX9_isIn_8 : decode cX9_isIn 8 = .ok (.ifCond .eq 7, 3) := by decide +kernel
theorem dX9_isIn_11 : decode cX9_isIn 11 = .ok (.iconst 1, 1) := by decide +kernel
theorem dX9_isIn_12 : decode cX9_isIn 12 = .ok (.goto 4, 3) := by decide +kernel
theorem dX9_isIn_15 : decode cX9_isIn 15 = .ok (.iconst 0, 1) := by decide +kernel
theorem dX9_isIn_16 : decode cX9_isIn 16 = .ok (.ireturn, 1) := by decide +kernel
theorem dX9_isWhole_0 : decode cX9_isWhole 0 = .ok (.aload_n 0, 1) := by decide +kernel
theorem dX9_isWhole_1 : decode cX9_isWhole 1 = .ok (.getfield 9, 3) := by decide +kernel
theorem dX9_isWhole_4 : decode cX9_isWhole 4 = .ok (.iload_n 1, 1) := by decide +kernel
theorem dX9_isWhole_5 : decode cX9_isWhole 5 = .ok (.iaload, 1) := by decide +kernel
theorem dX9_isWhole_6 : decode cX9_isWhole 6 = .ok (.ldc 30, 2) := by decide +kernel
theorem dX9_isWhole_8 : decode cX9_isWhole 8 = .ok (.if_icmp .ne 7, 3) := by decide +kernel
theorem dX9_isWhole_11 : decode cX9_isWhole 11 = .ok (.iconst 1, 1) := by decide +kernel
theorem dX9_isWhole_12 : decode cX9_isWhole 12 = .ok (.goto 4, 3) := by decide +kernel
theorem dX9_isWhole_15 : decode cX9_isWhole 15 = .ok (.iconst 0, 1) := by decide +kernel
theorem dX9_isWhole_16 : decode cX9_isWhole 16 = .ok (.ireturn, 1) := by decide +kernel
set_option maxRecDepth 20000 in
theorem ggX9_whyNot_X9_isThrow : GoodIn wsX9_whyNot wsX9_isThrow := goodIn_r _ [7, 8, 9, 10] (by decide +kernel) (by decide +kernel)
set_option maxRecDepth 20000 in
theorem gX9_whyNot_X9_isThrow : GoodIn wsX9_whyNot (va_wsS RX9 31 yX9_isThrow wsX9_isThrow) := goodIn_app (goodIn_of _ (by decide +kernel)) ggX9_whyNot_X9_isThrow
set_option maxRecDepth 20000 in
theorem ggX9_whyNot_X9_isWhole : GoodIn wsX9_whyNot wsX9_isWhole := goodIn_r _ [14, 15, 16, 21, 22, 23, 24, 25] (by decide +kernel) (by decide +kernel)
set_option maxRecDepth 20000 in
theorem gX9_whyNot_X9_isWhole : GoodIn wsX9_whyNot (wsV RX9 35 RX9 yX9_isWhole wsX9_isWhole) := goodIn_app (goodIn_of _ (by decide +kernel)) ggX9_whyNot_X9_isWhole
set_option maxRecDepth 20000 in
theorem ggX9_whyNot_X9_isIn : GoodIn wsX9_whyNot wsX9_isIn := goodIn_r _ [20, 2, 21, 22, 23, 24, 25] (by decide +kernel) (by decide +kernel)
set_option maxRecDepth 20000 in
theorem gX9_whyNot_X9_isIn : GoodIn wsX9_whyNot (wsV RX9 38 RX9 yX9_isIn wsX9_isIn) := goodIn_app (goodIn_of _ (by decide +kernel)) ggX9_whyNot_X9_isIn
theorem dX9_whyNot_0 : decode cX9_whyNot 0 = .ok (.iload_n 1, 1) := by decide +kernel
theorem dX9_whyNot_1 : decode cX9_whyNot 1 = .ok (.invokestatic 31, 3) := by decide +kernel
theorem dX9_whyNot_4 : decode cX9_whyNot 4 = .ok (.ifCond .eq 20, 3) := by decide +kernel
theorem dX9_whyNot_7 : decode cX9_whyNot 7 = .ok (.aload_n 0, 1) := by decide +kernel
theorem dX9_whyNot_8 : decode cX9_whyNot 8 = .ok (.aload_n 0, 1) := by decide +kernel
theorem dX9_whyNot_9 : decode cX9_whyNot 9 = .ok (.getfield 22, 3) := by decide +kernel
theorem dX9_whyNot_12 : decode cX9_whyNot 12 = .ok (.invokevirtual 35, 3) := by decide +kernel
theorem dX9_whyNot_15 : decode cX9_whyNot 15 = .ok (.ifCond .eq 7, 3) := by decide +kernel
theorem dX9_whyNot_18 : decode cX9_whyNot 18 = .ok (.iconst 1, 1) := by decide +kernel
theorem dX9_whyNot_19 : decode cX9_whyNot 19 = .ok (.goto 4, 3) := by decide +kernel
theorem dX9_whyNot_22 : decode cX9_whyNot 22 = .ok (.iconst 0, 1) := by decide +kernel
theorem dX9_whyNot_23 : decode cX9_whyNot 23 = .ok (.ireturn, 1) := by decide +kernel
theorem dX9_whyNot_24 : decode cX9_whyNot 24 = .ok (.iload_n 1, 1) := by decide +kernel
theorem dX9_whyNot_25 : decode cX9_whyNot 25 = .ok (.bipush 35, 2) := by decide +kernel
theorem dX9_whyNot_27 : decode cX9_whyNot 27 = .ok (.if_icmp .ne 19, 3) := by decide +kernel
theorem dX9_whyNot_30 : decode cX9_whyNot 30 = .ok (.aload_n 0, 1) := by decide +kernel
theorem dX9_whyNot_31 : decode cX9_whyNot 31 = .ok (.getfield 18, 3) := by decide +kernel
theorem dX9_whyNot_34 : decode cX9_whyNot 34 = .ok (.iconst 1, 1) := by decide +kernel
theorem dX9_whyNot_35 : decode cX9_whyNot 35 = .ok (.iload_n 2, 1) := by decide +kernel
theorem dX9_whyNot_36 : decode cX9_whyNot 36 = .ok (.ishl, 1) := by decide +kernel
theorem dX9_whyNot_37 : decode cX9_whyNot 37 = .ok (.if_icmp .ne 7, 3) := by decide +kernel
theorem dX9_whyNot_40 : decode cX9_whyNot 40 = .ok (.iconst 3, 1) := by decide +kernel
theorem dX9_whyNot_41 : decode cX9_whyNot 41 = .ok (.goto 4, 3) := by decide +kernel
theorem dX9_whyNot_44 : decode cX9_whyNot 44 = .ok (.iconst 0, 1) := by decide +kernel
theorem dX9_whyNot_45 : decode cX9_whyNot 45 = .ok (.ireturn, 1) := by decide +kernel
theorem dX9_whyNot_46 : decode cX9_whyNot 46 = .ok (.iload_n 1, 1) := by decide +kernel
theorem dX9_whyNot_47 : decode cX9_whyNot 47 = .ok (.bipush 33, 2) := by decide +kernel
theorem dX9_whyNot_49 : decode cX9_whyNot 49 = .ok (.if_icmp .eq 5, 3) := by decide +kernel
theorem dX9_whyNot_52 : decode cX9_whyNot 52 = .ok (.iconst 0, 1) := by decide +kernel
theorem dX9_whyNot_53 : decode cX9_whyNot 53 = .ok (.ireturn, 1) := by decide +kernel
theorem dX9_whyNot_54 : decode cX9_whyNot 54 = .ok (.aload_n 0, 1) := by decide +kernel
theorem dX9_whyNot_55 : decode cX9_whyNot 55 = .ok (.iload_n 2, 1) := by decide +kernel
theorem dX9_whyNot_56 : decode cX9_whyNot 56 = .ok (.invokevirtual 35, 3) := by decide +kernel
theorem dX9_whyNot_59 : decode cX9_whyNot 59 = .ok (.ifCond .eq 11, 3) := by decide +kernel
theorem dX9_whyNot_62 : decode cX9_whyNot 62 = .ok (.aload_n 0, 1) := by decide +kernel
theorem dX9_whyNot_63 : decode cX9_whyNot 63 = .ok (.iload_n 2, 1) := by decide +kernel
theorem dX9_whyNot_64 : decode cX9_whyNot 64 = .ok (.invokevirtual 38, 3) := by decide +kernel
theorem dX9_whyNot_67 : decode cX9_whyNot 67 = .ok (.ifCond .ne 5, 3) := by decide +kernel
theorem dX9_whyNot_70 : decode cX9_whyNot 70 = .ok (.iconst 2, 1) := by decide +kernel
theorem dX9_whyNot_71 : decode cX9_whyNot 71 = .ok (.ireturn, 1) := by decide +kernel
theorem dX9_whyNot_72 : decode cX9_whyNot 72 = .ok (.aload_n 0, 1) := by decide +kernel
theorem dX9_whyNot_73 : decode cX9_whyNot 73 = .ok (.getfield 25, 3) := by decide +kernel
theorem dX9_whyNot_76 : decode cX9_whyNot 76 = .ok (.bipush 99, 2) := by decide +kernel
theorem dX9_whyNot_78 : decode cX9_whyNot 78 = .ok (.if_icmp .lt 7, 3) := by decide +kernel
theorem dX9_whyNot_81 : decode cX9_whyNot 81 = .ok (.iconst 4, 1) := by decide +kernel
theorem dX9_whyNot_82 : decode cX9_whyNot 82 = .ok (.goto 4, 3) := by decide +kernel
theorem dX9_whyNot_85 : decode cX9_whyNot 85 = .ok (.iconst 0, 1) := by decide +kernel
theorem dX9_whyNot_86 : decode cX9_whyNot 86 = .ok (.ireturn, 1) := by decide +kernel
set_option maxRecDepth 20000 in
theorem ggX9_drawBy_X0_draw : GoodIn wsX9_drawBy wsX0_draw := goodIn_r _ [6, 7, 8, 9, 10, 11, 12, 13, 5, 14, 15, 16, 17, 18] (by decide +kernel) (by decide +kernel)
set_option maxRecDepth 20000 in
theorem gX9_drawBy_X0_draw : GoodIn wsX9_drawBy (va_wsS RX9 41 yX0_draw wsX0_draw) := goodIn_app (goodIn_of _ (by decide +kernel)) ggX9_drawBy_X0_draw
set_option maxRecDepth 20000 in
theorem ggX9_drawBy_X9_passOn : GoodIn wsX9_drawBy wsX9_passOn := goodIn_r _ [23, 2, 24, 25, 26, 22, 27, 28, 29, 30, 31, 32, 33] (by decide +kernel) (by decide +kernel)
set_option maxRecDepth 20000 in
theorem gX9_drawBy_X9_passOn : GoodIn wsX9_drawBy (wsV RX9 45 RX9 yX9_passOn wsX9_passOn) := goodIn_app (goodIn_of _ (by decide +kernel)) ggX9_drawBy_X9_passOn
theorem dX9_drawBy_0 : decode cX9_drawBy 0 = .ok (.aload_n 0, 1) := by decide +kernel
theorem dX9_drawBy_1 : decode cX9_drawBy 1 = .ok (.getfield 9, 3) := by decide +kernel
theorem dX9_drawBy_4 : decode cX9_drawBy 4 = .ok (.aload_n 0, 1) := by decide +kernel
theorem dX9_drawBy_5 : decode cX9_drawBy 5 = .ok (.getfield 22, 3) := by decide +kernel
theorem dX9_drawBy_8 : decode cX9_drawBy 8 = .ok (.iaload, 1) := by decide +kernel
theorem dX9_drawBy_9 : decode cX9_drawBy 9 = .ok (.istore_n 2, 1) := by decide +kernel
theorem dX9_drawBy_10 : decode cX9_drawBy 10 = .ok (.iload_n 2, 1) := by decide +kernel
theorem dX9_drawBy_11 : decode cX9_drawBy 11 = .ok (.iload_n 1, 1) := by decide +kernel
theorem dX9_drawBy_12 : decode cX9_drawBy 12 = .ok (.invokestatic 41, 3) := by decide +kernel
theorem dX9_drawBy_15 : decode cX9_drawBy 15 = .ok (.istore_n 3, 1) := by decide +kernel
theorem dX9_drawBy_16 : decode cX9_drawBy 16 = .ok (.iload_n 3, 1) := by decide +kernel
theorem dX9_drawBy_17 : decode cX9_drawBy 17 = .ok (.iload_n 2, 1) := by decide +kernel
theorem dX9_drawBy_18 : decode cX9_drawBy 18 = .ok (.if_icmp .ne 9, 3) := by decide +kernel
theorem dX9_drawBy_21 : decode cX9_drawBy 21 = .ok (.aload_n 0, 1) := by decide +kernel
theorem dX9_drawBy_22 : decode cX9_drawBy 22 = .ok (.invokevirtual 45, 3) := by decide +kernel
theorem dX9_drawBy_25 : decode cX9_drawBy 25 = .ok (.iconst 0, 1) := by decide +kernel
theorem dX9_drawBy_26 : decode cX9_drawBy 26 = .ok (.ireturn, 1) := by decide +kernel
theorem dX9_drawBy_27 : decode cX9_drawBy 27 = .ok (.aload_n 0, 1) := by decide +kernel
theorem dX9_drawBy_28 : decode cX9_drawBy 28 = .ok (.getfield 9, 3) := by decide +kernel
theorem dX9_drawBy_31 : decode cX9_drawBy 31 = .ok (.aload_n 0, 1) := by decide +kernel
theorem dX9_drawBy_32 : decode cX9_drawBy 32 = .ok (.getfield 22, 3) := by decide +kernel
theorem dX9_drawBy_35 : decode cX9_drawBy 35 = .ok (.iload_n 3, 1) := by decide +kernel
theorem dX9_drawBy_36 : decode cX9_drawBy 36 = .ok (.iastore, 1) := by decide +kernel
theorem dX9_drawBy_37 : decode cX9_drawBy 37 = .ok (.iconst 1, 1) := by decide +kernel
theorem dX9_drawBy_38 : decode cX9_drawBy 38 = .ok (.ireturn, 1) := by decide +kernel
set_option maxRecDepth 20000 in
theorem ggX9_countUp_X9_worth : GoodIn wsX9_countUp wsX9_worth := goodIn_r _ [13, 1, 6, 14, 15, 16, 17, 18, 19, 20, 21, 22, 23, 24, 25, 26] (by decide +kernel) (by decide +kernel)
set_option maxRecDepth 20000 in
theorem gX9_countUp_X9_worth : GoodIn wsX9_countUp (wsV RX9 48 RX9 yX9_worth wsX9_worth) := goodIn_app (goodIn_of _ (by decide +kernel)) ggX9_countUp_X9_worth
theorem dX9_countUp_0 : decode cX9_countUp 0 = .ok (.iconst 0, 1) := by decide +kernel
theorem dX9_countUp_1 : decode cX9_countUp 1 = .ok (.istore_n 2, 1) := by decide +kernel
theorem dX9_countUp_2 : decode cX9_countUp 2 = .ok (.iload_n 2, 1) := by decide +kernel
theorem dX9_countUp_3 : decode cX9_countUp 3 = .ok (.bipush 6, 2) := by decide +kernel
theorem dX9_countUp_5 : decode cX9_countUp 5 = .ok (.if_icmp .ge 33, 3) := by decide +kernel
theorem dX9_countUp_8 : decode cX9_countUp 8 = .ok (.aload_n 0, 1) := by decide +kernel
theorem dX9_countUp_9 : decode cX9_countUp 9 = .ok (.getfield 15, 3) := by decide +kernel
theorem dX9_countUp_12 : decode cX9_countUp 12 = .ok (.iload_n 2, 1) := by decide +kernel
theorem dX9_countUp_13 : decode cX9_countUp 13 = .ok (.sipush 999, 3) := by decide +kernel
theorem dX9_countUp_16 : decode cX9_countUp 16 = .ok (.aload_n 0, 1) := by decide +kernel
theorem dX9_countUp_17 : decode cX9_countUp 17 = .ok (.iload_n 2, 1) := by decide +kernel
theorem dX9_countUp_18 : decode cX9_countUp 18 = .ok (.invokevirtual 48, 3) := by decide +kernel
theorem dX9_countUp_21 : decode cX9_countUp 21 = .ok (.invokestatic 52, 3) := by decide +kernel
theorem dX9_countUp_24 : decode cX9_countUp 24 = .ok (.iastore, 1) := by decide +kernel
theorem dX9_countUp_25 : decode cX9_countUp 25 = .ok (.aload_n 0, 1) := by decide +kernel
theorem dX9_countUp_26 : decode cX9_countUp 26 = .ok (.getfield 9, 3) := by decide +kernel
theorem dX9_countUp_29 : decode cX9_countUp 29 = .ok (.iload_n 2, 1) := by decide +kernel
theorem dX9_countUp_30 : decode cX9_countUp 30 = .ok (.iconst 0, 1) := by decide +kernel
theorem dX9_countUp_31 : decode cX9_countUp 31 = .ok (.iastore, 1) := by decide +kernel
theorem dX9_countUp_32 : decode cX9_countUp 32 = .ok (.iinc 2 1, 3) := by decide +kernel
theorem dX9_countUp_35 : decode cX9_countUp 35 = .ok (.goto (-33), 3) := by decide +kernel
theorem dX9_countUp_38 : decode cX9_countUp 38 = .ok (.aload_n 0, 1) := by decide +kernel
theorem dX9_countUp_39 : decode cX9_countUp 39 = .ok (.iload_n 1, 1) := by decide +kernel
theorem dX9_countUp_40 : decode cX9_countUp 40 = .ok (.putfield 22, 3) := by decide +kernel
theorem dX9_countUp_43 : decode cX9_countUp 43 = .ok (.aload_n 0, 1) := by decide +kernel
theorem dX9_countUp_44 : decode cX9_countUp 44 = .ok (.dup, 1) := by decide +kernel
theorem dX9_countUp_45 : decode cX9_countUp 45 = .ok (.getfield 25, 3) := by decide +kernel
theorem dX9_countUp_48 : decode cX9_countUp 48 = .ok (.iconst 1, 1) := by decide +kernel
theorem dX9_countUp_49 : decode cX9_countUp 49 = .ok (.iadd, 1) := by decide +kernel
theorem dX9_countUp_50 : decode cX9_countUp 50 = .ok (.putfield 25, 3) := by decide +kernel
theorem dX9_countUp_53 : decode cX9_countUp 53 = .ok (.return_, 1) := by decide +kernel
set_option maxRecDepth 20000 in
theorem ggX9_goOrCome_X9_passOn : GoodIn wsX9_goOrCome wsX9_passOn := goodIn_r _ [7, 2, 8, 9, 10, 6, 11, 1, 12, 13, 14, 15, 16] (by decide +kernel) (by decide +kernel)
set_option maxRecDepth 20000 in
theorem gX9_goOrCome_X9_passOn : GoodIn wsX9_goOrCome (wsV RX9 45 RX9 yX9_passOn wsX9_passOn) := goodIn_app (goodIn_of _ (by decide +kernel)) ggX9_goOrCome_X9_passOn
theorem dX9_goOrCome_0 : decode cX9_goOrCome 0 = .ok (.aload_n 0, 1) := by decide +kernel
theorem dX9_goOrCome_1 : decode cX9_goOrCome 1 = .ok (.dup, 1) := by decide +kernel
theorem dX9_goOrCome_2 : decode cX9_goOrCome 2 = .ok (.getfield 18, 3) := by decide +kernel
theorem dX9_goOrCome_5 : decode cX9_goOrCome 5 = .ok (.iconst 1, 1) := by decide +kernel
theorem dX9_goOrCome_6 : decode cX9_goOrCome 6 = .ok (.iload_n 1, 1) := by decide +kernel
theorem dX9_goOrCome_7 : decode cX9_goOrCome 7 = .ok (.ishl, 1) := by decide +kernel
theorem dX9_goOrCome_8 : decode cX9_goOrCome 8 = .ok (.ixor, 1) := by decide +kernel
theorem dX9_goOrCome_9 : decode cX9_goOrCome 9 = .ok (.putfield 18, 3) := by decide +kernel
theorem dX9_goOrCome_12 : decode cX9_goOrCome 12 = .ok (.iload_n 1, 1) := by decide +kernel
theorem dX9_goOrCome_13 : decode cX9_goOrCome 13 = .ok (.aload_n 0, 1) := by decide +kernel
theorem dX9_goOrCome_14 : decode cX9_goOrCome 14 = .ok (.getfield 22, 3) := by decide +kernel
theorem dX9_goOrCome_17 : decode cX9_goOrCome 17 = .ok (.if_icmp .ne 7, 3) := by decide +kernel
theorem dX9_goOrCome_20 : decode cX9_goOrCome 20 = .ok (.aload_n 0, 1) := by decide +kernel
theorem dX9_goOrCome_21 : decode cX9_goOrCome 21 = .ok (.invokevirtual 45, 3) := by decide +kernel
theorem dX9_goOrCome_24 : decode cX9_goOrCome 24 = .ok (.return_, 1) := by decide +kernel
set_option maxRecDepth 20000 in
theorem ggX9_passOn_X9_isIn : GoodIn wsX9_passOn wsX9_isIn := goodIn_r _ [6, 7, 8, 9, 10, 11, 12] (by decide +kernel) (by decide +kernel)
set_option maxRecDepth 20000 in
theorem gX9_passOn_X9_isIn : GoodIn wsX9_passOn (wsV RX9 38 RX9 yX9_isIn wsX9_isIn) := goodIn_app (goodIn_of _ (by decide +kernel)) ggX9_passOn_X9_isIn
theorem dX9_passOn_0 : decode cX9_passOn 0 = .ok (.iconst 1, 1) := by decide +kernel
theorem dX9_passOn_1 : decode cX9_passOn 1 = .ok (.istore_n 1, 1) := by decide +kernel
theorem dX9_passOn_2 : decode cX9_passOn 2 = .ok (.iload_n 1, 1) := by decide +kernel
theorem dX9_passOn_3 : decode cX9_passOn 3 = .ok (.bipush 6, 2) := by decide +kernel
theorem dX9_passOn_5 : decode cX9_passOn 5 = .ok (.if_icmp .gt 33, 3) := by decide +kernel
theorem dX9_passOn_8 : decode cX9_passOn 8 = .ok (.aload_n 0, 1) := by decide +kernel
theorem dX9_passOn_9 : decode cX9_passOn 9 = .ok (.getfield 22, 3) := by decide +kernel
theorem dX9_passOn_12 : decode cX9_passOn 12 = .ok (.iload_n 1, 1) := by decide +kernel
theorem dX9_passOn_13 : decode cX9_passOn 13 = .ok (.iadd, 1) := by decide +kernel
theorem dX9_passOn_14 : decode cX9_passOn 14 = .ok (.bipush 6, 2) := by decide +kernel
theorem dX9_passOn_16 : decode cX9_passOn 16 = .ok (.irem, 1) := by decide +kernel
theorem dX9_passOn_17 : decode cX9_passOn 17 = .ok (.istore_n 2, 1) := by decide +kernel
theorem dX9_passOn_18 : decode cX9_passOn 18 = .ok (.aload_n 0, 1) := by decide +kernel
theorem dX9_passOn_19 : decode cX9_passOn 19 = .ok (.iload_n 2, 1) := by decide +kernel
theorem dX9_passOn_20 : decode cX9_passOn 20 = .ok (.invokevirtual 38, 3) := by decide +kernel
theorem dX9_passOn_23 : decode cX9_passOn 23 = .ok (.ifCond .eq 9, 3) := by decide +kernel
theorem dX9_passOn_26 : decode cX9_passOn 26 = .ok (.aload_n 0, 1) := by decide +kernel
theorem dX9_passOn_27 : decode cX9_passOn 27 = .ok (.iload_n 2, 1) := by decide +kernel
theorem dX9_passOn_28 : decode cX9_passOn 28 = .ok (.putfield 22, 3) := by decide +kernel
theorem dX9_passOn_31 : decode cX9_passOn 31 = .ok (.return_, 1) := by decide +kernel
theorem dX9_passOn_32 : decode cX9_passOn 32 = .ok (.iinc 1 1, 3) := by decide +kernel
theorem dX9_passOn_35 : decode cX9_passOn 35 = .ok (.goto (-33), 3) := by decide +kernel
theorem dX9_passOn_38 : decode cX9_passOn 38 = .ok (.return_, 1) := by decide +kernel
set_option maxRecDepth 20000 in
theorem ggX9_wholeOnes_X9_isWhole : GoodIn wsX9_wholeOnes wsX9_isWhole := goodIn_r _ [5, 6, 7, 8, 9, 10, 11, 12] (by decide +kernel) (by decide +kernel)
set_option maxRecDepth 20000 in
theorem gX9_wholeOnes_X9_isWhole : GoodIn wsX9_wholeOnes (wsV RX9 35 RX9 yX9_isWhole wsX9_isWhole) := goodIn_app (goodIn_of _ (by decide +kernel)) ggX9_wholeOnes_X9_isWhole
theorem dX9_wholeOnes_0 : decode cX9_wholeOnes 0 = .ok (.iconst 0, 1) := by decide +kernel
theorem dX9_wholeOnes_1 : decode cX9_wholeOnes 1 = .ok (.istore_n 1, 1) := by decide +kernel
theorem dX9_wholeOnes_2 : decode cX9_wholeOnes 2 = .ok (.iconst 0, 1) := by decide +kernel
theorem dX9_wholeOnes_3 : decode cX9_wholeOnes 3 = .ok (.istore_n 2, 1) := by decide +kernel
theorem dX9_wholeOnes_4 : decode cX9_wholeOnes 4 = .ok (.iload_n 2, 1) := by decide +kernel
theorem dX9_wholeOnes_5 : decode cX9_wholeOnes 5 = .ok (.bipush 6, 2) := by decide +kernel
theorem dX9_wholeOnes_7 : decode cX9_wholeOnes 7 = .ok (.if_icmp .ge 23, 3) := by decide +kernel
theorem dX9_wholeOnes_10 : decode cX9_wholeOnes 10 = .ok (.aload_n 0, 1) := by decide +kernel
theorem dX9_wholeOnes_11 : decode cX9_wholeOnes 11 = .ok (.iload_n 2, 1) := by decide +kernel
theorem dX9_wholeOnes_12 : decode cX9_wholeOnes 12 = .ok (.invokevirtual 35, 3) := by decide +kernel
theorem dX9_wholeOnes_15 : decode cX9_wholeOnes 15 = .ok (.ifCond .eq 9, 3) := by decide +kernel
theorem dX9_wholeOnes_18 : decode cX9_wholeOnes 18 = .ok (.iload_n 1, 1) := by decide +kernel
theorem dX9_wholeOnes_19 : decode cX9_wholeOnes 19 = .ok (.iconst 1, 1) := by decide +kernel
theorem dX9_wholeOnes_20 : decode cX9_wholeOnes 20 = .ok (.iload_n 2, 1) := by decide +kernel
theorem dX9_wholeOnes_21 : decode cX9_wholeOnes 21 = .ok (.ishl, 1) := by decide +kernel
theorem dX9_wholeOnes_22 : decode cX9_wholeOnes 22 = .ok (.ior, 1) := by decide +kernel
theorem dX9_wholeOnes_23 : decode cX9_wholeOnes 23 = .ok (.istore_n 1, 1) := by decide +kernel
theorem dX9_wholeOnes_24 : decode cX9_wholeOnes 24 = .ok (.iinc 2 1, 3) := by decide +kernel
theorem dX9_wholeOnes_27 : decode cX9_wholeOnes 27 = .ok (.goto (-23), 3) := by decide +kernel
theorem dX9_wholeOnes_30 : decode cX9_wholeOnes 30 = .ok (.iload_n 1, 1) := by decide +kernel
theorem dX9_wholeOnes_31 : decode cX9_wholeOnes 31 = .ok (.ireturn, 1) := by decide +kernel
set_option maxRecDepth 20000 in
theorem ggX9_leader_X9_worth : GoodIn wsX9_leader wsX9_worth := goodIn_r _ [5, 6, 7, 8, 9, 10, 11, 12, 13, 14, 15, 16, 17, 18, 19, 20] (by decide +kernel) (by decide +kernel)
set_option maxRecDepth 20000 in
theorem gX9_leader_X9_worth : GoodIn wsX9_leader (wsV RX9 48 RX9 yX9_worth wsX9_worth) := goodIn_app (goodIn_of _ (by decide +kernel)) ggX9_leader_X9_worth
theorem dX9_leader_0 : decode cX9_leader 0 = .ok (.iconst 0, 1) := by decide +kernel
theorem dX9_leader_1 : decode cX9_leader 1 = .ok (.istore_n 1, 1) := by decide +kernel
theorem dX9_leader_2 : decode cX9_leader 2 = .ok (.iconst 1, 1) := by decide +kernel
theorem dX9_leader_3 : decode cX9_leader 3 = .ok (.istore_n 2, 1) := by decide +kernel
theorem dX9_leader_4 : decode cX9_leader 4 = .ok (.iload_n 2, 1) := by decide +kernel
theorem dX9_leader_5 : decode cX9_leader 5 = .ok (.bipush 6, 2) := by decide +kernel
theorem dX9_leader_7 : decode cX9_leader 7 = .ok (.if_icmp .ge 24, 3) := by decide +kernel
theorem dX9_leader_10 : decode cX9_leader 10 = .ok (.aload_n 0, 1) := by decide +kernel
theorem dX9_leader_11 : decode cX9_leader 11 = .ok (.iload_n 2, 1) := by decide +kernel
theorem dX9_leader_12 : decode cX9_leader 12 = .ok (.invokevirtual 48, 3) := by decide +kernel
theorem dX9_leader_15 : decode cX9_leader 15 = .ok (.aload_n 0, 1) := by decide +kernel
theorem dX9_leader_16 : decode cX9_leader 16 = .ok (.iload_n 1, 1) := by decide +kernel
theorem dX9_leader_17 : decode cX9_leader 17 = .ok (.invokevirtual 48, 3) := by decide +kernel
theorem dX9_leader_20 : decode cX9_leader 20 = .ok (.if_icmp .le 5, 3) := by decide +kernel
theorem dX9_leader_23 : decode cX9_leader 23 = .ok (.iload_n 2, 1) := by decide +kernel
theorem dX9_leader_24 : decode cX9_leader 24 = .ok (.istore_n 1, 1) := by decide +kernel
theorem dX9_leader_25 : decode cX9_leader 25 = .ok (.iinc 2 1, 3) := by decide +kernel
theorem dX9_leader_28 : decode cX9_leader 28 = .ok (.goto (-24), 3) := by decide +kernel
theorem dX9_leader_31 : decode cX9_leader 31 = .ok (.iload_n 1, 1) := by decide +kernel
theorem dX9_leader_32 : decode cX9_leader 32 = .ok (.ireturn, 1) := by decide +kernel
set_option maxRecDepth 20000 in
theorem ggX9_allParts_X0_parts : GoodIn wsX9_allParts wsX0_parts := goodIn_r _ [5, 6, 7, 4, 8, 9] (by decide +kernel) (by decide +kernel)
set_option maxRecDepth 20000 in
theorem gX9_allParts_X0_parts : GoodIn wsX9_allParts (va_wsS RX9 57 yX0_parts wsX0_parts) := goodIn_app (goodIn_of _ (by decide +kernel)) ggX9_allParts_X0_parts
theorem dX9_allParts_0 : decode cX9_allParts 0 = .ok (.iconst 0, 1) := by decide +kernel
theorem dX9_allParts_1 : decode cX9_allParts 1 = .ok (.istore_n 1, 1) := by decide +kernel
theorem dX9_allParts_2 : decode cX9_allParts 2 = .ok (.iconst 0, 1) := by decide +kernel
theorem dX9_allParts_3 : decode cX9_allParts 3 = .ok (.istore_n 2, 1) := by decide +kernel
theorem dX9_allParts_4 : decode cX9_allParts 4 = .ok (.iload_n 2, 1) := by decide +kernel
theorem dX9_allParts_5 : decode cX9_allParts 5 = .ok (.bipush 6, 2) := by decide +kernel
theorem dX9_allParts_7 : decode cX9_allParts 7 = .ok (.if_icmp .ge 21, 3) := by decide +kernel
theorem dX9_allParts_10 : decode cX9_allParts 10 = .ok (.iload_n 1, 1) := by decide +kernel
theorem dX9_allParts_11 : decode cX9_allParts 11 = .ok (.aload_n 0, 1) := by decide +kernel
theorem dX9_allParts_12 : decode cX9_allParts 12 = .ok (.getfield 9, 3) := by decide +kernel
theorem dX9_allParts_15 : decode cX9_allParts 15 = .ok (.iload_n 2, 1) := by decide +kernel
theorem dX9_allParts_16 : decode cX9_allParts 16 = .ok (.iaload, 1) := by decide +kernel
theorem dX9_allParts_17 : decode cX9_allParts 17 = .ok (.invokestatic 57, 3) := by decide +kernel
theorem dX9_allParts_20 : decode cX9_allParts 20 = .ok (.iadd, 1) := by decide +kernel
theorem dX9_allParts_21 : decode cX9_allParts 21 = .ok (.istore_n 1, 1) := by decide +kernel
theorem dX9_allParts_22 : decode cX9_allParts 22 = .ok (.iinc 2 1, 3) := by decide +kernel
theorem dX9_allParts_25 : decode cX9_allParts 25 = .ok (.goto (-21), 3) := by decide +kernel
theorem dX9_allParts_28 : decode cX9_allParts 28 = .ok (.iload_n 1, 1) := by decide +kernel
theorem dX9_allParts_29 : decode cX9_allParts 29 = .ok (.ireturn, 1) := by decide +kernel
set_option maxRecDepth 20000 in
theorem ggX9_isThrow_X11_isWithin : GoodIn wsX9_isThrow wsX11_isWithin := goodIn_r _ [3] (by decide +kernel) (by decide +kernel)
set_option maxRecDepth 20000 in
theorem gX9_isThrow_X11_isWithin_n60 : GoodIn wsX9_isThrow (wsX11_isWithin) := ggX9_isThrow_X11_isWithin
theorem dX9_isThrow_0 : decode cX9_isThrow 0 = .ok (.iload_n 0, 1) := by decide +kernel
theorem dX9_isThrow_1 : decode cX9_isThrow 1 = .ok (.bipush 49, 2) := by decide +kernel
theorem dX9_isThrow_3 : decode cX9_isThrow 3 = .ok (.bipush 54, 2) := by decide +kernel
theorem dX9_isThrow_5 : decode cX9_isThrow 5 = .ok (.invokestatic 60, 3) := by decide +kernel
theorem dX9_isThrow_8 : decode cX9_isThrow 8 = .ok (.ireturn, 1) := by decide +kernel
set_option maxRecDepth 20000 in
theorem ggX9_worth_X0_parts : GoodIn wsX9_worth wsX0_parts := goodIn_r _ [6, 7, 8, 5, 9, 10] (by decide +kernel) (by decide +kernel)
set_option maxRecDepth 20000 in
theorem gX9_worth_X0_parts : GoodIn wsX9_worth (va_wsS RX9 57 yX0_parts wsX0_parts) := goodIn_app (goodIn_of _ (by decide +kernel)) ggX9_worth_X0_parts
theorem dX9_worth_0 : decode cX9_worth 0 = .ok (.aload_n 0, 1) := by decide +kernel
theorem dX9_worth_1 : decode cX9_worth 1 = .ok (.getfield 15, 3) := by decide +kernel
theorem dX9_worth_4 : decode cX9_worth 4 = .ok (.iload_n 1, 1) := by decide +kernel
theorem dX9_worth_5 : decode cX9_worth 5 = .ok (.iaload, 1) := by decide +kernel
theorem dX9_worth_6 : decode cX9_worth 6 = .ok (.aload_n 0, 1) := by decide +kernel
theorem dX9_worth_7 : decode cX9_worth 7 = .ok (.getfield 9, 3) := by decide +kernel
theorem dX9_worth_10 : decode cX9_worth 10 = .ok (.iload_n 1, 1) := by decide +kernel
theorem dX9_worth_11 : decode cX9_worth 11 = .ok (.iaload, 1) := by decide +kernel
theorem dX9_worth_12 : decode cX9_worth 12 = .ok (.invokestatic 57, 3) := by decide +kernel
theorem dX9_worth_15 : decode cX9_worth 15 = .ok (.iadd, 1) := by decide +kernel
theorem dX9_worth_16 : decode cX9_worth 16 = .ok (.ireturn, 1) := by decide +kernel
set_option maxRecDepth 20000 in
theorem ggX10_init_X10_winningTurn : GoodIn wsX10_init wsX10_winningTurn := goodIn_r _ [10, 5, 11] (by decide +kernel) (by decide +kernel)
set_option maxRecDepth 20000 in
theorem gX10_init_X10_winningTurn : GoodIn wsX10_init (wsV RX10 15 RX10 yX10_winningTurn wsX10_winningTurn) := goodIn_app (goodIn_of _ (by decide +kernel)) ggX10_init_X10_winningTurn
theorem dX10_init_0 : decode cX10_init 0 = .ok (.aload_n 0, 1) := by decide +kernel
theorem dX10_init_1 : decode cX10_init 1 = .ok (.invokespecial 3, 3) := by decide +kernel
theorem dX10_init_4 : decode cX10_init 4 = .ok (.aload_n 0, 1) := by decide +kernel
theorem dX10_init_5 : decode cX10_init 5 = .ok (.bipush 100, 2) := by decide +kernel
theorem dX10_init_7 : decode cX10_init 7 = .ok (.newarray .int, 2) := by decide +kernel
theorem dX10_init_9 : decode cX10_init 9 = .ok (.putfield 11, 3) := by decide +kernel
theorem dX10_init_12 : decode cX10_init 12 = .ok (.iconst 0, 1) := by decide +kernel
theorem dX10_init_13 : decode cX10_init 13 = .ok (.istore_n 1, 1) := by decide +kernel
theorem dX10_init_14 : decode cX10_init 14 = .ok (.iload_n 1, 1) := by decide +kernel
theorem dX10_init_15 : decode cX10_init 15 = .ok (.bipush 99, 2) := by decide +kernel
theorem dX10_init_17 : decode cX10_init 17 = .ok (.if_icmp .gt 49, 3) := by decide +kernel
theorem dX10_init_20 : decode cX10_init 20 = .ok (.iconst 0, 1) := by decide +kernel
theorem dX10_init_21 : decode cX10_init 21 = .ok (.istore_n 2, 1) := by decide +kernel
theorem dX10_init_22 : decode cX10_init 22 = .ok (.iconst 1, 1) := by decide +kernel
theorem dX10_init_23 : decode cX10_init 23 = .ok (.istore_n 3, 1) := by decide +kernel
theorem dX10_init_24 : decode cX10_init 24 = .ok (.iload_n 3, 1) := by decide +kernel
theorem dX10_init_25 : decode cX10_init 25 = .ok (.bipush 6, 2) := by decide +kernel
theorem dX10_init_27 : decode cX10_init 27 = .ok (.if_icmp .gt 26, 3) := by decide +kernel
theorem dX10_init_30 : decode cX10_init 30 = .ok (.aload_n 0, 1) := by decide +kernel
theorem dX10_init_31 : decode cX10_init 31 = .ok (.iload_n 1, 1) := by decide +kernel
theorem dX10_init_32 : decode cX10_init 32 = .ok (.iload_n 3, 1) := by decide +kernel
theorem dX10_init_33 : decode cX10_init 33 = .ok (.invokevirtual 15, 3) := by decide +kernel
theorem dX10_init_36 : decode cX10_init 36 = .ok (.bipush (-6), 2) := by decide +kernel
theorem dX10_init_38 : decode cX10_init 38 = .ok (.if_icmp .eq 9, 3) := by decide +kernel
theorem dX10_init_41 : decode cX10_init 41 = .ok (.iload_n 2, 1) := by decide +kernel
theorem dX10_init_42 : decode cX10_init 42 = .ok (.iconst 1, 1) := by decide +kernel
theorem dX10_init_43 : decode cX10_init 43 = .ok (.iload_n 3, 1) := by decide +kernel
theorem dX10_init_44 : decode cX10_init 44 = .ok (.ishl, 1) := by decide +kernel
theorem dX10_init_45 : decode cX10_init 45 = .ok (.ior, 1) := by decide +kernel
theorem dX10_init_46 : decode cX10_init 46 = .ok (.istore_n 2, 1) := by decide +kernel
theorem dX10_init_47 : decode cX10_init 47 = .ok (.iinc 3 1, 3) := by decide +kernel
theorem dX10_init_50 : decode cX10_init 50 = .ok (.goto (-26), 3) := by decide +kernel
theorem dX10_init_53 : decode cX10_init 53 = .ok (.aload_n 0, 1) := by decide +kernel
theorem dX10_init_54 : decode cX10_init 54 = .ok (.getfield 11, 3) := by decide +kernel
theorem dX10_init_57 : decode cX10_init 57 = .ok (.iload_n 1, 1) := by decide +kernel
theorem dX10_init_58 : decode cX10_init 58 = .ok (.iload_n 2, 1) := by decide +kernel
theorem dX10_init_59 : decode cX10_init 59 = .ok (.iastore, 1) := by decide +kernel
theorem dX10_init_60 : decode cX10_init 60 = .ok (.iinc 1 1, 3) := by decide +kernel
theorem dX10_init_63 : decode cX10_init 63 = .ok (.goto (-49), 3) := by decide +kernel
theorem dX10_init_66 : decode cX10_init 66 = .ok (.return_, 1) := by decide +kernel
theorem dX10_winningTurn_0 : decode cX10_winningTurn 0 = .ok (.iconst 1, 1) := by decide +kernel
theorem dX10_winningTurn_1 : decode cX10_winningTurn 1 = .ok (.istore_n 3, 1) := by decide +kernel
theorem dX10_winningTurn_2 : decode cX10_winningTurn 2 = .ok (.iload_n 3, 1) := by decide +kernel
theorem dX10_winningTurn_3 : decode cX10_winningTurn 3 = .ok (.bipush 6, 2) := by decide +kernel
theorem dX10_winningTurn_5 : decode cX10_winningTurn 5 = .ok (.if_icmp .gt 56, 3) := by decide +kernel
theorem dX10_winningTurn_8 : decode cX10_winningTurn 8 = .ok (.iload_n 3, 1) := by decide +kernel
theorem dX10_winningTurn_9 : decode cX10_winningTurn 9 = .ok (.iload_n 1, 1) := by decide +kernel
theorem dX10_winningTurn_10 : decode cX10_winningTurn 10 = .ok (.if_icmp .gt 51, 3) := by decide +kernel
theorem dX10_winningTurn_13 : decode cX10_winningTurn 13 = .ok (.iload_n 3, 1) := by decide +kernel
theorem dX10_winningTurn_14 : decode cX10_winningTurn 14 = .ok (.iload_n 2, 1) := by decide +kernel
theorem dX10_winningTurn_15 : decode cX10_winningTurn 15 = .ok (.if_icmp .eq 15, 3) := by decide +kernel
theorem dX10_winningTurn_18 : decode cX10_winningTurn 18 = .ok (.iload_n 3, 1) := by decide +kernel
theorem dX10_winningTurn_19 : decode cX10_winningTurn 19 = .ok (.bipush 7, 2) := by decide +kernel
theorem dX10_winningTurn_21 : decode cX10_winningTurn 21 = .ok (.iload_n 2, 1) := by decide +kernel
theorem dX10_winningTurn_22 : decode cX10_winningTurn 22 = .ok (.isub, 1) := by decide +kernel
theorem dX10_winningTurn_23 : decode cX10_winningTurn 23 = .ok (.if_icmp .eq 7, 3) := by decide +kernel
theorem dX10_winningTurn_26 : decode cX10_winningTurn 26 = .ok (.iconst 1, 1) := by decide +kernel
theorem dX10_winningTurn_27 : decode cX10_winningTurn 27 = .ok (.goto 4, 3) := by decide +kernel
theorem dX10_winningTurn_30 : decode cX10_winningTurn 30 = .ok (.iconst 0, 1) := by decide +kernel
theorem dX10_winningTurn_31 : decode cX10_winningTurn 31 = .ok (.istore 4, 2) := by decide +kernel
theorem dX10_winningTurn_33 : decode cX10_winningTurn 33 = .ok (.iload 4, 2) := by decide +kernel
theorem dX10_winningTurn_35 : decode cX10_winningTurn 35 = .ok (.ifCond .eq 20, 3) := by decide +kernel
theorem dX10_winningTurn_38 : decode cX10_winningTurn 38 = .ok (.aload_n 0, 1) := by decide +kernel
theorem dX10_winningTurn_39 : decode cX10_winningTurn 39 = .ok (.getfield 11, 3) := by decide +kernel
theorem dX10_winningTurn_42 : decode cX10_winningTurn 42 = .ok (.iload_n 1, 1) := by decide +kernel
theorem dX10_winningTurn_43 : decode cX10_winningTurn 43 = .ok (.iload_n 3, 1) := by decide +kernel
theorem dX10_winningTurn_44 : decode cX10_winningTurn 44 = .ok (.isub, 1) := by decide +kernel
theorem dX10_winningTurn_45 : decode cX10_winningTurn 45 = .ok (.iaload, 1) := by decide +kernel
theorem dX10_winningTurn_46 : decode cX10_winningTurn 46 = .ok (.iconst 1, 1) := by decide +kernel
theorem dX10_winningTurn_47 : decode cX10_winningTurn 47 = .ok (.iload_n 3, 1) := by decide +kernel
theorem dX10_winningTurn_48 : decode cX10_winningTurn 48 = .ok (.ishl, 1) := by decide +kernel
theorem dX10_winningTurn_49 : decode cX10_winningTurn 49 = .ok (.iand, 1) := by decide +kernel
theorem dX10_winningTurn_50 : decode cX10_winningTurn 50 = .ok (.ifCond .ne 5, 3) := by decide +kernel
theorem dX10_winningTurn_53 : decode cX10_winningTurn 53 = .ok (.iload_n 3, 1) := by decide +kernel
theorem dX10_winningTurn_54 : decode cX10_winningTurn 54 = .ok (.ireturn, 1) := by decide +kernel
theorem dX10_winningTurn_55 : decode cX10_winningTurn 55 = .ok (.iinc 3 1, 3) := by decide +kernel
theorem dX10_winningTurn_58 : decode cX10_winningTurn 58 = .ok (.goto (-56), 3) := by decide +kernel
theorem dX10_winningTurn_61 : decode cX10_winningTurn 61 = .ok (.bipush (-6), 2) := by decide +kernel
theorem dX10_winningTurn_63 : decode cX10_winningTurn 63 = .ok (.ireturn, 1) := by decide +kernel
set_option maxRecDepth 20000 in
theorem ggX11_init_X9_init : GoodIn wsX11_init wsX9_init := goodIn_r _ [42, 43, 2, 3, 44, 45, 46, 47, 133, 134, 135, 136, 137] (by decide +kernel) (by decide +kernel)
set_option maxRecDepth 20000 in
theorem gX11_init_X9_init_n9 : GoodIn wsX11_init (wsX9_init) := ggX11_init_X9_init
set_option maxRecDepth 20000 in
theorem ggX11_init_X5_init : GoodIn wsX11_init wsX5_init := goodIn_r _ [49, 50, 2, 3, 44, 51, 148, 149] (by decide +kernel) (by decide +kernel)
set_option maxRecDepth 20000 in
theorem gX11_init_X5_init_n18 : GoodIn wsX11_init (wsX5_init) := ggX11_init_X5_init
set_option maxRecDepth 20000 in
theorem ggX11_init_X4_init : GoodIn wsX11_init wsX4_init := goodIn_r _ [53, 54, 2, 3, 55, 5, 6, 56, 41, 42, 43, 44, 45, 46, 47, 133, 134, 135, 136, 137, 150, 151, 152, 153, 154, 155] (by decide +kernel) (by decide +kernel)
set_option maxRecDepth 20000 in
theorem gX11_init_X4_init_n25 : GoodIn wsX11_init (wsX4_init) := ggX11_init_X4_init
set_option maxRecDepth 20000 in
theorem ggX11_init_X6_init : GoodIn wsX11_init wsX6_init := goodIn_r _ [59, 60, 2, 3, 44, 61, 62, 63, 64, 65, 66, 67, 68, 18, 69, 70, 71, 72, 73, 74, 75, 76, 77, 78, 79, 80, 81, 82, 83, 84, 85, 86, 87, 88, 89, 90, 91, 92, 93, 94, 95, 96, 97, 98, 99, 100, 101, 102, 156, 157, 158, 159] (by decide +kernel) (by decide +kernel)
set_option maxRecDepth 20000 in
theorem gX11_init_X6_init : GoodIn wsX11_init (wsX6_init) := ggX11_init_X6_init
set_option maxRecDepth 20000 in
theorem ggX11_init_X8_init : GoodIn wsX11_init wsX8_init := goodIn_r _ [104, 105, 2, 3, 64, 106, 160] (by decide +kernel) (by decide +kernel)
set_option maxRecDepth 20000 in
theorem gX11_init_X8_init_n39 : GoodIn wsX11_init (wsX8_init) := ggX11_init_X8_init
set_option maxRecDepth 20000 in
theorem ggX11_init_X7_init : GoodIn wsX11_init wsX7_init := goodIn_r _ [108, 109, 2, 3, 44, 110, 111, 161, 162, 163] (by decide +kernel) (by decide +kernel)
set_option maxRecDepth 20000 in
theorem gX11_init_X7_init_n46 : GoodIn wsX11_init (wsX7_init) := ggX11_init_X7_init
set_option maxRecDepth 20000 in
theorem ggX11_init_X2_init : GoodIn wsX11_init wsX2_init := goodIn_r _ [113, 114, 2, 3, 44, 115, 116, 164, 165, 166] (by decide +kernel) (by decide +kernel)
set_option maxRecDepth 20000 in
theorem gX11_init_X2_init_n53 : GoodIn wsX11_init (wsX2_init) := ggX11_init_X2_init
set_option maxRecDepth 20000 in
theorem ggX11_init_X10_init : GoodIn wsX11_init wsX10_init := goodIn_r _ [119, 120, 2, 3, 44, 121, 122, 123, 124, 34, 125, 167] (by decide +kernel) (by decide +kernel)
set_option maxRecDepth 20000 in
theorem gX11_init_X10_init : GoodIn wsX11_init (wsX10_init) := ggX11_init_X10_init
set_option maxRecDepth 20000 in
theorem ggX11_init_X3_init : GoodIn wsX11_init wsX3_init := goodIn_r _ [127, 128, 2, 3, 129, 5, 6, 130, 131, 25, 26, 132, 41, 42, 43, 44, 45, 46, 47, 107, 108, 109, 110, 111, 133, 134, 135, 136, 137, 168, 169, 170, 161, 162, 163] (by decide +kernel) (by decide +kernel)
set_option maxRecDepth 20000 in
theorem gX11_init_X3_init_n67 : GoodIn wsX11_init (wsX3_init) := ggX11_init_X3_init
theorem dX11_init_0 : decode cX11_init 0 = .ok (.aload_n 0, 1) := by decide +kernel
theorem dX11_init_1 : decode cX11_init 1 = .ok (.invokespecial 1, 3) := by decide +kernel
theorem dX11_init_4 : decode cX11_init 4 = .ok (.aload_n 0, 1) := by decide +kernel
theorem dX11_init_5 : decode cX11_init 5 = .ok (.new 7, 3) := by decide +kernel
theorem dX11_init_8 : decode cX11_init 8 = .ok (.dup, 1) := by decide +kernel
theorem dX11_init_9 : decode cX11_init 9 = .ok (.invokespecial 9, 3) := by decide +kernel
theorem dX11_init_12 : decode cX11_init 12 = .ok (.putfield 10, 3) := by decide +kernel
theorem dX11_init_15 : decode cX11_init 15 = .ok (.aload_n 0, 1) := by decide +kernel
theorem dX11_init_16 : decode cX11_init 16 = .ok (.new 16, 3) := by decide +kernel
theorem dX11_init_19 : decode cX11_init 19 = .ok (.dup, 1) := by decide +kernel
theorem dX11_init_20 : decode cX11_init 20 = .ok (.invokespecial 18, 3) := by decide +kernel
theorem dX11_init_23 : decode cX11_init 23 = .ok (.putfield 19, 3) := by decide +kernel
theorem dX11_init_26 : decode cX11_init 26 = .ok (.aload_n 0, 1) := by decide +kernel
theorem dX11_init_27 : decode cX11_init 27 = .ok (.new 23, 3) := by decide +kernel
theorem dX11_init_30 : decode cX11_init 30 = .ok (.dup, 1) := by decide +kernel
theorem dX11_init_31 : decode cX11_init 31 = .ok (.invokespecial 25, 3) := by decide +kernel
theorem dX11_init_34 : decode cX11_init 34 = .ok (.putfield 26, 3) := by decide +kernel
theorem dX11_init_37 : decode cX11_init 37 = .ok (.aload_n 0, 1) := by decide +kernel
theorem dX11_init_38 : decode cX11_init 38 = .ok (.new 30, 3) := by decide +kernel
theorem dX11_init_41 : decode cX11_init 41 = .ok (.dup, 1) := by decide +kernel
theorem dX11_init_42 : decode cX11_init 42 = .ok (.invokespecial 32, 3) := by decide +kernel
theorem dX11_init_45 : decode cX11_init 45 = .ok (.putfield 33, 3) := by decide +kernel
theorem dX11_init_48 : decode cX11_init 48 = .ok (.aload_n 0, 1) := by decide +kernel
theorem dX11_init_49 : decode cX11_init 49 = .ok (.new 37, 3) := by decide +kernel
theorem dX11_init_52 : decode cX11_init 52 = .ok (.dup, 1) := by decide +kernel
theorem dX11_init_53 : decode cX11_init 53 = .ok (.invokespecial 39, 3) := by decide +kernel
theorem dX11_init_56 : decode cX11_init 56 = .ok (.putfield 40, 3) := by decide +kernel
theorem dX11_init_59 : decode cX11_init 59 = .ok (.aload_n 0, 1) := by decide +kernel
theorem dX11_init_60 : decode cX11_init 60 = .ok (.new 44, 3) := by decide +kernel
theorem dX11_init_63 : decode cX11_init 63 = .ok (.dup, 1) := by decide +kernel
theorem dX11_init_64 : decode cX11_init 64 = .ok (.invokespecial 46, 3) := by decide +kernel
theorem dX11_init_67 : decode cX11_init 67 = .ok (.putfield 47, 3) := by decide +kernel
theorem dX11_init_70 : decode cX11_init 70 = .ok (.aload_n 0, 1) := by decide +kernel
theorem dX11_init_71 : decode cX11_init 71 = .ok (.new 51, 3) := by decide +kernel
theorem dX11_init_74 : decode cX11_init 74 = .ok (.dup, 1) := by decide +kernel
theorem dX11_init_75 : decode cX11_init 75 = .ok (.invokespecial 53, 3) := by decide +kernel
theorem dX11_init_78 : decode cX11_init 78 = .ok (.putfield 54, 3) := by decide +kernel
theorem dX11_init_81 : decode cX11_init 81 = .ok (.aload_n 0, 1) := by decide +kernel
theorem dX11_init_82 : decode cX11_init 82 = .ok (.new 58, 3) := by decide +kernel
theorem dX11_init_85 : decode cX11_init 85 = .ok (.dup, 1) := by decide +kernel
theorem dX11_init_86 : decode cX11_init 86 = .ok (.invokespecial 60, 3) := by decide +kernel
theorem dX11_init_89 : decode cX11_init 89 = .ok (.putfield 61, 3) := by decide +kernel
theorem dX11_init_92 : decode cX11_init 92 = .ok (.aload_n 0, 1) := by decide +kernel
theorem dX11_init_93 : decode cX11_init 93 = .ok (.new 65, 3) := by decide +kernel
theorem dX11_init_96 : decode cX11_init 96 = .ok (.dup, 1) := by decide +kernel
theorem dX11_init_97 : decode cX11_init 97 = .ok (.invokespecial 67, 3) := by decide +kernel
theorem dX11_init_100 : decode cX11_init 100 = .ok (.putfield 68, 3) := by decide +kernel
theorem dX11_init_103 : decode cX11_init 103 = .ok (.aload_n 0, 1) := by decide +kernel
theorem dX11_init_104 : decode cX11_init 104 = .ok (.new 65, 3) := by decide +kernel
theorem dX11_init_107 : decode cX11_init 107 = .ok (.dup, 1) := by decide +kernel
theorem dX11_init_108 : decode cX11_init 108 = .ok (.invokespecial 67, 3) := by decide +kernel
theorem dX11_init_111 : decode cX11_init 111 = .ok (.putfield 72, 3) := by decide +kernel
theorem dX11_init_114 : decode cX11_init 114 = .ok (.return_, 1) := by decide +kernel
set_option maxRecDepth 20000 in
theorem ggX11_player_X11_isPlayer : GoodIn wsX11_player wsX11_isPlayer := goodIn_r _ [5, 6, 7, 4, 8] (by decide +kernel) (by decide +kernel)
set_option maxRecDepth 20000 in
theorem gX11_player_X11_isPlayer : GoodIn wsX11_player (va_wsS RX11 75 yX11_isPlayer wsX11_isPlayer) := goodIn_app (goodIn_of _ (by decide +kernel)) ggX11_player_X11_isPlayer
set_option maxRecDepth 20000 in
theorem ggX11_player_X0_canBe : GoodIn wsX11_player wsX0_canBe := goodIn_r _ [12, 13, 14, 7, 4, 8, 15, 16, 11, 17, 18, 19, 20, 21, 22] (by decide +kernel) (by decide +kernel)
set_option maxRecDepth 20000 in
theorem gX11_player_X0_canBe : GoodIn wsX11_player (va_wsS RX11 79 yX0_canBe wsX0_canBe) := goodIn_app (goodIn_of _ (by decide +kernel)) ggX11_player_X0_canBe
set_option maxRecDepth 20000 in
theorem ggX11_player_X11_isWithin : GoodIn wsX11_player wsX11_isWithin := goodIn_r _ [8] (by decide +kernel) (by decide +kernel)
set_option maxRecDepth 20000 in
theorem gX11_player_X11_isWithin : GoodIn wsX11_player (va_wsS RX11 84 yX11_isWithin wsX11_isWithin) := goodIn_app (goodIn_of _ (by decide +kernel)) ggX11_player_X11_isWithin
theorem dX11_player_0 : decode cX11_player 0 = .ok (.iload_n 1, 1) := by decide +kernel
theorem dX11_player_1 : decode cX11_player 1 = .ok (.invokestatic 75, 3) := by decide +kernel
theorem dX11_player_4 : decode cX11_player 4 = .ok (.ifCond .ne 5, 3) := by decide +kernel
theorem dX11_player_7 : decode cX11_player 7 = .ok (.iconst (-1), 1) := by decide +kernel
theorem dX11_player_8 : decode cX11_player 8 = .ok (.ireturn, 1) := by decide +kernel
theorem dX11_player_9 : decode cX11_player 9 = .ok (.iload_n 2, 1) := by decide +kernel
theorem dX11_player_10 : decode cX11_player 10 = .ok (.invokestatic 79, 3) := by decide +kernel
theorem dX11_player_13 : decode cX11_player 13 = .ok (.ifCond .eq 14, 3) := by decide +kernel
theorem dX11_player_16 : decode cX11_player 16 = .ok (.iload_n 3, 1) := by decide +kernel
theorem dX11_player_17 : decode cX11_player 17 = .ok (.iconst 0, 1) := by decide +kernel
theorem dX11_player_18 : decode cX11_player 18 = .ok (.sipush 999, 3) := by decide +kernel
theorem dX11_player_21 : decode cX11_player 21 = .ok (.invokestatic 84, 3) := by decide +kernel
theorem dX11_player_24 : decode cX11_player 24 = .ok (.ifCond .ne 6, 3) := by decide +kernel
theorem dX11_player_27 : decode cX11_player 27 = .ok (.bipush (-2), 2) := by decide +kernel
theorem dX11_player_29 : decode cX11_player 29 = .ok (.ireturn, 1) := by decide +kernel
theorem dX11_player_30 : decode cX11_player 30 = .ok (.aload_n 0, 1) := by decide +kernel
theorem dX11_player_31 : decode cX11_player 31 = .ok (.getfield 10, 3) := by decide +kernel
theorem dX11_player_34 : decode cX11_player 34 = .ok (.getfield 88, 3) := by decide +kernel
theorem dX11_player_37 : decode cX11_player 37 = .ok (.iload_n 1, 1) := by decide +kernel
theorem dX11_player_38 : decode cX11_player 38 = .ok (.iaload, 1) := by decide +kernel
theorem dX11_player_39 : decode cX11_player 39 = .ok (.istore 4, 2) := by decide +kernel
theorem dX11_player_41 : decode cX11_player 41 = .ok (.aload_n 0, 1) := by decide +kernel
theorem dX11_player_42 : decode cX11_player 42 = .ok (.getfield 10, 3) := by decide +kernel
theorem dX11_player_45 : decode cX11_player 45 = .ok (.getfield 92, 3) := by decide +kernel
theorem dX11_player_48 : decode cX11_player 48 = .ok (.iload_n 1, 1) := by decide +kernel
theorem dX11_player_49 : decode cX11_player 49 = .ok (.iload_n 2, 1) := by decide +kernel
theorem dX11_player_50 : decode cX11_player 50 = .ok (.iastore, 1) := by decide +kernel
theorem dX11_player_51 : decode cX11_player 51 = .ok (.aload_n 0, 1) := by decide +kernel
theorem dX11_player_52 : decode cX11_player 52 = .ok (.getfield 10, 3) := by decide +kernel
theorem dX11_player_55 : decode cX11_player 55 = .ok (.getfield 88, 3) := by decide +kernel
theorem dX11_player_58 : decode cX11_player 58 = .ok (.iload_n 1, 1) := by decide +kernel
theorem dX11_player_59 : decode cX11_player 59 = .ok (.iload_n 3, 1) := by decide +kernel
theorem dX11_player_60 : decode cX11_player 60 = .ok (.iastore, 1) := by decide +kernel
theorem dX11_player_61 : decode cX11_player 61 = .ok (.iload 4, 2) := by decide +kernel
theorem dX11_player_63 : decode cX11_player 63 = .ok (.ireturn, 1) := by decide +kernel
set_option maxRecDepth 20000 in
theorem ggX11_die_X11_isPlayer : GoodIn wsX11_die wsX11_isPlayer := goodIn_r _ [5, 6, 7, 4, 8] (by decide +kernel) (by decide +kernel)
set_option maxRecDepth 20000 in
theorem gX11_die_X11_isPlayer : GoodIn wsX11_die (va_wsS RX11 75 yX11_isPlayer wsX11_isPlayer) := goodIn_app (goodIn_of _ (by decide +kernel)) ggX11_die_X11_isPlayer
set_option maxRecDepth 20000 in
theorem ggX11_die_X9_isIn : GoodIn wsX11_die wsX9_isIn := goodIn_r _ [13, 14, 25, 26, 27, 28, 29] (by decide +kernel) (by decide +kernel)
set_option maxRecDepth 20000 in
theorem gX11_die_X9_isIn : GoodIn wsX11_die (wsV RX11 95 RX9 yX9_isIn wsX9_isIn) := goodIn_app (goodIn_of _ (by decide +kernel)) ggX11_die_X9_isIn
theorem dX11_die_0 : decode cX11_die 0 = .ok (.iload_n 1, 1) := by decide +kernel
theorem dX11_die_1 : decode cX11_die 1 = .ok (.invokestatic 75, 3) := by decide +kernel
theorem dX11_die_4 : decode cX11_die 4 = .ok (.ifCond .ne 5, 3) := by decide +kernel
theorem dX11_die_7 : decode cX11_die 7 = .ok (.iconst (-1), 1) := by decide +kernel
theorem dX11_die_8 : decode cX11_die 8 = .ok (.ireturn, 1) := by decide +kernel
theorem dX11_die_9 : decode cX11_die 9 = .ok (.aload_n 0, 1) := by decide +kernel
theorem dX11_die_10 : decode cX11_die 10 = .ok (.getfield 10, 3) := by decide +kernel
theorem dX11_die_13 : decode cX11_die 13 = .ok (.iload_n 1, 1) := by decide +kernel
theorem dX11_die_14 : decode cX11_die 14 = .ok (.invokevirtual 95, 3) := by decide +kernel
theorem dX11_die_17 : decode cX11_die 17 = .ok (.ifCond .ne 6, 3) := by decide +kernel
theorem dX11_die_20 : decode cX11_die 20 = .ok (.bipush (-3), 2) := by decide +kernel
theorem dX11_die_22 : decode cX11_die 22 = .ok (.ireturn, 1) := by decide +kernel
theorem dX11_die_23 : decode cX11_die 23 = .ok (.aload_n 0, 1) := by decide +kernel
theorem dX11_die_24 : decode cX11_die 24 = .ok (.getfield 10, 3) := by decide +kernel
theorem dX11_die_27 : decode cX11_die 27 = .ok (.getfield 98, 3) := by decide +kernel
theorem dX11_die_30 : decode cX11_die 30 = .ok (.istore_n 2, 1) := by decide +kernel
theorem dX11_die_31 : decode cX11_die 31 = .ok (.aload_n 0, 1) := by decide +kernel
theorem dX11_die_32 : decode cX11_die 32 = .ok (.getfield 10, 3) := by decide +kernel
theorem dX11_die_35 : decode cX11_die 35 = .ok (.iload_n 1, 1) := by decide +kernel
theorem dX11_die_36 : decode cX11_die 36 = .ok (.putfield 98, 3) := by decide +kernel
theorem dX11_die_39 : decode cX11_die 39 = .ok (.iload_n 2, 1) := by decide +kernel
theorem dX11_die_40 : decode cX11_die 40 = .ok (.ireturn, 1) := by decide +kernel
set_option maxRecDepth 20000 in
theorem ggX11_say_X11_isWithin : GoodIn wsX11_say wsX11_isWithin := goodIn_r _ [5] (by decide +kernel) (by decide +kernel)
set_option maxRecDepth 20000 in
theorem gX11_say_X11_isWithin : GoodIn wsX11_say (va_wsS RX11 84 yX11_isWithin wsX11_isWithin) := goodIn_app (goodIn_of _ (by decide +kernel)) ggX11_say_X11_isWithin
set_option maxRecDepth 20000 in
theorem ggX11_say_X5_add : GoodIn wsX11_say wsX5_add := goodIn_r _ [10, 11, 12, 23, 24] (by decide +kernel) (by decide +kernel)
set_option maxRecDepth 20000 in
theorem gX11_say_X5_add : GoodIn wsX11_say (wsV RX11 102 RX5 yX5_add wsX5_add) := goodIn_app (goodIn_of _ (by decide +kernel)) ggX11_say_X5_add
theorem dX11_say_0 : decode cX11_say 0 = .ok (.iload_n 1, 1) := by decide +kernel
theorem dX11_say_1 : decode cX11_say 1 = .ok (.bipush 33, 2) := by decide +kernel
theorem dX11_say_3 : decode cX11_say 3 = .ok (.bipush 126, 2) := by decide +kernel
theorem dX11_say_5 : decode cX11_say 5 = .ok (.invokestatic 84, 3) := by decide +kernel
theorem dX11_say_8 : decode cX11_say 8 = .ok (.ifCond .ne 6, 3) := by decide +kernel
theorem dX11_say_11 : decode cX11_say 11 = .ok (.bipush (-2), 2) := by decide +kernel
theorem dX11_say_13 : decode cX11_say 13 = .ok (.ireturn, 1) := by decide +kernel
theorem dX11_say_14 : decode cX11_say 14 = .ok (.aload_n 0, 1) := by decide +kernel
theorem dX11_say_15 : decode cX11_say 15 = .ok (.getfield 19, 3) := by decide +kernel
theorem dX11_say_18 : decode cX11_say 18 = .ok (.iload_n 1, 1) := by decide +kernel
theorem dX11_say_19 : decode cX11_say 19 = .ok (.invokevirtual 102, 3) := by decide +kernel
theorem dX11_say_22 : decode cX11_say 22 = .ok (.ifCond .eq 13, 3) := by decide +kernel
theorem dX11_say_25 : decode cX11_say 25 = .ok (.aload_n 0, 1) := by decide +kernel
theorem dX11_say_26 : decode cX11_say 26 = .ok (.getfield 19, 3) := by decide +kernel
theorem dX11_say_29 : decode cX11_say 29 = .ok (.getfield 105, 3) := by decide +kernel
theorem dX11_say_32 : decode cX11_say 32 = .ok (.goto 5, 3) := by decide +kernel
theorem dX11_say_35 : decode cX11_say 35 = .ok (.bipush (-4), 2) := by decide +kernel
theorem dX11_say_37 : decode cX11_say 37 = .ok (.ireturn, 1) := by decide +kernel
set_option maxRecDepth 20000 in
theorem ggX11_wipe_X5_clear : GoodIn wsX11_wipe wsX5_clear := goodIn_r _ [6, 7, 18, 19] (by decide +kernel) (by decide +kernel)
set_option maxRecDepth 20000 in
theorem gX11_wipe_X5_clear : GoodIn wsX11_wipe (wsV RX11 108 RX5 yX5_clear wsX5_clear) := goodIn_app (goodIn_of _ (by decide +kernel)) ggX11_wipe_X5_clear
theorem dX11_wipe_0 : decode cX11_wipe 0 = .ok (.aload_n 0, 1) := by decide +kernel
theorem dX11_wipe_1 : decode cX11_wipe 1 = .ok (.getfield 19, 3) := by decide +kernel
theorem dX11_wipe_4 : decode cX11_wipe 4 = .ok (.invokevirtual 108, 3) := by decide +kernel
theorem dX11_wipe_7 : decode cX11_wipe 7 = .ok (.ireturn, 1) := by decide +kernel
set_option maxRecDepth 20000 in
theorem ggX11_fault_X5_firstFault : GoodIn wsX11_fault wsX5_firstFault := goodIn_r _ [6, 7, 8, 9, 10, 5, 11, 12, 13, 14, 15, 16, 17, 18, 19, 20, 21, 32, 33] (by decide +kernel) (by decide +kernel)
set_option maxRecDepth 20000 in
theorem gX11_fault_X5_firstFault : GoodIn wsX11_fault (wsV RX11 112 RX5 yX5_firstFault wsX5_firstFault) := goodIn_app (goodIn_of _ (by decide +kernel)) ggX11_fault_X5_firstFault
theorem dX11_fault_0 : decode cX11_fault 0 = .ok (.aload_n 0, 1) := by decide +kernel
theorem dX11_fault_1 : decode cX11_fault 1 = .ok (.getfield 19, 3) := by decide +kernel
theorem dX11_fault_4 : decode cX11_fault 4 = .ok (.invokevirtual 112, 3) := by decide +kernel
theorem dX11_fault_7 : decode cX11_fault 7 = .ok (.ireturn, 1) := by decide +kernel
set_option maxRecDepth 20000 in
theorem ggX11_judge_X11_isWithin : GoodIn wsX11_judge wsX11_isWithin := goodIn_r _ [7] (by decide +kernel) (by decide +kernel)
set_option maxRecDepth 20000 in
theorem gX11_judge_X11_isWithin : GoodIn wsX11_judge (va_wsS RX11 84 yX11_isWithin wsX11_isWithin) := goodIn_app (goodIn_of _ (by decide +kernel)) ggX11_judge_X11_isWithin
set_option maxRecDepth 20000 in
theorem ggX11_judge_X4_playText : GoodIn wsX11_judge wsX4_playText := goodIn_r _ [12, 13, 14, 15, 16, 11, 17, 18, 19, 20, 21, 22, 23, 24, 25, 26, 27, 28, 29, 30, 31, 32, 33, 34, 35, 36, 37, 38, 39, 40, 41, 42, 43, 44, 45, 5, 6, 7, 46, 47, 48, 49, 50, 51, 52, 53, 54, 55, 56, 57, 58, 59, 60, 61, 62, 63, 64, 65, 66, 67, 68, 69, 70, 71, 72, 73, 74, 75, 76, 77, 78, 79, 80, 81, 82, 83, 84, 85, 86, 87, 88, 89, 90, 91, 92, 93, 94, 95, 96, 97, 98, 99, 100, 101, 102, 103, 104, 105, 106, 107, 108, 109, 110, 111, 112, 113, 130, 131, 124, 125, 126, 127, 128, 129, 132, 133, 134, 135, 136] (by decide +kernel) (by decide +kernel)
set_option maxRecDepth 20000 in
theorem gX11_judge_X4_playText : GoodIn wsX11_judge (wsV RX11 115 RX4 yX4_playText wsX4_playText) := goodIn_app (goodIn_of _ (by decide +kernel)) ggX11_judge_X4_playText
theorem dX11_judge_0 : decode cX11_judge 0 = .ok (.iload_n 1, 1) := by decide +kernel
theorem dX11_judge_1 : decode cX11_judge 1 = .ok (.iconst 0, 1) := by decide +kernel
theorem dX11_judge_2 : decode cX11_judge 2 = .ok (.iconst 2, 1) := by decide +kernel
theorem dX11_judge_3 : decode cX11_judge 3 = .ok (.invokestatic 84, 3) := by decide +kernel
theorem dX11_judge_6 : decode cX11_judge 6 = .ok (.ifCond .ne 6, 3) := by decide +kernel
theorem dX11_judge_9 : decode cX11_judge 9 = .ok (.bipush (-2), 2) := by decide +kernel
theorem dX11_judge_11 : decode cX11_judge 11 = .ok (.ireturn, 1) := by decide +kernel
theorem dX11_judge_12 : decode cX11_judge 12 = .ok (.aload_n 0, 1) := by decide +kernel
theorem dX11_judge_13 : decode cX11_judge 13 = .ok (.getfield 26, 3) := by decide +kernel
theorem dX11_judge_16 : decode cX11_judge 16 = .ok (.aload_n 0, 1) := by decide +kernel
theorem dX11_judge_17 : decode cX11_judge 17 = .ok (.getfield 19, 3) := by decide +kernel
theorem dX11_judge_20 : decode cX11_judge 20 = .ok (.aload_n 0, 1) := by decide +kernel
theorem dX11_judge_21 : decode cX11_judge 21 = .ok (.getfield 10, 3) := by decide +kernel
theorem dX11_judge_24 : decode cX11_judge 24 = .ok (.invokevirtual 115, 3) := by decide +kernel
theorem dX11_judge_27 : decode cX11_judge 27 = .ok (.istore_n 2, 1) := by decide +kernel
theorem dX11_judge_28 : decode cX11_judge 28 = .ok (.iload_n 2, 1) := by decide +kernel
theorem dX11_judge_29 : decode cX11_judge 29 = .ok (.bipush (-5), 2) := by decide +kernel
theorem dX11_judge_31 : decode cX11_judge 31 = .ok (.if_icmp .ne 6, 3) := by decide +kernel
theorem dX11_judge_34 : decode cX11_judge 34 = .ok (.bipush (-5), 2) := by decide +kernel
theorem dX11_judge_36 : decode cX11_judge 36 = .ok (.ireturn, 1) := by decide +kernel
theorem dX11_judge_37 : decode cX11_judge 37 = .ok (.iload_n 1, 1) := by decide +kernel
theorem dX11_judge_38 : decode cX11_judge 38 = .ok (.iconst 2, 1) := by decide +kernel
theorem dX11_judge_39 : decode cX11_judge 39 = .ok (.if_icmp .ne 19, 3) := by decide +kernel
theorem dX11_judge_42 : decode cX11_judge 42 = .ok (.iload_n 2, 1) := by decide +kernel
theorem dX11_judge_43 : decode cX11_judge 43 = .ok (.ifCond .ne 13, 3) := by decide +kernel
theorem dX11_judge_46 : decode cX11_judge 46 = .ok (.aload_n 0, 1) := by decide +kernel
theorem dX11_judge_47 : decode cX11_judge 47 = .ok (.getfield 26, 3) := by decide +kernel
theorem dX11_judge_50 : decode cX11_judge 50 = .ok (.getfield 119, 3) := by decide +kernel
theorem dX11_judge_53 : decode cX11_judge 53 = .ok (.goto 4, 3) := by decide +kernel
theorem dX11_judge_56 : decode cX11_judge 56 = .ok (.iload_n 2, 1) := by decide +kernel
theorem dX11_judge_57 : decode cX11_judge 57 = .ok (.ireturn, 1) := by decide +kernel
theorem dX11_judge_58 : decode cX11_judge 58 = .ok (.iload_n 2, 1) := by decide +kernel
theorem dX11_judge_59 : decode cX11_judge 59 = .ok (.ifCond .ne 6, 3) := by decide +kernel
theorem dX11_judge_62 : decode cX11_judge 62 = .ok (.bipush (-6), 2) := by decide +kernel
theorem dX11_judge_64 : decode cX11_judge 64 = .ok (.ireturn, 1) := by decide +kernel
theorem dX11_judge_65 : decode cX11_judge 65 = .ok (.iload_n 1, 1) := by decide +kernel
theorem dX11_judge_66 : decode cX11_judge 66 = .ok (.ifCond .ne 13, 3) := by decide +kernel
theorem dX11_judge_69 : decode cX11_judge 69 = .ok (.aload_n 0, 1) := by decide +kernel
theorem dX11_judge_70 : decode cX11_judge 70 = .ok (.getfield 26, 3) := by decide +kernel
theorem dX11_judge_73 : decode cX11_judge 73 = .ok (.getfield 122, 3) := by decide +kernel
theorem dX11_judge_76 : decode cX11_judge 76 = .ok (.goto 10, 3) := by decide +kernel
theorem dX11_judge_79 : decode cX11_judge 79 = .ok (.aload_n 0, 1) := by decide +kernel
theorem dX11_judge_80 : decode cX11_judge 80 = .ok (.getfield 26, 3) := by decide +kernel
theorem dX11_judge_83 : decode cX11_judge 83 = .ok (.getfield 125, 3) := by decide +kernel
theorem dX11_judge_86 : decode cX11_judge 86 = .ok (.ireturn, 1) := by decide +kernel
set_option maxRecDepth 20000 in
theorem ggX11_behind_X11_isPlayer : GoodIn wsX11_behind wsX11_isPlayer := goodIn_r _ [7, 8, 9, 6, 10] (by decide +kernel) (by decide +kernel)
set_option maxRecDepth 20000 in
theorem gX11_behind_X11_isPlayer : GoodIn wsX11_behind (va_wsS RX11 75 yX11_isPlayer wsX11_isPlayer) := goodIn_app (goodIn_of _ (by decide +kernel)) ggX11_behind_X11_isPlayer
set_option maxRecDepth 20000 in
theorem ggX11_behind_X11_isWithin : GoodIn wsX11_behind wsX11_isWithin := goodIn_r _ [10] (by decide +kernel) (by decide +kernel)
set_option maxRecDepth 20000 in
theorem gX11_behind_X11_isWithin : GoodIn wsX11_behind (va_wsS RX11 84 yX11_isWithin wsX11_isWithin) := goodIn_app (goodIn_of _ (by decide +kernel)) ggX11_behind_X11_isWithin
set_option maxRecDepth 20000 in
theorem ggX11_behind_X4_playText : GoodIn wsX11_behind wsX4_playText := goodIn_r _ [15, 16, 17, 18, 19, 14, 20, 21, 22, 23, 24, 25, 26, 27, 28, 29, 30, 31, 32, 33, 34, 35, 36, 37, 38, 39, 40, 41, 42, 43, 44, 45, 46, 47, 48, 9, 6, 10, 49, 50, 51, 52, 53, 54, 55, 56, 57, 58, 59, 60, 61, 62, 63, 64, 65, 66, 67, 68, 69, 70, 71, 72, 73, 74, 75, 76, 77, 78, 79, 80, 81, 82, 83, 84, 85, 86, 87, 88, 89, 90, 91, 92, 93, 94, 95, 96, 97, 98, 99, 100, 101, 102, 103, 104, 105, 106, 107, 108, 109, 110, 111, 112, 113, 114, 115, 116, 140, 141, 129, 130, 131, 132, 133, 134, 135, 136, 137, 138, 139] (by decide +kernel) (by decide +kernel)
set_option maxRecDepth 20000 in
theorem gX11_behind_X4_playText : GoodIn wsX11_behind (wsV RX11 115 RX4 yX4_playText wsX4_playText) := goodIn_app (goodIn_of _ (by decide +kernel)) ggX11_behind_X4_playText
set_option maxRecDepth 20000 in
theorem ggX11_behind_X0_parts : GoodIn wsX11_behind wsX0_parts := goodIn_r _ [86, 87, 88, 85, 89, 90] (by decide +kernel) (by decide +kernel)
set_option maxRecDepth 20000 in
theorem gX11_behind_X0_parts : GoodIn wsX11_behind (va_wsS RX11 131 yX0_parts wsX0_parts) := goodIn_app (goodIn_of _ (by decide +kernel)) ggX11_behind_X0_parts
set_option maxRecDepth 20000 in
theorem ggX11_behind_X9_isIn : GoodIn wsX11_behind wsX9_isIn := goodIn_r _ [70, 33, 135, 136, 137, 138, 139] (by decide +kernel) (by decide +kernel)
set_option maxRecDepth 20000 in
theorem gX11_behind_X9_isIn : GoodIn wsX11_behind (wsV RX11 95 RX9 yX9_isIn wsX9_isIn) := goodIn_app (goodIn_of _ (by decide +kernel)) ggX11_behind_X9_isIn
theorem dX11_behind_0 : decode cX11_behind 0 = .ok (.iload_n 1, 1) := by decide +kernel
theorem dX11_behind_1 : decode cX11_behind 1 = .ok (.invokestatic 75, 3) := by decide +kernel
theorem dX11_behind_4 : decode cX11_behind 4 = .ok (.ifCond .ne 5, 3) := by decide +kernel
theorem dX11_behind_7 : decode cX11_behind 7 = .ok (.iconst (-1), 1) := by decide +kernel
theorem dX11_behind_8 : decode cX11_behind 8 = .ok (.ireturn, 1) := by decide +kernel
theorem dX11_behind_9 : decode cX11_behind 9 = .ok (.iload_n 2, 1) := by decide +kernel
theorem dX11_behind_10 : decode cX11_behind 10 = .ok (.iconst 0, 1) := by decide +kernel
theorem dX11_behind_11 : decode cX11_behind 11 = .ok (.iconst 3, 1) := by decide +kernel
theorem dX11_behind_12 : decode cX11_behind 12 = .ok (.invokestatic 84, 3) := by decide +kernel
theorem dX11_behind_15 : decode cX11_behind 15 = .ok (.ifCond .ne 6, 3) := by decide +kernel
theorem dX11_behind_18 : decode cX11_behind 18 = .ok (.bipush (-2), 2) := by decide +kernel
theorem dX11_behind_20 : decode cX11_behind 20 = .ok (.ireturn, 1) := by decide +kernel
theorem dX11_behind_21 : decode cX11_behind 21 = .ok (.aload_n 0, 1) := by decide +kernel
theorem dX11_behind_22 : decode cX11_behind 22 = .ok (.getfield 26, 3) := by decide +kernel
theorem dX11_behind_25 : decode cX11_behind 25 = .ok (.aload_n 0, 1) := by decide +kernel
theorem dX11_behind_26 : decode cX11_behind 26 = .ok (.getfield 19, 3) := by decide +kernel
theorem dX11_behind_29 : decode cX11_behind 29 = .ok (.aload_n 0, 1) := by decide +kernel
theorem dX11_behind_30 : decode cX11_behind 30 = .ok (.getfield 10, 3) := by decide +kernel
theorem dX11_behind_33 : decode cX11_behind 33 = .ok (.invokevirtual 115, 3) := by decide +kernel
theorem dX11_behind_36 : decode cX11_behind 36 = .ok (.istore_n 3, 1) := by decide +kernel
theorem dX11_behind_37 : decode cX11_behind 37 = .ok (.iload_n 3, 1) := by decide +kernel
theorem dX11_behind_38 : decode cX11_behind 38 = .ok (.ifCond .eq 5, 3) := by decide +kernel
theorem dX11_behind_41 : decode cX11_behind 41 = .ok (.iload_n 3, 1) := by decide +kernel
theorem dX11_behind_42 : decode cX11_behind 42 = .ok (.ireturn, 1) := by decide +kernel
theorem dX11_behind_43 : decode cX11_behind 43 = .ok (.iload_n 2, 1) := by decide +kernel
theorem dX11_behind_44 : decode cX11_behind 44 = .ok (.tableswitch 77 0 2 #[28, 44, 57], 28) := by decide +kernel
theorem dX11_behind_72 : decode cX11_behind 72 = .ok (.aload_n 0, 1) := by decide +kernel
theorem dX11_behind_73 : decode cX11_behind 73 = .ok (.getfield 26, 3) := by decide +kernel
theorem dX11_behind_76 : decode cX11_behind 76 = .ok (.getfield 128, 3) := by decide +kernel
theorem dX11_behind_79 : decode cX11_behind 79 = .ok (.getfield 92, 3) := by decide +kernel
theorem dX11_behind_82 : decode cX11_behind 82 = .ok (.iload_n 1, 1) := by decide +kernel
theorem dX11_behind_83 : decode cX11_behind 83 = .ok (.iaload, 1) := by decide +kernel
theorem dX11_behind_84 : decode cX11_behind 84 = .ok (.invokestatic 131, 3) := by decide +kernel
theorem dX11_behind_87 : decode cX11_behind 87 = .ok (.ireturn, 1) := by decide +kernel
theorem dX11_behind_88 : decode cX11_behind 88 = .ok (.aload_n 0, 1) := by decide +kernel
theorem dX11_behind_89 : decode cX11_behind 89 = .ok (.getfield 26, 3) := by decide +kernel
theorem dX11_behind_92 : decode cX11_behind 92 = .ok (.getfield 128, 3) := by decide +kernel
theorem dX11_behind_95 : decode cX11_behind 95 = .ok (.getfield 88, 3) := by decide +kernel
theorem dX11_behind_98 : decode cX11_behind 98 = .ok (.iload_n 1, 1) := by decide +kernel
theorem dX11_behind_99 : decode cX11_behind 99 = .ok (.iaload, 1) := by decide +kernel
theorem dX11_behind_100 : decode cX11_behind 100 = .ok (.ireturn, 1) := by decide +kernel
theorem dX11_behind_101 : decode cX11_behind 101 = .ok (.aload_n 0, 1) := by decide +kernel
theorem dX11_behind_102 : decode cX11_behind 102 = .ok (.getfield 26, 3) := by decide +kernel
theorem dX11_behind_105 : decode cX11_behind 105 = .ok (.getfield 128, 3) := by decide +kernel
theorem dX11_behind_108 : decode cX11_behind 108 = .ok (.iload_n 1, 1) := by decide +kernel
theorem dX11_behind_109 : decode cX11_behind 109 = .ok (.invokevirtual 95, 3) := by decide +kernel
theorem dX11_behind_112 : decode cX11_behind 112 = .ok (.ifCond .eq 7, 3) := by decide +kernel
theorem dX11_behind_115 : decode cX11_behind 115 = .ok (.iconst 1, 1) := by decide +kernel
theorem dX11_behind_116 : decode cX11_behind 116 = .ok (.goto 4, 3) := by decide +kernel
theorem dX11_behind_119 : decode cX11_behind 119 = .ok (.iconst 0, 1) := by decide +kernel
theorem dX11_behind_120 : decode cX11_behind 120 = .ok (.ireturn, 1) := by decide +kernel
theorem dX11_behind_121 : decode cX11_behind 121 = .ok (.aload_n 0, 1) := by decide +kernel
theorem dX11_behind_122 : decode cX11_behind 122 = .ok (.getfield 26, 3) := by decide +kernel
theorem dX11_behind_125 : decode cX11_behind 125 = .ok (.getfield 128, 3) := by decide +kernel
theorem dX11_behind_128 : decode cX11_behind 128 = .ok (.getfield 92, 3) := by decide +kernel
theorem dX11_behind_131 : decode cX11_behind 131 = .ok (.iload_n 1, 1) := by decide +kernel
theorem dX11_behind_132 : decode cX11_behind 132 = .ok (.iaload, 1) := by decide +kernel
theorem dX11_behind_133 : decode cX11_behind 133 = .ok (.ireturn, 1) := by decide +kernel
set_option maxRecDepth 20000 in
theorem ggX11_table_X11_isWithin : GoodIn wsX11_table wsX11_isWithin := goodIn_r _ [7] (by decide +kernel) (by decide +kernel)
set_option maxRecDepth 20000 in
theorem gX11_table_X11_isWithin : GoodIn wsX11_table (va_wsS RX11 84 yX11_isWithin wsX11_isWithin) := goodIn_app (goodIn_of _ (by decide +kernel)) ggX11_table_X11_isWithin
set_option maxRecDepth 20000 in
theorem ggX11_table_X4_playText : GoodIn wsX11_table wsX4_playText := goodIn_r _ [12, 13, 14, 15, 16, 11, 17, 18, 19, 20, 21, 22, 23, 24, 25, 26, 27, 28, 29, 30, 31, 32, 33, 34, 35, 36, 37, 38, 39, 40, 41, 42, 43, 44, 45, 5, 6, 7, 46, 47, 48, 49, 50, 51, 52, 53, 54, 55, 56, 57, 58, 59, 60, 61, 62, 63, 64, 65, 66, 67, 68, 69, 70, 71, 72, 73, 74, 75, 76, 77, 78, 79, 80, 81, 82, 83, 84, 85, 86, 87, 88, 89, 90, 91, 92, 93, 94, 95, 96, 97, 98, 99, 100, 101, 102, 103, 104, 105, 106, 107, 108, 109, 110, 111, 112, 113, 143, 144, 132, 133, 134, 135, 136, 137, 138, 139, 140, 141, 142] (by decide +kernel) (by decide +kernel)
set_option maxRecDepth 20000 in
theorem gX11_table_X4_playText : GoodIn wsX11_table (wsV RX11 115 RX4 yX4_playText wsX4_playText) := goodIn_app (goodIn_of _ (by decide +kernel)) ggX11_table_X4_playText
set_option maxRecDepth 20000 in
theorem ggX11_table_X9_wholeOnes : GoodIn wsX11_table wsX9_wholeOnes := goodIn_r _ [117, 59, 60, 61, 26, 62, 28, 63, 138, 139, 140, 141, 142] (by decide +kernel) (by decide +kernel)
set_option maxRecDepth 20000 in
theorem gX11_table_X9_wholeOnes : GoodIn wsX11_table (wsV RX11 138 RX9 yX9_wholeOnes wsX9_wholeOnes) := goodIn_app (goodIn_of _ (by decide +kernel)) ggX11_table_X9_wholeOnes
set_option maxRecDepth 20000 in
theorem ggX11_table_X9_leader : GoodIn wsX11_table wsX9_leader := goodIn_r _ [121, 76, 77, 78, 26, 79, 29, 28, 80, 81, 82, 83, 84, 85, 86, 87, 138, 139, 140, 141, 142] (by decide +kernel) (by decide +kernel)
set_option maxRecDepth 20000 in
theorem gX11_table_X9_leader : GoodIn wsX11_table (wsV RX11 141 RX9 yX9_leader wsX9_leader) := goodIn_app (goodIn_of _ (by decide +kernel)) ggX11_table_X9_leader
theorem dX11_table_0 : decode cX11_table 0 = .ok (.iload_n 1, 1) := by decide +kernel
theorem dX11_table_1 : decode cX11_table 1 = .ok (.iconst 0, 1) := by decide +kernel
theorem dX11_table_2 : decode cX11_table 2 = .ok (.iconst 3, 1) := by decide +kernel
theorem dX11_table_3 : decode cX11_table 3 = .ok (.invokestatic 84, 3) := by decide +kernel
theorem dX11_table_6 : decode cX11_table 6 = .ok (.ifCond .ne 6, 3) := by decide +kernel
theorem dX11_table_9 : decode cX11_table 9 = .ok (.bipush (-2), 2) := by decide +kernel
theorem dX11_table_11 : decode cX11_table 11 = .ok (.ireturn, 1) := by decide +kernel
theorem dX11_table_12 : decode cX11_table 12 = .ok (.aload_n 0, 1) := by decide +kernel
theorem dX11_table_13 : decode cX11_table 13 = .ok (.getfield 26, 3) := by decide +kernel
theorem dX11_table_16 : decode cX11_table 16 = .ok (.aload_n 0, 1) := by decide +kernel
theorem dX11_table_17 : decode cX11_table 17 = .ok (.getfield 19, 3) := by decide +kernel
theorem dX11_table_20 : decode cX11_table 20 = .ok (.aload_n 0, 1) := by decide +kernel
theorem dX11_table_21 : decode cX11_table 21 = .ok (.getfield 10, 3) := by decide +kernel
theorem dX11_table_24 : decode cX11_table 24 = .ok (.invokevirtual 115, 3) := by decide +kernel
theorem dX11_table_27 : decode cX11_table 27 = .ok (.istore_n 2, 1) := by decide +kernel
theorem dX11_table_28 : decode cX11_table 28 = .ok (.iload_n 2, 1) := by decide +kernel
theorem dX11_table_29 : decode cX11_table 29 = .ok (.ifCond .eq 5, 3) := by decide +kernel
theorem dX11_table_32 : decode cX11_table 32 = .ok (.iload_n 2, 1) := by decide +kernel
theorem dX11_table_33 : decode cX11_table 33 = .ok (.ireturn, 1) := by decide +kernel
theorem dX11_table_34 : decode cX11_table 34 = .ok (.iload_n 1, 1) := by decide +kernel
theorem dX11_table_35 : decode cX11_table 35 = .ok (.tableswitch 58 0 2 #[25, 36, 47], 25) := by decide +kernel
theorem dX11_table_60 : decode cX11_table 60 = .ok (.aload_n 0, 1) := by decide +kernel
theorem dX11_table_61 : decode cX11_table 61 = .ok (.getfield 26, 3) := by decide +kernel
theorem dX11_table_64 : decode cX11_table 64 = .ok (.getfield 128, 3) := by decide +kernel
theorem dX11_table_67 : decode cX11_table 67 = .ok (.getfield 98, 3) := by decide +kernel
theorem dX11_table_70 : decode cX11_table 70 = .ok (.ireturn, 1) := by decide +kernel
theorem dX11_table_71 : decode cX11_table 71 = .ok (.aload_n 0, 1) := by decide +kernel
theorem dX11_table_72 : decode cX11_table 72 = .ok (.getfield 26, 3) := by decide +kernel
theorem dX11_table_75 : decode cX11_table 75 = .ok (.getfield 128, 3) := by decide +kernel
theorem dX11_table_78 : decode cX11_table 78 = .ok (.getfield 135, 3) := by decide +kernel
theorem dX11_table_81 : decode cX11_table 81 = .ok (.ireturn, 1) := by decide +kernel
theorem dX11_table_82 : decode cX11_table 82 = .ok (.aload_n 0, 1) := by decide +kernel
theorem dX11_table_83 : decode cX11_table 83 = .ok (.getfield 26, 3) := by decide +kernel
theorem dX11_table_86 : decode cX11_table 86 = .ok (.getfield 128, 3) := by decide +kernel
theorem dX11_table_89 : decode cX11_table 89 = .ok (.invokevirtual 138, 3) := by decide +kernel
theorem dX11_table_92 : decode cX11_table 92 = .ok (.ireturn, 1) := by decide +kernel
theorem dX11_table_93 : decode cX11_table 93 = .ok (.aload_n 0, 1) := by decide +kernel
theorem dX11_table_94 : decode cX11_table 94 = .ok (.getfield 26, 3) := by decide +kernel
theorem dX11_table_97 : decode cX11_table 97 = .ok (.getfield 128, 3) := by decide +kernel
theorem dX11_table_100 : decode cX11_table 100 = .ok (.invokevirtual 141, 3) := by decide +kernel
theorem dX11_table_103 : decode cX11_table 103 = .ok (.ireturn, 1) := by decide +kernel
set_option maxRecDepth 20000 in
theorem ggX11_first_X11_isWithin : GoodIn wsX11_first wsX11_isWithin := goodIn_r _ [7] (by decide +kernel) (by decide +kernel)
set_option maxRecDepth 20000 in
theorem gX11_first_X11_isWithin : GoodIn wsX11_first (va_wsS RX11 84 yX11_isWithin wsX11_isWithin) := goodIn_app (goodIn_of _ (by decide +kernel)) ggX11_first_X11_isWithin
set_option maxRecDepth 20000 in
theorem ggX11_first_X4_playText : GoodIn wsX11_first wsX4_playText := goodIn_r _ [12, 13, 14, 15, 16, 11, 17, 18, 19, 20, 21, 22, 23, 24, 25, 26, 27, 28, 29, 30, 31, 32, 33, 34, 35, 36, 37, 38, 39, 40, 41, 42, 43, 44, 45, 5, 6, 7, 46, 47, 48, 49, 50, 51, 52, 53, 54, 55, 56, 57, 58, 59, 60, 61, 62, 63, 64, 65, 66, 67, 68, 69, 70, 71, 72, 73, 74, 75, 76, 77, 78, 79, 80, 81, 82, 83, 84, 85, 86, 87, 88, 89, 90, 91, 92, 93, 94, 95, 96, 97, 98, 99, 100, 101, 102, 103, 104, 105, 106, 107, 108, 109, 110, 111, 112, 113, 130, 131, 124, 125, 126, 127, 128, 129, 132, 133, 134, 135, 136] (by decide +kernel) (by decide +kernel)
set_option maxRecDepth 20000 in
theorem gX11_first_X4_playText : GoodIn wsX11_first (wsV RX11 115 RX4 yX4_playText wsX4_playText) := goodIn_app (goodIn_of _ (by decide +kernel)) ggX11_first_X4_playText
theorem dX11_first_0 : decode cX11_first 0 = .ok (.iload_n 1, 1) := by decide +kernel
theorem dX11_first_1 : decode cX11_first 1 = .ok (.iconst 0, 1) := by decide +kernel
theorem dX11_first_2 : decode cX11_first 2 = .ok (.iconst 1, 1) := by decide +kernel
theorem dX11_first_3 : decode cX11_first 3 = .ok (.invokestatic 84, 3) := by decide +kernel
theorem dX11_first_6 : decode cX11_first 6 = .ok (.ifCond .ne 6, 3) := by decide +kernel
theorem dX11_first_9 : decode cX11_first 9 = .ok (.bipush (-2), 2) := by decide +kernel
theorem dX11_first_11 : decode cX11_first 11 = .ok (.ireturn, 1) := by decide +kernel
theorem dX11_first_12 : decode cX11_first 12 = .ok (.aload_n 0, 1) := by decide +kernel
theorem dX11_first_13 : decode cX11_first 13 = .ok (.getfield 26, 3) := by decide +kernel
theorem dX11_first_16 : decode cX11_first 16 = .ok (.aload_n 0, 1) := by decide +kernel
theorem dX11_first_17 : decode cX11_first 17 = .ok (.getfield 19, 3) := by decide +kernel
theorem dX11_first_20 : decode cX11_first 20 = .ok (.aload_n 0, 1) := by decide +kernel
theorem dX11_first_21 : decode cX11_first 21 = .ok (.getfield 10, 3) := by decide +kernel
theorem dX11_first_24 : decode cX11_first 24 = .ok (.invokevirtual 115, 3) := by decide +kernel
theorem dX11_first_27 : decode cX11_first 27 = .ok (.istore_n 2, 1) := by decide +kernel
theorem dX11_first_28 : decode cX11_first 28 = .ok (.iload_n 2, 1) := by decide +kernel
theorem dX11_first_29 : decode cX11_first 29 = .ok (.ifCond .eq 5, 3) := by decide +kernel
theorem dX11_first_32 : decode cX11_first 32 = .ok (.iload_n 2, 1) := by decide +kernel
theorem dX11_first_33 : decode cX11_first 33 = .ok (.ireturn, 1) := by decide +kernel
theorem dX11_first_34 : decode cX11_first 34 = .ok (.iload_n 1, 1) := by decide +kernel
theorem dX11_first_35 : decode cX11_first 35 = .ok (.ifCond .ne 13, 3) := by decide +kernel
theorem dX11_first_38 : decode cX11_first 38 = .ok (.aload_n 0, 1) := by decide +kernel
theorem dX11_first_39 : decode cX11_first 39 = .ok (.getfield 26, 3) := by decide +kernel
theorem dX11_first_42 : decode cX11_first 42 = .ok (.getfield 144, 3) := by decide +kernel
theorem dX11_first_45 : decode cX11_first 45 = .ok (.goto 10, 3) := by decide +kernel
theorem dX11_first_48 : decode cX11_first 48 = .ok (.aload_n 0, 1) := by decide +kernel
theorem dX11_first_49 : decode cX11_first 49 = .ok (.getfield 26, 3) := by decide +kernel
theorem dX11_first_52 : decode cX11_first 52 = .ok (.getfield 147, 3) := by decide +kernel
theorem dX11_first_55 : decode cX11_first 55 = .ok (.ireturn, 1) := by decide +kernel
set_option maxRecDepth 20000 in
theorem ggX11_done_X4_playText : GoodIn wsX11_done wsX4_playText := goodIn_r _ [8, 9, 10, 11, 12, 7, 13, 14, 15, 16, 17, 18, 19, 20, 21, 22, 23, 24, 25, 26, 27, 28, 29, 30, 31, 32, 33, 34, 35, 36, 37, 38, 39, 40, 41, 42, 43, 44, 45, 46, 47, 48, 49, 50, 51, 52, 53, 54, 55, 56, 57, 58, 59, 60, 61, 62, 63, 64, 65, 66, 67, 68, 69, 70, 71, 72, 73, 74, 75, 76, 77, 78, 79, 80, 81, 82, 83, 84, 85, 86, 87, 88, 89, 90, 91, 92, 93, 94, 95, 96, 97, 98, 99, 100, 101, 102, 103, 104, 105, 106, 107, 108, 109, 110, 111, 112, 134, 135, 128, 129, 130, 131, 132, 133, 136, 137, 138, 139, 140] (by decide +kernel) (by decide +kernel)
set_option maxRecDepth 20000 in
theorem gX11_done_X4_playText : GoodIn wsX11_done (wsV RX11 115 RX4 yX4_playText wsX4_playText) := goodIn_app (goodIn_of _ (by decide +kernel)) ggX11_done_X4_playText
set_option maxRecDepth 20000 in
theorem ggX11_done_X9_copyFrom : GoodIn wsX11_done wsX9_copyFrom := goodIn_r _ [23, 24, 25, 26, 27, 28, 136, 137, 138, 139, 140] (by decide +kernel) (by decide +kernel)
set_option maxRecDepth 20000 in
theorem gX11_done_X9_copyFrom : GoodIn wsX11_done (wsV RX11 150 RX9 yX9_copyFrom wsX9_copyFrom) := goodIn_app (goodIn_of _ (by decide +kernel)) ggX11_done_X9_copyFrom
set_option maxRecDepth 20000 in
theorem ggX11_done_X5_clear : GoodIn wsX11_done wsX5_clear := goodIn_r _ [117, 34, 134, 135] (by decide +kernel) (by decide +kernel)
set_option maxRecDepth 20000 in
theorem gX11_done_X5_clear : GoodIn wsX11_done (wsV RX11 108 RX5 yX5_clear wsX5_clear) := goodIn_app (goodIn_of _ (by decide +kernel)) ggX11_done_X5_clear
theorem dX11_done_0 : decode cX11_done 0 = .ok (.aload_n 0, 1) := by decide +kernel
theorem dX11_done_1 : decode cX11_done 1 = .ok (.getfield 26, 3) := by decide +kernel
theorem dX11_done_4 : decode cX11_done 4 = .ok (.aload_n 0, 1) := by decide +kernel
theorem dX11_done_5 : decode cX11_done 5 = .ok (.getfield 19, 3) := by decide +kernel
theorem dX11_done_8 : decode cX11_done 8 = .ok (.aload_n 0, 1) := by decide +kernel
theorem dX11_done_9 : decode cX11_done 9 = .ok (.getfield 10, 3) := by decide +kernel
theorem dX11_done_12 : decode cX11_done 12 = .ok (.invokevirtual 115, 3) := by decide +kernel
theorem dX11_done_15 : decode cX11_done 15 = .ok (.istore_n 1, 1) := by decide +kernel
theorem dX11_done_16 : decode cX11_done 16 = .ok (.iload_n 1, 1) := by decide +kernel
theorem dX11_done_17 : decode cX11_done 17 = .ok (.ifCond .eq 5, 3) := by decide +kernel
theorem dX11_done_20 : decode cX11_done 20 = .ok (.iload_n 1, 1) := by decide +kernel
theorem dX11_done_21 : decode cX11_done 21 = .ok (.ireturn, 1) := by decide +kernel
theorem dX11_done_22 : decode cX11_done 22 = .ok (.aload_n 0, 1) := by decide +kernel
theorem dX11_done_23 : decode cX11_done 23 = .ok (.getfield 10, 3) := by decide +kernel
theorem dX11_done_26 : decode cX11_done 26 = .ok (.aload_n 0, 1) := by decide +kernel
theorem dX11_done_27 : decode cX11_done 27 = .ok (.getfield 26, 3) := by decide +kernel
theorem dX11_done_30 : decode cX11_done 30 = .ok (.getfield 128, 3) := by decide +kernel
theorem dX11_done_33 : decode cX11_done 33 = .ok (.invokevirtual 150, 3) := by decide +kernel
theorem dX11_done_36 : decode cX11_done 36 = .ok (.aload_n 0, 1) := by decide +kernel
theorem dX11_done_37 : decode cX11_done 37 = .ok (.getfield 19, 3) := by decide +kernel
theorem dX11_done_40 : decode cX11_done 40 = .ok (.invokevirtual 108, 3) := by decide +kernel
theorem dX11_done_43 : decode cX11_done 43 = .ok (.pop, 1) := by decide +kernel
theorem dX11_done_44 : decode cX11_done 44 = .ok (.aload_n 0, 1) := by decide +kernel
theorem dX11_done_45 : decode cX11_done 45 = .ok (.getfield 26, 3) := by decide +kernel
theorem dX11_done_48 : decode cX11_done 48 = .ok (.getfield 122, 3) := by decide +kernel
theorem dX11_done_51 : decode cX11_done 51 = .ok (.ireturn, 1) := by decide +kernel
set_option maxRecDepth 20000 in
theorem ggX11_orders_X6_find : GoodIn wsX11_orders wsX6_find := goodIn_r _ [6, 7, 31, 32, 33, 34] (by decide +kernel) (by decide +kernel)
set_option maxRecDepth 20000 in
theorem gX11_orders_X6_find : GoodIn wsX11_orders (wsV RX11 154 RX6 yX6_find wsX6_find) := goodIn_app (goodIn_of _ (by decide +kernel)) ggX11_orders_X6_find
set_option maxRecDepth 20000 in
theorem ggX11_orders_X11_isWithin : GoodIn wsX11_orders wsX11_isWithin := goodIn_r _ [11] (by decide +kernel) (by decide +kernel)
set_option maxRecDepth 20000 in
theorem gX11_orders_X11_isWithin : GoodIn wsX11_orders (va_wsS RX11 84 yX11_isWithin wsX11_isWithin) := goodIn_app (goodIn_of _ (by decide +kernel)) ggX11_orders_X11_isWithin
set_option maxRecDepth 20000 in
theorem ggX11_orders_X6_leastThrow : GoodIn wsX11_orders wsX6_leastThrow := goodIn_r _ [15, 16, 17, 18, 5, 19, 20, 31, 32, 33, 34] (by decide +kernel) (by decide +kernel)
set_option maxRecDepth 20000 in
theorem gX11_orders_X6_leastThrow : GoodIn wsX11_orders (wsV RX11 160 RX6 yX6_leastThrow wsX6_leastThrow) := goodIn_app (goodIn_of _ (by decide +kernel)) ggX11_orders_X6_leastThrow
theorem dX11_orders_0 : decode cX11_orders 0 = .ok (.aload_n 0, 1) := by decide +kernel
theorem dX11_orders_1 : decode cX11_orders 1 = .ok (.getfield 33, 3) := by decide +kernel
theorem dX11_orders_4 : decode cX11_orders 4 = .ok (.iload_n 1, 1) := by decide +kernel
theorem dX11_orders_5 : decode cX11_orders 5 = .ok (.invokevirtual 154, 3) := by decide +kernel
theorem dX11_orders_8 : decode cX11_orders 8 = .ok (.istore_n 3, 1) := by decide +kernel
theorem dX11_orders_9 : decode cX11_orders 9 = .ok (.iload_n 3, 1) := by decide +kernel
theorem dX11_orders_10 : decode cX11_orders 10 = .ok (.bipush (-6), 2) := by decide +kernel
theorem dX11_orders_12 : decode cX11_orders 12 = .ok (.if_icmp .eq 12, 3) := by decide +kernel
theorem dX11_orders_15 : decode cX11_orders 15 = .ok (.iload_n 2, 1) := by decide +kernel
theorem dX11_orders_16 : decode cX11_orders 16 = .ok (.iconst 0, 1) := by decide +kernel
theorem dX11_orders_17 : decode cX11_orders 17 = .ok (.iconst 1, 1) := by decide +kernel
theorem dX11_orders_18 : decode cX11_orders 18 = .ok (.invokestatic 84, 3) := by decide +kernel
theorem dX11_orders_21 : decode cX11_orders 21 = .ok (.ifCond .ne 6, 3) := by decide +kernel
theorem dX11_orders_24 : decode cX11_orders 24 = .ok (.bipush (-2), 2) := by decide +kernel
theorem dX11_orders_26 : decode cX11_orders 26 = .ok (.ireturn, 1) := by decide +kernel
theorem dX11_orders_27 : decode cX11_orders 27 = .ok (.iload_n 2, 1) := by decide +kernel
theorem dX11_orders_28 : decode cX11_orders 28 = .ok (.ifCond .ne 15, 3) := by decide +kernel
theorem dX11_orders_31 : decode cX11_orders 31 = .ok (.aload_n 0, 1) := by decide +kernel
theorem dX11_orders_32 : decode cX11_orders 32 = .ok (.getfield 33, 3) := by decide +kernel
theorem dX11_orders_35 : decode cX11_orders 35 = .ok (.getfield 157, 3) := by decide +kernel
theorem dX11_orders_38 : decode cX11_orders 38 = .ok (.iload_n 3, 1) := by decide +kernel
theorem dX11_orders_39 : decode cX11_orders 39 = .ok (.iaload, 1) := by decide +kernel
theorem dX11_orders_40 : decode cX11_orders 40 = .ok (.goto 11, 3) := by decide +kernel
theorem dX11_orders_43 : decode cX11_orders 43 = .ok (.aload_n 0, 1) := by decide +kernel
theorem dX11_orders_44 : decode cX11_orders 44 = .ok (.getfield 33, 3) := by decide +kernel
theorem dX11_orders_47 : decode cX11_orders 47 = .ok (.iload_n 3, 1) := by decide +kernel
theorem dX11_orders_48 : decode cX11_orders 48 = .ok (.invokevirtual 160, 3) := by decide +kernel
theorem dX11_orders_51 : decode cX11_orders 51 = .ok (.ireturn, 1) := by decide +kernel
set_option maxRecDepth 20000 in
theorem ggX11_whole_X6_find : GoodIn wsX11_whole wsX6_find := goodIn_r _ [7, 8, 43, 44, 45, 46] (by decide +kernel) (by decide +kernel)
set_option maxRecDepth 20000 in
theorem gX11_whole_X6_find : GoodIn wsX11_whole (wsV RX11 154 RX6 yX6_find wsX6_find) := goodIn_app (goodIn_of _ (by decide +kernel)) ggX11_whole_X6_find
set_option maxRecDepth 20000 in
theorem ggX11_whole_X11_isWithin : GoodIn wsX11_whole wsX11_isWithin := goodIn_r _ [12] (by decide +kernel) (by decide +kernel)
set_option maxRecDepth 20000 in
theorem gX11_whole_X11_isWithin : GoodIn wsX11_whole (va_wsS RX11 84 yX11_isWithin wsX11_isWithin) := goodIn_app (goodIn_of _ (by decide +kernel)) ggX11_whole_X11_isWithin
set_option maxRecDepth 20000 in
theorem ggX11_whole_X6_waysToWhole : GoodIn wsX11_whole wsX6_waysToWhole := goodIn_r _ [16, 17, 18, 19, 20, 6, 21, 22, 23, 24, 25, 26, 43, 44, 45, 46] (by decide +kernel) (by decide +kernel)
set_option maxRecDepth 20000 in
theorem gX11_whole_X6_waysToWhole : GoodIn wsX11_whole (wsV RX11 165 RX6 yX6_waysToWhole wsX6_waysToWhole) := goodIn_app (goodIn_of _ (by decide +kernel)) ggX11_whole_X6_waysToWhole
set_option maxRecDepth 20000 in
theorem ggX11_whole_X11_lowestTerms : GoodIn wsX11_whole wsX11_lowestTerms := goodIn_r _ [29, 30, 31, 32] (by decide +kernel) (by decide +kernel)
set_option maxRecDepth 20000 in
theorem gX11_whole_X11_lowestTerms : GoodIn wsX11_whole (va_wsS RX11 169 yX11_lowestTerms wsX11_lowestTerms) := goodIn_app (goodIn_of _ (by decide +kernel)) ggX11_whole_X11_lowestTerms
theorem dX11_whole_0 : decode cX11_whole 0 = .ok (.aload_n 0, 1) := by decide +kernel
theorem dX11_whole_1 : decode cX11_whole 1 = .ok (.getfield 33, 3) := by decide +kernel
theorem dX11_whole_4 : decode cX11_whole 4 = .ok (.iload_n 1, 1) := by decide +kernel
theorem dX11_whole_5 : decode cX11_whole 5 = .ok (.invokevirtual 154, 3) := by decide +kernel
theorem dX11_whole_8 : decode cX11_whole 8 = .ok (.istore 4, 2) := by decide +kernel
theorem dX11_whole_10 : decode cX11_whole 10 = .ok (.iload 4, 2) := by decide +kernel
theorem dX11_whole_12 : decode cX11_whole 12 = .ok (.bipush (-6), 2) := by decide +kernel
theorem dX11_whole_14 : decode cX11_whole 14 = .ok (.if_icmp .eq 22, 3) := by decide +kernel
theorem dX11_whole_17 : decode cX11_whole 17 = .ok (.iload_n 2, 1) := by decide +kernel
theorem dX11_whole_18 : decode cX11_whole 18 = .ok (.iconst 0, 1) := by decide +kernel
theorem dX11_whole_19 : decode cX11_whole 19 = .ok (.bipush 24, 2) := by decide +kernel
theorem dX11_whole_21 : decode cX11_whole 21 = .ok (.invokestatic 84, 3) := by decide +kernel
theorem dX11_whole_24 : decode cX11_whole 24 = .ok (.ifCond .eq 12, 3) := by decide +kernel
theorem dX11_whole_27 : decode cX11_whole 27 = .ok (.iload_n 3, 1) := by decide +kernel
theorem dX11_whole_28 : decode cX11_whole 28 = .ok (.iconst 0, 1) := by decide +kernel
theorem dX11_whole_29 : decode cX11_whole 29 = .ok (.iconst 1, 1) := by decide +kernel
theorem dX11_whole_30 : decode cX11_whole 30 = .ok (.invokestatic 84, 3) := by decide +kernel
theorem dX11_whole_33 : decode cX11_whole 33 = .ok (.ifCond .ne 7, 3) := by decide +kernel
theorem dX11_whole_36 : decode cX11_whole 36 = .ok (.ldc2_w 163, 3) := by decide +kernel
theorem dX11_whole_39 : decode cX11_whole 39 = .ok (.lreturn, 1) := by decide +kernel
theorem dX11_whole_40 : decode cX11_whole 40 = .ok (.aload_n 0, 1) := by decide +kernel
theorem dX11_whole_41 : decode cX11_whole 41 = .ok (.getfield 33, 3) := by decide +kernel
theorem dX11_whole_44 : decode cX11_whole 44 = .ok (.iload 4, 2) := by decide +kernel
theorem dX11_whole_46 : decode cX11_whole 46 = .ok (.iload_n 2, 1) := by decide +kernel
theorem dX11_whole_47 : decode cX11_whole 47 = .ok (.invokevirtual 165, 3) := by decide +kernel
theorem dX11_whole_50 : decode cX11_whole 50 = .ok (.iload_n 2, 1) := by decide +kernel
theorem dX11_whole_51 : decode cX11_whole 51 = .ok (.iload_n 3, 1) := by decide +kernel
theorem dX11_whole_52 : decode cX11_whole 52 = .ok (.invokestatic 169, 3) := by decide +kernel
theorem dX11_whole_55 : decode cX11_whole 55 = .ok (.lreturn, 1) := by decide +kernel
set_option maxRecDepth 20000 in
theorem ggX11_sums_X11_isWithin : GoodIn wsX11_sums wsX11_isWithin := goodIn_r _ [6] (by decide +kernel) (by decide +kernel)
set_option maxRecDepth 20000 in
theorem gX11_sums_X11_isWithin : GoodIn wsX11_sums (va_wsS RX11 84 yX11_isWithin wsX11_isWithin) := goodIn_app (goodIn_of _ (by decide +kernel)) ggX11_sums_X11_isWithin
set_option maxRecDepth 20000 in
theorem ggX11_sums_X8_ways : GoodIn wsX11_sums wsX8_ways := goodIn_r _ [11, 12, 13, 14, 15, 10, 16, 27] (by decide +kernel) (by decide +kernel)
set_option maxRecDepth 20000 in
theorem gX11_sums_X8_ways : GoodIn wsX11_sums (wsV RX11 175 RX8 yX8_ways wsX8_ways) := goodIn_app (goodIn_of _ (by decide +kernel)) ggX11_sums_X8_ways
theorem dX11_sums_0 : decode cX11_sums 0 = .ok (.iload_n 1, 1) := by decide +kernel
theorem dX11_sums_1 : decode cX11_sums 1 = .ok (.iconst 1, 1) := by decide +kernel
theorem dX11_sums_2 : decode cX11_sums 2 = .ok (.bipush 12, 2) := by decide +kernel
theorem dX11_sums_4 : decode cX11_sums 4 = .ok (.invokestatic 84, 3) := by decide +kernel
theorem dX11_sums_7 : decode cX11_sums 7 = .ok (.ifCond .eq 13, 3) := by decide +kernel
theorem dX11_sums_10 : decode cX11_sums 10 = .ok (.iload_n 2, 1) := by decide +kernel
theorem dX11_sums_11 : decode cX11_sums 11 = .ok (.iconst 0, 1) := by decide +kernel
theorem dX11_sums_12 : decode cX11_sums 12 = .ok (.bipush 99, 2) := by decide +kernel
theorem dX11_sums_14 : decode cX11_sums 14 = .ok (.invokestatic 84, 3) := by decide +kernel
theorem dX11_sums_17 : decode cX11_sums 17 = .ok (.ifCond .ne 7, 3) := by decide +kernel
theorem dX11_sums_20 : decode cX11_sums 20 = .ok (.ldc2_w 173, 3) := by decide +kernel
theorem dX11_sums_23 : decode cX11_sums 23 = .ok (.lreturn, 1) := by decide +kernel
theorem dX11_sums_24 : decode cX11_sums 24 = .ok (.aload_n 0, 1) := by decide +kernel
theorem dX11_sums_25 : decode cX11_sums 25 = .ok (.getfield 40, 3) := by decide +kernel
theorem dX11_sums_28 : decode cX11_sums 28 = .ok (.iload_n 1, 1) := by decide +kernel
theorem dX11_sums_29 : decode cX11_sums 29 = .ok (.iload_n 2, 1) := by decide +kernel
theorem dX11_sums_30 : decode cX11_sums 30 = .ok (.invokevirtual 175, 3) := by decide +kernel
theorem dX11_sums_33 : decode cX11_sums 33 = .ok (.lreturn, 1) := by decide +kernel
set_option maxRecDepth 20000 in
theorem ggX11_roll_X1_canLie : GoodIn wsX11_roll wsX1_canLie := goodIn_r _ [4, 5, 6, 7] (by decide +kernel) (by decide +kernel)
set_option maxRecDepth 20000 in
theorem gX11_roll_X1_canLie : GoodIn wsX11_roll (va_wsS RX11 178 yX1_canLie wsX1_canLie) := goodIn_app (goodIn_of _ (by decide +kernel)) ggX11_roll_X1_canLie
set_option maxRecDepth 20000 in
theorem ggX11_roll_X1_isRow : GoodIn wsX11_roll wsX1_isRow := goodIn_r _ [10, 11, 5, 6, 7] (by decide +kernel) (by decide +kernel)
set_option maxRecDepth 20000 in
theorem gX11_roll_X1_isRow : GoodIn wsX11_roll (va_wsS RX11 183 yX1_isRow wsX1_isRow) := goodIn_app (goodIn_of _ (by decide +kernel)) ggX11_roll_X1_isRow
set_option maxRecDepth 20000 in
theorem ggX11_roll_X1_topAfter : GoodIn wsX11_roll wsX1_topAfter := goodIn_r _ [14, 15, 16, 3, 17, 18, 19, 20, 21, 22, 23, 24] (by decide +kernel) (by decide +kernel)
set_option maxRecDepth 20000 in
theorem gX11_roll_X1_topAfter : GoodIn wsX11_roll (va_wsS RX11 186 yX1_topAfter wsX1_topAfter) := goodIn_app (goodIn_of _ (by decide +kernel)) ggX11_roll_X1_topAfter
theorem dX11_roll_0 : decode cX11_roll 0 = .ok (.iload_n 1, 1) := by decide +kernel
theorem dX11_roll_1 : decode cX11_roll 1 = .ok (.invokestatic 178, 3) := by decide +kernel
theorem dX11_roll_4 : decode cX11_roll 4 = .ok (.ifCond .eq 10, 3) := by decide +kernel
theorem dX11_roll_7 : decode cX11_roll 7 = .ok (.iload_n 2, 1) := by decide +kernel
theorem dX11_roll_8 : decode cX11_roll 8 = .ok (.invokestatic 183, 3) := by decide +kernel
theorem dX11_roll_11 : decode cX11_roll 11 = .ok (.ifCond .ne 6, 3) := by decide +kernel
theorem dX11_roll_14 : decode cX11_roll 14 = .ok (.bipush (-2), 2) := by decide +kernel
theorem dX11_roll_16 : decode cX11_roll 16 = .ok (.ireturn, 1) := by decide +kernel
theorem dX11_roll_17 : decode cX11_roll 17 = .ok (.iload_n 1, 1) := by decide +kernel
theorem dX11_roll_18 : decode cX11_roll 18 = .ok (.iload_n 2, 1) := by decide +kernel
theorem dX11_roll_19 : decode cX11_roll 19 = .ok (.invokestatic 186, 3) := by decide +kernel
theorem dX11_roll_22 : decode cX11_roll 22 = .ok (.ireturn, 1) := by decide +kernel
set_option maxRecDepth 20000 in
theorem ggX11_shown_X1_isRow : GoodIn wsX11_shown wsX1_isRow := goodIn_r _ [5, 6, 7, 8, 9] (by decide +kernel) (by decide +kernel)
set_option maxRecDepth 20000 in
theorem gX11_shown_X1_isRow : GoodIn wsX11_shown (va_wsS RX11 183 yX1_isRow wsX1_isRow) := goodIn_app (goodIn_of _ (by decide +kernel)) ggX11_shown_X1_isRow
set_option maxRecDepth 20000 in
theorem ggX11_shown_X11_isWithin : GoodIn wsX11_shown wsX11_isWithin := goodIn_r _ [9] (by decide +kernel) (by decide +kernel)
set_option maxRecDepth 20000 in
theorem gX11_shown_X11_isWithin : GoodIn wsX11_shown (va_wsS RX11 84 yX11_isWithin wsX11_isWithin) := goodIn_app (goodIn_of _ (by decide +kernel)) ggX11_shown_X11_isWithin
set_option maxRecDepth 20000 in
theorem ggX11_shown_X7_add : GoodIn wsX11_shown wsX7_add := goodIn_r _ [15, 16, 17, 18, 29, 30, 31] (by decide +kernel) (by decide +kernel)
set_option maxRecDepth 20000 in
theorem gX11_shown_X7_add : GoodIn wsX11_shown (wsV RX11 190 RX7 yX7_add wsX7_add) := goodIn_app (goodIn_of _ (by decide +kernel)) ggX11_shown_X7_add
theorem dX11_shown_0 : decode cX11_shown 0 = .ok (.iload_n 1, 1) := by decide +kernel
theorem dX11_shown_1 : decode cX11_shown 1 = .ok (.invokestatic 183, 3) := by decide +kernel
theorem dX11_shown_4 : decode cX11_shown 4 = .ok (.ifCond .eq 13, 3) := by decide +kernel
theorem dX11_shown_7 : decode cX11_shown 7 = .ok (.iload_n 2, 1) := by decide +kernel
theorem dX11_shown_8 : decode cX11_shown 8 = .ok (.iconst 1, 1) := by decide +kernel
theorem dX11_shown_9 : decode cX11_shown 9 = .ok (.bipush 6, 2) := by decide +kernel
theorem dX11_shown_11 : decode cX11_shown 11 = .ok (.invokestatic 84, 3) := by decide +kernel
theorem dX11_shown_14 : decode cX11_shown 14 = .ok (.ifCond .ne 6, 3) := by decide +kernel
theorem dX11_shown_17 : decode cX11_shown 17 = .ok (.bipush (-2), 2) := by decide +kernel
theorem dX11_shown_19 : decode cX11_shown 19 = .ok (.ireturn, 1) := by decide +kernel
theorem dX11_shown_20 : decode cX11_shown 20 = .ok (.aload_n 0, 1) := by decide +kernel
theorem dX11_shown_21 : decode cX11_shown 21 = .ok (.getfield 47, 3) := by decide +kernel
theorem dX11_shown_24 : decode cX11_shown 24 = .ok (.iload_n 1, 1) := by decide +kernel
theorem dX11_shown_25 : decode cX11_shown 25 = .ok (.iload_n 2, 1) := by decide +kernel
theorem dX11_shown_26 : decode cX11_shown 26 = .ok (.invokevirtual 190, 3) := by decide +kernel
theorem dX11_shown_29 : decode cX11_shown 29 = .ok (.ifCond .eq 13, 3) := by decide +kernel
theorem dX11_shown_32 : decode cX11_shown 32 = .ok (.aload_n 0, 1) := by decide +kernel
theorem dX11_shown_33 : decode cX11_shown 33 = .ok (.getfield 47, 3) := by decide +kernel
theorem dX11_shown_36 : decode cX11_shown 36 = .ok (.getfield 193, 3) := by decide +kernel
theorem dX11_shown_39 : decode cX11_shown 39 = .ok (.goto 5, 3) := by decide +kernel
theorem dX11_shown_42 : decode cX11_shown 42 = .ok (.bipush (-4), 2) := by decide +kernel
theorem dX11_shown_44 : decode cX11_shown 44 = .ok (.ireturn, 1) := by decide +kernel
set_option maxRecDepth 20000 in
theorem ggX11_forget_X7_clear : GoodIn wsX11_forget wsX7_clear := goodIn_r _ [6, 7, 18, 19, 20] (by decide +kernel) (by decide +kernel)
set_option maxRecDepth 20000 in
theorem gX11_forget_X7_clear : GoodIn wsX11_forget (wsV RX11 194 RX7 yX7_clear wsX7_clear) := goodIn_app (goodIn_of _ (by decide +kernel)) ggX11_forget_X7_clear
theorem dX11_forget_0 : decode cX11_forget 0 = .ok (.aload_n 0, 1) := by decide +kernel
theorem dX11_forget_1 : decode cX11_forget 1 = .ok (.getfield 47, 3) := by decide +kernel
theorem dX11_forget_4 : decode cX11_forget 4 = .ok (.invokevirtual 194, 3) := by decide +kernel
theorem dX11_forget_7 : decode cX11_forget 7 = .ok (.ireturn, 1) := by decide +kernel
set_option maxRecDepth 20000 in
theorem ggX11_lies_X2_search : GoodIn wsX11_lies wsX2_search := goodIn_r _ [7, 8, 9, 10, 11, 12, 13, 14, 15, 16, 17, 18, 19, 20, 21, 22, 23, 24, 25, 26, 27, 28, 29, 30, 31, 32, 33, 34, 35, 36, 37, 49, 50, 51, 52, 53, 54] (by decide +kernel) (by decide +kernel)
set_option maxRecDepth 20000 in
theorem gX11_lies_X2_search : GoodIn wsX11_lies (wsV RX11 195 RX2 yX2_search wsX2_search) := goodIn_app (goodIn_of _ (by decide +kernel)) ggX11_lies_X2_search
set_option maxRecDepth 20000 in
theorem ggX11_lies_X11_isWithin : GoodIn wsX11_lies wsX11_isWithin := goodIn_r _ [16] (by decide +kernel) (by decide +kernel)
set_option maxRecDepth 20000 in
theorem gX11_lies_X11_isWithin : GoodIn wsX11_lies (va_wsS RX11 84 yX11_isWithin wsX11_isWithin) := goodIn_app (goodIn_of _ (by decide +kernel)) ggX11_lies_X11_isWithin
theorem dX11_lies_0 : decode cX11_lies 0 = .ok (.aload_n 0, 1) := by decide +kernel
theorem dX11_lies_1 : decode cX11_lies 1 = .ok (.getfield 54, 3) := by decide +kernel
theorem dX11_lies_4 : decode cX11_lies 4 = .ok (.aload_n 0, 1) := by decide +kernel
theorem dX11_lies_5 : decode cX11_lies 5 = .ok (.getfield 47, 3) := by decide +kernel
theorem dX11_lies_8 : decode cX11_lies 8 = .ok (.invokevirtual 195, 3) := by decide +kernel
theorem dX11_lies_11 : decode cX11_lies 11 = .ok (.iload_n 1, 1) := by decide +kernel
theorem dX11_lies_12 : decode cX11_lies 12 = .ok (.iconst (-1), 1) := by decide +kernel
theorem dX11_lies_13 : decode cX11_lies 13 = .ok (.if_icmp .ne 11, 3) := by decide +kernel
theorem dX11_lies_16 : decode cX11_lies 16 = .ok (.aload_n 0, 1) := by decide +kernel
theorem dX11_lies_17 : decode cX11_lies 17 = .ok (.getfield 54, 3) := by decide +kernel
theorem dX11_lies_20 : decode cX11_lies 20 = .ok (.getfield 199, 3) := by decide +kernel
theorem dX11_lies_23 : decode cX11_lies 23 = .ok (.ireturn, 1) := by decide +kernel
theorem dX11_lies_24 : decode cX11_lies 24 = .ok (.iload_n 1, 1) := by decide +kernel
theorem dX11_lies_25 : decode cX11_lies 25 = .ok (.iconst 0, 1) := by decide +kernel
theorem dX11_lies_26 : decode cX11_lies 26 = .ok (.aload_n 0, 1) := by decide +kernel
theorem dX11_lies_27 : decode cX11_lies 27 = .ok (.getfield 54, 3) := by decide +kernel
theorem dX11_lies_30 : decode cX11_lies 30 = .ok (.getfield 199, 3) := by decide +kernel
theorem dX11_lies_33 : decode cX11_lies 33 = .ok (.iconst 1, 1) := by decide +kernel
theorem dX11_lies_34 : decode cX11_lies 34 = .ok (.isub, 1) := by decide +kernel
theorem dX11_lies_35 : decode cX11_lies 35 = .ok (.invokestatic 84, 3) := by decide +kernel
theorem dX11_lies_38 : decode cX11_lies 38 = .ok (.ifCond .eq 15, 3) := by decide +kernel
theorem dX11_lies_41 : decode cX11_lies 41 = .ok (.aload_n 0, 1) := by decide +kernel
theorem dX11_lies_42 : decode cX11_lies 42 = .ok (.getfield 54, 3) := by decide +kernel
theorem dX11_lies_45 : decode cX11_lies 45 = .ok (.getfield 200, 3) := by decide +kernel
theorem dX11_lies_48 : decode cX11_lies 48 = .ok (.iload_n 1, 1) := by decide +kernel
theorem dX11_lies_49 : decode cX11_lies 49 = .ok (.iaload, 1) := by decide +kernel
theorem dX11_lies_50 : decode cX11_lies 50 = .ok (.goto 5, 3) := by decide +kernel
theorem dX11_lies_53 : decode cX11_lies 53 = .ok (.bipush (-6), 2) := by decide +kernel
theorem dX11_lies_55 : decode cX11_lies 55 = .ok (.ireturn, 1) := by decide +kernel
set_option maxRecDepth 20000 in
theorem ggX11_ask_X11_isWithin : GoodIn wsX11_ask wsX11_isWithin := goodIn_r _ [6] (by decide +kernel) (by decide +kernel)
set_option maxRecDepth 20000 in
theorem gX11_ask_X11_isWithin : GoodIn wsX11_ask (va_wsS RX11 84 yX11_isWithin wsX11_isWithin) := goodIn_app (goodIn_of _ (by decide +kernel)) ggX11_ask_X11_isWithin
set_option maxRecDepth 20000 in
theorem ggX11_ask_X2_search : GoodIn wsX11_ask wsX2_search := goodIn_r _ [11, 12, 13, 14, 15, 16, 17, 4, 5, 6, 18, 19, 20, 21, 22, 23, 24, 25, 26, 27, 28, 29, 30, 31, 32, 33, 34, 35, 36, 37, 38, 67, 68, 69, 70, 71, 72] (by decide +kernel) (by decide +kernel)
set_option maxRecDepth 20000 in
theorem gX11_ask_X2_search : GoodIn wsX11_ask (wsV RX11 195 RX2 yX2_search wsX2_search) := goodIn_app (goodIn_of _ (by decide +kernel)) ggX11_ask_X2_search
set_option maxRecDepth 20000 in
theorem ggX11_ask_X2_bestRow : GoodIn wsX11_ask wsX2_bestRow := goodIn_r _ [42, 43, 44, 45, 10, 46, 47, 12, 13, 48, 49, 37, 50, 51, 27, 16, 28, 29, 30, 31, 32, 33, 34, 35, 36, 38, 4, 5, 6, 52, 53, 54, 55, 67, 68, 69] (by decide +kernel) (by decide +kernel)
set_option maxRecDepth 20000 in
theorem gX11_ask_X2_bestRow : GoodIn wsX11_ask (wsV RX11 203 RX2 yX2_bestRow wsX2_bestRow) := goodIn_app (goodIn_of _ (by decide +kernel)) ggX11_ask_X2_bestRow
set_option maxRecDepth 20000 in
theorem ggX11_ask_X2_mostLeft : GoodIn wsX11_ask wsX2_mostLeft := goodIn_r _ [46, 47, 12, 13, 48, 49, 37, 50, 51, 27, 16, 28, 29, 30, 31, 32, 33, 34, 35, 36, 38, 4, 5, 6, 67, 68, 69] (by decide +kernel) (by decide +kernel)
set_option maxRecDepth 20000 in
theorem gX11_ask_X2_mostLeft : GoodIn wsX11_ask (wsV RX11 206 RX2 yX2_mostLeft wsX2_mostLeft) := goodIn_app (goodIn_of _ (by decide +kernel)) ggX11_ask_X2_mostLeft
theorem dX11_ask_0 : decode cX11_ask 0 = .ok (.iload_n 1, 1) := by decide +kernel
theorem dX11_ask_1 : decode cX11_ask 1 = .ok (.iconst 0, 1) := by decide +kernel
theorem dX11_ask_2 : decode cX11_ask 2 = .ok (.iconst 1, 1) := by decide +kernel
theorem dX11_ask_3 : decode cX11_ask 3 = .ok (.invokestatic 84, 3) := by decide +kernel
theorem dX11_ask_6 : decode cX11_ask 6 = .ok (.ifCond .ne 6, 3) := by decide +kernel
theorem dX11_ask_9 : decode cX11_ask 9 = .ok (.bipush (-2), 2) := by decide +kernel
theorem dX11_ask_11 : decode cX11_ask 11 = .ok (.ireturn, 1) := by decide +kernel
theorem dX11_ask_12 : decode cX11_ask 12 = .ok (.aload_n 0, 1) := by decide +kernel
theorem dX11_ask_13 : decode cX11_ask 13 = .ok (.getfield 54, 3) := by decide +kernel
theorem dX11_ask_16 : decode cX11_ask 16 = .ok (.aload_n 0, 1) := by decide +kernel
theorem dX11_ask_17 : decode cX11_ask 17 = .ok (.getfield 47, 3) := by decide +kernel
theorem dX11_ask_20 : decode cX11_ask 20 = .ok (.invokevirtual 195, 3) := by decide +kernel
theorem dX11_ask_23 : decode cX11_ask 23 = .ok (.aload_n 0, 1) := by decide +kernel
theorem dX11_ask_24 : decode cX11_ask 24 = .ok (.getfield 54, 3) := by decide +kernel
theorem dX11_ask_27 : decode cX11_ask 27 = .ok (.getfield 199, 3) := by decide +kernel
theorem dX11_ask_30 : decode cX11_ask 30 = .ok (.ifCond .ne 6, 3) := by decide +kernel
theorem dX11_ask_33 : decode cX11_ask 33 = .ok (.bipush (-6), 2) := by decide +kernel
theorem dX11_ask_35 : decode cX11_ask 35 = .ok (.ireturn, 1) := by decide +kernel
theorem dX11_ask_36 : decode cX11_ask 36 = .ok (.aload_n 0, 1) := by decide +kernel
theorem dX11_ask_37 : decode cX11_ask 37 = .ok (.getfield 54, 3) := by decide +kernel
theorem dX11_ask_40 : decode cX11_ask 40 = .ok (.invokevirtual 203, 3) := by decide +kernel
theorem dX11_ask_43 : decode cX11_ask 43 = .ok (.istore_n 2, 1) := by decide +kernel
theorem dX11_ask_44 : decode cX11_ask 44 = .ok (.iload_n 1, 1) := by decide +kernel
theorem dX11_ask_45 : decode cX11_ask 45 = .ok (.ifCond .ne 7, 3) := by decide +kernel
theorem dX11_ask_48 : decode cX11_ask 48 = .ok (.iload_n 2, 1) := by decide +kernel
theorem dX11_ask_49 : decode cX11_ask 49 = .ok (.goto 11, 3) := by decide +kernel
theorem dX11_ask_52 : decode cX11_ask 52 = .ok (.aload_n 0, 1) := by decide +kernel
theorem dX11_ask_53 : decode cX11_ask 53 = .ok (.getfield 54, 3) := by decide +kernel
theorem dX11_ask_56 : decode cX11_ask 56 = .ok (.iload_n 2, 1) := by decide +kernel
theorem dX11_ask_57 : decode cX11_ask 57 = .ok (.invokevirtual 206, 3) := by decide +kernel
theorem dX11_ask_60 : decode cX11_ask 60 = .ok (.ireturn, 1) := by decide +kernel
set_option maxRecDepth 20000 in
theorem ggX11_turn_X11_isWithin : GoodIn wsX11_turn wsX11_isWithin := goodIn_r _ [5] (by decide +kernel) (by decide +kernel)
set_option maxRecDepth 20000 in
theorem gX11_turn_X11_isWithin : GoodIn wsX11_turn (va_wsS RX11 84 yX11_isWithin wsX11_isWithin) := goodIn_app (goodIn_of _ (by decide +kernel)) ggX11_turn_X11_isWithin
set_option maxRecDepth 20000 in
theorem ggX11_turn_X10_winningTurn : GoodIn wsX11_turn wsX10_winningTurn := goodIn_r _ [10, 11, 22] (by decide +kernel) (by decide +kernel)
set_option maxRecDepth 20000 in
theorem gX11_turn_X10_winningTurn : GoodIn wsX11_turn (wsV RX11 209 RX10 yX10_winningTurn wsX10_winningTurn) := goodIn_app (goodIn_of _ (by decide +kernel)) ggX11_turn_X10_winningTurn
theorem dX11_turn_0 : decode cX11_turn 0 = .ok (.iload_n 1, 1) := by decide +kernel
theorem dX11_turn_1 : decode cX11_turn 1 = .ok (.iconst 0, 1) := by decide +kernel
theorem dX11_turn_2 : decode cX11_turn 2 = .ok (.bipush 99, 2) := by decide +kernel
theorem dX11_turn_4 : decode cX11_turn 4 = .ok (.invokestatic 84, 3) := by decide +kernel
theorem dX11_turn_7 : decode cX11_turn 7 = .ok (.ifCond .eq 22, 3) := by decide +kernel
theorem dX11_turn_10 : decode cX11_turn 10 = .ok (.iload_n 2, 1) := by decide +kernel
theorem dX11_turn_11 : decode cX11_turn 11 = .ok (.iconst 1, 1) := by decide +kernel
theorem dX11_turn_12 : decode cX11_turn 12 = .ok (.bipush 6, 2) := by decide +kernel
theorem dX11_turn_14 : decode cX11_turn 14 = .ok (.invokestatic 84, 3) := by decide +kernel
theorem dX11_turn_17 : decode cX11_turn 17 = .ok (.ifCond .eq 12, 3) := by decide +kernel
theorem dX11_turn_20 : decode cX11_turn 20 = .ok (.iload_n 3, 1) := by decide +kernel
theorem dX11_turn_21 : decode cX11_turn 21 = .ok (.iconst 0, 1) := by decide +kernel
theorem dX11_turn_22 : decode cX11_turn 22 = .ok (.iconst 1, 1) := by decide +kernel
theorem dX11_turn_23 : decode cX11_turn 23 = .ok (.invokestatic 84, 3) := by decide +kernel
theorem dX11_turn_26 : decode cX11_turn 26 = .ok (.ifCond .ne 6, 3) := by decide +kernel
theorem dX11_turn_29 : decode cX11_turn 29 = .ok (.bipush (-2), 2) := by decide +kernel
theorem dX11_turn_31 : decode cX11_turn 31 = .ok (.ireturn, 1) := by decide +kernel
theorem dX11_turn_32 : decode cX11_turn 32 = .ok (.aload_n 0, 1) := by decide +kernel
theorem dX11_turn_33 : decode cX11_turn 33 = .ok (.getfield 61, 3) := by decide +kernel
theorem dX11_turn_36 : decode cX11_turn 36 = .ok (.iload_n 1, 1) := by decide +kernel
theorem dX11_turn_37 : decode cX11_turn 37 = .ok (.iload_n 2, 1) := by decide +kernel
theorem dX11_turn_38 : decode cX11_turn 38 = .ok (.invokevirtual 209, 3) := by decide +kernel
theorem dX11_turn_41 : decode cX11_turn 41 = .ok (.istore 4, 2) := by decide +kernel
theorem dX11_turn_43 : decode cX11_turn 43 = .ok (.iload_n 3, 1) := by decide +kernel
theorem dX11_turn_44 : decode cX11_turn 44 = .ok (.iconst 1, 1) := by decide +kernel
theorem dX11_turn_45 : decode cX11_turn 45 = .ok (.if_icmp .ne 6, 3) := by decide +kernel
theorem dX11_turn_48 : decode cX11_turn 48 = .ok (.iload 4, 2) := by decide +kernel
theorem dX11_turn_50 : decode cX11_turn 50 = .ok (.ireturn, 1) := by decide +kernel
theorem dX11_turn_51 : decode cX11_turn 51 = .ok (.iload 4, 2) := by decide +kernel
theorem dX11_turn_53 : decode cX11_turn 53 = .ok (.bipush (-6), 2) := by decide +kernel
theorem dX11_turn_55 : decode cX11_turn 55 = .ok (.if_icmp .ne 7, 3) := by decide +kernel
theorem dX11_turn_58 : decode cX11_turn 58 = .ok (.iconst 0, 1) := by decide +kernel
theorem dX11_turn_59 : decode cX11_turn 59 = .ok (.goto 4, 3) := by decide +kernel
theorem dX11_turn_62 : decode cX11_turn 62 = .ok (.iconst 1, 1) := by decide +kernel
theorem dX11_turn_63 : decode cX11_turn 63 = .ok (.ireturn, 1) := by decide +kernel
set_option maxRecDepth 20000 in
theorem ggX11_year_X11_isWithin : GoodIn wsX11_year wsX11_isWithin := goodIn_r _ [6] (by decide +kernel) (by decide +kernel)
set_option maxRecDepth 20000 in
theorem gX11_year_X11_isWithin : GoodIn wsX11_year (va_wsS RX11 84 yX11_isWithin wsX11_isWithin) := goodIn_app (goodIn_of _ (by decide +kernel)) ggX11_year_X11_isWithin
set_option maxRecDepth 20000 in
theorem ggX11_year_X4_playYear : GoodIn wsX11_year wsX4_playYear := goodIn_r _ [11, 12, 13, 14, 15, 10, 16, 17, 18, 19, 20, 21, 22, 23, 24, 25, 26, 27, 28, 29, 30, 31, 32, 33, 34, 35, 36, 37, 38, 39, 40, 41, 42, 43, 44, 45, 46, 4, 5, 6, 47, 48, 49, 50, 51, 52, 53, 54, 55, 56, 57, 58, 59, 60, 61, 62, 63, 64, 65, 66, 67, 68, 69, 70, 71, 72, 73, 74, 75, 76, 77, 78, 79, 80, 81, 82, 83, 84, 85, 86, 87, 88, 89, 90, 91, 92, 93, 94, 95, 96, 97, 98, 99, 100, 101, 116, 117, 118, 119, 120, 121, 122, 123, 124, 125, 126] (by decide +kernel) (by decide +kernel)
set_option maxRecDepth 20000 in
theorem gX11_year_X4_playYear : GoodIn wsX11_year (wsV RX11 212 RX4 yX4_playYear wsX4_playYear) := goodIn_app (goodIn_of _ (by decide +kernel)) ggX11_year_X4_playYear
set_option maxRecDepth 20000 in
theorem ggX11_year_X9_allParts : GoodIn wsX11_year wsX9_allParts := goodIn_r _ [105, 28, 68, 69, 70, 71, 72, 73, 74, 75, 122, 123, 124, 125, 126] (by decide +kernel) (by decide +kernel)
set_option maxRecDepth 20000 in
theorem gX11_year_X9_allParts : GoodIn wsX11_year (wsV RX11 216 RX9 yX9_allParts wsX9_allParts) := goodIn_app (goodIn_of _ (by decide +kernel)) ggX11_year_X9_allParts
theorem dX11_year_0 : decode cX11_year 0 = .ok (.iload_n 1, 1) := by decide +kernel
theorem dX11_year_1 : decode cX11_year 1 = .ok (.iconst 0, 1) := by decide +kernel
theorem dX11_year_2 : decode cX11_year 2 = .ok (.sipush 9999, 3) := by decide +kernel
theorem dX11_year_5 : decode cX11_year 5 = .ok (.invokestatic 84, 3) := by decide +kernel
theorem dX11_year_8 : decode cX11_year 8 = .ok (.ifCond .eq 22, 3) := by decide +kernel
theorem dX11_year_11 : decode cX11_year 11 = .ok (.iload_n 2, 1) := by decide +kernel
theorem dX11_year_12 : decode cX11_year 12 = .ok (.iconst 1, 1) := by decide +kernel
theorem dX11_year_13 : decode cX11_year 13 = .ok (.bipush 99, 2) := by decide +kernel
theorem dX11_year_15 : decode cX11_year 15 = .ok (.invokestatic 84, 3) := by decide +kernel
theorem dX11_year_18 : decode cX11_year 18 = .ok (.ifCond .eq 12, 3) := by decide +kernel
theorem dX11_year_21 : decode cX11_year 21 = .ok (.iload_n 3, 1) := by decide +kernel
theorem dX11_year_22 : decode cX11_year 22 = .ok (.iconst 0, 1) := by decide +kernel
theorem dX11_year_23 : decode cX11_year 23 = .ok (.iconst 2, 1) := by decide +kernel
theorem dX11_year_24 : decode cX11_year 24 = .ok (.invokestatic 84, 3) := by decide +kernel
theorem dX11_year_27 : decode cX11_year 27 = .ok (.ifCond .ne 6, 3) := by decide +kernel
theorem dX11_year_30 : decode cX11_year 30 = .ok (.bipush (-2), 2) := by decide +kernel
theorem dX11_year_32 : decode cX11_year 32 = .ok (.ireturn, 1) := by decide +kernel
theorem dX11_year_33 : decode cX11_year 33 = .ok (.aload_n 0, 1) := by decide +kernel
theorem dX11_year_34 : decode cX11_year 34 = .ok (.getfield 26, 3) := by decide +kernel
theorem dX11_year_37 : decode cX11_year 37 = .ok (.iload_n 1, 1) := by decide +kernel
theorem dX11_year_38 : decode cX11_year 38 = .ok (.iload_n 2, 1) := by decide +kernel
theorem dX11_year_39 : decode cX11_year 39 = .ok (.aload_n 0, 1) := by decide +kernel
theorem dX11_year_40 : decode cX11_year 40 = .ok (.getfield 10, 3) := by decide +kernel
theorem dX11_year_43 : decode cX11_year 43 = .ok (.invokevirtual 212, 3) := by decide +kernel
theorem dX11_year_46 : decode cX11_year 46 = .ok (.iload_n 3, 1) := by decide +kernel
theorem dX11_year_47 : decode cX11_year 47 = .ok (.lookupswitch 47 #[(0, 25), (1, 36)], 25) := by decide +kernel
theorem dX11_year_72 : decode cX11_year 72 = .ok (.aload_n 0, 1) := by decide +kernel
theorem dX11_year_73 : decode cX11_year 73 = .ok (.getfield 26, 3) := by decide +kernel
theorem dX11_year_76 : decode cX11_year 76 = .ok (.getfield 128, 3) := by decide +kernel
theorem dX11_year_79 : decode cX11_year 79 = .ok (.getfield 98, 3) := by decide +kernel
theorem dX11_year_82 : decode cX11_year 82 = .ok (.ireturn, 1) := by decide +kernel
theorem dX11_year_83 : decode cX11_year 83 = .ok (.aload_n 0, 1) := by decide +kernel
theorem dX11_year_84 : decode cX11_year 84 = .ok (.getfield 26, 3) := by decide +kernel
theorem dX11_year_87 : decode cX11_year 87 = .ok (.getfield 128, 3) := by decide +kernel
theorem dX11_year_90 : decode cX11_year 90 = .ok (.invokevirtual 216, 3) := by decide +kernel
theorem dX11_year_93 : decode cX11_year 93 = .ok (.ireturn, 1) := by decide +kernel
theorem dX11_year_94 : decode cX11_year 94 = .ok (.aload_n 0, 1) := by decide +kernel
theorem dX11_year_95 : decode cX11_year 95 = .ok (.getfield 26, 3) := by decide +kernel
theorem dX11_year_98 : decode cX11_year 98 = .ok (.getfield 128, 3) := by decide +kernel
theorem dX11_year_101 : decode cX11_year 101 = .ok (.getfield 88, 3) := by decide +kernel
theorem dX11_year_104 : decode cX11_year 104 = .ok (.iconst 0, 1) := by decide +kernel
theorem dX11_year_105 : decode cX11_year 105 = .ok (.iaload, 1) := by decide +kernel
theorem dX11_year_106 : decode cX11_year 106 = .ok (.ireturn, 1) := by decide +kernel
set_option maxRecDepth 20000 in
theorem ggX11_image_X11_isWithin : GoodIn wsX11_image wsX11_isWithin := goodIn_r _ [6] (by decide +kernel) (by decide +kernel)
set_option maxRecDepth 20000 in
theorem gX11_image_X11_isWithin : GoodIn wsX11_image (va_wsS RX11 84 yX11_isWithin wsX11_isWithin) := goodIn_app (goodIn_of _ (by decide +kernel)) ggX11_image_X11_isWithin
set_option maxRecDepth 20000 in
theorem ggX11_image_X11_imageAt : GoodIn wsX11_image wsX11_imageAt := goodIn_r _ [10, 11, 12, 39, 40, 41, 42, 43, 44, 45, 46, 47, 48] (by decide +kernel) (by decide +kernel)
set_option maxRecDepth 20000 in
theorem gX11_image_X11_imageAt : GoodIn wsX11_image (wsV RX11 219 RX11 yX11_imageAt wsX11_imageAt) := goodIn_app (goodIn_of _ (by decide +kernel)) ggX11_image_X11_imageAt
set_option maxRecDepth 20000 in
theorem ggX11_image_X3_keep : GoodIn wsX11_image wsX3_keep := goodIn_r _ [17, 18, 19, 20, 21, 22, 23, 24, 25, 26, 27, 28, 29, 30, 31, 32, 33, 34, 35, 36, 37, 38, 49, 50, 51, 52, 53, 54, 55, 56, 57, 58, 59] (by decide +kernel) (by decide +kernel)
set_option maxRecDepth 20000 in
theorem gX11_image_X3_keep : GoodIn wsX11_image (wsV RX11 223 RX3 yX3_keep wsX3_keep) := goodIn_app (goodIn_of _ (by decide +kernel)) ggX11_image_X3_keep
theorem dX11_image_0 : decode cX11_image 0 = .ok (.iload_n 1, 1) := by decide +kernel
theorem dX11_image_1 : decode cX11_image 1 = .ok (.iconst 0, 1) := by decide +kernel
theorem dX11_image_2 : decode cX11_image 2 = .ok (.iconst 1, 1) := by decide +kernel
theorem dX11_image_3 : decode cX11_image 3 = .ok (.invokestatic 84, 3) := by decide +kernel
theorem dX11_image_6 : decode cX11_image 6 = .ok (.ifCond .ne 6, 3) := by decide +kernel
theorem dX11_image_9 : decode cX11_image 9 = .ok (.bipush (-2), 2) := by decide +kernel
theorem dX11_image_11 : decode cX11_image 11 = .ok (.ireturn, 1) := by decide +kernel
theorem dX11_image_12 : decode cX11_image 12 = .ok (.aload_n 0, 1) := by decide +kernel
theorem dX11_image_13 : decode cX11_image 13 = .ok (.iload_n 1, 1) := by decide +kernel
theorem dX11_image_14 : decode cX11_image 14 = .ok (.invokevirtual 219, 3) := by decide +kernel
theorem dX11_image_17 : decode cX11_image 17 = .ok (.aload_n 0, 1) := by decide +kernel
theorem dX11_image_18 : decode cX11_image 18 = .ok (.getfield 10, 3) := by decide +kernel
theorem dX11_image_21 : decode cX11_image 21 = .ok (.aload_n 0, 1) := by decide +kernel
theorem dX11_image_22 : decode cX11_image 22 = .ok (.getfield 47, 3) := by decide +kernel
theorem dX11_image_25 : decode cX11_image 25 = .ok (.invokevirtual 223, 3) := by decide +kernel
theorem dX11_image_28 : decode cX11_image 28 = .ok (.iconst 1, 1) := by decide +kernel
theorem dX11_image_29 : decode cX11_image 29 = .ok (.ireturn, 1) := by decide +kernel
set_option maxRecDepth 20000 in
theorem ggX11_restore_X11_isWithin : GoodIn wsX11_restore wsX11_isWithin := goodIn_r _ [6] (by decide +kernel) (by decide +kernel)
set_option maxRecDepth 20000 in
theorem gX11_restore_X11_isWithin : GoodIn wsX11_restore (va_wsS RX11 84 yX11_isWithin wsX11_isWithin) := goodIn_app (goodIn_of _ (by decide +kernel)) ggX11_restore_X11_isWithin
set_option maxRecDepth 20000 in
theorem ggX11_restore_X11_imageAt : GoodIn wsX11_restore wsX11_imageAt := goodIn_r _ [10, 11, 12, 34, 35, 36, 37, 38, 39, 40, 41, 42, 43] (by decide +kernel) (by decide +kernel)
set_option maxRecDepth 20000 in
theorem gX11_restore_X11_imageAt : GoodIn wsX11_restore (wsV RX11 219 RX11 yX11_imageAt wsX11_imageAt) := goodIn_app (goodIn_of _ (by decide +kernel)) ggX11_restore_X11_imageAt
set_option maxRecDepth 20000 in
theorem ggX11_restore_X9_copyFrom : GoodIn wsX11_restore wsX9_copyFrom := goodIn_r _ [17, 18, 19, 20, 21, 22, 44, 45, 46, 47, 48] (by decide +kernel) (by decide +kernel)
set_option maxRecDepth 20000 in
theorem gX11_restore_X9_copyFrom : GoodIn wsX11_restore (wsV RX11 150 RX9 yX9_copyFrom wsX9_copyFrom) := goodIn_app (goodIn_of _ (by decide +kernel)) ggX11_restore_X9_copyFrom
set_option maxRecDepth 20000 in
theorem ggX11_restore_X7_copyFrom : GoodIn wsX11_restore wsX7_copyFrom := goodIn_r _ [27, 28, 29, 30, 49, 50, 51] (by decide +kernel) (by decide +kernel)
set_option maxRecDepth 20000 in
theorem gX11_restore_X7_copyFrom : GoodIn wsX11_restore (wsV RX11 233 RX7 yX7_copyFrom wsX7_copyFrom) := goodIn_app (goodIn_of _ (by decide +kernel)) ggX11_restore_X7_copyFrom
theorem dX11_restore_0 : decode cX11_restore 0 = .ok (.iload_n 1, 1) := by decide +kernel
theorem dX11_restore_1 : decode cX11_restore 1 = .ok (.iconst 0, 1) := by decide +kernel
theorem dX11_restore_2 : decode cX11_restore 2 = .ok (.iconst 1, 1) := by decide +kernel
theorem dX11_restore_3 : decode cX11_restore 3 = .ok (.invokestatic 84, 3) := by decide +kernel
theorem dX11_restore_6 : decode cX11_restore 6 = .ok (.ifCond .ne 6, 3) := by decide +kernel
theorem dX11_restore_9 : decode cX11_restore 9 = .ok (.bipush (-2), 2) := by decide +kernel
theorem dX11_restore_11 : decode cX11_restore 11 = .ok (.ireturn, 1) := by decide +kernel
theorem dX11_restore_12 : decode cX11_restore 12 = .ok (.aload_n 0, 1) := by decide +kernel
theorem dX11_restore_13 : decode cX11_restore 13 = .ok (.iload_n 1, 1) := by decide +kernel
theorem dX11_restore_14 : decode cX11_restore 14 = .ok (.invokevirtual 219, 3) := by decide +kernel
theorem dX11_restore_17 : decode cX11_restore 17 = .ok (.astore_n 2, 1) := by decide +kernel
theorem dX11_restore_18 : decode cX11_restore 18 = .ok (.aload_n 2, 1) := by decide +kernel
theorem dX11_restore_19 : decode cX11_restore 19 = .ok (.getfield 227, 3) := by decide +kernel
theorem dX11_restore_22 : decode cX11_restore 22 = .ok (.ifCond .ne 6, 3) := by decide +kernel
theorem dX11_restore_25 : decode cX11_restore 25 = .ok (.bipush (-3), 2) := by decide +kernel
theorem dX11_restore_27 : decode cX11_restore 27 = .ok (.ireturn, 1) := by decide +kernel
theorem dX11_restore_28 : decode cX11_restore 28 = .ok (.aload_n 0, 1) := by decide +kernel
theorem dX11_restore_29 : decode cX11_restore 29 = .ok (.getfield 10, 3) := by decide +kernel
theorem dX11_restore_32 : decode cX11_restore 32 = .ok (.aload_n 2, 1) := by decide +kernel
theorem dX11_restore_33 : decode cX11_restore 33 = .ok (.getfield 231, 3) := by decide +kernel
theorem dX11_restore_36 : decode cX11_restore 36 = .ok (.invokevirtual 150, 3) := by decide +kernel
theorem dX11_restore_39 : decode cX11_restore 39 = .ok (.aload_n 0, 1) := by decide +kernel
theorem dX11_restore_40 : decode cX11_restore 40 = .ok (.getfield 47, 3) := by decide +kernel
theorem dX11_restore_43 : decode cX11_restore 43 = .ok (.aload_n 2, 1) := by decide +kernel
theorem dX11_restore_44 : decode cX11_restore 44 = .ok (.getfield 232, 3) := by decide +kernel
theorem dX11_restore_47 : decode cX11_restore 47 = .ok (.invokevirtual 233, 3) := by decide +kernel
theorem dX11_restore_50 : decode cX11_restore 50 = .ok (.iconst 1, 1) := by decide +kernel
theorem dX11_restore_51 : decode cX11_restore 51 = .ok (.ireturn, 1) := by decide +kernel
set_option maxRecDepth 20000 in
theorem ggX11_told_X11_toldOfAll : GoodIn wsX11_told wsX11_toldOfAll := goodIn_r _ [5, 6, 7, 8, 25, 26, 27, 28, 29, 30, 31, 32, 33, 34, 35, 36, 37, 38, 39, 40, 41, 42, 43, 44] (by decide +kernel) (by decide +kernel)
set_option maxRecDepth 20000 in
theorem gX11_told_X11_toldOfAll : GoodIn wsX11_told (wsV RX11 235 RX11 yX11_toldOfAll wsX11_toldOfAll) := goodIn_app (goodIn_of _ (by decide +kernel)) ggX11_told_X11_toldOfAll
set_option maxRecDepth 20000 in
theorem ggX11_told_X11_toldOfPlayer : GoodIn wsX11_told wsX11_toldOfPlayer := goodIn_r _ [12, 7, 13, 14, 4, 15, 16, 17, 18, 19, 20, 21, 22, 23, 24, 25, 26, 27, 28, 29, 30, 31, 32, 33, 34, 37, 38, 39, 40, 41] (by decide +kernel) (by decide +kernel)
set_option maxRecDepth 20000 in
theorem gX11_told_X11_toldOfPlayer : GoodIn wsX11_told (wsV RX11 238 RX11 yX11_toldOfPlayer wsX11_toldOfPlayer) := goodIn_app (goodIn_of _ (by decide +kernel)) ggX11_told_X11_toldOfPlayer
theorem dX11_told_0 : decode cX11_told 0 = .ok (.iload_n 1, 1) := by decide +kernel
theorem dX11_told_1 : decode cX11_told 1 = .ok (.ifCond .ge 6, 3) := by decide +kernel
theorem dX11_told_4 : decode cX11_told 4 = .ok (.bipush (-2), 2) := by decide +kernel
theorem dX11_told_6 : decode cX11_told 6 = .ok (.ireturn, 1) := by decide +kernel
theorem dX11_told_7 : decode cX11_told 7 = .ok (.iload_n 1, 1) := by decide +kernel
theorem dX11_told_8 : decode cX11_told 8 = .ok (.bipush 10, 2) := by decide +kernel
theorem dX11_told_10 : decode cX11_told 10 = .ok (.if_icmp .ge 11, 3) := by decide +kernel
theorem dX11_told_13 : decode cX11_told 13 = .ok (.aload_n 0, 1) := by decide +kernel
theorem dX11_told_14 : decode cX11_told 14 = .ok (.iload_n 1, 1) := by decide +kernel
theorem dX11_told_15 : decode cX11_told 15 = .ok (.invokevirtual 235, 3) := by decide +kernel
theorem dX11_told_18 : decode cX11_told 18 = .ok (.goto 15, 3) := by decide +kernel
theorem dX11_told_21 : decode cX11_told 21 = .ok (.aload_n 0, 1) := by decide +kernel
theorem dX11_told_22 : decode cX11_told 22 = .ok (.iload_n 1, 1) := by decide +kernel
theorem dX11_told_23 : decode cX11_told 23 = .ok (.bipush 10, 2) := by decide +kernel
theorem dX11_told_25 : decode cX11_told 25 = .ok (.idiv, 1) := by decide +kernel
theorem dX11_told_26 : decode cX11_told 26 = .ok (.iload_n 1, 1) := by decide +kernel
theorem dX11_told_27 : decode cX11_told 27 = .ok (.bipush 10, 2) := by decide +kernel
theorem dX11_told_29 : decode cX11_told 29 = .ok (.irem, 1) := by decide +kernel
theorem dX11_told_30 : decode cX11_told 30 = .ok (.invokevirtual 238, 3) := by decide +kernel
theorem dX11_told_33 : decode cX11_told 33 = .ok (.ireturn, 1) := by decide +kernel
theorem dX11_toldOfAll_0 : decode cX11_toldOfAll 0 = .ok (.iload_n 1, 1) := by decide +kernel
theorem dX11_toldOfAll_1 : decode cX11_toldOfAll 1 = .ok (.tableswitch 63 0 3 #[31, 39, 47, 55], 31) := by decide +kernel
theorem dX11_toldOfAll_32 : decode cX11_toldOfAll 32 = .ok (.aload_n 0, 1) := by decide +kernel
theorem dX11_toldOfAll_33 : decode cX11_toldOfAll 33 = .ok (.getfield 19, 3) := by decide +kernel
theorem dX11_toldOfAll_36 : decode cX11_toldOfAll 36 = .ok (.getfield 105, 3) := by decide +kernel
theorem dX11_toldOfAll_39 : decode cX11_toldOfAll 39 = .ok (.ireturn, 1) := by decide +kernel
theorem dX11_toldOfAll_40 : decode cX11_toldOfAll 40 = .ok (.aload_n 0, 1) := by decide +kernel
theorem dX11_toldOfAll_41 : decode cX11_toldOfAll 41 = .ok (.getfield 10, 3) := by decide +kernel
theorem dX11_toldOfAll_44 : decode cX11_toldOfAll 44 = .ok (.getfield 98, 3) := by decide +kernel
theorem dX11_toldOfAll_47 : decode cX11_toldOfAll 47 = .ok (.ireturn, 1) := by decide +kernel
theorem dX11_toldOfAll_48 : decode cX11_toldOfAll 48 = .ok (.aload_n 0, 1) := by decide +kernel
theorem dX11_toldOfAll_49 : decode cX11_toldOfAll 49 = .ok (.getfield 10, 3) := by decide +kernel
theorem dX11_toldOfAll_52 : decode cX11_toldOfAll 52 = .ok (.getfield 135, 3) := by decide +kernel
theorem dX11_toldOfAll_55 : decode cX11_toldOfAll 55 = .ok (.ireturn, 1) := by decide +kernel
theorem dX11_toldOfAll_56 : decode cX11_toldOfAll 56 = .ok (.aload_n 0, 1) := by decide +kernel
theorem dX11_toldOfAll_57 : decode cX11_toldOfAll 57 = .ok (.getfield 47, 3) := by decide +kernel
theorem dX11_toldOfAll_60 : decode cX11_toldOfAll 60 = .ok (.getfield 193, 3) := by decide +kernel
theorem dX11_toldOfAll_63 : decode cX11_toldOfAll 63 = .ok (.ireturn, 1) := by decide +kernel
theorem dX11_toldOfAll_64 : decode cX11_toldOfAll 64 = .ok (.bipush (-2), 2) := by decide +kernel
theorem dX11_toldOfAll_66 : decode cX11_toldOfAll 66 = .ok (.ireturn, 1) := by decide +kernel
set_option maxRecDepth 20000 in
theorem ggX11_toldOfPlayer_X11_isPlayer : GoodIn wsX11_toldOfPlayer wsX11_isPlayer := goodIn_r _ [5, 6, 7, 4, 8] (by decide +kernel) (by decide +kernel)
set_option maxRecDepth 20000 in
theorem gX11_toldOfPlayer_X11_isPlayer : GoodIn wsX11_toldOfPlayer (va_wsS RX11 75 yX11_isPlayer wsX11_isPlayer) := goodIn_app (goodIn_of _ (by decide +kernel)) ggX11_toldOfPlayer_X11_isPlayer
set_option maxRecDepth 20000 in
theorem ggX11_toldOfPlayer_X9_isIn : GoodIn wsX11_toldOfPlayer wsX9_isIn := goodIn_r _ [13, 14, 25, 26, 27, 28, 29] (by decide +kernel) (by decide +kernel)
set_option maxRecDepth 20000 in
theorem gX11_toldOfPlayer_X9_isIn : GoodIn wsX11_toldOfPlayer (wsV RX11 95 RX9 yX9_isIn wsX9_isIn) := goodIn_app (goodIn_of _ (by decide +kernel)) ggX11_toldOfPlayer_X9_isIn
theorem dX11_toldOfPlayer_0 : decode cX11_toldOfPlayer 0 = .ok (.iload_n 2, 1) := by decide +kernel
theorem dX11_toldOfPlayer_1 : decode cX11_toldOfPlayer 1 = .ok (.invokestatic 75, 3) := by decide +kernel
theorem dX11_toldOfPlayer_4 : decode cX11_toldOfPlayer 4 = .ok (.ifCond .ne 6, 3) := by decide +kernel
theorem dX11_toldOfPlayer_7 : decode cX11_toldOfPlayer 7 = .ok (.bipush (-2), 2) := by decide +kernel
theorem dX11_toldOfPlayer_9 : decode cX11_toldOfPlayer 9 = .ok (.ireturn, 1) := by decide +kernel
theorem dX11_toldOfPlayer_10 : decode cX11_toldOfPlayer 10 = .ok (.iload_n 1, 1) := by decide +kernel
theorem dX11_toldOfPlayer_11 : decode cX11_toldOfPlayer 11 = .ok (.tableswitch 62 1 3 #[25, 35, 45], 25) := by decide +kernel
theorem dX11_toldOfPlayer_36 : decode cX11_toldOfPlayer 36 = .ok (.aload_n 0, 1) := by decide +kernel
theorem dX11_toldOfPlayer_37 : decode cX11_toldOfPlayer 37 = .ok (.getfield 10, 3) := by decide +kernel
theorem dX11_toldOfPlayer_40 : decode cX11_toldOfPlayer 40 = .ok (.getfield 92, 3) := by decide +kernel
theorem dX11_toldOfPlayer_43 : decode cX11_toldOfPlayer 43 = .ok (.iload_n 2, 1) := by decide +kernel
theorem dX11_toldOfPlayer_44 : decode cX11_toldOfPlayer 44 = .ok (.iaload, 1) := by decide +kernel
theorem dX11_toldOfPlayer_45 : decode cX11_toldOfPlayer 45 = .ok (.ireturn, 1) := by decide +kernel
theorem dX11_toldOfPlayer_46 : decode cX11_toldOfPlayer 46 = .ok (.aload_n 0, 1) := by decide +kernel
theorem dX11_toldOfPlayer_47 : decode cX11_toldOfPlayer 47 = .ok (.getfield 10, 3) := by decide +kernel
theorem dX11_toldOfPlayer_50 : decode cX11_toldOfPlayer 50 = .ok (.getfield 88, 3) := by decide +kernel
theorem dX11_toldOfPlayer_53 : decode cX11_toldOfPlayer 53 = .ok (.iload_n 2, 1) := by decide +kernel
theorem dX11_toldOfPlayer_54 : decode cX11_toldOfPlayer 54 = .ok (.iaload, 1) := by decide +kernel
theorem dX11_toldOfPlayer_55 : decode cX11_toldOfPlayer 55 = .ok (.ireturn, 1) := by decide +kernel
theorem dX11_toldOfPlayer_56 : decode cX11_toldOfPlayer 56 = .ok (.aload_n 0, 1) := by decide +kernel
theorem dX11_toldOfPlayer_57 : decode cX11_toldOfPlayer 57 = .ok (.getfield 10, 3) := by decide +kernel
theorem dX11_toldOfPlayer_60 : decode cX11_toldOfPlayer 60 = .ok (.iload_n 2, 1) := by decide +kernel
theorem dX11_toldOfPlayer_61 : decode cX11_toldOfPlayer 61 = .ok (.invokevirtual 95, 3) := by decide +kernel
theorem dX11_toldOfPlayer_64 : decode cX11_toldOfPlayer 64 = .ok (.ifCond .eq 7, 3) := by decide +kernel
theorem dX11_toldOfPlayer_67 : decode cX11_toldOfPlayer 67 = .ok (.iconst 1, 1) := by decide +kernel
theorem dX11_toldOfPlayer_68 : decode cX11_toldOfPlayer 68 = .ok (.goto 4, 3) := by decide +kernel
theorem dX11_toldOfPlayer_71 : decode cX11_toldOfPlayer 71 = .ok (.iconst 0, 1) := by decide +kernel
theorem dX11_toldOfPlayer_72 : decode cX11_toldOfPlayer 72 = .ok (.ireturn, 1) := by decide +kernel
theorem dX11_toldOfPlayer_73 : decode cX11_toldOfPlayer 73 = .ok (.bipush (-2), 2) := by decide +kernel
theorem dX11_toldOfPlayer_75 : decode cX11_toldOfPlayer 75 = .ok (.ireturn, 1) := by decide +kernel
theorem dX11_imageAt_0 : decode cX11_imageAt 0 = .ok (.iload_n 1, 1) := by decide +kernel
theorem dX11_imageAt_1 : decode cX11_imageAt 1 = .ok (.ifCond .ne 10, 3) := by decide +kernel
theorem dX11_imageAt_4 : decode cX11_imageAt 4 = .ok (.aload_n 0, 1) := by decide +kernel
theorem dX11_imageAt_5 : decode cX11_imageAt 5 = .ok (.getfield 68, 3) := by decide +kernel
theorem dX11_imageAt_8 : decode cX11_imageAt 8 = .ok (.goto 7, 3) := by decide +kernel
theorem dX11_imageAt_11 : decode cX11_imageAt 11 = .ok (.aload_n 0, 1) := by decide +kernel
theorem dX11_imageAt_12 : decode cX11_imageAt 12 = .ok (.getfield 72, 3) := by decide +kernel
theorem dX11_imageAt_15 : decode cX11_imageAt 15 = .ok (.areturn, 1) := by decide +kernel
theorem dX11_lowestTerms_0 : decode cX11_lowestTerms 0 = .ok (.lload_n 0, 1) := by decide +kernel
theorem dX11_lowestTerms_1 : decode cX11_lowestTerms 1 = .ok (.lstore 4, 2) := by decide +kernel
theorem dX11_lowestTerms_3 : decode cX11_lowestTerms 3 = .ok (.lconst 1, 1) := by decide +kernel
theorem dX11_lowestTerms_4 : decode cX11_lowestTerms 4 = .ok (.lstore 6, 2) := by decide +kernel
theorem dX11_lowestTerms_6 : decode cX11_lowestTerms 6 = .ok (.iconst 0, 1) := by decide +kernel
theorem dX11_lowestTerms_7 : decode cX11_lowestTerms 7 = .ok (.istore 8, 2) := by decide +kernel
theorem dX11_lowestTerms_9 : decode cX11_lowestTerms 9 = .ok (.iload 8, 2) := by decide +kernel
theorem dX11_lowestTerms_11 : decode cX11_lowestTerms 11 = .ok (.iload_n 2, 1) := by decide +kernel
theorem dX11_lowestTerms_12 : decode cX11_lowestTerms 12 = .ok (.if_icmp .ge 17, 3) := by decide +kernel
theorem dX11_lowestTerms_15 : decode cX11_lowestTerms 15 = .ok (.lload 6, 2) := by decide +kernel
theorem dX11_lowestTerms_17 : decode cX11_lowestTerms 17 = .ok (.ldc2_w 241, 3) := by decide +kernel
theorem dX11_lowestTerms_20 : decode cX11_lowestTerms 20 = .ok (.lmul, 1) := by decide +kernel
theorem dX11_lowestTerms_21 : decode cX11_lowestTerms 21 = .ok (.lstore 6, 2) := by decide +kernel
theorem dX11_lowestTerms_23 : decode cX11_lowestTerms 23 = .ok (.iinc 8 1, 3) := by decide +kernel
theorem dX11_lowestTerms_26 : decode cX11_lowestTerms 26 = .ok (.goto (-17), 3) := by decide +kernel
theorem dX11_lowestTerms_29 : decode cX11_lowestTerms 29 = .ok (.iconst 0, 1) := by decide +kernel
theorem dX11_lowestTerms_30 : decode cX11_lowestTerms 30 = .ok (.istore 8, 2) := by decide +kernel
theorem dX11_lowestTerms_32 : decode cX11_lowestTerms 32 = .ok (.iload 8, 2) := by decide +kernel
theorem dX11_lowestTerms_34 : decode cX11_lowestTerms 34 = .ok (.iload_n 2, 1) := by decide +kernel
theorem dX11_lowestTerms_35 : decode cX11_lowestTerms 35 = .ok (.if_icmp .ge 36, 3) := by decide +kernel
theorem dX11_lowestTerms_38 : decode cX11_lowestTerms 38 = .ok (.lload 4, 2) := by decide +kernel
theorem dX11_lowestTerms_40 : decode cX11_lowestTerms 40 = .ok (.ldc2_w 243, 3) := by decide +kernel
theorem dX11_lowestTerms_43 : decode cX11_lowestTerms 43 = .ok (.lrem, 1) := by decide +kernel
theorem dX11_lowestTerms_44 : decode cX11_lowestTerms 44 = .ok (.lconst 0, 1) := by decide +kernel
theorem dX11_lowestTerms_45 : decode cX11_lowestTerms 45 = .ok (.lcmp, 1) := by decide +kernel
theorem dX11_lowestTerms_46 : decode cX11_lowestTerms 46 = .ok (.ifCond .ne 25, 3) := by decide +kernel
theorem dX11_lowestTerms_49 : decode cX11_lowestTerms 49 = .ok (.lload 4, 2) := by decide +kernel
theorem dX11_lowestTerms_51 : decode cX11_lowestTerms 51 = .ok (.ldc2_w 243, 3) := by decide +kernel
theorem dX11_lowestTerms_54 : decode cX11_lowestTerms 54 = .ok (.ldiv, 1) := by decide +kernel
theorem dX11_lowestTerms_55 : decode cX11_lowestTerms 55 = .ok (.lstore 4, 2) := by decide +kernel
theorem dX11_lowestTerms_57 : decode cX11_lowestTerms 57 = .ok (.lload 6, 2) := by decide +kernel
theorem dX11_lowestTerms_59 : decode cX11_lowestTerms 59 = .ok (.ldc2_w 243, 3) := by decide +kernel
theorem dX11_lowestTerms_62 : decode cX11_lowestTerms 62 = .ok (.ldiv, 1) := by decide +kernel
theorem dX11_lowestTerms_63 : decode cX11_lowestTerms 63 = .ok (.lstore 6, 2) := by decide +kernel
theorem dX11_lowestTerms_65 : decode cX11_lowestTerms 65 = .ok (.iinc 8 1, 3) := by decide +kernel
theorem dX11_lowestTerms_68 : decode cX11_lowestTerms 68 = .ok (.goto (-36), 3) := by decide +kernel
theorem dX11_lowestTerms_71 : decode cX11_lowestTerms 71 = .ok (.iconst 0, 1) := by decide +kernel
theorem dX11_lowestTerms_72 : decode cX11_lowestTerms 72 = .ok (.istore 8, 2) := by decide +kernel
theorem dX11_lowestTerms_74 : decode cX11_lowestTerms 74 = .ok (.iload 8, 2) := by decide +kernel
theorem dX11_lowestTerms_76 : decode cX11_lowestTerms 76 = .ok (.iload_n 2, 1) := by decide +kernel
theorem dX11_lowestTerms_77 : decode cX11_lowestTerms 77 = .ok (.if_icmp .ge 36, 3) := by decide +kernel
theorem dX11_lowestTerms_80 : decode cX11_lowestTerms 80 = .ok (.lload 4, 2) := by decide +kernel
theorem dX11_lowestTerms_82 : decode cX11_lowestTerms 82 = .ok (.ldc2_w 245, 3) := by decide +kernel
theorem dX11_lowestTerms_85 : decode cX11_lowestTerms 85 = .ok (.lrem, 1) := by decide +kernel
theorem dX11_lowestTerms_86 : decode cX11_lowestTerms 86 = .ok (.lconst 0, 1) := by decide +kernel
theorem dX11_lowestTerms_87 : decode cX11_lowestTerms 87 = .ok (.lcmp, 1) := by decide +kernel
theorem dX11_lowestTerms_88 : decode cX11_lowestTerms 88 = .ok (.ifCond .ne 25, 3) := by decide +kernel
theorem dX11_lowestTerms_91 : decode cX11_lowestTerms 91 = .ok (.lload 4, 2) := by decide +kernel
theorem dX11_lowestTerms_93 : decode cX11_lowestTerms 93 = .ok (.ldc2_w 245, 3) := by decide +kernel
theorem dX11_lowestTerms_96 : decode cX11_lowestTerms 96 = .ok (.ldiv, 1) := by decide +kernel
theorem dX11_lowestTerms_97 : decode cX11_lowestTerms 97 = .ok (.lstore 4, 2) := by decide +kernel
theorem dX11_lowestTerms_99 : decode cX11_lowestTerms 99 = .ok (.lload 6, 2) := by decide +kernel
theorem dX11_lowestTerms_101 : decode cX11_lowestTerms 101 = .ok (.ldc2_w 245, 3) := by decide +kernel
theorem dX11_lowestTerms_104 : decode cX11_lowestTerms 104 = .ok (.ldiv, 1) := by decide +kernel
theorem dX11_lowestTerms_105 : decode cX11_lowestTerms 105 = .ok (.lstore 6, 2) := by decide +kernel
theorem dX11_lowestTerms_107 : decode cX11_lowestTerms 107 = .ok (.iinc 8 1, 3) := by decide +kernel
theorem dX11_lowestTerms_110 : decode cX11_lowestTerms 110 = .ok (.goto (-36), 3) := by decide +kernel
theorem dX11_lowestTerms_113 : decode cX11_lowestTerms 113 = .ok (.iload_n 3, 1) := by decide +kernel
theorem dX11_lowestTerms_114 : decode cX11_lowestTerms 114 = .ok (.ifCond .ne 8, 3) := by decide +kernel
theorem dX11_lowestTerms_117 : decode cX11_lowestTerms 117 = .ok (.lload 4, 2) := by decide +kernel
theorem dX11_lowestTerms_119 : decode cX11_lowestTerms 119 = .ok (.goto 5, 3) := by decide +kernel
theorem dX11_lowestTerms_122 : decode cX11_lowestTerms 122 = .ok (.lload 6, 2) := by decide +kernel
theorem dX11_lowestTerms_124 : decode cX11_lowestTerms 124 = .ok (.lreturn, 1) := by decide +kernel
theorem dX11_isWithin_0 : decode cX11_isWithin 0 = .ok (.iload_n 0, 1) := by decide +kernel
theorem dX11_isWithin_1 : decode cX11_isWithin 1 = .ok (.iload_n 1, 1) := by decide +kernel
theorem dX11_isWithin_2 : decode cX11_isWithin 2 = .ok (.if_icmp .lt 12, 3) := by decide +kernel
theorem dX11_isWithin_5 : decode cX11_isWithin 5 = .ok (.iload_n 0, 1) := by decide +kernel
theorem dX11_isWithin_6 : decode cX11_isWithin 6 = .ok (.iload_n 2, 1) := by decide +kernel
theorem dX11_isWithin_7 : decode cX11_isWithin 7 = .ok (.if_icmp .gt 7, 3) := by decide +kernel
theorem dX11_isWithin_10 : decode cX11_isWithin 10 = .ok (.iconst 1, 1) := by decide +kernel
theorem dX11_isWithin_11 : decode cX11_isWithin 11 = .ok (.goto 4, 3) := by decide +kernel
theorem dX11_isWithin_14 : decode cX11_isWithin 14 = .ok (.iconst 0, 1) := by decide +kernel
theorem dX11_isWithin_15 : decode cX11_isWithin 15 = .ok (.ireturn, 1) := by decide +kernel
set_option maxRecDepth 20000 in
theorem ggX11_isPlayer_X11_isWithin : GoodIn wsX11_isPlayer wsX11_isWithin := goodIn_r _ [4] (by decide +kernel) (by decide +kernel)
set_option maxRecDepth 20000 in
theorem gX11_isPlayer_X11_isWithin : GoodIn wsX11_isPlayer (va_wsS RX11 84 yX11_isWithin wsX11_isWithin) := goodIn_app (goodIn_of _ (by decide +kernel)) ggX11_isPlayer_X11_isWithin
theorem dX11_isPlayer_0 : decode cX11_isPlayer 0 = .ok (.iload_n 0, 1) := by decide +kernel
theorem dX11_isPlayer_1 : decode cX11_isPlayer 1 = .ok (.iconst 0, 1) := by decide +kernel
theorem dX11_isPlayer_2 : decode cX11_isPlayer 2 = .ok (.iconst 5, 1) := by decide +kernel
theorem dX11_isPlayer_3 : decode cX11_isPlayer 3 = .ok (.invokestatic 84, 3) := by decide +kernel
theorem dX11_isPlayer_6 : decode cX11_isPlayer 6 = .ok (.ireturn, 1) := by decide +kernel
end
section
theorem dX12_init_0 : decode cX12_init 0 = .ok (.aload_n 0, 1) := by decide +kernel
theorem dX12_init_1 : decode cX12_init 1 = .ok (.invokespecial 1, 3) := by decide +kernel
theorem dX12_init_4 : decode cX12_init 4 = .ok (.aload_n 0, 1) := by decide +kernel
theorem dX12_init_5 : decode cX12_init 5 = .ok (.bipush 6, 2) := by decide +kernel
theorem dX12_init_7 : decode cX12_init 7 = .ok (.newarray .int, 2) := by decide +kernel
theorem dX12_init_9 : decode cX12_init 9 = .ok (.putfield 7, 3) := by decide +kernel
theorem dX12_init_12 : decode cX12_init 12 = .ok (.aload_n 0, 1) := by decide +kernel
theorem dX12_init_13 : decode cX12_init 13 = .ok (.bipush 6, 2) := by decide +kernel
theorem dX12_init_15 : decode cX12_init 15 = .ok (.newarray .int, 2) := by decide +kernel
theorem dX12_init_17 : decode cX12_init 17 = .ok (.putfield 13, 3) := by decide +kernel
theorem dX12_init_20 : decode cX12_init 20 = .ok (.aload_n 0, 1) := by decide +kernel
theorem dX12_init_21 : decode cX12_init 21 = .ok (.bipush 6, 2) := by decide +kernel
theorem dX12_init_23 : decode cX12_init 23 = .ok (.newarray .int, 2) := by decide +kernel
theorem dX12_init_25 : decode cX12_init 25 = .ok (.putfield 16, 3) := by decide +kernel
theorem dX12_init_28 : decode cX12_init 28 = .ok (.aload_n 0, 1) := by decide +kernel
theorem dX12_init_29 : decode cX12_init 29 = .ok (.bipush 6, 2) := by decide +kernel
theorem dX12_init_31 : decode cX12_init 31 = .ok (.newarray .int, 2) := by decide +kernel
theorem dX12_init_33 : decode cX12_init 33 = .ok (.putfield 19, 3) := by decide +kernel
theorem dX12_init_36 : decode cX12_init 36 = .ok (.aload_n 0, 1) := by decide +kernel
theorem dX12_init_37 : decode cX12_init 37 = .ok (.bipush 8, 2) := by decide +kernel
theorem dX12_init_39 : decode cX12_init 39 = .ok (.newarray .int, 2) := by decide +kernel
theorem dX12_init_41 : decode cX12_init 41 = .ok (.putfield 22, 3) := by decide +kernel
theorem dX12_init_44 : decode cX12_init 44 = .ok (.aload_n 0, 1) := by decide +kernel
theorem dX12_init_45 : decode cX12_init 45 = .ok (.bipush 8, 2) := by decide +kernel
theorem dX12_init_47 : decode cX12_init 47 = .ok (.newarray .int, 2) := by decide +kernel
theorem dX12_init_49 : decode cX12_init 49 = .ok (.putfield 25, 3) := by decide +kernel
theorem dX12_init_52 : decode cX12_init 52 = .ok (.aload_n 0, 1) := by decide +kernel
theorem dX12_init_53 : decode cX12_init 53 = .ok (.bipush 60, 2) := by decide +kernel
theorem dX12_init_55 : decode cX12_init 55 = .ok (.newarray .int, 2) := by decide +kernel
theorem dX12_init_57 : decode cX12_init 57 = .ok (.putfield 28, 3) := by decide +kernel
theorem dX12_init_60 : decode cX12_init 60 = .ok (.aload_n 0, 1) := by decide +kernel
theorem dX12_init_61 : decode cX12_init 61 = .ok (.bipush 60, 2) := by decide +kernel
theorem dX12_init_63 : decode cX12_init 63 = .ok (.newarray .int, 2) := by decide +kernel
theorem dX12_init_65 : decode cX12_init 65 = .ok (.putfield 31, 3) := by decide +kernel
theorem dX12_init_68 : decode cX12_init 68 = .ok (.aload_n 0, 1) := by decide +kernel
theorem dX12_init_69 : decode cX12_init 69 = .ok (.bipush 60, 2) := by decide +kernel
theorem dX12_init_71 : decode cX12_init 71 = .ok (.newarray .int, 2) := by decide +kernel
theorem dX12_init_73 : decode cX12_init 73 = .ok (.putfield 34, 3) := by decide +kernel
theorem dX12_init_76 : decode cX12_init 76 = .ok (.aload_n 0, 1) := by decide +kernel
theorem dX12_init_77 : decode cX12_init 77 = .ok (.bipush 20, 2) := by decide +kernel
theorem dX12_init_79 : decode cX12_init 79 = .ok (.newarray .int, 2) := by decide +kernel
theorem dX12_init_81 : decode cX12_init 81 = .ok (.putfield 37, 3) := by decide +kernel
theorem dX12_init_84 : decode cX12_init 84 = .ok (.aload_n 0, 1) := by decide +kernel
theorem dX12_init_85 : decode cX12_init 85 = .ok (.sipush 504, 3) := by decide +kernel
theorem dX12_init_88 : decode cX12_init 88 = .ok (.newarray .long, 2) := by decide +kernel
theorem dX12_init_90 : decode cX12_init 90 = .ok (.putfield 40, 3) := by decide +kernel
theorem dX12_init_93 : decode cX12_init 93 = .ok (.aload_n 0, 1) := by decide +kernel
theorem dX12_init_94 : decode cX12_init 94 = .ok (.sipush 504, 3) := by decide +kernel
theorem dX12_init_97 : decode cX12_init 97 = .ok (.newarray .long, 2) := by decide +kernel
theorem dX12_init_99 : decode cX12_init 99 = .ok (.putfield 44, 3) := by decide +kernel
theorem dX12_init_102 : decode cX12_init 102 = .ok (.aload_n 0, 1) := by decide +kernel
theorem dX12_init_103 : decode cX12_init 103 = .ok (.bipush 73, 2) := by decide +kernel
theorem dX12_init_105 : decode cX12_init 105 = .ok (.newarray .long, 2) := by decide +kernel
theorem dX12_init_107 : decode cX12_init 107 = .ok (.putfield 47, 3) := by decide +kernel
theorem dX12_init_110 : decode cX12_init 110 = .ok (.aload_n 0, 1) := by decide +kernel
theorem dX12_init_111 : decode cX12_init 111 = .ok (.bipush 7, 2) := by decide +kernel
theorem dX12_init_113 : decode cX12_init 113 = .ok (.newarray .int, 2) := by decide +kernel
theorem dX12_init_115 : decode cX12_init 115 = .ok (.putfield 50, 3) := by decide +kernel
theorem dX12_init_118 : decode cX12_init 118 = .ok (.aload_n 0, 1) := by decide +kernel
theorem dX12_init_119 : decode cX12_init 119 = .ok (.sipush 700, 3) := by decide +kernel
theorem dX12_init_122 : decode cX12_init 122 = .ok (.newarray .boolean, 2) := by decide +kernel
theorem dX12_init_124 : decode cX12_init 124 = .ok (.putfield 53, 3) := by decide +kernel
theorem dX12_init_127 : decode cX12_init 127 = .ok (.aload_n 0, 1) := by decide +kernel
theorem dX12_init_128 : decode cX12_init 128 = .ok (.sipush 160, 3) := by decide +kernel
theorem dX12_init_131 : decode cX12_init 131 = .ok (.newarray .int, 2) := by decide +kernel
theorem dX12_init_133 : decode cX12_init 133 = .ok (.putfield 57, 3) := by decide +kernel
theorem dX12_init_136 : decode cX12_init 136 = .ok (.aload_n 0, 1) := by decide +kernel
theorem dX12_init_137 : decode cX12_init 137 = .ok (.iconst 2, 1) := by decide +kernel
theorem dX12_init_138 : decode cX12_init 138 = .ok (.newarray .boolean, 2) := by decide +kernel
theorem dX12_init_140 : decode cX12_init 140 = .ok (.putfield 60, 3) := by decide +kernel
theorem dX12_init_143 : decode cX12_init 143 = .ok (.iconst 0, 1) := by decide +kernel
theorem dX12_init_144 : decode cX12_init 144 = .ok (.istore_n 1, 1) := by decide +kernel
theorem dX12_init_145 : decode cX12_init 145 = .ok (.iload_n 1, 1) := by decide +kernel
theorem dX12_init_146 : decode cX12_init 146 = .ok (.bipush 6, 2) := by decide +kernel
theorem dX12_init_148 : decode cX12_init 148 = .ok (.if_icmp .ge 16, 3) := by decide +kernel
theorem dX12_init_151 : decode cX12_init 151 = .ok (.aload_n 0, 1) := by decide +kernel
theorem dX12_init_152 : decode cX12_init 152 = .ok (.getfield 19, 3) := by decide +kernel
theorem dX12_init_155 : decode cX12_init 155 = .ok (.iload_n 1, 1) := by decide +kernel
theorem dX12_init_156 : decode cX12_init 156 = .ok (.iconst 1, 1) := by decide +kernel
theorem dX12_init_157 : decode cX12_init 157 = .ok (.iastore, 1) := by decide +kernel
theorem dX12_init_158 : decode cX12_init 158 = .ok (.iinc 1 1, 3) := by decide +kernel
theorem dX12_init_161 : decode cX12_init 161 = .ok (.goto (-16), 3) := by decide +kernel
theorem dX12_init_164 : decode cX12_init 164 = .ok (.aload_n 0, 1) := by decide +kernel
theorem dX12_init_165 : decode cX12_init 165 = .ok (.getfield 7, 3) := by decide +kernel
theorem dX12_init_168 : decode cX12_init 168 = .ok (.iconst 0, 1) := by decide +kernel
theorem dX12_init_169 : decode cX12_init 169 = .ok (.iconst 1, 1) := by decide +kernel
theorem dX12_init_170 : decode cX12_init 170 = .ok (.iastore, 1) := by decide +kernel
theorem dX12_init_171 : decode cX12_init 171 = .ok (.aload_n 0, 1) := by decide +kernel
theorem dX12_init_172 : decode cX12_init 172 = .ok (.getfield 7, 3) := by decide +kernel
theorem dX12_init_175 : decode cX12_init 175 = .ok (.iconst 1, 1) := by decide +kernel
theorem dX12_init_176 : decode cX12_init 176 = .ok (.iconst 1, 1) := by decide +kernel
theorem dX12_init_177 : decode cX12_init 177 = .ok (.iastore, 1) := by decide +kernel
theorem dX12_init_178 : decode cX12_init 178 = .ok (.aload_n 0, 1) := by decide +kernel
theorem dX12_init_179 : decode cX12_init 179 = .ok (.getfield 7, 3) := by decide +kernel
theorem dX12_init_182 : decode cX12_init 182 = .ok (.iconst 2, 1) := by decide +kernel
theorem dX12_init_183 : decode cX12_init 183 = .ok (.iconst 1, 1) := by decide +kernel
theorem dX12_init_184 : decode cX12_init 184 = .ok (.iastore, 1) := by decide +kernel
theorem dX12_init_185 : decode cX12_init 185 = .ok (.aload_n 0, 1) := by decide +kernel
theorem dX12_init_186 : decode cX12_init 186 = .ok (.getfield 7, 3) := by decide +kernel
theorem dX12_init_189 : decode cX12_init 189 = .ok (.iconst 3, 1) := by decide +kernel
theorem dX12_init_190 : decode cX12_init 190 = .ok (.bipush 6, 2) := by decide +kernel
theorem dX12_init_192 : decode cX12_init 192 = .ok (.iastore, 1) := by decide +kernel
theorem dX12_init_193 : decode cX12_init 193 = .ok (.aload_n 0, 1) := by decide +kernel
theorem dX12_init_194 : decode cX12_init 194 = .ok (.getfield 7, 3) := by decide +kernel
theorem dX12_init_197 : decode cX12_init 197 = .ok (.iconst 4, 1) := by decide +kernel
theorem dX12_init_198 : decode cX12_init 198 = .ok (.iconst 2, 1) := by decide +kernel
theorem dX12_init_199 : decode cX12_init 199 = .ok (.iastore, 1) := by decide +kernel
theorem dX12_init_200 : decode cX12_init 200 = .ok (.aload_n 0, 1) := by decide +kernel
theorem dX12_init_201 : decode cX12_init 201 = .ok (.getfield 7, 3) := by decide +kernel
theorem dX12_init_204 : decode cX12_init 204 = .ok (.iconst 5, 1) := by decide +kernel
theorem dX12_init_205 : decode cX12_init 205 = .ok (.iconst 2, 1) := by decide +kernel
theorem dX12_init_206 : decode cX12_init 206 = .ok (.iastore, 1) := by decide +kernel
theorem dX12_init_207 : decode cX12_init 207 = .ok (.return_, 1) := by decide +kernel
theorem dX12_in_0 : decode cX12_in 0 = .ok (.lload_n 0, 1) := by decide +kernel
theorem dX12_in_1 : decode cX12_in 1 = .ok (.lload_n 2, 1) := by decide +kernel
theorem dX12_in_2 : decode cX12_in 2 = .ok (.lcmp, 1) := by decide +kernel
theorem dX12_in_3 : decode cX12_in 3 = .ok (.ifCond .lt 14, 3) := by decide +kernel
theorem dX12_in_6 : decode cX12_in 6 = .ok (.lload_n 0, 1) := by decide +kernel
theorem dX12_in_7 : decode cX12_in 7 = .ok (.lload 4, 2) := by decide +kernel
theorem dX12_in_9 : decode cX12_in 9 = .ok (.lcmp, 1) := by decide +kernel
theorem dX12_in_10 : decode cX12_in 10 = .ok (.ifCond .gt 7, 3) := by decide +kernel
theorem dX12_in_13 : decode cX12_in 13 = .ok (.iconst 1, 1) := by decide +kernel
theorem dX12_in_14 : decode cX12_in 14 = .ok (.goto 4, 3) := by decide +kernel
theorem dX12_in_17 : decode cX12_in 17 = .ok (.iconst 0, 1) := by decide +kernel
theorem dX12_in_18 : decode cX12_in 18 = .ok (.ireturn, 1) := by decide +kernel
set_option maxRecDepth 20000 in
theorem ggX12_isPlayer_X12_in : GoodIn wsX12_isPlayer wsX12_in := goodIn_r _ [5] (by decide +kernel) (by decide +kernel)
set_option maxRecDepth 20000 in
theorem gX12_isPlayer_X12_in : GoodIn wsX12_isPlayer (va_wsS RX12 65 yX12_in wsX12_in) := goodIn_app (goodIn_of _ (by decide +kernel)) ggX12_isPlayer_X12_in
theorem dX12_isPlayer_0 : decode cX12_isPlayer 0 = .ok (.iload_n 0, 1) := by decide +kernel
theorem dX12_isPlayer_1 : decode cX12_isPlayer 1 = .ok (.i2l, 1) := by decide +kernel
theorem dX12_isPlayer_2 : decode cX12_isPlayer 2 = .ok (.lconst 0, 1) := by decide +kernel
theorem dX12_isPlayer_3 : decode cX12_isPlayer 3 = .ok (.ldc2_w 63, 3) := by decide +kernel
theorem dX12_isPlayer_6 : decode cX12_isPlayer 6 = .ok (.invokestatic 65, 3) := by decide +kernel
theorem dX12_isPlayer_9 : decode cX12_isPlayer 9 = .ok (.ireturn, 1) := by decide +kernel
theorem dX12_less_0 : decode cX12_less 0 = .ok (.iload_n 0, 1) := by decide +kernel
theorem dX12_less_1 : decode cX12_less 1 = .ok (.iload_n 1, 1) := by decide +kernel
theorem dX12_less_2 : decode cX12_less 2 = .ok (.if_icmp .ge 7, 3) := by decide +kernel
theorem dX12_less_5 : decode cX12_less 5 = .ok (.iload_n 0, 1) := by decide +kernel
theorem dX12_less_6 : decode cX12_less 6 = .ok (.goto 4, 3) := by decide +kernel
theorem dX12_less_9 : decode cX12_less 9 = .ok (.iload_n 1, 1) := by decide +kernel
theorem dX12_less_10 : decode cX12_less 10 = .ok (.ireturn, 1) := by decide +kernel
theorem dX12_tenTo_0 : decode cX12_tenTo 0 = .ok (.iconst 1, 1) := by decide +kernel
theorem dX12_tenTo_1 : decode cX12_tenTo 1 = .ok (.istore_n 1, 1) := by decide +kernel
theorem dX12_tenTo_2 : decode cX12_tenTo 2 = .ok (.iconst 0, 1) := by decide +kernel
theorem dX12_tenTo_3 : decode cX12_tenTo 3 = .ok (.istore_n 2, 1) := by decide +kernel
theorem dX12_tenTo_4 : decode cX12_tenTo 4 = .ok (.iload_n 2, 1) := by decide +kernel
theorem dX12_tenTo_5 : decode cX12_tenTo 5 = .ok (.iload_n 0, 1) := by decide +kernel
theorem dX12_tenTo_6 : decode cX12_tenTo 6 = .ok (.if_icmp .ge 14, 3) := by decide +kernel
theorem dX12_tenTo_9 : decode cX12_tenTo 9 = .ok (.iload_n 1, 1) := by decide +kernel
theorem dX12_tenTo_10 : decode cX12_tenTo 10 = .ok (.bipush 10, 2) := by decide +kernel
theorem dX12_tenTo_12 : decode cX12_tenTo 12 = .ok (.imul, 1) := by decide +kernel
theorem dX12_tenTo_13 : decode cX12_tenTo 13 = .ok (.istore_n 1, 1) := by decide +kernel
theorem dX12_tenTo_14 : decode cX12_tenTo 14 = .ok (.iinc 2 1, 3) := by decide +kernel
theorem dX12_tenTo_17 : decode cX12_tenTo 17 = .ok (.goto (-13), 3) := by decide +kernel
theorem dX12_tenTo_20 : decode cX12_tenTo 20 = .ok (.iload_n 1, 1) := by decide +kernel
theorem dX12_tenTo_21 : decode cX12_tenTo 21 = .ok (.ireturn, 1) := by decide +kernel
set_option maxRecDepth 20000 in
theorem ggX12_figureOf_X12_tenTo : GoodIn wsX12_figureOf wsX12_tenTo := goodIn_r _ [4] (by decide +kernel) (by decide +kernel)
set_option maxRecDepth 20000 in
theorem gX12_figureOf_X12_tenTo : GoodIn wsX12_figureOf (va_wsS RX12 69 yX12_tenTo wsX12_tenTo) := goodIn_app (goodIn_of _ (by decide +kernel)) ggX12_figureOf_X12_tenTo
theorem dX12_figureOf_0 : decode cX12_figureOf 0 = .ok (.iload_n 0, 1) := by decide +kernel
theorem dX12_figureOf_1 : decode cX12_figureOf 1 = .ok (.iconst 5, 1) := by decide +kernel
theorem dX12_figureOf_2 : decode cX12_figureOf 2 = .ok (.iload_n 1, 1) := by decide +kernel
theorem dX12_figureOf_3 : decode cX12_figureOf 3 = .ok (.isub, 1) := by decide +kernel
theorem dX12_figureOf_4 : decode cX12_figureOf 4 = .ok (.invokestatic 69, 3) := by decide +kernel
theorem dX12_figureOf_7 : decode cX12_figureOf 7 = .ok (.idiv, 1) := by decide +kernel
theorem dX12_figureOf_8 : decode cX12_figureOf 8 = .ok (.bipush 10, 2) := by decide +kernel
theorem dX12_figureOf_10 : decode cX12_figureOf 10 = .ok (.irem, 1) := by decide +kernel
theorem dX12_figureOf_11 : decode cX12_figureOf 11 = .ok (.ireturn, 1) := by decide +kernel
theorem dX12_needOf_0 : decode cX12_needOf 0 = .ok (.iload_n 0, 1) := by decide +kernel
theorem dX12_needOf_1 : decode cX12_needOf 1 = .ok (.ifCond .ne 8, 3) := by decide +kernel
theorem dX12_needOf_4 : decode cX12_needOf 4 = .ok (.bipush (-6), 2) := by decide +kernel
theorem dX12_needOf_6 : decode cX12_needOf 6 = .ok (.goto 13, 3) := by decide +kernel
theorem dX12_needOf_9 : decode cX12_needOf 9 = .ok (.iload_n 0, 1) := by decide +kernel
theorem dX12_needOf_10 : decode cX12_needOf 10 = .ok (.iconst 4, 1) := by decide +kernel
theorem dX12_needOf_11 : decode cX12_needOf 11 = .ok (.if_icmp .ge 7, 3) := by decide +kernel
theorem dX12_needOf_14 : decode cX12_needOf 14 = .ok (.iconst 0, 1) := by decide +kernel
theorem dX12_needOf_15 : decode cX12_needOf 15 = .ok (.goto 4, 3) := by decide +kernel
theorem dX12_needOf_18 : decode cX12_needOf 18 = .ok (.iconst 1, 1) := by decide +kernel
theorem dX12_needOf_19 : decode cX12_needOf 19 = .ok (.ireturn, 1) := by decide +kernel
set_option maxRecDepth 20000 in
theorem ggX12_isBeetle_X12_in : GoodIn wsX12_isBeetle wsX12_in := goodIn_r _ [6] (by decide +kernel) (by decide +kernel)
set_option maxRecDepth 20000 in
theorem gX12_isBeetle_X12_in : GoodIn wsX12_isBeetle (va_wsS RX12 65 yX12_in wsX12_in) := goodIn_app (goodIn_of _ (by decide +kernel)) ggX12_isBeetle_X12_in
set_option maxRecDepth 20000 in
theorem ggX12_isBeetle_X12_figureOf : GoodIn wsX12_isBeetle wsX12_figureOf := goodIn_r _ [9, 10, 11, 5, 12] (by decide +kernel) (by decide +kernel)
set_option maxRecDepth 20000 in
theorem gX12_isBeetle_X12_figureOf : GoodIn wsX12_isBeetle (va_wsS RX12 75 yX12_figureOf wsX12_figureOf) := goodIn_app (goodIn_of _ (by decide +kernel)) ggX12_isBeetle_X12_figureOf
set_option maxRecDepth 20000 in
theorem ggX12_isBeetle_X12_needOf : GoodIn wsX12_isBeetle wsX12_needOf := goodIn_r _ [15] (by decide +kernel) (by decide +kernel)
set_option maxRecDepth 20000 in
theorem gX12_isBeetle_X12_needOf : GoodIn wsX12_isBeetle (va_wsS RX12 79 yX12_needOf wsX12_needOf) := goodIn_app (goodIn_of _ (by decide +kernel)) ggX12_isBeetle_X12_needOf
theorem dX12_isBeetle_0 : decode cX12_isBeetle 0 = .ok (.iload_n 1, 1) := by decide +kernel
theorem dX12_isBeetle_1 : decode cX12_isBeetle 1 = .ok (.i2l, 1) := by decide +kernel
theorem dX12_isBeetle_2 : decode cX12_isBeetle 2 = .ok (.lconst 0, 1) := by decide +kernel
theorem dX12_isBeetle_3 : decode cX12_isBeetle 3 = .ok (.ldc2_w 73, 3) := by decide +kernel
theorem dX12_isBeetle_6 : decode cX12_isBeetle 6 = .ok (.invokestatic 65, 3) := by decide +kernel
theorem dX12_isBeetle_9 : decode cX12_isBeetle 9 = .ok (.istore_n 2, 1) := by decide +kernel
theorem dX12_isBeetle_10 : decode cX12_isBeetle 10 = .ok (.iconst 0, 1) := by decide +kernel
theorem dX12_isBeetle_11 : decode cX12_isBeetle 11 = .ok (.istore_n 3, 1) := by decide +kernel
theorem dX12_isBeetle_12 : decode cX12_isBeetle 12 = .ok (.iload_n 3, 1) := by decide +kernel
theorem dX12_isBeetle_13 : decode cX12_isBeetle 13 = .ok (.bipush 6, 2) := by decide +kernel
theorem dX12_isBeetle_15 : decode cX12_isBeetle 15 = .ok (.if_icmp .ge 60, 3) := by decide +kernel
theorem dX12_isBeetle_18 : decode cX12_isBeetle 18 = .ok (.iload_n 1, 1) := by decide +kernel
theorem dX12_isBeetle_19 : decode cX12_isBeetle 19 = .ok (.iload_n 3, 1) := by decide +kernel
theorem dX12_isBeetle_20 : decode cX12_isBeetle 20 = .ok (.invokestatic 75, 3) := by decide +kernel
theorem dX12_isBeetle_23 : decode cX12_isBeetle 23 = .ok (.istore 4, 2) := by decide +kernel
theorem dX12_isBeetle_25 : decode cX12_isBeetle 25 = .ok (.iload_n 2, 1) := by decide +kernel
theorem dX12_isBeetle_26 : decode cX12_isBeetle 26 = .ok (.ifCond .eq 41, 3) := by decide +kernel
theorem dX12_isBeetle_29 : decode cX12_isBeetle 29 = .ok (.iload 4, 2) := by decide +kernel
theorem dX12_isBeetle_31 : decode cX12_isBeetle 31 = .ok (.aload_n 0, 1) := by decide +kernel
theorem dX12_isBeetle_32 : decode cX12_isBeetle 32 = .ok (.getfield 7, 3) := by decide +kernel
theorem dX12_isBeetle_35 : decode cX12_isBeetle 35 = .ok (.iload_n 3, 1) := by decide +kernel
theorem dX12_isBeetle_36 : decode cX12_isBeetle 36 = .ok (.iaload, 1) := by decide +kernel
theorem dX12_isBeetle_37 : decode cX12_isBeetle 37 = .ok (.if_icmp .gt 30, 3) := by decide +kernel
theorem dX12_isBeetle_40 : decode cX12_isBeetle 40 = .ok (.iload 4, 2) := by decide +kernel
theorem dX12_isBeetle_42 : decode cX12_isBeetle 42 = .ok (.ifCond .eq 21, 3) := by decide +kernel
theorem dX12_isBeetle_45 : decode cX12_isBeetle 45 = .ok (.iload_n 3, 1) := by decide +kernel
theorem dX12_isBeetle_46 : decode cX12_isBeetle 46 = .ok (.invokestatic 79, 3) := by decide +kernel
theorem dX12_isBeetle_49 : decode cX12_isBeetle 49 = .ok (.ifCond .lt 14, 3) := by decide +kernel
theorem dX12_isBeetle_52 : decode cX12_isBeetle 52 = .ok (.iload_n 1, 1) := by decide +kernel
theorem dX12_isBeetle_53 : decode cX12_isBeetle 53 = .ok (.iload_n 3, 1) := by decide +kernel
theorem dX12_isBeetle_54 : decode cX12_isBeetle 54 = .ok (.invokestatic 79, 3) := by decide +kernel
theorem dX12_isBeetle_57 : decode cX12_isBeetle 57 = .ok (.invokestatic 75, 3) := by decide +kernel
theorem dX12_isBeetle_60 : decode cX12_isBeetle 60 = .ok (.ifCond .le 7, 3) := by decide +kernel
theorem dX12_isBeetle_63 : decode cX12_isBeetle 63 = .ok (.iconst 1, 1) := by decide +kernel
theorem dX12_isBeetle_64 : decode cX12_isBeetle 64 = .ok (.goto 4, 3) := by decide +kernel
theorem dX12_isBeetle_67 : decode cX12_isBeetle 67 = .ok (.iconst 0, 1) := by decide +kernel
theorem dX12_isBeetle_68 : decode cX12_isBeetle 68 = .ok (.istore_n 2, 1) := by decide +kernel
theorem dX12_isBeetle_69 : decode cX12_isBeetle 69 = .ok (.iinc 3 1, 3) := by decide +kernel
theorem dX12_isBeetle_72 : decode cX12_isBeetle 72 = .ok (.goto (-60), 3) := by decide +kernel
theorem dX12_isBeetle_75 : decode cX12_isBeetle 75 = .ok (.iload_n 2, 1) := by decide +kernel
theorem dX12_isBeetle_76 : decode cX12_isBeetle 76 = .ok (.ireturn, 1) := by decide +kernel
set_option maxRecDepth 20000 in
theorem ggX12_partsOf_X12_figureOf : GoodIn wsX12_partsOf wsX12_figureOf := goodIn_r _ [4, 5, 6, 3, 7] (by decide +kernel) (by decide +kernel)
set_option maxRecDepth 20000 in
theorem gX12_partsOf_X12_figureOf : GoodIn wsX12_partsOf (va_wsS RX12 75 yX12_figureOf wsX12_figureOf) := goodIn_app (goodIn_of _ (by decide +kernel)) ggX12_partsOf_X12_figureOf
theorem dX12_partsOf_0 : decode cX12_partsOf 0 = .ok (.iconst 0, 1) := by decide +kernel
theorem dX12_partsOf_1 : decode cX12_partsOf 1 = .ok (.istore_n 1, 1) := by decide +kernel
theorem dX12_partsOf_2 : decode cX12_partsOf 2 = .ok (.iconst 0, 1) := by decide +kernel
theorem dX12_partsOf_3 : decode cX12_partsOf 3 = .ok (.istore_n 2, 1) := by decide +kernel
theorem dX12_partsOf_4 : decode cX12_partsOf 4 = .ok (.iload_n 2, 1) := by decide +kernel
theorem dX12_partsOf_5 : decode cX12_partsOf 5 = .ok (.bipush 6, 2) := by decide +kernel
theorem dX12_partsOf_7 : decode cX12_partsOf 7 = .ok (.if_icmp .ge 17, 3) := by decide +kernel
theorem dX12_partsOf_10 : decode cX12_partsOf 10 = .ok (.iload_n 1, 1) := by decide +kernel
theorem dX12_partsOf_11 : decode cX12_partsOf 11 = .ok (.iload_n 0, 1) := by decide +kernel
theorem dX12_partsOf_12 : decode cX12_partsOf 12 = .ok (.iload_n 2, 1) := by decide +kernel
theorem dX12_partsOf_13 : decode cX12_partsOf 13 = .ok (.invokestatic 75, 3) := by decide +kernel
theorem dX12_partsOf_16 : decode cX12_partsOf 16 = .ok (.iadd, 1) := by decide +kernel
theorem dX12_partsOf_17 : decode cX12_partsOf 17 = .ok (.istore_n 1, 1) := by decide +kernel
theorem dX12_partsOf_18 : decode cX12_partsOf 18 = .ok (.iinc 2 1, 3) := by decide +kernel
theorem dX12_partsOf_21 : decode cX12_partsOf 21 = .ok (.goto (-17), 3) := by decide +kernel
theorem dX12_partsOf_24 : decode cX12_partsOf 24 = .ok (.iload_n 1, 1) := by decide +kernel
theorem dX12_partsOf_25 : decode cX12_partsOf 25 = .ok (.ireturn, 1) := by decide +kernel
set_option maxRecDepth 20000 in
theorem ggX12_canDraw_X12_figureOf : GoodIn wsX12_canDraw wsX12_figureOf := goodIn_r _ [5, 6, 7, 4, 8] (by decide +kernel) (by decide +kernel)
set_option maxRecDepth 20000 in
theorem gX12_canDraw_X12_figureOf : GoodIn wsX12_canDraw (va_wsS RX12 75 yX12_figureOf wsX12_figureOf) := goodIn_app (goodIn_of _ (by decide +kernel)) ggX12_canDraw_X12_figureOf
set_option maxRecDepth 20000 in
theorem ggX12_canDraw_X12_needOf : GoodIn wsX12_canDraw wsX12_needOf := goodIn_r _ [11] (by decide +kernel) (by decide +kernel)
set_option maxRecDepth 20000 in
theorem gX12_canDraw_X12_needOf : GoodIn wsX12_canDraw (va_wsS RX12 79 yX12_needOf wsX12_needOf) := goodIn_app (goodIn_of _ (by decide +kernel)) ggX12_canDraw_X12_needOf
theorem dX12_canDraw_0 : decode cX12_canDraw 0 = .ok (.bipush 6, 2) := by decide +kernel
theorem dX12_canDraw_2 : decode cX12_canDraw 2 = .ok (.iload_n 2, 1) := by decide +kernel
theorem dX12_canDraw_3 : decode cX12_canDraw 3 = .ok (.isub, 1) := by decide +kernel
theorem dX12_canDraw_4 : decode cX12_canDraw 4 = .ok (.istore_n 3, 1) := by decide +kernel
theorem dX12_canDraw_5 : decode cX12_canDraw 5 = .ok (.iload_n 1, 1) := by decide +kernel
theorem dX12_canDraw_6 : decode cX12_canDraw 6 = .ok (.iload_n 3, 1) := by decide +kernel
theorem dX12_canDraw_7 : decode cX12_canDraw 7 = .ok (.invokestatic 75, 3) := by decide +kernel
theorem dX12_canDraw_10 : decode cX12_canDraw 10 = .ok (.aload_n 0, 1) := by decide +kernel
theorem dX12_canDraw_11 : decode cX12_canDraw 11 = .ok (.getfield 7, 3) := by decide +kernel
theorem dX12_canDraw_14 : decode cX12_canDraw 14 = .ok (.iload_n 3, 1) := by decide +kernel
theorem dX12_canDraw_15 : decode cX12_canDraw 15 = .ok (.iaload, 1) := by decide +kernel
theorem dX12_canDraw_16 : decode cX12_canDraw 16 = .ok (.if_icmp .ge 25, 3) := by decide +kernel
theorem dX12_canDraw_19 : decode cX12_canDraw 19 = .ok (.iload_n 3, 1) := by decide +kernel
theorem dX12_canDraw_20 : decode cX12_canDraw 20 = .ok (.invokestatic 79, 3) := by decide +kernel
theorem dX12_canDraw_23 : decode cX12_canDraw 23 = .ok (.ifCond .lt 14, 3) := by decide +kernel
theorem dX12_canDraw_26 : decode cX12_canDraw 26 = .ok (.iload_n 1, 1) := by decide +kernel
theorem dX12_canDraw_27 : decode cX12_canDraw 27 = .ok (.iload_n 3, 1) := by decide +kernel
theorem dX12_canDraw_28 : decode cX12_canDraw 28 = .ok (.invokestatic 79, 3) := by decide +kernel
theorem dX12_canDraw_31 : decode cX12_canDraw 31 = .ok (.invokestatic 75, 3) := by decide +kernel
theorem dX12_canDraw_34 : decode cX12_canDraw 34 = .ok (.ifCond .le 7, 3) := by decide +kernel
theorem dX12_canDraw_37 : decode cX12_canDraw 37 = .ok (.iconst 1, 1) := by decide +kernel
theorem dX12_canDraw_38 : decode cX12_canDraw 38 = .ok (.goto 4, 3) := by decide +kernel
theorem dX12_canDraw_41 : decode cX12_canDraw 41 = .ok (.iconst 0, 1) := by decide +kernel
theorem dX12_canDraw_42 : decode cX12_canDraw 42 = .ok (.ireturn, 1) := by decide +kernel
set_option maxRecDepth 20000 in
theorem ggX12_drawnBy_X12_tenTo : GoodIn wsX12_drawnBy wsX12_tenTo := goodIn_r _ [4] (by decide +kernel) (by decide +kernel)
set_option maxRecDepth 20000 in
theorem gX12_drawnBy_X12_tenTo : GoodIn wsX12_drawnBy (va_wsS RX12 69 yX12_tenTo wsX12_tenTo) := goodIn_app (goodIn_of _ (by decide +kernel)) ggX12_drawnBy_X12_tenTo
theorem dX12_drawnBy_0 : decode cX12_drawnBy 0 = .ok (.iload_n 0, 1) := by decide +kernel
theorem dX12_drawnBy_1 : decode cX12_drawnBy 1 = .ok (.iload_n 1, 1) := by decide +kernel
theorem dX12_drawnBy_2 : decode cX12_drawnBy 2 = .ok (.iconst 1, 1) := by decide +kernel
theorem dX12_drawnBy_3 : decode cX12_drawnBy 3 = .ok (.isub, 1) := by decide +kernel
theorem dX12_drawnBy_4 : decode cX12_drawnBy 4 = .ok (.invokestatic 69, 3) := by decide +kernel
theorem dX12_drawnBy_7 : decode cX12_drawnBy 7 = .ok (.iadd, 1) := by decide +kernel
theorem dX12_drawnBy_8 : decode cX12_drawnBy 8 = .ok (.ireturn, 1) := by decide +kernel
set_option maxRecDepth 20000 in
theorem ggX12_player_X12_isPlayer : GoodIn wsX12_player wsX12_isPlayer := goodIn_r _ [7, 8, 9, 10, 6, 11] (by decide +kernel) (by decide +kernel)
set_option maxRecDepth 20000 in
theorem gX12_player_X12_isPlayer : GoodIn wsX12_player (va_wsS RX12 82 yX12_isPlayer wsX12_isPlayer) := goodIn_app (goodIn_of _ (by decide +kernel)) ggX12_player_X12_isPlayer
set_option maxRecDepth 20000 in
theorem ggX12_player_X12_isBeetle : GoodIn wsX12_player wsX12_isBeetle := goodIn_r _ [15, 16, 17, 9, 10, 6, 11, 18, 19, 20, 21, 22, 23, 24, 25, 26, 27, 28, 29, 30, 31, 32, 33, 34, 35, 36, 37, 38, 39, 40, 41, 42, 43, 44, 45, 46, 47, 48, 49, 50, 51, 52, 53, 54, 55, 56] (by decide +kernel) (by decide +kernel)
set_option maxRecDepth 20000 in
theorem gX12_player_X12_isBeetle : GoodIn wsX12_player (wsV RX12 86 RX12 yX12_isBeetle wsX12_isBeetle) := goodIn_app (goodIn_of _ (by decide +kernel)) ggX12_player_X12_isBeetle
set_option maxRecDepth 20000 in
theorem ggX12_player_X12_in : GoodIn wsX12_player wsX12_in := goodIn_r _ [11] (by decide +kernel) (by decide +kernel)
set_option maxRecDepth 20000 in
theorem gX12_player_X12_in : GoodIn wsX12_player (va_wsS RX12 65 yX12_in wsX12_in) := goodIn_app (goodIn_of _ (by decide +kernel)) ggX12_player_X12_in
theorem dX12_player_0 : decode cX12_player 0 = .ok (.iload_n 1, 1) := by decide +kernel
theorem dX12_player_1 : decode cX12_player 1 = .ok (.invokestatic 82, 3) := by decide +kernel
theorem dX12_player_4 : decode cX12_player 4 = .ok (.ifCond .ne 5, 3) := by decide +kernel
theorem dX12_player_7 : decode cX12_player 7 = .ok (.iconst (-1), 1) := by decide +kernel
theorem dX12_player_8 : decode cX12_player 8 = .ok (.ireturn, 1) := by decide +kernel
theorem dX12_player_9 : decode cX12_player 9 = .ok (.aload_n 0, 1) := by decide +kernel
theorem dX12_player_10 : decode cX12_player 10 = .ok (.iload_n 2, 1) := by decide +kernel
theorem dX12_player_11 : decode cX12_player 11 = .ok (.invokevirtual 86, 3) := by decide +kernel
theorem dX12_player_14 : decode cX12_player 14 = .ok (.ifCond .eq 15, 3) := by decide +kernel
theorem dX12_player_17 : decode cX12_player 17 = .ok (.iload_n 3, 1) := by decide +kernel
theorem dX12_player_18 : decode cX12_player 18 = .ok (.i2l, 1) := by decide +kernel
theorem dX12_player_19 : decode cX12_player 19 = .ok (.lconst 0, 1) := by decide +kernel
theorem dX12_player_20 : decode cX12_player 20 = .ok (.ldc2_w 89, 3) := by decide +kernel
theorem dX12_player_23 : decode cX12_player 23 = .ok (.invokestatic 65, 3) := by decide +kernel
theorem dX12_player_26 : decode cX12_player 26 = .ok (.ifCond .ne 6, 3) := by decide +kernel
theorem dX12_player_29 : decode cX12_player 29 = .ok (.bipush (-2), 2) := by decide +kernel
theorem dX12_player_31 : decode cX12_player 31 = .ok (.ireturn, 1) := by decide +kernel
theorem dX12_player_32 : decode cX12_player 32 = .ok (.aload_n 0, 1) := by decide +kernel
theorem dX12_player_33 : decode cX12_player 33 = .ok (.getfield 16, 3) := by decide +kernel
theorem dX12_player_36 : decode cX12_player 36 = .ok (.iload_n 1, 1) := by decide +kernel
theorem dX12_player_37 : decode cX12_player 37 = .ok (.iaload, 1) := by decide +kernel
theorem dX12_player_38 : decode cX12_player 38 = .ok (.istore 4, 2) := by decide +kernel
theorem dX12_player_40 : decode cX12_player 40 = .ok (.aload_n 0, 1) := by decide +kernel
theorem dX12_player_41 : decode cX12_player 41 = .ok (.getfield 13, 3) := by decide +kernel
theorem dX12_player_44 : decode cX12_player 44 = .ok (.iload_n 1, 1) := by decide +kernel
theorem dX12_player_45 : decode cX12_player 45 = .ok (.iload_n 2, 1) := by decide +kernel
theorem dX12_player_46 : decode cX12_player 46 = .ok (.iastore, 1) := by decide +kernel
theorem dX12_player_47 : decode cX12_player 47 = .ok (.aload_n 0, 1) := by decide +kernel
theorem dX12_player_48 : decode cX12_player 48 = .ok (.getfield 16, 3) := by decide +kernel
theorem dX12_player_51 : decode cX12_player 51 = .ok (.iload_n 1, 1) := by decide +kernel
theorem dX12_player_52 : decode cX12_player 52 = .ok (.iload_n 3, 1) := by decide +kernel
theorem dX12_player_53 : decode cX12_player 53 = .ok (.iastore, 1) := by decide +kernel
theorem dX12_player_54 : decode cX12_player 54 = .ok (.iload 4, 2) := by decide +kernel
theorem dX12_player_56 : decode cX12_player 56 = .ok (.ireturn, 1) := by decide +kernel
set_option maxRecDepth 20000 in
theorem ggX12_die_X12_isPlayer : GoodIn wsX12_die wsX12_isPlayer := goodIn_r _ [6, 7, 8, 9, 5, 10] (by decide +kernel) (by decide +kernel)
set_option maxRecDepth 20000 in
theorem gX12_die_X12_isPlayer : GoodIn wsX12_die (va_wsS RX12 82 yX12_isPlayer wsX12_isPlayer) := goodIn_app (goodIn_of _ (by decide +kernel)) ggX12_die_X12_isPlayer
theorem dX12_die_0 : decode cX12_die 0 = .ok (.iload_n 1, 1) := by decide +kernel
theorem dX12_die_1 : decode cX12_die 1 = .ok (.invokestatic 82, 3) := by decide +kernel
theorem dX12_die_4 : decode cX12_die 4 = .ok (.ifCond .ne 5, 3) := by decide +kernel
theorem dX12_die_7 : decode cX12_die 7 = .ok (.iconst (-1), 1) := by decide +kernel
theorem dX12_die_8 : decode cX12_die 8 = .ok (.ireturn, 1) := by decide +kernel
theorem dX12_die_9 : decode cX12_die 9 = .ok (.aload_n 0, 1) := by decide +kernel
theorem dX12_die_10 : decode cX12_die 10 = .ok (.getfield 19, 3) := by decide +kernel
theorem dX12_die_13 : decode cX12_die 13 = .ok (.iload_n 1, 1) := by decide +kernel
theorem dX12_die_14 : decode cX12_die 14 = .ok (.iaload, 1) := by decide +kernel
theorem dX12_die_15 : decode cX12_die 15 = .ok (.ifCond .ne 6, 3) := by decide +kernel
theorem dX12_die_18 : decode cX12_die 18 = .ok (.bipush (-3), 2) := by decide +kernel
theorem dX12_die_20 : decode cX12_die 20 = .ok (.ireturn, 1) := by decide +kernel
theorem dX12_die_21 : decode cX12_die 21 = .ok (.aload_n 0, 1) := by decide +kernel
theorem dX12_die_22 : decode cX12_die 22 = .ok (.getfield 91, 3) := by decide +kernel
theorem dX12_die_25 : decode cX12_die 25 = .ok (.istore_n 2, 1) := by decide +kernel
theorem dX12_die_26 : decode cX12_die 26 = .ok (.aload_n 0, 1) := by decide +kernel
theorem dX12_die_27 : decode cX12_die 27 = .ok (.iload_n 1, 1) := by decide +kernel
theorem dX12_die_28 : decode cX12_die 28 = .ok (.putfield 91, 3) := by decide +kernel
theorem dX12_die_31 : decode cX12_die 31 = .ok (.iload_n 2, 1) := by decide +kernel
theorem dX12_die_32 : decode cX12_die 32 = .ok (.ireturn, 1) := by decide +kernel
set_option maxRecDepth 20000 in
theorem ggX12_say_X12_in : GoodIn wsX12_say wsX12_in := goodIn_r _ [8] (by decide +kernel) (by decide +kernel)
set_option maxRecDepth 20000 in
theorem gX12_say_X12_in : GoodIn wsX12_say (va_wsS RX12 65 yX12_in wsX12_in) := goodIn_app (goodIn_of _ (by decide +kernel)) ggX12_say_X12_in
theorem dX12_say_0 : decode cX12_say 0 = .ok (.iload_n 1, 1) := by decide +kernel
theorem dX12_say_1 : decode cX12_say 1 = .ok (.i2l, 1) := by decide +kernel
theorem dX12_say_2 : decode cX12_say 2 = .ok (.ldc2_w 95, 3) := by decide +kernel
theorem dX12_say_5 : decode cX12_say 5 = .ok (.ldc2_w 97, 3) := by decide +kernel
theorem dX12_say_8 : decode cX12_say 8 = .ok (.invokestatic 65, 3) := by decide +kernel
theorem dX12_say_11 : decode cX12_say 11 = .ok (.ifCond .ne 6, 3) := by decide +kernel
theorem dX12_say_14 : decode cX12_say 14 = .ok (.bipush (-2), 2) := by decide +kernel
theorem dX12_say_16 : decode cX12_say 16 = .ok (.ireturn, 1) := by decide +kernel
theorem dX12_say_17 : decode cX12_say 17 = .ok (.aload_n 0, 1) := by decide +kernel
theorem dX12_say_18 : decode cX12_say 18 = .ok (.getfield 99, 3) := by decide +kernel
theorem dX12_say_21 : decode cX12_say 21 = .ok (.bipush 60, 2) := by decide +kernel
theorem dX12_say_23 : decode cX12_say 23 = .ok (.if_icmp .ne 6, 3) := by decide +kernel
theorem dX12_say_26 : decode cX12_say 26 = .ok (.bipush (-4), 2) := by decide +kernel
theorem dX12_say_28 : decode cX12_say 28 = .ok (.ireturn, 1) := by decide +kernel
theorem dX12_say_29 : decode cX12_say 29 = .ok (.aload_n 0, 1) := by decide +kernel
theorem dX12_say_30 : decode cX12_say 30 = .ok (.getfield 28, 3) := by decide +kernel
theorem dX12_say_33 : decode cX12_say 33 = .ok (.aload_n 0, 1) := by decide +kernel
theorem dX12_say_34 : decode cX12_say 34 = .ok (.getfield 99, 3) := by decide +kernel
theorem dX12_say_37 : decode cX12_say 37 = .ok (.iload_n 1, 1) := by decide +kernel
theorem dX12_say_38 : decode cX12_say 38 = .ok (.iastore, 1) := by decide +kernel
theorem dX12_say_39 : decode cX12_say 39 = .ok (.aload_n 0, 1) := by decide +kernel
theorem dX12_say_40 : decode cX12_say 40 = .ok (.dup, 1) := by decide +kernel
theorem dX12_say_41 : decode cX12_say 41 = .ok (.getfield 99, 3) := by decide +kernel
theorem dX12_say_44 : decode cX12_say 44 = .ok (.iconst 1, 1) := by decide +kernel
theorem dX12_say_45 : decode cX12_say 45 = .ok (.iadd, 1) := by decide +kernel
theorem dX12_say_46 : decode cX12_say 46 = .ok (.putfield 99, 3) := by decide +kernel
theorem dX12_say_49 : decode cX12_say 49 = .ok (.aload_n 0, 1) := by decide +kernel
theorem dX12_say_50 : decode cX12_say 50 = .ok (.getfield 99, 3) := by decide +kernel
theorem dX12_say_53 : decode cX12_say 53 = .ok (.ireturn, 1) := by decide +kernel
theorem dX12_wipe_0 : decode cX12_wipe 0 = .ok (.aload_n 0, 1) := by decide +kernel
theorem dX12_wipe_1 : decode cX12_wipe 1 = .ok (.getfield 99, 3) := by decide +kernel
theorem dX12_wipe_4 : decode cX12_wipe 4 = .ok (.istore_n 1, 1) := by decide +kernel
theorem dX12_wipe_5 : decode cX12_wipe 5 = .ok (.aload_n 0, 1) := by decide +kernel
theorem dX12_wipe_6 : decode cX12_wipe 6 = .ok (.iconst 0, 1) := by decide +kernel
theorem dX12_wipe_7 : decode cX12_wipe 7 = .ok (.putfield 99, 3) := by decide +kernel
theorem dX12_wipe_10 : decode cX12_wipe 10 = .ok (.iload_n 1, 1) := by decide +kernel
theorem dX12_wipe_11 : decode cX12_wipe 11 = .ok (.ireturn, 1) := by decide +kernel
theorem dX12_close_0 : decode cX12_close 0 = .ok (.aload_n 0, 1) := by decide +kernel
theorem dX12_close_1 : decode cX12_close 1 = .ok (.getfield 31, 3) := by decide +kernel
theorem dX12_close_4 : decode cX12_close 4 = .ok (.aload_n 0, 1) := by decide +kernel
theorem dX12_close_5 : decode cX12_close 5 = .ok (.getfield 102, 3) := by decide +kernel
theorem dX12_close_8 : decode cX12_close 8 = .ok (.iload_n 1, 1) := by decide +kernel
theorem dX12_close_9 : decode cX12_close 9 = .ok (.iastore, 1) := by decide +kernel
theorem dX12_close_10 : decode cX12_close 10 = .ok (.aload_n 0, 1) := by decide +kernel
theorem dX12_close_11 : decode cX12_close 11 = .ok (.getfield 34, 3) := by decide +kernel
theorem dX12_close_14 : decode cX12_close 14 = .ok (.aload_n 0, 1) := by decide +kernel
theorem dX12_close_15 : decode cX12_close 15 = .ok (.getfield 102, 3) := by decide +kernel
theorem dX12_close_18 : decode cX12_close 18 = .ok (.iload_n 2, 1) := by decide +kernel
theorem dX12_close_19 : decode cX12_close 19 = .ok (.iastore, 1) := by decide +kernel
theorem dX12_close_20 : decode cX12_close 20 = .ok (.aload_n 0, 1) := by decide +kernel
theorem dX12_close_21 : decode cX12_close 21 = .ok (.dup, 1) := by decide +kernel
theorem dX12_close_22 : decode cX12_close 22 = .ok (.getfield 102, 3) := by decide +kernel
theorem dX12_close_25 : decode cX12_close 25 = .ok (.iconst 1, 1) := by decide +kernel
theorem dX12_close_26 : decode cX12_close 26 = .ok (.iadd, 1) := by decide +kernel
theorem dX12_close_27 : decode cX12_close 27 = .ok (.putfield 102, 3) := by decide +kernel
theorem dX12_close_30 : decode cX12_close 30 = .ok (.iconst 0, 1) := by decide +kernel
theorem dX12_close_31 : decode cX12_close 31 = .ok (.ireturn, 1) := by decide +kernel
set_option maxRecDepth 20000 in
theorem ggX12_begin_X12_in : GoodIn wsX12_begin wsX12_in := goodIn_r _ [10] (by decide +kernel) (by decide +kernel)
set_option maxRecDepth 20000 in
theorem gX12_begin_X12_in : GoodIn wsX12_begin (va_wsS RX12 65 yX12_in wsX12_in) := goodIn_app (goodIn_of _ (by decide +kernel)) ggX12_begin_X12_in
set_option maxRecDepth 20000 in
theorem ggX12_begin_X12_close : GoodIn wsX12_begin wsX12_close := goodIn_r _ [14, 15, 4, 3, 16, 17, 18, 19, 20, 21, 22, 23, 24, 25, 26, 27, 28, 29, 30, 31, 32, 33, 34, 35, 36, 37, 38, 39, 40, 41, 42, 43, 44, 45] (by decide +kernel) (by decide +kernel)
set_option maxRecDepth 20000 in
theorem gX12_begin_X12_close : GoodIn wsX12_begin (wsV RX12 109 RX12 yX12_close wsX12_close) := goodIn_app (goodIn_of _ (by decide +kernel)) ggX12_begin_X12_close
theorem dX12_begin_0 : decode cX12_begin 0 = .ok (.iload_n 1, 1) := by decide +kernel
theorem dX12_begin_1 : decode cX12_begin 1 = .ok (.i2l, 1) := by decide +kernel
theorem dX12_begin_2 : decode cX12_begin 2 = .ok (.ldc2_w 105, 3) := by decide +kernel
theorem dX12_begin_5 : decode cX12_begin 5 = .ok (.ldc2_w 107, 3) := by decide +kernel
theorem dX12_begin_8 : decode cX12_begin 8 = .ok (.invokestatic 65, 3) := by decide +kernel
theorem dX12_begin_11 : decode cX12_begin 11 = .ok (.ifCond .eq 13, 3) := by decide +kernel
theorem dX12_begin_14 : decode cX12_begin 14 = .ok (.aload_n 0, 1) := by decide +kernel
theorem dX12_begin_15 : decode cX12_begin 15 = .ok (.iconst 0, 1) := by decide +kernel
theorem dX12_begin_16 : decode cX12_begin 16 = .ok (.iload_n 1, 1) := by decide +kernel
theorem dX12_begin_17 : decode cX12_begin 17 = .ok (.bipush 48, 2) := by decide +kernel
theorem dX12_begin_19 : decode cX12_begin 19 = .ok (.isub, 1) := by decide +kernel
theorem dX12_begin_20 : decode cX12_begin 20 = .ok (.invokevirtual 109, 3) := by decide +kernel
theorem dX12_begin_23 : decode cX12_begin 23 = .ok (.ireturn, 1) := by decide +kernel
theorem dX12_begin_24 : decode cX12_begin 24 = .ok (.aload_n 0, 1) := by decide +kernel
theorem dX12_begin_25 : decode cX12_begin 25 = .ok (.getfield 34, 3) := by decide +kernel
theorem dX12_begin_28 : decode cX12_begin 28 = .ok (.aload_n 0, 1) := by decide +kernel
theorem dX12_begin_29 : decode cX12_begin 29 = .ok (.getfield 102, 3) := by decide +kernel
theorem dX12_begin_32 : decode cX12_begin 32 = .ok (.iload_n 1, 1) := by decide +kernel
theorem dX12_begin_33 : decode cX12_begin 33 = .ok (.bipush 65, 2) := by decide +kernel
theorem dX12_begin_35 : decode cX12_begin 35 = .ok (.isub, 1) := by decide +kernel
theorem dX12_begin_36 : decode cX12_begin 36 = .ok (.iastore, 1) := by decide +kernel
theorem dX12_begin_37 : decode cX12_begin 37 = .ok (.iload_n 1, 1) := by decide +kernel
theorem dX12_begin_38 : decode cX12_begin 38 = .ok (.bipush 46, 2) := by decide +kernel
theorem dX12_begin_40 : decode cX12_begin 40 = .ok (.if_icmp .ne 12, 3) := by decide +kernel
theorem dX12_begin_43 : decode cX12_begin 43 = .ok (.aload_n 0, 1) := by decide +kernel
theorem dX12_begin_44 : decode cX12_begin 44 = .ok (.iconst 1, 1) := by decide +kernel
theorem dX12_begin_45 : decode cX12_begin 45 = .ok (.iconst 0, 1) := by decide +kernel
theorem dX12_begin_46 : decode cX12_begin 46 = .ok (.invokevirtual 109, 3) := by decide +kernel
theorem dX12_begin_49 : decode cX12_begin 49 = .ok (.goto 23, 3) := by decide +kernel
theorem dX12_begin_52 : decode cX12_begin 52 = .ok (.iload_n 1, 1) := by decide +kernel
theorem dX12_begin_53 : decode cX12_begin 53 = .ok (.i2l, 1) := by decide +kernel
theorem dX12_begin_54 : decode cX12_begin 54 = .ok (.ldc2_w 112, 3) := by decide +kernel
theorem dX12_begin_57 : decode cX12_begin 57 = .ok (.ldc2_w 114, 3) := by decide +kernel
theorem dX12_begin_60 : decode cX12_begin 60 = .ok (.invokestatic 65, 3) := by decide +kernel
theorem dX12_begin_63 : decode cX12_begin 63 = .ok (.ifCond .eq 7, 3) := by decide +kernel
theorem dX12_begin_66 : decode cX12_begin 66 = .ok (.iconst 1, 1) := by decide +kernel
theorem dX12_begin_67 : decode cX12_begin 67 = .ok (.goto 5, 3) := by decide +kernel
theorem dX12_begin_70 : decode cX12_begin 70 = .ok (.bipush (-6), 2) := by decide +kernel
theorem dX12_begin_72 : decode cX12_begin 72 = .ok (.ireturn, 1) := by decide +kernel
set_option maxRecDepth 20000 in
theorem ggX12_deed_X12_close : GoodIn wsX12_deed wsX12_close := goodIn_r _ [7, 8, 2, 1, 9, 10, 11, 12, 13, 14, 15, 16, 17, 18, 19, 20, 21, 22, 23, 24, 25, 26, 27, 28, 29, 30, 31, 32, 33, 34, 35, 36, 37, 38] (by decide +kernel) (by decide +kernel)
set_option maxRecDepth 20000 in
theorem gX12_deed_X12_close : GoodIn wsX12_deed (wsV RX12 109 RX12 yX12_close wsX12_close) := goodIn_app (goodIn_of _ (by decide +kernel)) ggX12_deed_X12_close
theorem dX12_deed_0 : decode cX12_deed 0 = .ok (.iload_n 1, 1) := by decide +kernel
theorem dX12_deed_1 : decode cX12_deed 1 = .ok (.bipush 33, 2) := by decide +kernel
theorem dX12_deed_3 : decode cX12_deed 3 = .ok (.if_icmp .ne 20, 3) := by decide +kernel
theorem dX12_deed_6 : decode cX12_deed 6 = .ok (.aload_n 0, 1) := by decide +kernel
theorem dX12_deed_7 : decode cX12_deed 7 = .ok (.iconst 2, 1) := by decide +kernel
theorem dX12_deed_8 : decode cX12_deed 8 = .ok (.aload_n 0, 1) := by decide +kernel
theorem dX12_deed_9 : decode cX12_deed 9 = .ok (.getfield 34, 3) := by decide +kernel
theorem dX12_deed_12 : decode cX12_deed 12 = .ok (.aload_n 0, 1) := by decide +kernel
theorem dX12_deed_13 : decode cX12_deed 13 = .ok (.getfield 102, 3) := by decide +kernel
theorem dX12_deed_16 : decode cX12_deed 16 = .ok (.iaload, 1) := by decide +kernel
theorem dX12_deed_17 : decode cX12_deed 17 = .ok (.invokevirtual 109, 3) := by decide +kernel
theorem dX12_deed_20 : decode cX12_deed 20 = .ok (.goto 28, 3) := by decide +kernel
theorem dX12_deed_23 : decode cX12_deed 23 = .ok (.iload_n 1, 1) := by decide +kernel
theorem dX12_deed_24 : decode cX12_deed 24 = .ok (.bipush 35, 2) := by decide +kernel
theorem dX12_deed_26 : decode cX12_deed 26 = .ok (.if_icmp .ne 20, 3) := by decide +kernel
theorem dX12_deed_29 : decode cX12_deed 29 = .ok (.aload_n 0, 1) := by decide +kernel
theorem dX12_deed_30 : decode cX12_deed 30 = .ok (.iconst 3, 1) := by decide +kernel
theorem dX12_deed_31 : decode cX12_deed 31 = .ok (.aload_n 0, 1) := by decide +kernel
theorem dX12_deed_32 : decode cX12_deed 32 = .ok (.getfield 34, 3) := by decide +kernel
theorem dX12_deed_35 : decode cX12_deed 35 = .ok (.aload_n 0, 1) := by decide +kernel
theorem dX12_deed_36 : decode cX12_deed 36 = .ok (.getfield 102, 3) := by decide +kernel
theorem dX12_deed_39 : decode cX12_deed 39 = .ok (.iaload, 1) := by decide +kernel
theorem dX12_deed_40 : decode cX12_deed 40 = .ok (.invokevirtual 109, 3) := by decide +kernel
theorem dX12_deed_43 : decode cX12_deed 43 = .ok (.goto 5, 3) := by decide +kernel
theorem dX12_deed_46 : decode cX12_deed 46 = .ok (.bipush (-6), 2) := by decide +kernel
theorem dX12_deed_48 : decode cX12_deed 48 = .ok (.ireturn, 1) := by decide +kernel
set_option maxRecDepth 20000 in
theorem ggX12_fault_X12_begin : GoodIn wsX12_fault wsX12_begin := goodIn_r _ [8, 9, 10, 11, 1, 12, 13, 14, 15, 7, 16, 17, 18, 19, 20, 21, 26, 27, 28, 29, 30, 31, 32, 33, 34, 35, 36, 37, 38, 39, 40, 41, 42, 43, 44, 45, 46, 47, 48, 49, 50, 51, 52, 53, 54, 55] (by decide +kernel) (by decide +kernel)
set_option maxRecDepth 20000 in
theorem gX12_fault_X12_begin : GoodIn wsX12_fault (wsV RX12 116 RX12 yX12_begin wsX12_begin) := goodIn_app (goodIn_of _ (by decide +kernel)) ggX12_fault_X12_begin
set_option maxRecDepth 20000 in
theorem ggX12_fault_X12_deed : GoodIn wsX12_fault wsX12_deed := goodIn_r _ [25, 11, 1, 17, 18, 19, 7, 20, 21, 26, 27, 28, 29, 30, 31, 32, 33, 34, 35, 36, 37, 38, 39, 40, 41, 42, 43, 44, 45, 46, 47, 48, 49, 50, 51, 52, 53, 54, 55] (by decide +kernel) (by decide +kernel)
set_option maxRecDepth 20000 in
theorem gX12_fault_X12_deed : GoodIn wsX12_fault (wsV RX12 119 RX12 yX12_deed wsX12_deed) := goodIn_app (goodIn_of _ (by decide +kernel)) ggX12_fault_X12_deed
theorem dX12_fault_0 : decode cX12_fault 0 = .ok (.aload_n 0, 1) := by decide +kernel
theorem dX12_fault_1 : decode cX12_fault 1 = .ok (.iconst 0, 1) := by decide +kernel
theorem dX12_fault_2 : decode cX12_fault 2 = .ok (.putfield 102, 3) := by decide +kernel
theorem dX12_fault_5 : decode cX12_fault 5 = .ok (.iconst 0, 1) := by decide +kernel
theorem dX12_fault_6 : decode cX12_fault 6 = .ok (.istore_n 1, 1) := by decide +kernel
theorem dX12_fault_7 : decode cX12_fault 7 = .ok (.iconst 0, 1) := by decide +kernel
theorem dX12_fault_8 : decode cX12_fault 8 = .ok (.istore_n 2, 1) := by decide +kernel
theorem dX12_fault_9 : decode cX12_fault 9 = .ok (.iload_n 2, 1) := by decide +kernel
theorem dX12_fault_10 : decode cX12_fault 10 = .ok (.aload_n 0, 1) := by decide +kernel
theorem dX12_fault_11 : decode cX12_fault 11 = .ok (.getfield 99, 3) := by decide +kernel
theorem dX12_fault_14 : decode cX12_fault 14 = .ok (.if_icmp .ge 43, 3) := by decide +kernel
theorem dX12_fault_17 : decode cX12_fault 17 = .ok (.iload_n 1, 1) := by decide +kernel
theorem dX12_fault_18 : decode cX12_fault 18 = .ok (.ifCond .ne 16, 3) := by decide +kernel
theorem dX12_fault_21 : decode cX12_fault 21 = .ok (.aload_n 0, 1) := by decide +kernel
theorem dX12_fault_22 : decode cX12_fault 22 = .ok (.aload_n 0, 1) := by decide +kernel
theorem dX12_fault_23 : decode cX12_fault 23 = .ok (.getfield 28, 3) := by decide +kernel
theorem dX12_fault_26 : decode cX12_fault 26 = .ok (.iload_n 2, 1) := by decide +kernel
theorem dX12_fault_27 : decode cX12_fault 27 = .ok (.iaload, 1) := by decide +kernel
theorem dX12_fault_28 : decode cX12_fault 28 = .ok (.invokevirtual 116, 3) := by decide +kernel
theorem dX12_fault_31 : decode cX12_fault 31 = .ok (.goto 13, 3) := by decide +kernel
theorem dX12_fault_34 : decode cX12_fault 34 = .ok (.aload_n 0, 1) := by decide +kernel
theorem dX12_fault_35 : decode cX12_fault 35 = .ok (.aload_n 0, 1) := by decide +kernel
theorem dX12_fault_36 : decode cX12_fault 36 = .ok (.getfield 28, 3) := by decide +kernel
theorem dX12_fault_39 : decode cX12_fault 39 = .ok (.iload_n 2, 1) := by decide +kernel
theorem dX12_fault_40 : decode cX12_fault 40 = .ok (.iaload, 1) := by decide +kernel
theorem dX12_fault_41 : decode cX12_fault 41 = .ok (.invokevirtual 119, 3) := by decide +kernel
theorem dX12_fault_44 : decode cX12_fault 44 = .ok (.istore_n 1, 1) := by decide +kernel
theorem dX12_fault_45 : decode cX12_fault 45 = .ok (.iload_n 1, 1) := by decide +kernel
theorem dX12_fault_46 : decode cX12_fault 46 = .ok (.ifCond .ge 5, 3) := by decide +kernel
theorem dX12_fault_49 : decode cX12_fault 49 = .ok (.iload_n 2, 1) := by decide +kernel
theorem dX12_fault_50 : decode cX12_fault 50 = .ok (.ireturn, 1) := by decide +kernel
theorem dX12_fault_51 : decode cX12_fault 51 = .ok (.iinc 2 1, 3) := by decide +kernel
theorem dX12_fault_54 : decode cX12_fault 54 = .ok (.goto (-45), 3) := by decide +kernel
theorem dX12_fault_57 : decode cX12_fault 57 = .ok (.iload_n 1, 1) := by decide +kernel
theorem dX12_fault_58 : decode cX12_fault 58 = .ok (.ifCond .ne 8, 3) := by decide +kernel
theorem dX12_fault_61 : decode cX12_fault 61 = .ok (.bipush (-6), 2) := by decide +kernel
theorem dX12_fault_63 : decode cX12_fault 63 = .ok (.goto 7, 3) := by decide +kernel
theorem dX12_fault_66 : decode cX12_fault 66 = .ok (.aload_n 0, 1) := by decide +kernel
theorem dX12_fault_67 : decode cX12_fault 67 = .ok (.getfield 99, 3) := by decide +kernel
theorem dX12_fault_70 : decode cX12_fault 70 = .ok (.ireturn, 1) := by decide +kernel
theorem dX12_inMany_0 : decode cX12_inMany 0 = .ok (.iconst 0, 1) := by decide +kernel
theorem dX12_inMany_1 : decode cX12_inMany 1 = .ok (.istore_n 1, 1) := by decide +kernel
theorem dX12_inMany_2 : decode cX12_inMany 2 = .ok (.iconst 0, 1) := by decide +kernel
theorem dX12_inMany_3 : decode cX12_inMany 3 = .ok (.istore_n 2, 1) := by decide +kernel
theorem dX12_inMany_4 : decode cX12_inMany 4 = .ok (.iload_n 2, 1) := by decide +kernel
theorem dX12_inMany_5 : decode cX12_inMany 5 = .ok (.bipush 6, 2) := by decide +kernel
theorem dX12_inMany_7 : decode cX12_inMany 7 = .ok (.if_icmp .ge 18, 3) := by decide +kernel
theorem dX12_inMany_10 : decode cX12_inMany 10 = .ok (.iload_n 1, 1) := by decide +kernel
theorem dX12_inMany_11 : decode cX12_inMany 11 = .ok (.aload_n 0, 1) := by decide +kernel
theorem dX12_inMany_12 : decode cX12_inMany 12 = .ok (.getfield 19, 3) := by decide +kernel
theorem dX12_inMany_15 : decode cX12_inMany 15 = .ok (.iload_n 2, 1) := by decide +kernel
theorem dX12_inMany_16 : decode cX12_inMany 16 = .ok (.iaload, 1) := by decide +kernel
theorem dX12_inMany_17 : decode cX12_inMany 17 = .ok (.iadd, 1) := by decide +kernel
theorem dX12_inMany_18 : decode cX12_inMany 18 = .ok (.istore_n 1, 1) := by decide +kernel
theorem dX12_inMany_19 : decode cX12_inMany 19 = .ok (.iinc 2 1, 3) := by decide +kernel
theorem dX12_inMany_22 : decode cX12_inMany 22 = .ok (.goto (-18), 3) := by decide +kernel
theorem dX12_inMany_25 : decode cX12_inMany 25 = .ok (.iload_n 1, 1) := by decide +kernel
theorem dX12_inMany_26 : decode cX12_inMany 26 = .ok (.ireturn, 1) := by decide +kernel
set_option maxRecDepth 20000 in
theorem ggX12_whyNot_X12_inMany : GoodIn wsX12_whyNot wsX12_inMany := goodIn_r _ [10, 4, 11, 12, 13, 14, 15, 16, 17, 18, 19, 20, 21, 22, 23, 24, 25, 26, 27, 28, 29, 30, 31, 32, 33, 34, 35, 36, 37, 38, 39, 40] (by decide +kernel) (by decide +kernel)
set_option maxRecDepth 20000 in
theorem gX12_whyNot_X12_inMany : GoodIn wsX12_whyNot (wsV RX12 126 RX12 yX12_inMany wsX12_inMany) := goodIn_app (goodIn_of _ (by decide +kernel)) ggX12_whyNot_X12_inMany
theorem dX12_whyNot_0 : decode cX12_whyNot 0 = .ok (.iload_n 1, 1) := by decide +kernel
theorem dX12_whyNot_1 : decode cX12_whyNot 1 = .ok (.tableswitch 114 0 3 #[31, 114, 51, 90], 31) := by decide +kernel
theorem dX12_whyNot_32 : decode cX12_whyNot 32 = .ok (.aload_n 0, 1) := by decide +kernel
theorem dX12_whyNot_33 : decode cX12_whyNot 33 = .ok (.getfield 13, 3) := by decide +kernel
theorem dX12_whyNot_36 : decode cX12_whyNot 36 = .ok (.aload_n 0, 1) := by decide +kernel
theorem dX12_whyNot_37 : decode cX12_whyNot 37 = .ok (.getfield 91, 3) := by decide +kernel
theorem dX12_whyNot_40 : decode cX12_whyNot 40 = .ok (.iaload, 1) := by decide +kernel
theorem dX12_whyNot_41 : decode cX12_whyNot 41 = .ok (.ldc 122, 2) := by decide +kernel
theorem dX12_whyNot_43 : decode cX12_whyNot 43 = .ok (.if_icmp .ne 7, 3) := by decide +kernel
theorem dX12_whyNot_46 : decode cX12_whyNot 46 = .ok (.iconst 1, 1) := by decide +kernel
theorem dX12_whyNot_47 : decode cX12_whyNot 47 = .ok (.goto 4, 3) := by decide +kernel
theorem dX12_whyNot_50 : decode cX12_whyNot 50 = .ok (.iconst 0, 1) := by decide +kernel
theorem dX12_whyNot_51 : decode cX12_whyNot 51 = .ok (.ireturn, 1) := by decide +kernel
theorem dX12_whyNot_52 : decode cX12_whyNot 52 = .ok (.aload_n 0, 1) := by decide +kernel
theorem dX12_whyNot_53 : decode cX12_whyNot 53 = .ok (.getfield 13, 3) := by decide +kernel
theorem dX12_whyNot_56 : decode cX12_whyNot 56 = .ok (.iload_n 2, 1) := by decide +kernel
theorem dX12_whyNot_57 : decode cX12_whyNot 57 = .ok (.iaload, 1) := by decide +kernel
theorem dX12_whyNot_58 : decode cX12_whyNot 58 = .ok (.ldc 122, 2) := by decide +kernel
theorem dX12_whyNot_60 : decode cX12_whyNot 60 = .ok (.if_icmp .ne 12, 3) := by decide +kernel
theorem dX12_whyNot_63 : decode cX12_whyNot 63 = .ok (.aload_n 0, 1) := by decide +kernel
theorem dX12_whyNot_64 : decode cX12_whyNot 64 = .ok (.getfield 19, 3) := by decide +kernel
theorem dX12_whyNot_67 : decode cX12_whyNot 67 = .ok (.iload_n 2, 1) := by decide +kernel
theorem dX12_whyNot_68 : decode cX12_whyNot 68 = .ok (.iaload, 1) := by decide +kernel
theorem dX12_whyNot_69 : decode cX12_whyNot 69 = .ok (.ifCond .ne 7, 3) := by decide +kernel
theorem dX12_whyNot_72 : decode cX12_whyNot 72 = .ok (.iconst 2, 1) := by decide +kernel
theorem dX12_whyNot_73 : decode cX12_whyNot 73 = .ok (.goto 17, 3) := by decide +kernel
theorem dX12_whyNot_76 : decode cX12_whyNot 76 = .ok (.aload_n 0, 1) := by decide +kernel
theorem dX12_whyNot_77 : decode cX12_whyNot 77 = .ok (.getfield 123, 3) := by decide +kernel
theorem dX12_whyNot_80 : decode cX12_whyNot 80 = .ok (.bipush 99, 2) := by decide +kernel
theorem dX12_whyNot_82 : decode cX12_whyNot 82 = .ok (.if_icmp .ne 7, 3) := by decide +kernel
theorem dX12_whyNot_85 : decode cX12_whyNot 85 = .ok (.iconst 4, 1) := by decide +kernel
theorem dX12_whyNot_86 : decode cX12_whyNot 86 = .ok (.goto 4, 3) := by decide +kernel
theorem dX12_whyNot_89 : decode cX12_whyNot 89 = .ok (.iconst 0, 1) := by decide +kernel
theorem dX12_whyNot_90 : decode cX12_whyNot 90 = .ok (.ireturn, 1) := by decide +kernel
theorem dX12_whyNot_91 : decode cX12_whyNot 91 = .ok (.aload_n 0, 1) := by decide +kernel
theorem dX12_whyNot_92 : decode cX12_whyNot 92 = .ok (.getfield 19, 3) := by decide +kernel
theorem dX12_whyNot_95 : decode cX12_whyNot 95 = .ok (.iload_n 2, 1) := by decide +kernel
theorem dX12_whyNot_96 : decode cX12_whyNot 96 = .ok (.iaload, 1) := by decide +kernel
theorem dX12_whyNot_97 : decode cX12_whyNot 97 = .ok (.iconst 1, 1) := by decide +kernel
theorem dX12_whyNot_98 : decode cX12_whyNot 98 = .ok (.if_icmp .ne 15, 3) := by decide +kernel
theorem dX12_whyNot_101 : decode cX12_whyNot 101 = .ok (.aload_n 0, 1) := by decide +kernel
theorem dX12_whyNot_102 : decode cX12_whyNot 102 = .ok (.invokevirtual 126, 3) := by decide +kernel
theorem dX12_whyNot_105 : decode cX12_whyNot 105 = .ok (.iconst 1, 1) := by decide +kernel
theorem dX12_whyNot_106 : decode cX12_whyNot 106 = .ok (.if_icmp .ne 7, 3) := by decide +kernel
theorem dX12_whyNot_109 : decode cX12_whyNot 109 = .ok (.iconst 3, 1) := by decide +kernel
theorem dX12_whyNot_110 : decode cX12_whyNot 110 = .ok (.goto 4, 3) := by decide +kernel
theorem dX12_whyNot_113 : decode cX12_whyNot 113 = .ok (.iconst 0, 1) := by decide +kernel
theorem dX12_whyNot_114 : decode cX12_whyNot 114 = .ok (.ireturn, 1) := by decide +kernel
theorem dX12_whyNot_115 : decode cX12_whyNot 115 = .ok (.iconst 0, 1) := by decide +kernel
theorem dX12_whyNot_116 : decode cX12_whyNot 116 = .ok (.ireturn, 1) := by decide +kernel
theorem dX12_goesOn_0 : decode cX12_goesOn 0 = .ok (.aload_n 0, 1) := by decide +kernel
theorem dX12_goesOn_1 : decode cX12_goesOn 1 = .ok (.aload_n 0, 1) := by decide +kernel
theorem dX12_goesOn_2 : decode cX12_goesOn 2 = .ok (.getfield 91, 3) := by decide +kernel
theorem dX12_goesOn_5 : decode cX12_goesOn 5 = .ok (.iconst 1, 1) := by decide +kernel
theorem dX12_goesOn_6 : decode cX12_goesOn 6 = .ok (.iadd, 1) := by decide +kernel
theorem dX12_goesOn_7 : decode cX12_goesOn 7 = .ok (.bipush 6, 2) := by decide +kernel
theorem dX12_goesOn_9 : decode cX12_goesOn 9 = .ok (.irem, 1) := by decide +kernel
theorem dX12_goesOn_10 : decode cX12_goesOn 10 = .ok (.putfield 91, 3) := by decide +kernel
theorem dX12_goesOn_13 : decode cX12_goesOn 13 = .ok (.aload_n 0, 1) := by decide +kernel
theorem dX12_goesOn_14 : decode cX12_goesOn 14 = .ok (.getfield 19, 3) := by decide +kernel
theorem dX12_goesOn_17 : decode cX12_goesOn 17 = .ok (.aload_n 0, 1) := by decide +kernel
theorem dX12_goesOn_18 : decode cX12_goesOn 18 = .ok (.getfield 91, 3) := by decide +kernel
theorem dX12_goesOn_21 : decode cX12_goesOn 21 = .ok (.iaload, 1) := by decide +kernel
theorem dX12_goesOn_22 : decode cX12_goesOn 22 = .ok (.ifCond .ne 19, 3) := by decide +kernel
theorem dX12_goesOn_25 : decode cX12_goesOn 25 = .ok (.aload_n 0, 1) := by decide +kernel
theorem dX12_goesOn_26 : decode cX12_goesOn 26 = .ok (.aload_n 0, 1) := by decide +kernel
theorem dX12_goesOn_27 : decode cX12_goesOn 27 = .ok (.getfield 91, 3) := by decide +kernel
theorem dX12_goesOn_30 : decode cX12_goesOn 30 = .ok (.iconst 1, 1) := by decide +kernel
theorem dX12_goesOn_31 : decode cX12_goesOn 31 = .ok (.iadd, 1) := by decide +kernel
theorem dX12_goesOn_32 : decode cX12_goesOn 32 = .ok (.bipush 6, 2) := by decide +kernel
theorem dX12_goesOn_34 : decode cX12_goesOn 34 = .ok (.irem, 1) := by decide +kernel
theorem dX12_goesOn_35 : decode cX12_goesOn 35 = .ok (.putfield 91, 3) := by decide +kernel
theorem dX12_goesOn_38 : decode cX12_goesOn 38 = .ok (.goto (-25), 3) := by decide +kernel
theorem dX12_goesOn_41 : decode cX12_goesOn 41 = .ok (.return_, 1) := by decide +kernel
set_option maxRecDepth 20000 in
theorem ggX12_cast_X12_canDraw : GoodIn wsX12_cast wsX12_canDraw := goodIn_r _ [10, 11, 12, 13, 9, 14, 15, 16, 17, 18, 19, 20, 29, 30, 31, 32, 33, 34, 35, 36, 37, 38, 39, 40, 41, 42, 43, 44, 45, 46, 47, 48, 49, 50, 51, 52, 53, 54, 55, 56, 57, 58] (by decide +kernel) (by decide +kernel)
set_option maxRecDepth 20000 in
theorem gX12_cast_X12_canDraw : GoodIn wsX12_cast (wsV RX12 130 RX12 yX12_canDraw wsX12_canDraw) := goodIn_app (goodIn_of _ (by decide +kernel)) ggX12_cast_X12_canDraw
set_option maxRecDepth 20000 in
theorem ggX12_cast_X12_goesOn : GoodIn wsX12_cast wsX12_goesOn := goodIn_r _ [24, 2, 25, 29, 30, 31, 32, 33, 34, 35, 36, 37, 38, 39, 40, 41, 42, 43, 44, 45, 46, 47, 48, 49, 50, 51, 52, 53, 54, 55, 56, 57, 58] (by decide +kernel) (by decide +kernel)
set_option maxRecDepth 20000 in
theorem gX12_cast_X12_goesOn : GoodIn wsX12_cast (wsV RX12 137 RX12 yX12_goesOn wsX12_goesOn) := goodIn_app (goodIn_of _ (by decide +kernel)) ggX12_cast_X12_goesOn
set_option maxRecDepth 20000 in
theorem ggX12_cast_X12_drawnBy : GoodIn wsX12_cast wsX12_drawnBy := goodIn_r _ [28, 15, 16, 9, 17] (by decide +kernel) (by decide +kernel)
set_option maxRecDepth 20000 in
theorem gX12_cast_X12_drawnBy : GoodIn wsX12_cast (va_wsS RX12 140 yX12_drawnBy wsX12_drawnBy) := goodIn_app (goodIn_of _ (by decide +kernel)) ggX12_cast_X12_drawnBy
theorem dX12_cast_0 : decode cX12_cast 0 = .ok (.aload_n 0, 1) := by decide +kernel
theorem dX12_cast_1 : decode cX12_cast 1 = .ok (.aload_n 0, 1) := by decide +kernel
theorem dX12_cast_2 : decode cX12_cast 2 = .ok (.getfield 13, 3) := by decide +kernel
theorem dX12_cast_5 : decode cX12_cast 5 = .ok (.aload_n 0, 1) := by decide +kernel
theorem dX12_cast_6 : decode cX12_cast 6 = .ok (.getfield 91, 3) := by decide +kernel
theorem dX12_cast_9 : decode cX12_cast 9 = .ok (.iaload, 1) := by decide +kernel
theorem dX12_cast_10 : decode cX12_cast 10 = .ok (.iload_n 1, 1) := by decide +kernel
theorem dX12_cast_11 : decode cX12_cast 11 = .ok (.invokevirtual 130, 3) := by decide +kernel
theorem dX12_cast_14 : decode cX12_cast 14 = .ok (.ifCond .ne 18, 3) := by decide +kernel
theorem dX12_cast_17 : decode cX12_cast 17 = .ok (.aload_n 0, 1) := by decide +kernel
theorem dX12_cast_18 : decode cX12_cast 18 = .ok (.dup, 1) := by decide +kernel
theorem dX12_cast_19 : decode cX12_cast 19 = .ok (.getfield 134, 3) := by decide +kernel
theorem dX12_cast_22 : decode cX12_cast 22 = .ok (.iconst 1, 1) := by decide +kernel
theorem dX12_cast_23 : decode cX12_cast 23 = .ok (.iadd, 1) := by decide +kernel
theorem dX12_cast_24 : decode cX12_cast 24 = .ok (.putfield 134, 3) := by decide +kernel
theorem dX12_cast_27 : decode cX12_cast 27 = .ok (.aload_n 0, 1) := by decide +kernel
theorem dX12_cast_28 : decode cX12_cast 28 = .ok (.invokevirtual 137, 3) := by decide +kernel
theorem dX12_cast_31 : decode cX12_cast 31 = .ok (.return_, 1) := by decide +kernel
theorem dX12_cast_32 : decode cX12_cast 32 = .ok (.aload_n 0, 1) := by decide +kernel
theorem dX12_cast_33 : decode cX12_cast 33 = .ok (.getfield 13, 3) := by decide +kernel
theorem dX12_cast_36 : decode cX12_cast 36 = .ok (.aload_n 0, 1) := by decide +kernel
theorem dX12_cast_37 : decode cX12_cast 37 = .ok (.getfield 91, 3) := by decide +kernel
theorem dX12_cast_40 : decode cX12_cast 40 = .ok (.aload_n 0, 1) := by decide +kernel
theorem dX12_cast_41 : decode cX12_cast 41 = .ok (.getfield 13, 3) := by decide +kernel
theorem dX12_cast_44 : decode cX12_cast 44 = .ok (.aload_n 0, 1) := by decide +kernel
theorem dX12_cast_45 : decode cX12_cast 45 = .ok (.getfield 91, 3) := by decide +kernel
theorem dX12_cast_48 : decode cX12_cast 48 = .ok (.iaload, 1) := by decide +kernel
theorem dX12_cast_49 : decode cX12_cast 49 = .ok (.iload_n 1, 1) := by decide +kernel
theorem dX12_cast_50 : decode cX12_cast 50 = .ok (.invokestatic 140, 3) := by decide +kernel
theorem dX12_cast_53 : decode cX12_cast 53 = .ok (.iastore, 1) := by decide +kernel
theorem dX12_cast_54 : decode cX12_cast 54 = .ok (.aload_n 0, 1) := by decide +kernel
theorem dX12_cast_55 : decode cX12_cast 55 = .ok (.aload_n 0, 1) := by decide +kernel
theorem dX12_cast_56 : decode cX12_cast 56 = .ok (.getfield 13, 3) := by decide +kernel
theorem dX12_cast_59 : decode cX12_cast 59 = .ok (.aload_n 0, 1) := by decide +kernel
theorem dX12_cast_60 : decode cX12_cast 60 = .ok (.getfield 91, 3) := by decide +kernel
theorem dX12_cast_63 : decode cX12_cast 63 = .ok (.iaload, 1) := by decide +kernel
theorem dX12_cast_64 : decode cX12_cast 64 = .ok (.ldc 122, 2) := by decide +kernel
theorem dX12_cast_66 : decode cX12_cast 66 = .ok (.if_icmp .ne 10, 3) := by decide +kernel
theorem dX12_cast_69 : decode cX12_cast 69 = .ok (.aload_n 0, 1) := by decide +kernel
theorem dX12_cast_70 : decode cX12_cast 70 = .ok (.getfield 91, 3) := by decide +kernel
theorem dX12_cast_73 : decode cX12_cast 73 = .ok (.goto 5, 3) := by decide +kernel
theorem dX12_cast_76 : decode cX12_cast 76 = .ok (.bipush (-6), 2) := by decide +kernel
theorem dX12_cast_78 : decode cX12_cast 78 = .ok (.putfield 143, 3) := by decide +kernel
theorem dX12_cast_81 : decode cX12_cast 81 = .ok (.return_, 1) := by decide +kernel
set_option maxRecDepth 20000 in
theorem ggX12_cry_X12_partsOf : GoodIn wsX12_cry wsX12_partsOf := goodIn_r _ [8, 9, 10, 7, 11, 12, 13, 14] (by decide +kernel) (by decide +kernel)
set_option maxRecDepth 20000 in
theorem gX12_cry_X12_partsOf : GoodIn wsX12_cry (va_wsS RX12 146 yX12_partsOf wsX12_partsOf) := goodIn_app (goodIn_of _ (by decide +kernel)) ggX12_cry_X12_partsOf
set_option maxRecDepth 20000 in
theorem ggX12_cry_X12_less : GoodIn wsX12_cry wsX12_less := goodIn_r _ [17] (by decide +kernel) (by decide +kernel)
set_option maxRecDepth 20000 in
theorem gX12_cry_X12_less : GoodIn wsX12_cry (va_wsS RX12 149 yX12_less wsX12_less) := goodIn_app (goodIn_of _ (by decide +kernel)) ggX12_cry_X12_less
theorem dX12_cry_0 : decode cX12_cry 0 = .ok (.iconst 0, 1) := by decide +kernel
theorem dX12_cry_1 : decode cX12_cry 1 = .ok (.istore_n 2, 1) := by decide +kernel
theorem dX12_cry_2 : decode cX12_cry 2 = .ok (.iload_n 2, 1) := by decide +kernel
theorem dX12_cry_3 : decode cX12_cry 3 = .ok (.bipush 6, 2) := by decide +kernel
theorem dX12_cry_5 : decode cX12_cry 5 = .ok (.if_icmp .ge 44, 3) := by decide +kernel
theorem dX12_cry_8 : decode cX12_cry 8 = .ok (.aload_n 0, 1) := by decide +kernel
theorem dX12_cry_9 : decode cX12_cry 9 = .ok (.getfield 16, 3) := by decide +kernel
theorem dX12_cry_12 : decode cX12_cry 12 = .ok (.iload_n 2, 1) := by decide +kernel
theorem dX12_cry_13 : decode cX12_cry 13 = .ok (.sipush 999, 3) := by decide +kernel
theorem dX12_cry_16 : decode cX12_cry 16 = .ok (.aload_n 0, 1) := by decide +kernel
theorem dX12_cry_17 : decode cX12_cry 17 = .ok (.getfield 16, 3) := by decide +kernel
theorem dX12_cry_20 : decode cX12_cry 20 = .ok (.iload_n 2, 1) := by decide +kernel
theorem dX12_cry_21 : decode cX12_cry 21 = .ok (.iaload, 1) := by decide +kernel
theorem dX12_cry_22 : decode cX12_cry 22 = .ok (.aload_n 0, 1) := by decide +kernel
theorem dX12_cry_23 : decode cX12_cry 23 = .ok (.getfield 13, 3) := by decide +kernel
theorem dX12_cry_26 : decode cX12_cry 26 = .ok (.iload_n 2, 1) := by decide +kernel
theorem dX12_cry_27 : decode cX12_cry 27 = .ok (.iaload, 1) := by decide +kernel
theorem dX12_cry_28 : decode cX12_cry 28 = .ok (.invokestatic 146, 3) := by decide +kernel
theorem dX12_cry_31 : decode cX12_cry 31 = .ok (.iadd, 1) := by decide +kernel
theorem dX12_cry_32 : decode cX12_cry 32 = .ok (.invokestatic 149, 3) := by decide +kernel
theorem dX12_cry_35 : decode cX12_cry 35 = .ok (.iastore, 1) := by decide +kernel
theorem dX12_cry_36 : decode cX12_cry 36 = .ok (.aload_n 0, 1) := by decide +kernel
theorem dX12_cry_37 : decode cX12_cry 37 = .ok (.getfield 13, 3) := by decide +kernel
theorem dX12_cry_40 : decode cX12_cry 40 = .ok (.iload_n 2, 1) := by decide +kernel
theorem dX12_cry_41 : decode cX12_cry 41 = .ok (.iconst 0, 1) := by decide +kernel
theorem dX12_cry_42 : decode cX12_cry 42 = .ok (.iastore, 1) := by decide +kernel
theorem dX12_cry_43 : decode cX12_cry 43 = .ok (.iinc 2 1, 3) := by decide +kernel
theorem dX12_cry_46 : decode cX12_cry 46 = .ok (.goto (-44), 3) := by decide +kernel
theorem dX12_cry_49 : decode cX12_cry 49 = .ok (.aload_n 0, 1) := by decide +kernel
theorem dX12_cry_50 : decode cX12_cry 50 = .ok (.iload_n 1, 1) := by decide +kernel
theorem dX12_cry_51 : decode cX12_cry 51 = .ok (.putfield 91, 3) := by decide +kernel
theorem dX12_cry_54 : decode cX12_cry 54 = .ok (.aload_n 0, 1) := by decide +kernel
theorem dX12_cry_55 : decode cX12_cry 55 = .ok (.dup, 1) := by decide +kernel
theorem dX12_cry_56 : decode cX12_cry 56 = .ok (.getfield 123, 3) := by decide +kernel
theorem dX12_cry_59 : decode cX12_cry 59 = .ok (.iconst 1, 1) := by decide +kernel
theorem dX12_cry_60 : decode cX12_cry 60 = .ok (.iadd, 1) := by decide +kernel
theorem dX12_cry_61 : decode cX12_cry 61 = .ok (.putfield 123, 3) := by decide +kernel
theorem dX12_cry_64 : decode cX12_cry 64 = .ok (.return_, 1) := by decide +kernel
set_option maxRecDepth 20000 in
theorem ggX12_goOrCome_X12_goesOn : GoodIn wsX12_goOrCome wsX12_goesOn := goodIn_r _ [7, 2, 1, 8, 9, 10, 11, 12, 13, 14, 15, 16, 17, 18, 19, 20, 21, 22, 23, 24, 25, 26, 27, 28, 29, 30, 31, 32, 33, 34, 35, 36, 37] (by decide +kernel) (by decide +kernel)
set_option maxRecDepth 20000 in
theorem gX12_goOrCome_X12_goesOn : GoodIn wsX12_goOrCome (wsV RX12 137 RX12 yX12_goesOn wsX12_goesOn) := goodIn_app (goodIn_of _ (by decide +kernel)) ggX12_goOrCome_X12_goesOn
theorem dX12_goOrCome_0 : decode cX12_goOrCome 0 = .ok (.aload_n 0, 1) := by decide +kernel
theorem dX12_goOrCome_1 : decode cX12_goOrCome 1 = .ok (.getfield 19, 3) := by decide +kernel
theorem dX12_goOrCome_4 : decode cX12_goOrCome 4 = .ok (.iload_n 1, 1) := by decide +kernel
theorem dX12_goOrCome_5 : decode cX12_goOrCome 5 = .ok (.iconst 1, 1) := by decide +kernel
theorem dX12_goOrCome_6 : decode cX12_goOrCome 6 = .ok (.aload_n 0, 1) := by decide +kernel
theorem dX12_goOrCome_7 : decode cX12_goOrCome 7 = .ok (.getfield 19, 3) := by decide +kernel
theorem dX12_goOrCome_10 : decode cX12_goOrCome 10 = .ok (.iload_n 1, 1) := by decide +kernel
theorem dX12_goOrCome_11 : decode cX12_goOrCome 11 = .ok (.iaload, 1) := by decide +kernel
theorem dX12_goOrCome_12 : decode cX12_goOrCome 12 = .ok (.isub, 1) := by decide +kernel
theorem dX12_goOrCome_13 : decode cX12_goOrCome 13 = .ok (.iastore, 1) := by decide +kernel
theorem dX12_goOrCome_14 : decode cX12_goOrCome 14 = .ok (.aload_n 0, 1) := by decide +kernel
theorem dX12_goOrCome_15 : decode cX12_goOrCome 15 = .ok (.getfield 19, 3) := by decide +kernel
theorem dX12_goOrCome_18 : decode cX12_goOrCome 18 = .ok (.aload_n 0, 1) := by decide +kernel
theorem dX12_goOrCome_19 : decode cX12_goOrCome 19 = .ok (.getfield 91, 3) := by decide +kernel
theorem dX12_goOrCome_22 : decode cX12_goOrCome 22 = .ok (.iaload, 1) := by decide +kernel
theorem dX12_goOrCome_23 : decode cX12_goOrCome 23 = .ok (.ifCond .ne 7, 3) := by decide +kernel
theorem dX12_goOrCome_26 : decode cX12_goOrCome 26 = .ok (.aload_n 0, 1) := by decide +kernel
theorem dX12_goOrCome_27 : decode cX12_goOrCome 27 = .ok (.invokevirtual 137, 3) := by decide +kernel
theorem dX12_goOrCome_30 : decode cX12_goOrCome 30 = .ok (.return_, 1) := by decide +kernel
set_option maxRecDepth 20000 in
theorem ggX12_happen_X12_cast : GoodIn wsX12_happen wsX12_cast := goodIn_r _ [6, 7, 8, 9, 10, 1, 11, 12, 13, 5, 14, 15, 16, 17, 18, 19, 20, 21, 22, 23, 24, 25, 26, 27, 28, 29, 30, 31, 32, 49, 50, 51, 52, 53, 54, 55, 56, 57, 58, 59, 60, 61, 62, 63, 64, 65, 66, 67, 68, 69, 70, 71, 72, 73, 74, 75, 76, 77, 78] (by decide +kernel) (by decide +kernel)
set_option maxRecDepth 20000 in
theorem gX12_happen_X12_cast : GoodIn wsX12_happen (wsV RX12 152 RX12 yX12_cast wsX12_cast) := goodIn_app (goodIn_of _ (by decide +kernel)) ggX12_happen_X12_cast
set_option maxRecDepth 20000 in
theorem ggX12_happen_X12_cry : GoodIn wsX12_happen wsX12_cry := goodIn_r _ [36, 37, 7, 8, 38, 39, 40, 5, 41, 16, 17, 18, 19, 20, 21, 42, 43, 44, 49, 50, 51, 52, 53, 54, 55, 56, 57, 58, 59, 60, 61, 62, 63, 64, 65, 66, 67, 68, 69, 70, 71, 72, 73, 74, 75, 76, 77, 78] (by decide +kernel) (by decide +kernel)
set_option maxRecDepth 20000 in
theorem gX12_happen_X12_cry : GoodIn wsX12_happen (wsV RX12 156 RX12 yX12_cry wsX12_cry) := goodIn_app (goodIn_of _ (by decide +kernel)) ggX12_happen_X12_cry
set_option maxRecDepth 20000 in
theorem ggX12_happen_X12_goOrCome : GoodIn wsX12_happen wsX12_goOrCome := goodIn_r _ [48, 29, 8, 25, 26, 27, 5, 28, 49, 50, 51, 52, 53, 54, 55, 56, 57, 58, 59, 60, 61, 62, 63, 64, 65, 66, 67, 68, 69, 70, 71, 72, 73, 74, 75, 76, 77, 78] (by decide +kernel) (by decide +kernel)
set_option maxRecDepth 20000 in
theorem gX12_happen_X12_goOrCome : GoodIn wsX12_happen (wsV RX12 159 RX12 yX12_goOrCome wsX12_goOrCome) := goodIn_app (goodIn_of _ (by decide +kernel)) ggX12_happen_X12_goOrCome
set_option maxRecDepth 20000 in
theorem ggX12_happen_X12_goesOn : GoodIn wsX12_happen wsX12_goesOn := goodIn_r _ [28, 8, 29, 49, 50, 51, 52, 53, 54, 55, 56, 57, 58, 59, 60, 61, 62, 63, 64, 65, 66, 67, 68, 69, 70, 71, 72, 73, 74, 75, 76, 77, 78] (by decide +kernel) (by decide +kernel)
set_option maxRecDepth 20000 in
theorem gX12_happen_X12_goesOn : GoodIn wsX12_happen (wsV RX12 137 RX12 yX12_goesOn wsX12_goesOn) := goodIn_app (goodIn_of _ (by decide +kernel)) ggX12_happen_X12_goesOn
theorem dX12_happen_0 : decode cX12_happen 0 = .ok (.aload_n 0, 1) := by decide +kernel
theorem dX12_happen_1 : decode cX12_happen 1 = .ok (.bipush (-6), 2) := by decide +kernel
theorem dX12_happen_3 : decode cX12_happen 3 = .ok (.putfield 143, 3) := by decide +kernel
theorem dX12_happen_6 : decode cX12_happen 6 = .ok (.iload_n 1, 1) := by decide +kernel
theorem dX12_happen_7 : decode cX12_happen 7 = .ok (.tableswitch 53 0 3 #[29, 53, 37, 45], 29) := by decide +kernel
theorem dX12_happen_36 : decode cX12_happen 36 = .ok (.aload_n 0, 1) := by decide +kernel
theorem dX12_happen_37 : decode cX12_happen 37 = .ok (.iload_n 2, 1) := by decide +kernel
theorem dX12_happen_38 : decode cX12_happen 38 = .ok (.invokevirtual 152, 3) := by decide +kernel
theorem dX12_happen_41 : decode cX12_happen 41 = .ok (.goto 23, 3) := by decide +kernel
theorem dX12_happen_44 : decode cX12_happen 44 = .ok (.aload_n 0, 1) := by decide +kernel
theorem dX12_happen_45 : decode cX12_happen 45 = .ok (.iload_n 2, 1) := by decide +kernel
theorem dX12_happen_46 : decode cX12_happen 46 = .ok (.invokevirtual 156, 3) := by decide +kernel
theorem dX12_happen_49 : decode cX12_happen 49 = .ok (.goto 15, 3) := by decide +kernel
theorem dX12_happen_52 : decode cX12_happen 52 = .ok (.aload_n 0, 1) := by decide +kernel
theorem dX12_happen_53 : decode cX12_happen 53 = .ok (.iload_n 2, 1) := by decide +kernel
theorem dX12_happen_54 : decode cX12_happen 54 = .ok (.invokevirtual 159, 3) := by decide +kernel
theorem dX12_happen_57 : decode cX12_happen 57 = .ok (.goto 7, 3) := by decide +kernel
theorem dX12_happen_60 : decode cX12_happen 60 = .ok (.aload_n 0, 1) := by decide +kernel
theorem dX12_happen_61 : decode cX12_happen 61 = .ok (.invokevirtual 137, 3) := by decide +kernel
theorem dX12_happen_64 : decode cX12_happen 64 = .ok (.return_, 1) := by decide +kernel
theorem dX12_keepNow_0 : decode cX12_keepNow 0 = .ok (.iconst 0, 1) := by decide +kernel
theorem dX12_keepNow_1 : decode cX12_keepNow 1 = .ok (.istore_n 1, 1) := by decide +kernel
theorem dX12_keepNow_2 : decode cX12_keepNow 2 = .ok (.iload_n 1, 1) := by decide +kernel
theorem dX12_keepNow_3 : decode cX12_keepNow 3 = .ok (.bipush 6, 2) := by decide +kernel
theorem dX12_keepNow_5 : decode cX12_keepNow 5 = .ok (.if_icmp .ge 51, 3) := by decide +kernel
theorem dX12_keepNow_8 : decode cX12_keepNow 8 = .ok (.aload_n 0, 1) := by decide +kernel
theorem dX12_keepNow_9 : decode cX12_keepNow 9 = .ok (.getfield 37, 3) := by decide +kernel
theorem dX12_keepNow_12 : decode cX12_keepNow 12 = .ok (.iload_n 1, 1) := by decide +kernel
theorem dX12_keepNow_13 : decode cX12_keepNow 13 = .ok (.aload_n 0, 1) := by decide +kernel
theorem dX12_keepNow_14 : decode cX12_keepNow 14 = .ok (.getfield 13, 3) := by decide +kernel
theorem dX12_keepNow_17 : decode cX12_keepNow 17 = .ok (.iload_n 1, 1) := by decide +kernel
theorem dX12_keepNow_18 : decode cX12_keepNow 18 = .ok (.iaload, 1) := by decide +kernel
theorem dX12_keepNow_19 : decode cX12_keepNow 19 = .ok (.iastore, 1) := by decide +kernel
theorem dX12_keepNow_20 : decode cX12_keepNow 20 = .ok (.aload_n 0, 1) := by decide +kernel
theorem dX12_keepNow_21 : decode cX12_keepNow 21 = .ok (.getfield 37, 3) := by decide +kernel
theorem dX12_keepNow_24 : decode cX12_keepNow 24 = .ok (.bipush 6, 2) := by decide +kernel
theorem dX12_keepNow_26 : decode cX12_keepNow 26 = .ok (.iload_n 1, 1) := by decide +kernel
theorem dX12_keepNow_27 : decode cX12_keepNow 27 = .ok (.iadd, 1) := by decide +kernel
theorem dX12_keepNow_28 : decode cX12_keepNow 28 = .ok (.aload_n 0, 1) := by decide +kernel
theorem dX12_keepNow_29 : decode cX12_keepNow 29 = .ok (.getfield 16, 3) := by decide +kernel
theorem dX12_keepNow_32 : decode cX12_keepNow 32 = .ok (.iload_n 1, 1) := by decide +kernel
theorem dX12_keepNow_33 : decode cX12_keepNow 33 = .ok (.iaload, 1) := by decide +kernel
theorem dX12_keepNow_34 : decode cX12_keepNow 34 = .ok (.iastore, 1) := by decide +kernel
theorem dX12_keepNow_35 : decode cX12_keepNow 35 = .ok (.aload_n 0, 1) := by decide +kernel
theorem dX12_keepNow_36 : decode cX12_keepNow 36 = .ok (.getfield 37, 3) := by decide +kernel
theorem dX12_keepNow_39 : decode cX12_keepNow 39 = .ok (.bipush 12, 2) := by decide +kernel
theorem dX12_keepNow_41 : decode cX12_keepNow 41 = .ok (.iload_n 1, 1) := by decide +kernel
theorem dX12_keepNow_42 : decode cX12_keepNow 42 = .ok (.iadd, 1) := by decide +kernel
theorem dX12_keepNow_43 : decode cX12_keepNow 43 = .ok (.aload_n 0, 1) := by decide +kernel
theorem dX12_keepNow_44 : decode cX12_keepNow 44 = .ok (.getfield 19, 3) := by decide +kernel
theorem dX12_keepNow_47 : decode cX12_keepNow 47 = .ok (.iload_n 1, 1) := by decide +kernel
theorem dX12_keepNow_48 : decode cX12_keepNow 48 = .ok (.iaload, 1) := by decide +kernel
theorem dX12_keepNow_49 : decode cX12_keepNow 49 = .ok (.iastore, 1) := by decide +kernel
theorem dX12_keepNow_50 : decode cX12_keepNow 50 = .ok (.iinc 1 1, 3) := by decide +kernel
theorem dX12_keepNow_53 : decode cX12_keepNow 53 = .ok (.goto (-51), 3) := by decide +kernel
theorem dX12_keepNow_56 : decode cX12_keepNow 56 = .ok (.aload_n 0, 1) := by decide +kernel
theorem dX12_keepNow_57 : decode cX12_keepNow 57 = .ok (.getfield 37, 3) := by decide +kernel
theorem dX12_keepNow_60 : decode cX12_keepNow 60 = .ok (.bipush 18, 2) := by decide +kernel
theorem dX12_keepNow_62 : decode cX12_keepNow 62 = .ok (.aload_n 0, 1) := by decide +kernel
theorem dX12_keepNow_63 : decode cX12_keepNow 63 = .ok (.getfield 91, 3) := by decide +kernel
theorem dX12_keepNow_66 : decode cX12_keepNow 66 = .ok (.iastore, 1) := by decide +kernel
theorem dX12_keepNow_67 : decode cX12_keepNow 67 = .ok (.aload_n 0, 1) := by decide +kernel
theorem dX12_keepNow_68 : decode cX12_keepNow 68 = .ok (.getfield 37, 3) := by decide +kernel
theorem dX12_keepNow_71 : decode cX12_keepNow 71 = .ok (.bipush 19, 2) := by decide +kernel
theorem dX12_keepNow_73 : decode cX12_keepNow 73 = .ok (.aload_n 0, 1) := by decide +kernel
theorem dX12_keepNow_74 : decode cX12_keepNow 74 = .ok (.getfield 123, 3) := by decide +kernel
theorem dX12_keepNow_77 : decode cX12_keepNow 77 = .ok (.iastore, 1) := by decide +kernel
theorem dX12_keepNow_78 : decode cX12_keepNow 78 = .ok (.return_, 1) := by decide +kernel
theorem dX12_back_0 : decode cX12_back 0 = .ok (.iconst 0, 1) := by decide +kernel
theorem dX12_back_1 : decode cX12_back 1 = .ok (.istore_n 2, 1) := by decide +kernel
theorem dX12_back_2 : decode cX12_back 2 = .ok (.iload_n 2, 1) := by decide +kernel
theorem dX12_back_3 : decode cX12_back 3 = .ok (.bipush 6, 2) := by decide +kernel
theorem dX12_back_5 : decode cX12_back 5 = .ok (.if_icmp .ge 51, 3) := by decide +kernel
theorem dX12_back_8 : decode cX12_back 8 = .ok (.aload_n 0, 1) := by decide +kernel
theorem dX12_back_9 : decode cX12_back 9 = .ok (.getfield 13, 3) := by decide +kernel
theorem dX12_back_12 : decode cX12_back 12 = .ok (.iload_n 2, 1) := by decide +kernel
theorem dX12_back_13 : decode cX12_back 13 = .ok (.aload_n 0, 1) := by decide +kernel
theorem dX12_back_14 : decode cX12_back 14 = .ok (.getfield 37, 3) := by decide +kernel
theorem dX12_back_17 : decode cX12_back 17 = .ok (.iload_n 2, 1) := by decide +kernel
theorem dX12_back_18 : decode cX12_back 18 = .ok (.iaload, 1) := by decide +kernel
theorem dX12_back_19 : decode cX12_back 19 = .ok (.iastore, 1) := by decide +kernel
theorem dX12_back_20 : decode cX12_back 20 = .ok (.aload_n 0, 1) := by decide +kernel
theorem dX12_back_21 : decode cX12_back 21 = .ok (.getfield 16, 3) := by decide +kernel
theorem dX12_back_24 : decode cX12_back 24 = .ok (.iload_n 2, 1) := by decide +kernel
theorem dX12_back_25 : decode cX12_back 25 = .ok (.aload_n 0, 1) := by decide +kernel
theorem dX12_back_26 : decode cX12_back 26 = .ok (.getfield 37, 3) := by decide +kernel
theorem dX12_back_29 : decode cX12_back 29 = .ok (.bipush 6, 2) := by decide +kernel
theorem dX12_back_31 : decode cX12_back 31 = .ok (.iload_n 2, 1) := by decide +kernel
theorem dX12_back_32 : decode cX12_back 32 = .ok (.iadd, 1) := by decide +kernel
theorem dX12_back_33 : decode cX12_back 33 = .ok (.iaload, 1) := by decide +kernel
theorem dX12_back_34 : decode cX12_back 34 = .ok (.iastore, 1) := by decide +kernel
theorem dX12_back_35 : decode cX12_back 35 = .ok (.aload_n 0, 1) := by decide +kernel
theorem dX12_back_36 : decode cX12_back 36 = .ok (.getfield 19, 3) := by decide +kernel
theorem dX12_back_39 : decode cX12_back 39 = .ok (.iload_n 2, 1) := by decide +kernel
theorem dX12_back_40 : decode cX12_back 40 = .ok (.aload_n 0, 1) := by decide +kernel
theorem dX12_back_41 : decode cX12_back 41 = .ok (.getfield 37, 3) := by decide +kernel
theorem dX12_back_44 : decode cX12_back 44 = .ok (.bipush 12, 2) := by decide +kernel
theorem dX12_back_46 : decode cX12_back 46 = .ok (.iload_n 2, 1) := by decide +kernel
theorem dX12_back_47 : decode cX12_back 47 = .ok (.iadd, 1) := by decide +kernel
theorem dX12_back_48 : decode cX12_back 48 = .ok (.iaload, 1) := by decide +kernel
theorem dX12_back_49 : decode cX12_back 49 = .ok (.iastore, 1) := by decide +kernel
theorem dX12_back_50 : decode cX12_back 50 = .ok (.iinc 2 1, 3) := by decide +kernel
theorem dX12_back_53 : decode cX12_back 53 = .ok (.goto (-51), 3) := by decide +kernel
theorem dX12_back_56 : decode cX12_back 56 = .ok (.aload_n 0, 1) := by decide +kernel
theorem dX12_back_57 : decode cX12_back 57 = .ok (.aload_n 0, 1) := by decide +kernel
theorem dX12_back_58 : decode cX12_back 58 = .ok (.getfield 37, 3) := by decide +kernel
theorem dX12_back_61 : decode cX12_back 61 = .ok (.bipush 18, 2) := by decide +kernel
theorem dX12_back_63 : decode cX12_back 63 = .ok (.iaload, 1) := by decide +kernel
theorem dX12_back_64 : decode cX12_back 64 = .ok (.putfield 91, 3) := by decide +kernel
theorem dX12_back_67 : decode cX12_back 67 = .ok (.aload_n 0, 1) := by decide +kernel
theorem dX12_back_68 : decode cX12_back 68 = .ok (.aload_n 0, 1) := by decide +kernel
theorem dX12_back_69 : decode cX12_back 69 = .ok (.getfield 37, 3) := by decide +kernel
theorem dX12_back_72 : decode cX12_back 72 = .ok (.bipush 19, 2) := by decide +kernel
theorem dX12_back_74 : decode cX12_back 74 = .ok (.iaload, 1) := by decide +kernel
theorem dX12_back_75 : decode cX12_back 75 = .ok (.putfield 123, 3) := by decide +kernel
theorem dX12_back_78 : decode cX12_back 78 = .ok (.iload_n 1, 1) := by decide +kernel
theorem dX12_back_79 : decode cX12_back 79 = .ok (.ireturn, 1) := by decide +kernel
set_option maxRecDepth 20000 in
theorem ggX12_goOne_X12_happen : GoodIn wsX12_goOne wsX12_happen := goodIn_r _ [10, 3, 11, 12, 13, 9, 14, 15, 16, 17, 18, 19, 20, 21, 22, 23, 24, 25, 26, 27, 28, 29, 30, 31, 32, 33, 34, 35, 36, 37, 38, 39, 40, 41, 42, 43, 44, 45, 46, 47, 48, 49, 50, 51, 52, 53, 54, 55, 56, 57, 58, 59, 60, 61, 62, 63, 64, 65, 66, 67, 68, 69, 70, 71, 72, 73, 74, 75, 76, 77, 78, 79, 80, 81, 82, 83, 84, 85, 86] (by decide +kernel) (by decide +kernel)
set_option maxRecDepth 20000 in
theorem gX12_goOne_X12_happen : GoodIn wsX12_goOne (wsV RX12 162 RX12 yX12_happen wsX12_happen) := goodIn_app (goodIn_of _ (by decide +kernel)) ggX12_goOne_X12_happen
theorem dX12_goOne_0 : decode cX12_goOne 0 = .ok (.aload_n 0, 1) := by decide +kernel
theorem dX12_goOne_1 : decode cX12_goOne 1 = .ok (.aload_n 0, 1) := by decide +kernel
theorem dX12_goOne_2 : decode cX12_goOne 2 = .ok (.getfield 31, 3) := by decide +kernel
theorem dX12_goOne_5 : decode cX12_goOne 5 = .ok (.iload_n 1, 1) := by decide +kernel
theorem dX12_goOne_6 : decode cX12_goOne 6 = .ok (.iaload, 1) := by decide +kernel
theorem dX12_goOne_7 : decode cX12_goOne 7 = .ok (.aload_n 0, 1) := by decide +kernel
theorem dX12_goOne_8 : decode cX12_goOne 8 = .ok (.getfield 34, 3) := by decide +kernel
theorem dX12_goOne_11 : decode cX12_goOne 11 = .ok (.iload_n 1, 1) := by decide +kernel
theorem dX12_goOne_12 : decode cX12_goOne 12 = .ok (.iaload, 1) := by decide +kernel
theorem dX12_goOne_13 : decode cX12_goOne 13 = .ok (.invokevirtual 162, 3) := by decide +kernel
theorem dX12_goOne_16 : decode cX12_goOne 16 = .ok (.aload_n 0, 1) := by decide +kernel
theorem dX12_goOne_17 : decode cX12_goOne 17 = .ok (.getfield 143, 3) := by decide +kernel
theorem dX12_goOne_20 : decode cX12_goOne 20 = .ok (.ifCond .lt 23, 3) := by decide +kernel
theorem dX12_goOne_23 : decode cX12_goOne 23 = .ok (.aload_n 0, 1) := by decide +kernel
theorem dX12_goOne_24 : decode cX12_goOne 24 = .ok (.getfield 166, 3) := by decide +kernel
theorem dX12_goOne_27 : decode cX12_goOne 27 = .ok (.ifCond .ge 16, 3) := by decide +kernel
theorem dX12_goOne_30 : decode cX12_goOne 30 = .ok (.aload_n 0, 1) := by decide +kernel
theorem dX12_goOne_31 : decode cX12_goOne 31 = .ok (.iload_n 1, 1) := by decide +kernel
theorem dX12_goOne_32 : decode cX12_goOne 32 = .ok (.putfield 166, 3) := by decide +kernel
theorem dX12_goOne_35 : decode cX12_goOne 35 = .ok (.aload_n 0, 1) := by decide +kernel
theorem dX12_goOne_36 : decode cX12_goOne 36 = .ok (.aload_n 0, 1) := by decide +kernel
theorem dX12_goOne_37 : decode cX12_goOne 37 = .ok (.getfield 143, 3) := by decide +kernel
theorem dX12_goOne_40 : decode cX12_goOne 40 = .ok (.putfield 169, 3) := by decide +kernel
theorem dX12_goOne_43 : decode cX12_goOne 43 = .ok (.return_, 1) := by decide +kernel
set_option maxRecDepth 20000 in
theorem ggX12_goGames_X12_whyNot : GoodIn wsX12_goGames wsX12_whyNot := goodIn_r _ [13, 14, 15, 16, 17, 18, 19, 20, 21, 12, 22, 72, 73, 74, 75, 76, 77, 78, 79, 80, 81, 82, 83, 84, 85, 86, 87, 88, 89, 90, 91, 92, 93, 94, 95, 96, 97, 98, 99, 100, 101] (by decide +kernel) (by decide +kernel)
set_option maxRecDepth 20000 in
theorem gX12_goGames_X12_whyNot : GoodIn wsX12_goGames (wsV RX12 178 RX12 yX12_whyNot wsX12_whyNot) := goodIn_app (goodIn_of _ (by decide +kernel)) ggX12_goGames_X12_whyNot
set_option maxRecDepth 20000 in
theorem ggX12_goGames_X12_goOne : GoodIn wsX12_goGames wsX12_goOne := goodIn_r _ [26, 7, 8, 27, 3, 4, 28, 29, 30, 12, 31, 32, 33, 34, 35, 14, 15, 5, 16, 36, 37, 38, 39, 40, 41, 42, 43, 44, 45, 46, 47, 48, 49, 50, 51, 52, 53, 17, 54, 55, 56, 57, 58, 59, 60, 61, 18, 62, 63, 64, 65, 66, 67, 68, 69, 70, 71, 72, 73, 74, 75, 76, 77, 78, 79, 80, 81, 82, 83, 84, 85, 86, 87, 88, 89, 90, 91, 92, 93, 94, 95, 96, 97, 98, 99, 100, 101] (by decide +kernel) (by decide +kernel)
set_option maxRecDepth 20000 in
theorem gX12_goGames_X12_goOne : GoodIn wsX12_goGames (wsV RX12 181 RX12 yX12_goOne wsX12_goOne) := goodIn_app (goodIn_of _ (by decide +kernel)) ggX12_goGames_X12_goOne
theorem dX12_goGames_0 : decode cX12_goGames 0 = .ok (.aload_n 0, 1) := by decide +kernel
theorem dX12_goGames_1 : decode cX12_goGames 1 = .ok (.bipush (-6), 2) := by decide +kernel
theorem dX12_goGames_3 : decode cX12_goGames 3 = .ok (.putfield 172, 3) := by decide +kernel
theorem dX12_goGames_6 : decode cX12_goGames 6 = .ok (.aload_n 0, 1) := by decide +kernel
theorem dX12_goGames_7 : decode cX12_goGames 7 = .ok (.bipush (-6), 2) := by decide +kernel
theorem dX12_goGames_9 : decode cX12_goGames 9 = .ok (.putfield 175, 3) := by decide +kernel
theorem dX12_goGames_12 : decode cX12_goGames 12 = .ok (.aload_n 0, 1) := by decide +kernel
theorem dX12_goGames_13 : decode cX12_goGames 13 = .ok (.bipush (-6), 2) := by decide +kernel
theorem dX12_goGames_15 : decode cX12_goGames 15 = .ok (.putfield 166, 3) := by decide +kernel
theorem dX12_goGames_18 : decode cX12_goGames 18 = .ok (.aload_n 0, 1) := by decide +kernel
theorem dX12_goGames_19 : decode cX12_goGames 19 = .ok (.bipush (-6), 2) := by decide +kernel
theorem dX12_goGames_21 : decode cX12_goGames 21 = .ok (.putfield 169, 3) := by decide +kernel
theorem dX12_goGames_24 : decode cX12_goGames 24 = .ok (.aload_n 0, 1) := by decide +kernel
theorem dX12_goGames_25 : decode cX12_goGames 25 = .ok (.iconst 0, 1) := by decide +kernel
theorem dX12_goGames_26 : decode cX12_goGames 26 = .ok (.putfield 134, 3) := by decide +kernel
theorem dX12_goGames_29 : decode cX12_goGames 29 = .ok (.iconst 0, 1) := by decide +kernel
theorem dX12_goGames_30 : decode cX12_goGames 30 = .ok (.istore_n 1, 1) := by decide +kernel
theorem dX12_goGames_31 : decode cX12_goGames 31 = .ok (.iload_n 1, 1) := by decide +kernel
theorem dX12_goGames_32 : decode cX12_goGames 32 = .ok (.aload_n 0, 1) := by decide +kernel
theorem dX12_goGames_33 : decode cX12_goGames 33 = .ok (.getfield 102, 3) := by decide +kernel
theorem dX12_goGames_36 : decode cX12_goGames 36 = .ok (.if_icmp .ge 70, 3) := by decide +kernel
theorem dX12_goGames_39 : decode cX12_goGames 39 = .ok (.aload_n 0, 1) := by decide +kernel
theorem dX12_goGames_40 : decode cX12_goGames 40 = .ok (.getfield 172, 3) := by decide +kernel
theorem dX12_goGames_43 : decode cX12_goGames 43 = .ok (.ifCond .ge 63, 3) := by decide +kernel
theorem dX12_goGames_46 : decode cX12_goGames 46 = .ok (.aload_n 0, 1) := by decide +kernel
theorem dX12_goGames_47 : decode cX12_goGames 47 = .ok (.aload_n 0, 1) := by decide +kernel
theorem dX12_goGames_48 : decode cX12_goGames 48 = .ok (.getfield 31, 3) := by decide +kernel
theorem dX12_goGames_51 : decode cX12_goGames 51 = .ok (.iload_n 1, 1) := by decide +kernel
theorem dX12_goGames_52 : decode cX12_goGames 52 = .ok (.iaload, 1) := by decide +kernel
theorem dX12_goGames_53 : decode cX12_goGames 53 = .ok (.aload_n 0, 1) := by decide +kernel
theorem dX12_goGames_54 : decode cX12_goGames 54 = .ok (.getfield 34, 3) := by decide +kernel
theorem dX12_goGames_57 : decode cX12_goGames 57 = .ok (.iload_n 1, 1) := by decide +kernel
theorem dX12_goGames_58 : decode cX12_goGames 58 = .ok (.iaload, 1) := by decide +kernel
theorem dX12_goGames_59 : decode cX12_goGames 59 = .ok (.invokevirtual 178, 3) := by decide +kernel
theorem dX12_goGames_62 : decode cX12_goGames 62 = .ok (.istore_n 2, 1) := by decide +kernel
theorem dX12_goGames_63 : decode cX12_goGames 63 = .ok (.aload_n 0, 1) := by decide +kernel
theorem dX12_goGames_64 : decode cX12_goGames 64 = .ok (.iload_n 2, 1) := by decide +kernel
theorem dX12_goGames_65 : decode cX12_goGames 65 = .ok (.ifCond .le 7, 3) := by decide +kernel
theorem dX12_goGames_68 : decode cX12_goGames 68 = .ok (.iload_n 1, 1) := by decide +kernel
theorem dX12_goGames_69 : decode cX12_goGames 69 = .ok (.goto 5, 3) := by decide +kernel
theorem dX12_goGames_72 : decode cX12_goGames 72 = .ok (.bipush (-6), 2) := by decide +kernel
theorem dX12_goGames_74 : decode cX12_goGames 74 = .ok (.putfield 172, 3) := by decide +kernel
theorem dX12_goGames_77 : decode cX12_goGames 77 = .ok (.aload_n 0, 1) := by decide +kernel
theorem dX12_goGames_78 : decode cX12_goGames 78 = .ok (.iload_n 2, 1) := by decide +kernel
theorem dX12_goGames_79 : decode cX12_goGames 79 = .ok (.ifCond .le 7, 3) := by decide +kernel
theorem dX12_goGames_82 : decode cX12_goGames 82 = .ok (.iload_n 2, 1) := by decide +kernel
theorem dX12_goGames_83 : decode cX12_goGames 83 = .ok (.goto 5, 3) := by decide +kernel
theorem dX12_goGames_86 : decode cX12_goGames 86 = .ok (.bipush (-6), 2) := by decide +kernel
theorem dX12_goGames_88 : decode cX12_goGames 88 = .ok (.putfield 175, 3) := by decide +kernel
theorem dX12_goGames_91 : decode cX12_goGames 91 = .ok (.iload_n 2, 1) := by decide +kernel
theorem dX12_goGames_92 : decode cX12_goGames 92 = .ok (.ifCond .ne 8, 3) := by decide +kernel
theorem dX12_goGames_95 : decode cX12_goGames 95 = .ok (.aload_n 0, 1) := by decide +kernel
theorem dX12_goGames_96 : decode cX12_goGames 96 = .ok (.iload_n 1, 1) := by decide +kernel
theorem dX12_goGames_97 : decode cX12_goGames 97 = .ok (.invokevirtual 181, 3) := by decide +kernel
theorem dX12_goGames_100 : decode cX12_goGames 100 = .ok (.iinc 1 1, 3) := by decide +kernel
theorem dX12_goGames_103 : decode cX12_goGames 103 = .ok (.goto (-72), 3) := by decide +kernel
theorem dX12_goGames_106 : decode cX12_goGames 106 = .ok (.return_, 1) := by decide +kernel
set_option maxRecDepth 20000 in
theorem ggX12_refusal_X12_keepNow : GoodIn wsX12_refusal wsX12_keepNow := goodIn_r _ [6, 7, 8, 9, 10, 11, 12, 106, 107, 108, 109, 110, 111, 112, 113, 114, 115, 116, 117, 118, 119, 120, 121, 122, 123, 124, 125, 126, 127, 128, 129, 130, 131, 132, 133, 134, 135] (by decide +kernel) (by decide +kernel)
set_option maxRecDepth 20000 in
theorem gX12_refusal_X12_keepNow : GoodIn wsX12_refusal (wsV RX12 184 RX12 yX12_keepNow wsX12_keepNow) := goodIn_app (goodIn_of _ (by decide +kernel)) ggX12_refusal_X12_keepNow
set_option maxRecDepth 20000 in
theorem ggX12_refusal_X12_fault : GoodIn wsX12_refusal wsX12_fault := goodIn_r _ [16, 17, 18, 19, 20, 21, 22, 5, 23, 24, 25, 26, 27, 28, 29, 30, 31, 32, 33, 34, 35, 36, 37, 38, 39, 40, 106, 107, 108, 109, 110, 111, 112, 113, 114, 115, 116, 117, 118, 119, 120, 121, 122, 123, 124, 125, 126, 127, 128, 129, 130, 131, 132, 133, 134, 135] (by decide +kernel) (by decide +kernel)
set_option maxRecDepth 20000 in
theorem gX12_refusal_X12_fault : GoodIn wsX12_refusal (wsV RX12 187 RX12 yX12_fault wsX12_fault) := goodIn_app (goodIn_of _ (by decide +kernel)) ggX12_refusal_X12_fault
set_option maxRecDepth 20000 in
theorem ggX12_refusal_X12_goGames : GoodIn wsX12_refusal wsX12_goGames := goodIn_r _ [44, 1, 45, 46, 47, 48, 17, 36, 26, 49, 50, 51, 5, 52, 8, 11, 53, 10, 12, 54, 55, 56, 57, 58, 59, 60, 61, 62, 63, 64, 65, 66, 67, 68, 69, 70, 71, 72, 73, 74, 75, 76, 77, 78, 79, 80, 81, 82, 83, 84, 85, 86, 87, 88, 89, 90, 91, 92, 93, 94, 95, 9, 96, 97, 98, 99, 100, 101, 102, 103, 104, 105, 106, 107, 108, 109, 110, 111, 112, 113, 114, 115, 116, 117, 118, 119, 120, 121, 122, 123, 124, 125, 126, 127, 128, 129, 130, 131, 132, 133, 134, 135] (by decide +kernel) (by decide +kernel)
set_option maxRecDepth 20000 in
theorem gX12_refusal_X12_goGames : GoodIn wsX12_refusal (wsV RX12 190 RX12 yX12_goGames wsX12_goGames) := goodIn_app (goodIn_of _ (by decide +kernel)) ggX12_refusal_X12_goGames
theorem dX12_refusal_0 : decode cX12_refusal 0 = .ok (.aload_n 0, 1) := by decide +kernel
theorem dX12_refusal_1 : decode cX12_refusal 1 = .ok (.invokevirtual 184, 3) := by decide +kernel
theorem dX12_refusal_4 : decode cX12_refusal 4 = .ok (.aload_n 0, 1) := by decide +kernel
theorem dX12_refusal_5 : decode cX12_refusal 5 = .ok (.invokevirtual 187, 3) := by decide +kernel
theorem dX12_refusal_8 : decode cX12_refusal 8 = .ok (.ifCond .lt 6, 3) := by decide +kernel
theorem dX12_refusal_11 : decode cX12_refusal 11 = .ok (.bipush (-5), 2) := by decide +kernel
theorem dX12_refusal_13 : decode cX12_refusal 13 = .ok (.ireturn, 1) := by decide +kernel
theorem dX12_refusal_14 : decode cX12_refusal 14 = .ok (.aload_n 0, 1) := by decide +kernel
theorem dX12_refusal_15 : decode cX12_refusal 15 = .ok (.invokevirtual 190, 3) := by decide +kernel
theorem dX12_refusal_18 : decode cX12_refusal 18 = .ok (.aload_n 0, 1) := by decide +kernel
theorem dX12_refusal_19 : decode cX12_refusal 19 = .ok (.getfield 172, 3) := by decide +kernel
theorem dX12_refusal_22 : decode cX12_refusal 22 = .ok (.ifCond .lt 8, 3) := by decide +kernel
theorem dX12_refusal_25 : decode cX12_refusal 25 = .ok (.bipush (-3), 2) := by decide +kernel
theorem dX12_refusal_27 : decode cX12_refusal 27 = .ok (.goto 5, 3) := by decide +kernel
theorem dX12_refusal_30 : decode cX12_refusal 30 = .ok (.bipush (-6), 2) := by decide +kernel
theorem dX12_refusal_32 : decode cX12_refusal 32 = .ok (.ireturn, 1) := by decide +kernel
set_option maxRecDepth 20000 in
theorem ggX12_judge_X12_in : GoodIn wsX12_judge wsX12_in := goodIn_r _ [8] (by decide +kernel) (by decide +kernel)
set_option maxRecDepth 20000 in
theorem gX12_judge_X12_in : GoodIn wsX12_judge (va_wsS RX12 65 yX12_in wsX12_in) := goodIn_app (goodIn_of _ (by decide +kernel)) ggX12_judge_X12_in
set_option maxRecDepth 20000 in
theorem ggX12_judge_X12_refusal : GoodIn wsX12_judge wsX12_refusal := goodIn_r _ [12, 2, 13, 14, 15, 7, 16, 17, 18, 19, 20, 21, 22, 23, 24, 25, 26, 27, 28, 29, 30, 31, 32, 33, 34, 35, 36, 37, 38, 5, 6, 8, 39, 40, 41, 42, 43, 44, 45, 46, 47, 48, 49, 50, 51, 3, 52, 53, 4, 54, 55, 56, 57, 58, 59, 60, 61, 62, 63, 64, 65, 66, 67, 68, 69, 70, 71, 72, 73, 74, 75, 76, 77, 78, 79, 80, 81, 82, 83, 84, 85, 86, 87, 88, 89, 90, 91, 92, 93, 94, 95, 96, 97, 98, 99, 100, 101, 102, 103, 104, 105, 106, 107, 108, 109, 110, 115, 116, 117, 118, 119, 120, 121, 122, 123, 124, 125, 126, 127, 128, 129, 130, 131, 132, 133, 134, 135, 136, 137, 138, 139, 140, 141, 142, 143, 144] (by decide +kernel) (by decide +kernel)
set_option maxRecDepth 20000 in
theorem gX12_judge_X12_refusal : GoodIn wsX12_judge (wsV RX12 195 RX12 yX12_refusal wsX12_refusal) := goodIn_app (goodIn_of _ (by decide +kernel)) ggX12_judge_X12_refusal
set_option maxRecDepth 20000 in
theorem ggX12_judge_X12_back : GoodIn wsX12_judge wsX12_back := goodIn_r _ [114, 18, 17, 19, 20, 21, 22, 115, 116, 117, 118, 119, 120, 121, 122, 123, 124, 125, 126, 127, 128, 129, 130, 131, 132, 133, 134, 135, 136, 137, 138, 139, 140, 141, 142, 143, 144] (by decide +kernel) (by decide +kernel)
set_option maxRecDepth 20000 in
theorem gX12_judge_X12_back : GoodIn wsX12_judge (wsV RX12 198 RX12 yX12_back wsX12_back) := goodIn_app (goodIn_of _ (by decide +kernel)) ggX12_judge_X12_back
theorem dX12_judge_0 : decode cX12_judge 0 = .ok (.iload_n 1, 1) := by decide +kernel
theorem dX12_judge_1 : decode cX12_judge 1 = .ok (.i2l, 1) := by decide +kernel
theorem dX12_judge_2 : decode cX12_judge 2 = .ok (.lconst 0, 1) := by decide +kernel
theorem dX12_judge_3 : decode cX12_judge 3 = .ok (.ldc2_w 193, 3) := by decide +kernel
theorem dX12_judge_6 : decode cX12_judge 6 = .ok (.invokestatic 65, 3) := by decide +kernel
theorem dX12_judge_9 : decode cX12_judge 9 = .ok (.ifCond .ne 6, 3) := by decide +kernel
theorem dX12_judge_12 : decode cX12_judge 12 = .ok (.bipush (-2), 2) := by decide +kernel
theorem dX12_judge_14 : decode cX12_judge 14 = .ok (.ireturn, 1) := by decide +kernel
theorem dX12_judge_15 : decode cX12_judge 15 = .ok (.aload_n 0, 1) := by decide +kernel
theorem dX12_judge_16 : decode cX12_judge 16 = .ok (.aload_n 0, 1) := by decide +kernel
theorem dX12_judge_17 : decode cX12_judge 17 = .ok (.invokevirtual 195, 3) := by decide +kernel
theorem dX12_judge_20 : decode cX12_judge 20 = .ok (.invokevirtual 198, 3) := by decide +kernel
theorem dX12_judge_23 : decode cX12_judge 23 = .ok (.istore_n 2, 1) := by decide +kernel
theorem dX12_judge_24 : decode cX12_judge 24 = .ok (.iload_n 2, 1) := by decide +kernel
theorem dX12_judge_25 : decode cX12_judge 25 = .ok (.bipush (-5), 2) := by decide +kernel
theorem dX12_judge_27 : decode cX12_judge 27 = .ok (.if_icmp .eq 14, 3) := by decide +kernel
theorem dX12_judge_30 : decode cX12_judge 30 = .ok (.iload_n 1, 1) := by decide +kernel
theorem dX12_judge_31 : decode cX12_judge 31 = .ok (.iconst 1, 1) := by decide +kernel
theorem dX12_judge_32 : decode cX12_judge 32 = .ok (.if_icmp .le 11, 3) := by decide +kernel
theorem dX12_judge_35 : decode cX12_judge 35 = .ok (.iload_n 2, 1) := by decide +kernel
theorem dX12_judge_36 : decode cX12_judge 36 = .ok (.bipush (-3), 2) := by decide +kernel
theorem dX12_judge_38 : decode cX12_judge 38 = .ok (.if_icmp .ne 5, 3) := by decide +kernel
theorem dX12_judge_41 : decode cX12_judge 41 = .ok (.iload_n 2, 1) := by decide +kernel
theorem dX12_judge_42 : decode cX12_judge 42 = .ok (.ireturn, 1) := by decide +kernel
theorem dX12_judge_43 : decode cX12_judge 43 = .ok (.iload_n 1, 1) := by decide +kernel
theorem dX12_judge_44 : decode cX12_judge 44 = .ok (.ifCond .ne 10, 3) := by decide +kernel
theorem dX12_judge_47 : decode cX12_judge 47 = .ok (.aload_n 0, 1) := by decide +kernel
theorem dX12_judge_48 : decode cX12_judge 48 = .ok (.getfield 172, 3) := by decide +kernel
theorem dX12_judge_51 : decode cX12_judge 51 = .ok (.goto 19, 3) := by decide +kernel
theorem dX12_judge_54 : decode cX12_judge 54 = .ok (.iload_n 1, 1) := by decide +kernel
theorem dX12_judge_55 : decode cX12_judge 55 = .ok (.iconst 1, 1) := by decide +kernel
theorem dX12_judge_56 : decode cX12_judge 56 = .ok (.if_icmp .ne 10, 3) := by decide +kernel
theorem dX12_judge_59 : decode cX12_judge 59 = .ok (.aload_n 0, 1) := by decide +kernel
theorem dX12_judge_60 : decode cX12_judge 60 = .ok (.getfield 175, 3) := by decide +kernel
theorem dX12_judge_63 : decode cX12_judge 63 = .ok (.goto 7, 3) := by decide +kernel
theorem dX12_judge_66 : decode cX12_judge 66 = .ok (.aload_n 0, 1) := by decide +kernel
theorem dX12_judge_67 : decode cX12_judge 67 = .ok (.getfield 134, 3) := by decide +kernel
theorem dX12_judge_70 : decode cX12_judge 70 = .ok (.ireturn, 1) := by decide +kernel
set_option maxRecDepth 20000 in
theorem ggX12_ofPlayer_X12_partsOf : GoodIn wsX12_ofPlayer wsX12_partsOf := goodIn_r _ [7, 8, 9, 6, 10, 11, 12, 13] (by decide +kernel) (by decide +kernel)
set_option maxRecDepth 20000 in
theorem gX12_ofPlayer_X12_partsOf : GoodIn wsX12_ofPlayer (va_wsS RX12 146 yX12_partsOf wsX12_partsOf) := goodIn_app (goodIn_of _ (by decide +kernel)) ggX12_ofPlayer_X12_partsOf
theorem dX12_ofPlayer_0 : decode cX12_ofPlayer 0 = .ok (.iload_n 2, 1) := by decide +kernel
theorem dX12_ofPlayer_1 : decode cX12_ofPlayer 1 = .ok (.tableswitch 51 0 2 #[27, 37, 44], 27) := by decide +kernel
theorem dX12_ofPlayer_28 : decode cX12_ofPlayer 28 = .ok (.aload_n 0, 1) := by decide +kernel
theorem dX12_ofPlayer_29 : decode cX12_ofPlayer 29 = .ok (.getfield 13, 3) := by decide +kernel
theorem dX12_ofPlayer_32 : decode cX12_ofPlayer 32 = .ok (.iload_n 1, 1) := by decide +kernel
theorem dX12_ofPlayer_33 : decode cX12_ofPlayer 33 = .ok (.iaload, 1) := by decide +kernel
theorem dX12_ofPlayer_34 : decode cX12_ofPlayer 34 = .ok (.invokestatic 146, 3) := by decide +kernel
theorem dX12_ofPlayer_37 : decode cX12_ofPlayer 37 = .ok (.ireturn, 1) := by decide +kernel
theorem dX12_ofPlayer_38 : decode cX12_ofPlayer 38 = .ok (.aload_n 0, 1) := by decide +kernel
theorem dX12_ofPlayer_39 : decode cX12_ofPlayer 39 = .ok (.getfield 16, 3) := by decide +kernel
theorem dX12_ofPlayer_42 : decode cX12_ofPlayer 42 = .ok (.iload_n 1, 1) := by decide +kernel
theorem dX12_ofPlayer_43 : decode cX12_ofPlayer 43 = .ok (.iaload, 1) := by decide +kernel
theorem dX12_ofPlayer_44 : decode cX12_ofPlayer 44 = .ok (.ireturn, 1) := by decide +kernel
theorem dX12_ofPlayer_45 : decode cX12_ofPlayer 45 = .ok (.aload_n 0, 1) := by decide +kernel
theorem dX12_ofPlayer_46 : decode cX12_ofPlayer 46 = .ok (.getfield 19, 3) := by decide +kernel
theorem dX12_ofPlayer_49 : decode cX12_ofPlayer 49 = .ok (.iload_n 1, 1) := by decide +kernel
theorem dX12_ofPlayer_50 : decode cX12_ofPlayer 50 = .ok (.iaload, 1) := by decide +kernel
theorem dX12_ofPlayer_51 : decode cX12_ofPlayer 51 = .ok (.ireturn, 1) := by decide +kernel
theorem dX12_ofPlayer_52 : decode cX12_ofPlayer 52 = .ok (.aload_n 0, 1) := by decide +kernel
theorem dX12_ofPlayer_53 : decode cX12_ofPlayer 53 = .ok (.getfield 13, 3) := by decide +kernel
theorem dX12_ofPlayer_56 : decode cX12_ofPlayer 56 = .ok (.iload_n 1, 1) := by decide +kernel
theorem dX12_ofPlayer_57 : decode cX12_ofPlayer 57 = .ok (.iaload, 1) := by decide +kernel
theorem dX12_ofPlayer_58 : decode cX12_ofPlayer 58 = .ok (.ireturn, 1) := by decide +kernel
set_option maxRecDepth 20000 in
theorem ggX12_behind_X12_isPlayer : GoodIn wsX12_behind wsX12_isPlayer := goodIn_r _ [5, 6, 7, 8, 4, 9] (by decide +kernel) (by decide +kernel)
set_option maxRecDepth 20000 in
theorem gX12_behind_X12_isPlayer : GoodIn wsX12_behind (va_wsS RX12 82 yX12_isPlayer wsX12_isPlayer) := goodIn_app (goodIn_of _ (by decide +kernel)) ggX12_behind_X12_isPlayer
set_option maxRecDepth 20000 in
theorem ggX12_behind_X12_in : GoodIn wsX12_behind wsX12_in := goodIn_r _ [9] (by decide +kernel) (by decide +kernel)
set_option maxRecDepth 20000 in
theorem gX12_behind_X12_in : GoodIn wsX12_behind (va_wsS RX12 65 yX12_in wsX12_in) := goodIn_app (goodIn_of _ (by decide +kernel)) ggX12_behind_X12_in
set_option maxRecDepth 20000 in
theorem ggX12_behind_X12_refusal : GoodIn wsX12_behind wsX12_refusal := goodIn_r _ [13, 14, 15, 16, 17, 4, 18, 19, 20, 21, 22, 23, 24, 25, 26, 27, 28, 29, 30, 31, 32, 33, 34, 35, 36, 37, 38, 39, 40, 7, 8, 9, 41, 42, 43, 44, 45, 46, 47, 48, 49, 50, 51, 52, 53, 54, 55, 56, 57, 58, 59, 60, 61, 62, 63, 64, 65, 66, 67, 68, 69, 70, 71, 72, 73, 74, 75, 76, 77, 78, 79, 80, 81, 82, 83, 84, 85, 86, 87, 88, 89, 90, 91, 92, 93, 94, 95, 96, 97, 98, 99, 100, 101, 102, 103, 104, 105, 106, 107, 108, 109, 110, 111, 112, 113, 114, 123, 124, 125, 126, 127, 128, 129, 130, 131, 132, 133, 134, 135, 136, 137, 138, 139, 140, 141, 142, 143, 144, 145, 146, 147, 148, 149, 150, 151, 152] (by decide +kernel) (by decide +kernel)
set_option maxRecDepth 20000 in
theorem gX12_behind_X12_refusal : GoodIn wsX12_behind (wsV RX12 195 RX12 yX12_refusal wsX12_refusal) := goodIn_app (goodIn_of _ (by decide +kernel)) ggX12_behind_X12_refusal
set_option maxRecDepth 20000 in
theorem ggX12_behind_X12_ofPlayer : GoodIn wsX12_behind wsX12_ofPlayer := goodIn_r _ [118, 20, 21, 22, 105, 106, 4, 107, 85, 86, 87, 88, 89, 90, 123, 124, 125, 126, 127, 128, 129, 130, 131, 132, 133, 134, 135, 136, 137, 138, 139, 140, 141, 142, 143, 144, 145, 146, 147, 148, 149, 150, 151, 152] (by decide +kernel) (by decide +kernel)
set_option maxRecDepth 20000 in
theorem gX12_behind_X12_ofPlayer : GoodIn wsX12_behind (wsV RX12 203 RX12 yX12_ofPlayer wsX12_ofPlayer) := goodIn_app (goodIn_of _ (by decide +kernel)) ggX12_behind_X12_ofPlayer
set_option maxRecDepth 20000 in
theorem ggX12_behind_X12_back : GoodIn wsX12_behind wsX12_back := goodIn_r _ [122, 20, 19, 21, 22, 23, 24, 123, 124, 125, 126, 127, 128, 129, 130, 131, 132, 133, 134, 135, 136, 137, 138, 139, 140, 141, 142, 143, 144, 145, 146, 147, 148, 149, 150, 151, 152] (by decide +kernel) (by decide +kernel)
set_option maxRecDepth 20000 in
theorem gX12_behind_X12_back : GoodIn wsX12_behind (wsV RX12 198 RX12 yX12_back wsX12_back) := goodIn_app (goodIn_of _ (by decide +kernel)) ggX12_behind_X12_back
theorem dX12_behind_0 : decode cX12_behind 0 = .ok (.iload_n 1, 1) := by decide +kernel
theorem dX12_behind_1 : decode cX12_behind 1 = .ok (.invokestatic 82, 3) := by decide +kernel
theorem dX12_behind_4 : decode cX12_behind 4 = .ok (.ifCond .ne 5, 3) := by decide +kernel
theorem dX12_behind_7 : decode cX12_behind 7 = .ok (.iconst (-1), 1) := by decide +kernel
theorem dX12_behind_8 : decode cX12_behind 8 = .ok (.ireturn, 1) := by decide +kernel
theorem dX12_behind_9 : decode cX12_behind 9 = .ok (.iload_n 2, 1) := by decide +kernel
theorem dX12_behind_10 : decode cX12_behind 10 = .ok (.i2l, 1) := by decide +kernel
theorem dX12_behind_11 : decode cX12_behind 11 = .ok (.lconst 0, 1) := by decide +kernel
theorem dX12_behind_12 : decode cX12_behind 12 = .ok (.ldc2_w 201, 3) := by decide +kernel
theorem dX12_behind_15 : decode cX12_behind 15 = .ok (.invokestatic 65, 3) := by decide +kernel
theorem dX12_behind_18 : decode cX12_behind 18 = .ok (.ifCond .ne 6, 3) := by decide +kernel
theorem dX12_behind_21 : decode cX12_behind 21 = .ok (.bipush (-2), 2) := by decide +kernel
theorem dX12_behind_23 : decode cX12_behind 23 = .ok (.ireturn, 1) := by decide +kernel
theorem dX12_behind_24 : decode cX12_behind 24 = .ok (.aload_n 0, 1) := by decide +kernel
theorem dX12_behind_25 : decode cX12_behind 25 = .ok (.invokevirtual 195, 3) := by decide +kernel
theorem dX12_behind_28 : decode cX12_behind 28 = .ok (.istore_n 3, 1) := by decide +kernel
theorem dX12_behind_29 : decode cX12_behind 29 = .ok (.aload_n 0, 1) := by decide +kernel
theorem dX12_behind_30 : decode cX12_behind 30 = .ok (.iload_n 3, 1) := by decide +kernel
theorem dX12_behind_31 : decode cX12_behind 31 = .ok (.bipush (-6), 2) := by decide +kernel
theorem dX12_behind_33 : decode cX12_behind 33 = .ok (.if_icmp .eq 7, 3) := by decide +kernel
theorem dX12_behind_36 : decode cX12_behind 36 = .ok (.iload_n 3, 1) := by decide +kernel
theorem dX12_behind_37 : decode cX12_behind 37 = .ok (.goto 9, 3) := by decide +kernel
theorem dX12_behind_40 : decode cX12_behind 40 = .ok (.aload_n 0, 1) := by decide +kernel
theorem dX12_behind_41 : decode cX12_behind 41 = .ok (.iload_n 1, 1) := by decide +kernel
theorem dX12_behind_42 : decode cX12_behind 42 = .ok (.iload_n 2, 1) := by decide +kernel
theorem dX12_behind_43 : decode cX12_behind 43 = .ok (.invokevirtual 203, 3) := by decide +kernel
theorem dX12_behind_46 : decode cX12_behind 46 = .ok (.invokevirtual 198, 3) := by decide +kernel
theorem dX12_behind_49 : decode cX12_behind 49 = .ok (.ireturn, 1) := by decide +kernel
theorem dX12_wholeOnes_0 : decode cX12_wholeOnes 0 = .ok (.iconst 0, 1) := by decide +kernel
theorem dX12_wholeOnes_1 : decode cX12_wholeOnes 1 = .ok (.istore_n 1, 1) := by decide +kernel
theorem dX12_wholeOnes_2 : decode cX12_wholeOnes 2 = .ok (.iconst 0, 1) := by decide +kernel
theorem dX12_wholeOnes_3 : decode cX12_wholeOnes 3 = .ok (.istore_n 2, 1) := by decide +kernel
theorem dX12_wholeOnes_4 : decode cX12_wholeOnes 4 = .ok (.iload_n 2, 1) := by decide +kernel
theorem dX12_wholeOnes_5 : decode cX12_wholeOnes 5 = .ok (.bipush 6, 2) := by decide +kernel
theorem dX12_wholeOnes_7 : decode cX12_wholeOnes 7 = .ok (.if_icmp .ge 30, 3) := by decide +kernel
theorem dX12_wholeOnes_10 : decode cX12_wholeOnes 10 = .ok (.iload_n 1, 1) := by decide +kernel
theorem dX12_wholeOnes_11 : decode cX12_wholeOnes 11 = .ok (.aload_n 0, 1) := by decide +kernel
theorem dX12_wholeOnes_12 : decode cX12_wholeOnes 12 = .ok (.getfield 13, 3) := by decide +kernel
theorem dX12_wholeOnes_15 : decode cX12_wholeOnes 15 = .ok (.iload_n 2, 1) := by decide +kernel
theorem dX12_wholeOnes_16 : decode cX12_wholeOnes 16 = .ok (.iaload, 1) := by decide +kernel
theorem dX12_wholeOnes_17 : decode cX12_wholeOnes 17 = .ok (.ldc 122, 2) := by decide +kernel
theorem dX12_wholeOnes_19 : decode cX12_wholeOnes 19 = .ok (.if_icmp .ne 9, 3) := by decide +kernel
theorem dX12_wholeOnes_22 : decode cX12_wholeOnes 22 = .ok (.iconst 1, 1) := by decide +kernel
theorem dX12_wholeOnes_23 : decode cX12_wholeOnes 23 = .ok (.iload_n 2, 1) := by decide +kernel
theorem dX12_wholeOnes_24 : decode cX12_wholeOnes 24 = .ok (.ishl, 1) := by decide +kernel
theorem dX12_wholeOnes_25 : decode cX12_wholeOnes 25 = .ok (.goto 4, 3) := by decide +kernel
theorem dX12_wholeOnes_28 : decode cX12_wholeOnes 28 = .ok (.iconst 0, 1) := by decide +kernel
theorem dX12_wholeOnes_29 : decode cX12_wholeOnes 29 = .ok (.ior, 1) := by decide +kernel
theorem dX12_wholeOnes_30 : decode cX12_wholeOnes 30 = .ok (.istore_n 1, 1) := by decide +kernel
theorem dX12_wholeOnes_31 : decode cX12_wholeOnes 31 = .ok (.iinc 2 1, 3) := by decide +kernel
theorem dX12_wholeOnes_34 : decode cX12_wholeOnes 34 = .ok (.goto (-30), 3) := by decide +kernel
theorem dX12_wholeOnes_37 : decode cX12_wholeOnes 37 = .ok (.iload_n 1, 1) := by decide +kernel
theorem dX12_wholeOnes_38 : decode cX12_wholeOnes 38 = .ok (.ireturn, 1) := by decide +kernel
set_option maxRecDepth 20000 in
theorem ggX12_haveOf_X12_partsOf : GoodIn wsX12_haveOf wsX12_partsOf := goodIn_r _ [6, 7, 8, 5, 9, 10, 11, 12] (by decide +kernel) (by decide +kernel)
set_option maxRecDepth 20000 in
theorem gX12_haveOf_X12_partsOf : GoodIn wsX12_haveOf (va_wsS RX12 146 yX12_partsOf wsX12_partsOf) := goodIn_app (goodIn_of _ (by decide +kernel)) ggX12_haveOf_X12_partsOf
theorem dX12_haveOf_0 : decode cX12_haveOf 0 = .ok (.aload_n 0, 1) := by decide +kernel
theorem dX12_haveOf_1 : decode cX12_haveOf 1 = .ok (.getfield 16, 3) := by decide +kernel
theorem dX12_haveOf_4 : decode cX12_haveOf 4 = .ok (.iload_n 1, 1) := by decide +kernel
theorem dX12_haveOf_5 : decode cX12_haveOf 5 = .ok (.iaload, 1) := by decide +kernel
theorem dX12_haveOf_6 : decode cX12_haveOf 6 = .ok (.aload_n 0, 1) := by decide +kernel
theorem dX12_haveOf_7 : decode cX12_haveOf 7 = .ok (.getfield 13, 3) := by decide +kernel
theorem dX12_haveOf_10 : decode cX12_haveOf 10 = .ok (.iload_n 1, 1) := by decide +kernel
theorem dX12_haveOf_11 : decode cX12_haveOf 11 = .ok (.iaload, 1) := by decide +kernel
theorem dX12_haveOf_12 : decode cX12_haveOf 12 = .ok (.invokestatic 146, 3) := by decide +kernel
theorem dX12_haveOf_15 : decode cX12_haveOf 15 = .ok (.iadd, 1) := by decide +kernel
theorem dX12_haveOf_16 : decode cX12_haveOf 16 = .ok (.ireturn, 1) := by decide +kernel
set_option maxRecDepth 20000 in
theorem ggX12_richest_X12_haveOf : GoodIn wsX12_richest wsX12_haveOf := goodIn_r _ [5, 6, 7, 8, 9, 4, 10, 11, 12, 13, 14, 15, 16, 17, 18, 19, 20, 21, 22, 23, 24, 25, 26, 27, 28, 29, 30, 31, 32, 33, 34, 35, 36, 37, 38, 39, 40, 41, 42, 43, 44, 45, 46] (by decide +kernel) (by decide +kernel)
set_option maxRecDepth 20000 in
theorem gX12_richest_X12_haveOf : GoodIn wsX12_richest (wsV RX12 206 RX12 yX12_haveOf wsX12_haveOf) := goodIn_app (goodIn_of _ (by decide +kernel)) ggX12_richest_X12_haveOf
theorem dX12_richest_0 : decode cX12_richest 0 = .ok (.iconst 0, 1) := by decide +kernel
theorem dX12_richest_1 : decode cX12_richest 1 = .ok (.istore_n 1, 1) := by decide +kernel
theorem dX12_richest_2 : decode cX12_richest 2 = .ok (.iconst 1, 1) := by decide +kernel
theorem dX12_richest_3 : decode cX12_richest 3 = .ok (.istore_n 2, 1) := by decide +kernel
theorem dX12_richest_4 : decode cX12_richest 4 = .ok (.iload_n 2, 1) := by decide +kernel
theorem dX12_richest_5 : decode cX12_richest 5 = .ok (.bipush 6, 2) := by decide +kernel
theorem dX12_richest_7 : decode cX12_richest 7 = .ok (.if_icmp .ge 28, 3) := by decide +kernel
theorem dX12_richest_10 : decode cX12_richest 10 = .ok (.aload_n 0, 1) := by decide +kernel
theorem dX12_richest_11 : decode cX12_richest 11 = .ok (.iload_n 2, 1) := by decide +kernel
theorem dX12_richest_12 : decode cX12_richest 12 = .ok (.invokevirtual 206, 3) := by decide +kernel
theorem dX12_richest_15 : decode cX12_richest 15 = .ok (.aload_n 0, 1) := by decide +kernel
theorem dX12_richest_16 : decode cX12_richest 16 = .ok (.iload_n 1, 1) := by decide +kernel
theorem dX12_richest_17 : decode cX12_richest 17 = .ok (.invokevirtual 206, 3) := by decide +kernel
theorem dX12_richest_20 : decode cX12_richest 20 = .ok (.if_icmp .le 7, 3) := by decide +kernel
theorem dX12_richest_23 : decode cX12_richest 23 = .ok (.iload_n 2, 1) := by decide +kernel
theorem dX12_richest_24 : decode cX12_richest 24 = .ok (.goto 4, 3) := by decide +kernel
theorem dX12_richest_27 : decode cX12_richest 27 = .ok (.iload_n 1, 1) := by decide +kernel
theorem dX12_richest_28 : decode cX12_richest 28 = .ok (.istore_n 1, 1) := by decide +kernel
theorem dX12_richest_29 : decode cX12_richest 29 = .ok (.iinc 2 1, 3) := by decide +kernel
theorem dX12_richest_32 : decode cX12_richest 32 = .ok (.goto (-28), 3) := by decide +kernel
theorem dX12_richest_35 : decode cX12_richest 35 = .ok (.iload_n 1, 1) := by decide +kernel
theorem dX12_richest_36 : decode cX12_richest 36 = .ok (.ireturn, 1) := by decide +kernel
set_option maxRecDepth 20000 in
theorem ggX12_table_X12_in : GoodIn wsX12_table wsX12_in := goodIn_r _ [7] (by decide +kernel) (by decide +kernel)
set_option maxRecDepth 20000 in
theorem gX12_table_X12_in : GoodIn wsX12_table (va_wsS RX12 65 yX12_in wsX12_in) := goodIn_app (goodIn_of _ (by decide +kernel)) ggX12_table_X12_in
set_option maxRecDepth 20000 in
theorem ggX12_table_X12_refusal : GoodIn wsX12_table wsX12_refusal := goodIn_r _ [11, 12, 13, 14, 15, 6, 16, 17, 18, 19, 20, 2, 3, 21, 22, 23, 24, 25, 26, 27, 28, 29, 30, 31, 32, 33, 34, 35, 36, 4, 5, 7, 37, 38, 39, 40, 41, 42, 43, 44, 45, 46, 47, 48, 49, 50, 51, 52, 53, 54, 55, 56, 57, 58, 59, 60, 61, 62, 63, 64, 65, 66, 67, 68, 69, 70, 71, 72, 73, 74, 75, 76, 77, 78, 79, 80, 81, 82, 83, 84, 85, 86, 87, 88, 89, 90, 91, 92, 93, 94, 95, 96, 97, 98, 99, 100, 101, 102, 103, 104, 105, 106, 107, 108, 109, 110, 127, 128, 129, 130, 131, 132, 133, 134, 135, 136, 137, 138, 139, 140, 141, 142, 143, 144, 145, 146, 147, 148, 149, 150, 151, 152, 153, 154, 155, 156] (by decide +kernel) (by decide +kernel)
set_option maxRecDepth 20000 in
theorem gX12_table_X12_refusal : GoodIn wsX12_table (wsV RX12 195 RX12 yX12_refusal wsX12_refusal) := goodIn_app (goodIn_of _ (by decide +kernel)) ggX12_table_X12_refusal
set_option maxRecDepth 20000 in
theorem ggX12_table_X12_wholeOnes : GoodIn wsX12_table wsX12_wholeOnes := goodIn_r _ [114, 18, 58, 127, 128, 129, 130, 131, 132, 133, 134, 135, 136, 137, 138, 139, 140, 141, 142, 143, 144, 145, 146, 147, 148, 149, 150, 151, 152, 153, 154, 155, 156] (by decide +kernel) (by decide +kernel)
set_option maxRecDepth 20000 in
theorem gX12_table_X12_wholeOnes : GoodIn wsX12_table (wsV RX12 209 RX12 yX12_wholeOnes wsX12_wholeOnes) := goodIn_app (goodIn_of _ (by decide +kernel)) ggX12_table_X12_wholeOnes
set_option maxRecDepth 20000 in
theorem ggX12_table_X12_richest : GoodIn wsX12_table wsX12_richest := goodIn_r _ [118, 119, 120, 121, 6, 122, 19, 18, 101, 102, 103, 81, 82, 83, 84, 85, 86, 127, 128, 129, 130, 131, 132, 133, 134, 135, 136, 137, 138, 139, 140, 141, 142, 143, 144, 145, 146, 147, 148, 149, 150, 151, 152, 153, 154, 155, 156] (by decide +kernel) (by decide +kernel)
set_option maxRecDepth 20000 in
theorem gX12_table_X12_richest : GoodIn wsX12_table (wsV RX12 212 RX12 yX12_richest wsX12_richest) := goodIn_app (goodIn_of _ (by decide +kernel)) ggX12_table_X12_richest
set_option maxRecDepth 20000 in
theorem ggX12_table_X12_back : GoodIn wsX12_table wsX12_back := goodIn_r _ [126, 18, 17, 19, 20, 2, 3, 127, 128, 129, 130, 131, 132, 133, 134, 135, 136, 137, 138, 139, 140, 141, 142, 143, 144, 145, 146, 147, 148, 149, 150, 151, 152, 153, 154, 155, 156] (by decide +kernel) (by decide +kernel)
set_option maxRecDepth 20000 in
theorem gX12_table_X12_back : GoodIn wsX12_table (wsV RX12 198 RX12 yX12_back wsX12_back) := goodIn_app (goodIn_of _ (by decide +kernel)) ggX12_table_X12_back
theorem dX12_table_0 : decode cX12_table 0 = .ok (.iload_n 1, 1) := by decide +kernel
theorem dX12_table_1 : decode cX12_table 1 = .ok (.i2l, 1) := by decide +kernel
theorem dX12_table_2 : decode cX12_table 2 = .ok (.lconst 0, 1) := by decide +kernel
theorem dX12_table_3 : decode cX12_table 3 = .ok (.ldc2_w 201, 3) := by decide +kernel
theorem dX12_table_6 : decode cX12_table 6 = .ok (.invokestatic 65, 3) := by decide +kernel
theorem dX12_table_9 : decode cX12_table 9 = .ok (.ifCond .ne 6, 3) := by decide +kernel
theorem dX12_table_12 : decode cX12_table 12 = .ok (.bipush (-2), 2) := by decide +kernel
theorem dX12_table_14 : decode cX12_table 14 = .ok (.ireturn, 1) := by decide +kernel
theorem dX12_table_15 : decode cX12_table 15 = .ok (.aload_n 0, 1) := by decide +kernel
theorem dX12_table_16 : decode cX12_table 16 = .ok (.invokevirtual 195, 3) := by decide +kernel
theorem dX12_table_19 : decode cX12_table 19 = .ok (.istore_n 2, 1) := by decide +kernel
theorem dX12_table_20 : decode cX12_table 20 = .ok (.aload_n 0, 1) := by decide +kernel
theorem dX12_table_21 : decode cX12_table 21 = .ok (.iload_n 2, 1) := by decide +kernel
theorem dX12_table_22 : decode cX12_table 22 = .ok (.bipush (-6), 2) := by decide +kernel
theorem dX12_table_24 : decode cX12_table 24 = .ok (.if_icmp .eq 7, 3) := by decide +kernel
theorem dX12_table_27 : decode cX12_table 27 = .ok (.iload_n 2, 1) := by decide +kernel
theorem dX12_table_28 : decode cX12_table 28 = .ok (.goto 42, 3) := by decide +kernel
theorem dX12_table_31 : decode cX12_table 31 = .ok (.iload_n 1, 1) := by decide +kernel
theorem dX12_table_32 : decode cX12_table 32 = .ok (.ifCond .ne 10, 3) := by decide +kernel
theorem dX12_table_35 : decode cX12_table 35 = .ok (.aload_n 0, 1) := by decide +kernel
theorem dX12_table_36 : decode cX12_table 36 = .ok (.getfield 91, 3) := by decide +kernel
theorem dX12_table_39 : decode cX12_table 39 = .ok (.goto 31, 3) := by decide +kernel
theorem dX12_table_42 : decode cX12_table 42 = .ok (.iload_n 1, 1) := by decide +kernel
theorem dX12_table_43 : decode cX12_table 43 = .ok (.iconst 1, 1) := by decide +kernel
theorem dX12_table_44 : decode cX12_table 44 = .ok (.if_icmp .ne 10, 3) := by decide +kernel
theorem dX12_table_47 : decode cX12_table 47 = .ok (.aload_n 0, 1) := by decide +kernel
theorem dX12_table_48 : decode cX12_table 48 = .ok (.getfield 123, 3) := by decide +kernel
theorem dX12_table_51 : decode cX12_table 51 = .ok (.goto 19, 3) := by decide +kernel
theorem dX12_table_54 : decode cX12_table 54 = .ok (.iload_n 1, 1) := by decide +kernel
theorem dX12_table_55 : decode cX12_table 55 = .ok (.iconst 2, 1) := by decide +kernel
theorem dX12_table_56 : decode cX12_table 56 = .ok (.if_icmp .ne 10, 3) := by decide +kernel
theorem dX12_table_59 : decode cX12_table 59 = .ok (.aload_n 0, 1) := by decide +kernel
theorem dX12_table_60 : decode cX12_table 60 = .ok (.invokevirtual 209, 3) := by decide +kernel
theorem dX12_table_63 : decode cX12_table 63 = .ok (.goto 7, 3) := by decide +kernel
theorem dX12_table_66 : decode cX12_table 66 = .ok (.aload_n 0, 1) := by decide +kernel
theorem dX12_table_67 : decode cX12_table 67 = .ok (.invokevirtual 212, 3) := by decide +kernel
theorem dX12_table_70 : decode cX12_table 70 = .ok (.invokevirtual 198, 3) := by decide +kernel
theorem dX12_table_73 : decode cX12_table 73 = .ok (.ireturn, 1) := by decide +kernel
set_option maxRecDepth 20000 in
theorem ggX12_first_X12_in : GoodIn wsX12_first wsX12_in := goodIn_r _ [6] (by decide +kernel) (by decide +kernel)
set_option maxRecDepth 20000 in
theorem gX12_first_X12_in : GoodIn wsX12_first (va_wsS RX12 65 yX12_in wsX12_in) := goodIn_app (goodIn_of _ (by decide +kernel)) ggX12_first_X12_in
set_option maxRecDepth 20000 in
theorem ggX12_first_X12_refusal : GoodIn wsX12_first wsX12_refusal := goodIn_r _ [10, 11, 12, 13, 14, 5, 15, 16, 17, 18, 19, 20, 21, 22, 23, 24, 25, 26, 27, 28, 29, 30, 31, 32, 33, 34, 35, 36, 37, 3, 4, 6, 38, 39, 40, 41, 42, 43, 44, 45, 46, 47, 48, 49, 50, 51, 1, 2, 52, 53, 54, 55, 56, 57, 58, 59, 60, 61, 62, 63, 64, 65, 66, 67, 68, 69, 70, 71, 72, 73, 74, 75, 76, 77, 78, 79, 80, 81, 82, 83, 84, 85, 86, 87, 88, 89, 90, 91, 92, 93, 94, 95, 96, 97, 98, 99, 100, 101, 102, 103, 104, 105, 106, 107, 108, 109, 114, 115, 116, 117, 118, 119, 120, 121, 122, 123, 124, 125, 126, 127, 128, 129, 130, 131, 132, 133, 134, 135, 136, 137, 138, 139, 140, 141, 142, 143] (by decide +kernel) (by decide +kernel)
set_option maxRecDepth 20000 in
theorem gX12_first_X12_refusal : GoodIn wsX12_first (wsV RX12 195 RX12 yX12_refusal wsX12_refusal) := goodIn_app (goodIn_of _ (by decide +kernel)) ggX12_first_X12_refusal
set_option maxRecDepth 20000 in
theorem ggX12_first_X12_back : GoodIn wsX12_first wsX12_back := goodIn_r _ [113, 17, 16, 18, 19, 20, 21, 114, 115, 116, 117, 118, 119, 120, 121, 122, 123, 124, 125, 126, 127, 128, 129, 130, 131, 132, 133, 134, 135, 136, 137, 138, 139, 140, 141, 142, 143] (by decide +kernel) (by decide +kernel)
set_option maxRecDepth 20000 in
theorem gX12_first_X12_back : GoodIn wsX12_first (wsV RX12 198 RX12 yX12_back wsX12_back) := goodIn_app (goodIn_of _ (by decide +kernel)) ggX12_first_X12_back
theorem dX12_first_0 : decode cX12_first 0 = .ok (.iload_n 1, 1) := by decide +kernel
theorem dX12_first_1 : decode cX12_first 1 = .ok (.i2l, 1) := by decide +kernel
theorem dX12_first_2 : decode cX12_first 2 = .ok (.lconst 0, 1) := by decide +kernel
theorem dX12_first_3 : decode cX12_first 3 = .ok (.lconst 1, 1) := by decide +kernel
theorem dX12_first_4 : decode cX12_first 4 = .ok (.invokestatic 65, 3) := by decide +kernel
theorem dX12_first_7 : decode cX12_first 7 = .ok (.ifCond .ne 6, 3) := by decide +kernel
theorem dX12_first_10 : decode cX12_first 10 = .ok (.bipush (-2), 2) := by decide +kernel
theorem dX12_first_12 : decode cX12_first 12 = .ok (.ireturn, 1) := by decide +kernel
theorem dX12_first_13 : decode cX12_first 13 = .ok (.aload_n 0, 1) := by decide +kernel
theorem dX12_first_14 : decode cX12_first 14 = .ok (.aload_n 0, 1) := by decide +kernel
theorem dX12_first_15 : decode cX12_first 15 = .ok (.invokevirtual 195, 3) := by decide +kernel
theorem dX12_first_18 : decode cX12_first 18 = .ok (.invokevirtual 198, 3) := by decide +kernel
theorem dX12_first_21 : decode cX12_first 21 = .ok (.istore_n 2, 1) := by decide +kernel
theorem dX12_first_22 : decode cX12_first 22 = .ok (.iload_n 2, 1) := by decide +kernel
theorem dX12_first_23 : decode cX12_first 23 = .ok (.bipush (-6), 2) := by decide +kernel
theorem dX12_first_25 : decode cX12_first 25 = .ok (.if_icmp .eq 7, 3) := by decide +kernel
theorem dX12_first_28 : decode cX12_first 28 = .ok (.iload_n 2, 1) := by decide +kernel
theorem dX12_first_29 : decode cX12_first 29 = .ok (.goto 18, 3) := by decide +kernel
theorem dX12_first_32 : decode cX12_first 32 = .ok (.iload_n 1, 1) := by decide +kernel
theorem dX12_first_33 : decode cX12_first 33 = .ok (.ifCond .ne 10, 3) := by decide +kernel
theorem dX12_first_36 : decode cX12_first 36 = .ok (.aload_n 0, 1) := by decide +kernel
theorem dX12_first_37 : decode cX12_first 37 = .ok (.getfield 166, 3) := by decide +kernel
theorem dX12_first_40 : decode cX12_first 40 = .ok (.goto 7, 3) := by decide +kernel
theorem dX12_first_43 : decode cX12_first 43 = .ok (.aload_n 0, 1) := by decide +kernel
theorem dX12_first_44 : decode cX12_first 44 = .ok (.getfield 169, 3) := by decide +kernel
theorem dX12_first_47 : decode cX12_first 47 = .ok (.ireturn, 1) := by decide +kernel
set_option maxRecDepth 20000 in
theorem ggX12_done_X12_refusal : GoodIn wsX12_done wsX12_refusal := goodIn_r _ [7, 8, 9, 10, 11, 6, 12, 13, 14, 15, 16, 17, 18, 19, 20, 21, 22, 2, 1, 23, 24, 25, 26, 27, 28, 29, 30, 31, 32, 33, 34, 35, 36, 37, 38, 39, 40, 41, 42, 43, 44, 45, 46, 47, 48, 49, 50, 51, 52, 53, 54, 55, 56, 57, 58, 59, 60, 61, 62, 63, 64, 65, 66, 67, 68, 69, 70, 71, 72, 73, 74, 75, 76, 77, 78, 79, 80, 81, 82, 83, 84, 85, 86, 87, 88, 89, 90, 91, 92, 93, 94, 95, 96, 97, 98, 99, 100, 101, 102, 103, 104, 105, 106, 107, 108, 109, 114, 115, 116, 117, 118, 119, 120, 121, 122, 123, 124, 125, 126, 127, 128, 129, 130, 131, 132, 133, 134, 135, 136, 137, 138, 139, 140, 141, 142, 143] (by decide +kernel) (by decide +kernel)
set_option maxRecDepth 20000 in
theorem gX12_done_X12_refusal : GoodIn wsX12_done (wsV RX12 195 RX12 yX12_refusal wsX12_refusal) := goodIn_app (goodIn_of _ (by decide +kernel)) ggX12_done_X12_refusal
set_option maxRecDepth 20000 in
theorem ggX12_done_X12_back : GoodIn wsX12_done wsX12_back := goodIn_r _ [113, 14, 13, 15, 16, 17, 18, 114, 115, 116, 117, 118, 119, 120, 121, 122, 123, 124, 125, 126, 127, 128, 129, 130, 131, 132, 133, 134, 135, 136, 137, 138, 139, 140, 141, 142, 143] (by decide +kernel) (by decide +kernel)
set_option maxRecDepth 20000 in
theorem gX12_done_X12_back : GoodIn wsX12_done (wsV RX12 198 RX12 yX12_back wsX12_back) := goodIn_app (goodIn_of _ (by decide +kernel)) ggX12_done_X12_back
theorem dX12_done_0 : decode cX12_done 0 = .ok (.aload_n 0, 1) := by decide +kernel
theorem dX12_done_1 : decode cX12_done 1 = .ok (.invokevirtual 195, 3) := by decide +kernel
theorem dX12_done_4 : decode cX12_done 4 = .ok (.istore_n 1, 1) := by decide +kernel
theorem dX12_done_5 : decode cX12_done 5 = .ok (.iload_n 1, 1) := by decide +kernel
theorem dX12_done_6 : decode cX12_done 6 = .ok (.bipush (-6), 2) := by decide +kernel
theorem dX12_done_8 : decode cX12_done 8 = .ok (.if_icmp .eq 9, 3) := by decide +kernel
theorem dX12_done_11 : decode cX12_done 11 = .ok (.aload_n 0, 1) := by decide +kernel
theorem dX12_done_12 : decode cX12_done 12 = .ok (.iload_n 1, 1) := by decide +kernel
theorem dX12_done_13 : decode cX12_done 13 = .ok (.invokevirtual 198, 3) := by decide +kernel
theorem dX12_done_16 : decode cX12_done 16 = .ok (.ireturn, 1) := by decide +kernel
theorem dX12_done_17 : decode cX12_done 17 = .ok (.aload_n 0, 1) := by decide +kernel
theorem dX12_done_18 : decode cX12_done 18 = .ok (.iconst 0, 1) := by decide +kernel
theorem dX12_done_19 : decode cX12_done 19 = .ok (.putfield 99, 3) := by decide +kernel
theorem dX12_done_22 : decode cX12_done 22 = .ok (.aload_n 0, 1) := by decide +kernel
theorem dX12_done_23 : decode cX12_done 23 = .ok (.getfield 102, 3) := by decide +kernel
theorem dX12_done_26 : decode cX12_done 26 = .ok (.ireturn, 1) := by decide +kernel
set_option maxRecDepth 20000 in
theorem ggX12_placeOf_X12_figureOf : GoodIn wsX12_placeOf wsX12_figureOf := goodIn_r _ [5, 6, 7, 4, 8] (by decide +kernel) (by decide +kernel)
set_option maxRecDepth 20000 in
theorem gX12_placeOf_X12_figureOf : GoodIn wsX12_placeOf (va_wsS RX12 75 yX12_figureOf wsX12_figureOf) := goodIn_app (goodIn_of _ (by decide +kernel)) ggX12_placeOf_X12_figureOf
theorem dX12_placeOf_0 : decode cX12_placeOf 0 = .ok (.iconst 0, 1) := by decide +kernel
theorem dX12_placeOf_1 : decode cX12_placeOf 1 = .ok (.istore_n 2, 1) := by decide +kernel
theorem dX12_placeOf_2 : decode cX12_placeOf 2 = .ok (.iconst 5, 1) := by decide +kernel
theorem dX12_placeOf_3 : decode cX12_placeOf 3 = .ok (.istore_n 3, 1) := by decide +kernel
theorem dX12_placeOf_4 : decode cX12_placeOf 4 = .ok (.iload_n 3, 1) := by decide +kernel
theorem dX12_placeOf_5 : decode cX12_placeOf 5 = .ok (.ifCond .lt 26, 3) := by decide +kernel
theorem dX12_placeOf_8 : decode cX12_placeOf 8 = .ok (.aload_n 0, 1) := by decide +kernel
theorem dX12_placeOf_9 : decode cX12_placeOf 9 = .ok (.getfield 7, 3) := by decide +kernel
theorem dX12_placeOf_12 : decode cX12_placeOf 12 = .ok (.iload_n 3, 1) := by decide +kernel
theorem dX12_placeOf_13 : decode cX12_placeOf 13 = .ok (.iaload, 1) := by decide +kernel
theorem dX12_placeOf_14 : decode cX12_placeOf 14 = .ok (.iconst 1, 1) := by decide +kernel
theorem dX12_placeOf_15 : decode cX12_placeOf 15 = .ok (.iadd, 1) := by decide +kernel
theorem dX12_placeOf_16 : decode cX12_placeOf 16 = .ok (.iload_n 2, 1) := by decide +kernel
theorem dX12_placeOf_17 : decode cX12_placeOf 17 = .ok (.imul, 1) := by decide +kernel
theorem dX12_placeOf_18 : decode cX12_placeOf 18 = .ok (.iload_n 1, 1) := by decide +kernel
theorem dX12_placeOf_19 : decode cX12_placeOf 19 = .ok (.iload_n 3, 1) := by decide +kernel
theorem dX12_placeOf_20 : decode cX12_placeOf 20 = .ok (.invokestatic 75, 3) := by decide +kernel
theorem dX12_placeOf_23 : decode cX12_placeOf 23 = .ok (.iadd, 1) := by decide +kernel
theorem dX12_placeOf_24 : decode cX12_placeOf 24 = .ok (.istore_n 2, 1) := by decide +kernel
theorem dX12_placeOf_25 : decode cX12_placeOf 25 = .ok (.iinc 3 (-1), 3) := by decide +kernel
theorem dX12_placeOf_28 : decode cX12_placeOf 28 = .ok (.goto (-24), 3) := by decide +kernel
theorem dX12_placeOf_31 : decode cX12_placeOf 31 = .ok (.iload_n 2, 1) := by decide +kernel
theorem dX12_placeOf_32 : decode cX12_placeOf 32 = .ok (.ireturn, 1) := by decide +kernel
set_option maxRecDepth 20000 in
theorem ggX12_drawnAt_X12_tenTo : GoodIn wsX12_drawnAt wsX12_tenTo := goodIn_r _ [5] (by decide +kernel) (by decide +kernel)
set_option maxRecDepth 20000 in
theorem gX12_drawnAt_X12_tenTo : GoodIn wsX12_drawnAt (va_wsS RX12 69 yX12_tenTo wsX12_tenTo) := goodIn_app (goodIn_of _ (by decide +kernel)) ggX12_drawnAt_X12_tenTo
theorem dX12_drawnAt_0 : decode cX12_drawnAt 0 = .ok (.iconst 0, 1) := by decide +kernel
theorem dX12_drawnAt_1 : decode cX12_drawnAt 1 = .ok (.istore_n 2, 1) := by decide +kernel
theorem dX12_drawnAt_2 : decode cX12_drawnAt 2 = .ok (.iload_n 1, 1) := by decide +kernel
theorem dX12_drawnAt_3 : decode cX12_drawnAt 3 = .ok (.istore_n 3, 1) := by decide +kernel
theorem dX12_drawnAt_4 : decode cX12_drawnAt 4 = .ok (.iconst 0, 1) := by decide +kernel
theorem dX12_drawnAt_5 : decode cX12_drawnAt 5 = .ok (.istore 4, 2) := by decide +kernel
theorem dX12_drawnAt_7 : decode cX12_drawnAt 7 = .ok (.iload 4, 2) := by decide +kernel
theorem dX12_drawnAt_9 : decode cX12_drawnAt 9 = .ok (.bipush 6, 2) := by decide +kernel
theorem dX12_drawnAt_11 : decode cX12_drawnAt 11 = .ok (.if_icmp .ge 43, 3) := by decide +kernel
theorem dX12_drawnAt_14 : decode cX12_drawnAt 14 = .ok (.iload_n 2, 1) := by decide +kernel
theorem dX12_drawnAt_15 : decode cX12_drawnAt 15 = .ok (.iload_n 3, 1) := by decide +kernel
theorem dX12_drawnAt_16 : decode cX12_drawnAt 16 = .ok (.aload_n 0, 1) := by decide +kernel
theorem dX12_drawnAt_17 : decode cX12_drawnAt 17 = .ok (.getfield 7, 3) := by decide +kernel
theorem dX12_drawnAt_20 : decode cX12_drawnAt 20 = .ok (.iload 4, 2) := by decide +kernel
theorem dX12_drawnAt_22 : decode cX12_drawnAt 22 = .ok (.iaload, 1) := by decide +kernel
theorem dX12_drawnAt_23 : decode cX12_drawnAt 23 = .ok (.iconst 1, 1) := by decide +kernel
theorem dX12_drawnAt_24 : decode cX12_drawnAt 24 = .ok (.iadd, 1) := by decide +kernel
theorem dX12_drawnAt_25 : decode cX12_drawnAt 25 = .ok (.irem, 1) := by decide +kernel
theorem dX12_drawnAt_26 : decode cX12_drawnAt 26 = .ok (.iconst 5, 1) := by decide +kernel
theorem dX12_drawnAt_27 : decode cX12_drawnAt 27 = .ok (.iload 4, 2) := by decide +kernel
theorem dX12_drawnAt_29 : decode cX12_drawnAt 29 = .ok (.isub, 1) := by decide +kernel
theorem dX12_drawnAt_30 : decode cX12_drawnAt 30 = .ok (.invokestatic 69, 3) := by decide +kernel
theorem dX12_drawnAt_33 : decode cX12_drawnAt 33 = .ok (.imul, 1) := by decide +kernel
theorem dX12_drawnAt_34 : decode cX12_drawnAt 34 = .ok (.iadd, 1) := by decide +kernel
theorem dX12_drawnAt_35 : decode cX12_drawnAt 35 = .ok (.istore_n 2, 1) := by decide +kernel
theorem dX12_drawnAt_36 : decode cX12_drawnAt 36 = .ok (.iload_n 3, 1) := by decide +kernel
theorem dX12_drawnAt_37 : decode cX12_drawnAt 37 = .ok (.aload_n 0, 1) := by decide +kernel
theorem dX12_drawnAt_38 : decode cX12_drawnAt 38 = .ok (.getfield 7, 3) := by decide +kernel
theorem dX12_drawnAt_41 : decode cX12_drawnAt 41 = .ok (.iload 4, 2) := by decide +kernel
theorem dX12_drawnAt_43 : decode cX12_drawnAt 43 = .ok (.iaload, 1) := by decide +kernel
theorem dX12_drawnAt_44 : decode cX12_drawnAt 44 = .ok (.iconst 1, 1) := by decide +kernel
theorem dX12_drawnAt_45 : decode cX12_drawnAt 45 = .ok (.iadd, 1) := by decide +kernel
theorem dX12_drawnAt_46 : decode cX12_drawnAt 46 = .ok (.idiv, 1) := by decide +kernel
theorem dX12_drawnAt_47 : decode cX12_drawnAt 47 = .ok (.istore_n 3, 1) := by decide +kernel
theorem dX12_drawnAt_48 : decode cX12_drawnAt 48 = .ok (.iinc 4 1, 3) := by decide +kernel
theorem dX12_drawnAt_51 : decode cX12_drawnAt 51 = .ok (.goto (-44), 3) := by decide +kernel
theorem dX12_drawnAt_54 : decode cX12_drawnAt 54 = .ok (.iload_n 2, 1) := by decide +kernel
theorem dX12_drawnAt_55 : decode cX12_drawnAt 55 = .ok (.ireturn, 1) := by decide +kernel
set_option maxRecDepth 20000 in
theorem ggX12_ordersFrom_X12_canDraw : GoodIn wsX12_ordersFrom wsX12_canDraw := goodIn_r _ [7, 8, 9, 10, 6, 11, 12, 13, 14, 15, 16, 17, 25, 26, 27, 28, 29, 30, 31, 32, 33, 34, 35, 36, 37, 38, 39, 40, 41, 42, 43, 44, 45, 46, 47, 48, 49, 50, 51, 52, 53, 54] (by decide +kernel) (by decide +kernel)
set_option maxRecDepth 20000 in
theorem gX12_ordersFrom_X12_canDraw : GoodIn wsX12_ordersFrom (wsV RX12 130 RX12 yX12_canDraw wsX12_canDraw) := goodIn_app (goodIn_of _ (by decide +kernel)) ggX12_ordersFrom_X12_canDraw
set_option maxRecDepth 20000 in
theorem ggX12_ordersFrom_X12_drawnBy : GoodIn wsX12_ordersFrom wsX12_drawnBy := goodIn_r _ [20, 12, 13, 6, 14] (by decide +kernel) (by decide +kernel)
set_option maxRecDepth 20000 in
theorem gX12_ordersFrom_X12_drawnBy : GoodIn wsX12_ordersFrom (va_wsS RX12 140 yX12_drawnBy wsX12_drawnBy) := goodIn_app (goodIn_of _ (by decide +kernel)) ggX12_ordersFrom_X12_drawnBy
set_option maxRecDepth 20000 in
theorem ggX12_ordersFrom_X12_placeOf : GoodIn wsX12_ordersFrom wsX12_placeOf := goodIn_r _ [24, 8, 9, 10, 6, 11, 12, 13, 14, 25, 26, 27, 28, 29, 30, 31, 32, 33, 34, 35, 36, 37, 38, 39, 40, 41, 42, 43, 44, 45, 46, 47, 48, 49, 50, 51, 52, 53, 54] (by decide +kernel) (by decide +kernel)
set_option maxRecDepth 20000 in
theorem gX12_ordersFrom_X12_placeOf : GoodIn wsX12_ordersFrom (wsV RX12 215 RX12 yX12_placeOf wsX12_placeOf) := goodIn_app (goodIn_of _ (by decide +kernel)) ggX12_ordersFrom_X12_placeOf
theorem dX12_ordersFrom_0 : decode cX12_ordersFrom 0 = .ok (.iload_n 1, 1) := by decide +kernel
theorem dX12_ordersFrom_1 : decode cX12_ordersFrom 1 = .ok (.ldc 122, 2) := by decide +kernel
theorem dX12_ordersFrom_3 : decode cX12_ordersFrom 3 = .ok (.if_icmp .ne 7, 3) := by decide +kernel
theorem dX12_ordersFrom_6 : decode cX12_ordersFrom 6 = .ok (.lconst 1, 1) := by decide +kernel
theorem dX12_ordersFrom_7 : decode cX12_ordersFrom 7 = .ok (.goto 4, 3) := by decide +kernel
theorem dX12_ordersFrom_10 : decode cX12_ordersFrom 10 = .ok (.lconst 0, 1) := by decide +kernel
theorem dX12_ordersFrom_11 : decode cX12_ordersFrom 11 = .ok (.lstore_n 2, 1) := by decide +kernel
theorem dX12_ordersFrom_12 : decode cX12_ordersFrom 12 = .ok (.iconst 1, 1) := by decide +kernel
theorem dX12_ordersFrom_13 : decode cX12_ordersFrom 13 = .ok (.istore 4, 2) := by decide +kernel
theorem dX12_ordersFrom_15 : decode cX12_ordersFrom 15 = .ok (.iload 4, 2) := by decide +kernel
theorem dX12_ordersFrom_17 : decode cX12_ordersFrom 17 = .ok (.bipush 6, 2) := by decide +kernel
theorem dX12_ordersFrom_19 : decode cX12_ordersFrom 19 = .ok (.if_icmp .gt 41, 3) := by decide +kernel
theorem dX12_ordersFrom_22 : decode cX12_ordersFrom 22 = .ok (.lload_n 2, 1) := by decide +kernel
theorem dX12_ordersFrom_23 : decode cX12_ordersFrom 23 = .ok (.aload_n 0, 1) := by decide +kernel
theorem dX12_ordersFrom_24 : decode cX12_ordersFrom 24 = .ok (.iload_n 1, 1) := by decide +kernel
theorem dX12_ordersFrom_25 : decode cX12_ordersFrom 25 = .ok (.iload 4, 2) := by decide +kernel
theorem dX12_ordersFrom_27 : decode cX12_ordersFrom 27 = .ok (.invokevirtual 130, 3) := by decide +kernel
theorem dX12_ordersFrom_30 : decode cX12_ordersFrom 30 = .ok (.ifCond .eq 21, 3) := by decide +kernel
theorem dX12_ordersFrom_33 : decode cX12_ordersFrom 33 = .ok (.aload_n 0, 1) := by decide +kernel
theorem dX12_ordersFrom_34 : decode cX12_ordersFrom 34 = .ok (.getfield 40, 3) := by decide +kernel
theorem dX12_ordersFrom_37 : decode cX12_ordersFrom 37 = .ok (.aload_n 0, 1) := by decide +kernel
theorem dX12_ordersFrom_38 : decode cX12_ordersFrom 38 = .ok (.iload_n 1, 1) := by decide +kernel
theorem dX12_ordersFrom_39 : decode cX12_ordersFrom 39 = .ok (.iload 4, 2) := by decide +kernel
theorem dX12_ordersFrom_41 : decode cX12_ordersFrom 41 = .ok (.invokestatic 140, 3) := by decide +kernel
theorem dX12_ordersFrom_44 : decode cX12_ordersFrom 44 = .ok (.invokevirtual 215, 3) := by decide +kernel
theorem dX12_ordersFrom_47 : decode cX12_ordersFrom 47 = .ok (.laload, 1) := by decide +kernel
theorem dX12_ordersFrom_48 : decode cX12_ordersFrom 48 = .ok (.goto 4, 3) := by decide +kernel
theorem dX12_ordersFrom_51 : decode cX12_ordersFrom 51 = .ok (.lconst 0, 1) := by decide +kernel
theorem dX12_ordersFrom_52 : decode cX12_ordersFrom 52 = .ok (.ladd, 1) := by decide +kernel
theorem dX12_ordersFrom_53 : decode cX12_ordersFrom 53 = .ok (.lstore_n 2, 1) := by decide +kernel
theorem dX12_ordersFrom_54 : decode cX12_ordersFrom 54 = .ok (.iinc 4 1, 3) := by decide +kernel
theorem dX12_ordersFrom_57 : decode cX12_ordersFrom 57 = .ok (.goto (-42), 3) := by decide +kernel
theorem dX12_ordersFrom_60 : decode cX12_ordersFrom 60 = .ok (.lload_n 2, 1) := by decide +kernel
theorem dX12_ordersFrom_61 : decode cX12_ordersFrom 61 = .ok (.lreturn, 1) := by decide +kernel
set_option maxRecDepth 20000 in
theorem ggX12_orders_X12_isBeetle : GoodIn wsX12_orders wsX12_isBeetle := goodIn_r _ [6, 7, 8, 9, 10, 5, 11, 12, 13, 14, 15, 16, 17, 18, 19, 20, 41, 42, 43, 44, 45, 46, 47, 48, 49, 50, 51, 52, 53, 54, 55, 56, 57, 58, 59, 60, 61, 62, 63, 64, 65, 66, 67, 68, 69, 70] (by decide +kernel) (by decide +kernel)
set_option maxRecDepth 20000 in
theorem gX12_orders_X12_isBeetle : GoodIn wsX12_orders (wsV RX12 86 RX12 yX12_isBeetle wsX12_isBeetle) := goodIn_app (goodIn_of _ (by decide +kernel)) ggX12_orders_X12_isBeetle
set_option maxRecDepth 20000 in
theorem ggX12_orders_X12_in : GoodIn wsX12_orders wsX12_in := goodIn_r _ [11] (by decide +kernel) (by decide +kernel)
set_option maxRecDepth 20000 in
theorem gX12_orders_X12_in : GoodIn wsX12_orders (va_wsS RX12 65 yX12_in wsX12_in) := goodIn_app (goodIn_of _ (by decide +kernel)) ggX12_orders_X12_in
set_option maxRecDepth 20000 in
theorem ggX12_orders_X12_drawnAt : GoodIn wsX12_orders wsX12_drawnAt := goodIn_r _ [24, 8, 15, 16, 5, 17, 41, 42, 43, 44, 45, 46, 47, 48, 49, 50, 51, 52, 53, 54, 55, 56, 57, 58, 59, 60, 61, 62, 63, 64, 65, 66, 67, 68, 69, 70] (by decide +kernel) (by decide +kernel)
set_option maxRecDepth 20000 in
theorem gX12_orders_X12_drawnAt : GoodIn wsX12_orders (wsV RX12 218 RX12 yX12_drawnAt wsX12_drawnAt) := goodIn_app (goodIn_of _ (by decide +kernel)) ggX12_orders_X12_drawnAt
set_option maxRecDepth 20000 in
theorem ggX12_orders_X12_ordersFrom : GoodIn wsX12_orders wsX12_ordersFrom := goodIn_r _ [28, 29, 1, 30, 31, 32, 5, 33, 8, 12, 13, 14, 15, 16, 17, 18, 19, 20, 34, 35, 36, 37, 38, 39, 40, 41, 42, 43, 44, 45, 46, 47, 48, 49, 50, 51, 52, 53, 54, 55, 56, 57, 58, 59, 60, 61, 62, 63, 64, 65, 66, 67, 68, 69, 70] (by decide +kernel) (by decide +kernel)
set_option maxRecDepth 20000 in
theorem gX12_orders_X12_ordersFrom : GoodIn wsX12_orders (wsV RX12 221 RX12 yX12_ordersFrom wsX12_ordersFrom) := goodIn_app (goodIn_of _ (by decide +kernel)) ggX12_orders_X12_ordersFrom
set_option maxRecDepth 20000 in
theorem ggX12_orders_X12_placeOf : GoodIn wsX12_orders wsX12_placeOf := goodIn_r _ [40, 8, 12, 13, 5, 14, 15, 16, 17, 41, 42, 43, 44, 45, 46, 47, 48, 49, 50, 51, 52, 53, 54, 55, 56, 57, 58, 59, 60, 61, 62, 63, 64, 65, 66, 67, 68, 69, 70] (by decide +kernel) (by decide +kernel)
set_option maxRecDepth 20000 in
theorem gX12_orders_X12_placeOf : GoodIn wsX12_orders (wsV RX12 215 RX12 yX12_placeOf wsX12_placeOf) := goodIn_app (goodIn_of _ (by decide +kernel)) ggX12_orders_X12_placeOf
set_option maxRecDepth 20000 in
theorem ggX12_orders_X12_canDraw : GoodIn wsX12_orders wsX12_canDraw := goodIn_r _ [33, 8, 12, 13, 5, 14, 15, 16, 17, 18, 19, 20, 41, 42, 43, 44, 45, 46, 47, 48, 49, 50, 51, 52, 53, 54, 55, 56, 57, 58, 59, 60, 61, 62, 63, 64, 65, 66, 67, 68, 69, 70] (by decide +kernel) (by decide +kernel)
set_option maxRecDepth 20000 in
theorem gX12_orders_X12_canDraw : GoodIn wsX12_orders (wsV RX12 130 RX12 yX12_canDraw wsX12_canDraw) := goodIn_app (goodIn_of _ (by decide +kernel)) ggX12_orders_X12_canDraw
theorem dX12_orders_0 : decode cX12_orders 0 = .ok (.aload_n 0, 1) := by decide +kernel
theorem dX12_orders_1 : decode cX12_orders 1 = .ok (.iload_n 1, 1) := by decide +kernel
theorem dX12_orders_2 : decode cX12_orders 2 = .ok (.invokevirtual 86, 3) := by decide +kernel
theorem dX12_orders_5 : decode cX12_orders 5 = .ok (.ifCond .eq 13, 3) := by decide +kernel
theorem dX12_orders_8 : decode cX12_orders 8 = .ok (.iload_n 2, 1) := by decide +kernel
theorem dX12_orders_9 : decode cX12_orders 9 = .ok (.i2l, 1) := by decide +kernel
theorem dX12_orders_10 : decode cX12_orders 10 = .ok (.lconst 0, 1) := by decide +kernel
theorem dX12_orders_11 : decode cX12_orders 11 = .ok (.lconst 1, 1) := by decide +kernel
theorem dX12_orders_12 : decode cX12_orders 12 = .ok (.invokestatic 65, 3) := by decide +kernel
theorem dX12_orders_15 : decode cX12_orders 15 = .ok (.ifCond .ne 6, 3) := by decide +kernel
theorem dX12_orders_18 : decode cX12_orders 18 = .ok (.bipush (-2), 2) := by decide +kernel
theorem dX12_orders_20 : decode cX12_orders 20 = .ok (.ireturn, 1) := by decide +kernel
theorem dX12_orders_21 : decode cX12_orders 21 = .ok (.sipush 503, 3) := by decide +kernel
theorem dX12_orders_24 : decode cX12_orders 24 = .ok (.istore_n 3, 1) := by decide +kernel
theorem dX12_orders_25 : decode cX12_orders 25 = .ok (.iload_n 3, 1) := by decide +kernel
theorem dX12_orders_26 : decode cX12_orders 26 = .ok (.ifCond .lt 24, 3) := by decide +kernel
theorem dX12_orders_29 : decode cX12_orders 29 = .ok (.aload_n 0, 1) := by decide +kernel
theorem dX12_orders_30 : decode cX12_orders 30 = .ok (.getfield 40, 3) := by decide +kernel
theorem dX12_orders_33 : decode cX12_orders 33 = .ok (.iload_n 3, 1) := by decide +kernel
theorem dX12_orders_34 : decode cX12_orders 34 = .ok (.aload_n 0, 1) := by decide +kernel
theorem dX12_orders_35 : decode cX12_orders 35 = .ok (.aload_n 0, 1) := by decide +kernel
theorem dX12_orders_36 : decode cX12_orders 36 = .ok (.iload_n 3, 1) := by decide +kernel
theorem dX12_orders_37 : decode cX12_orders 37 = .ok (.invokevirtual 218, 3) := by decide +kernel
theorem dX12_orders_40 : decode cX12_orders 40 = .ok (.invokevirtual 221, 3) := by decide +kernel
theorem dX12_orders_43 : decode cX12_orders 43 = .ok (.lastore, 1) := by decide +kernel
theorem dX12_orders_44 : decode cX12_orders 44 = .ok (.iinc 3 (-1), 3) := by decide +kernel
theorem dX12_orders_47 : decode cX12_orders 47 = .ok (.goto (-22), 3) := by decide +kernel
theorem dX12_orders_50 : decode cX12_orders 50 = .ok (.iload_n 2, 1) := by decide +kernel
theorem dX12_orders_51 : decode cX12_orders 51 = .ok (.ifCond .ne 15, 3) := by decide +kernel
theorem dX12_orders_54 : decode cX12_orders 54 = .ok (.aload_n 0, 1) := by decide +kernel
theorem dX12_orders_55 : decode cX12_orders 55 = .ok (.getfield 40, 3) := by decide +kernel
theorem dX12_orders_58 : decode cX12_orders 58 = .ok (.aload_n 0, 1) := by decide +kernel
theorem dX12_orders_59 : decode cX12_orders 59 = .ok (.iload_n 1, 1) := by decide +kernel
theorem dX12_orders_60 : decode cX12_orders 60 = .ok (.invokevirtual 215, 3) := by decide +kernel
theorem dX12_orders_63 : decode cX12_orders 63 = .ok (.laload, 1) := by decide +kernel
theorem dX12_orders_64 : decode cX12_orders 64 = .ok (.l2i, 1) := by decide +kernel
theorem dX12_orders_65 : decode cX12_orders 65 = .ok (.ireturn, 1) := by decide +kernel
theorem dX12_orders_66 : decode cX12_orders 66 = .ok (.bipush (-6), 2) := by decide +kernel
theorem dX12_orders_68 : decode cX12_orders 68 = .ok (.istore_n 3, 1) := by decide +kernel
theorem dX12_orders_69 : decode cX12_orders 69 = .ok (.bipush 6, 2) := by decide +kernel
theorem dX12_orders_71 : decode cX12_orders 71 = .ok (.istore 4, 2) := by decide +kernel
theorem dX12_orders_73 : decode cX12_orders 73 = .ok (.iload 4, 2) := by decide +kernel
theorem dX12_orders_75 : decode cX12_orders 75 = .ok (.ifCond .le 26, 3) := by decide +kernel
theorem dX12_orders_78 : decode cX12_orders 78 = .ok (.aload_n 0, 1) := by decide +kernel
theorem dX12_orders_79 : decode cX12_orders 79 = .ok (.iload_n 1, 1) := by decide +kernel
theorem dX12_orders_80 : decode cX12_orders 80 = .ok (.iload 4, 2) := by decide +kernel
theorem dX12_orders_82 : decode cX12_orders 82 = .ok (.invokevirtual 130, 3) := by decide +kernel
theorem dX12_orders_85 : decode cX12_orders 85 = .ok (.ifCond .eq 8, 3) := by decide +kernel
theorem dX12_orders_88 : decode cX12_orders 88 = .ok (.iload 4, 2) := by decide +kernel
theorem dX12_orders_90 : decode cX12_orders 90 = .ok (.goto 4, 3) := by decide +kernel
theorem dX12_orders_93 : decode cX12_orders 93 = .ok (.iload_n 3, 1) := by decide +kernel
theorem dX12_orders_94 : decode cX12_orders 94 = .ok (.istore_n 3, 1) := by decide +kernel
theorem dX12_orders_95 : decode cX12_orders 95 = .ok (.iinc 4 (-1), 3) := by decide +kernel
theorem dX12_orders_98 : decode cX12_orders 98 = .ok (.goto (-25), 3) := by decide +kernel
theorem dX12_orders_101 : decode cX12_orders 101 = .ok (.iload_n 3, 1) := by decide +kernel
theorem dX12_orders_102 : decode cX12_orders 102 = .ok (.ireturn, 1) := by decide +kernel
set_option maxRecDepth 20000 in
theorem ggX12_castsFrom_X12_drawnAt : GoodIn wsX12_castsFrom wsX12_drawnAt := goodIn_r _ [6, 7, 8, 9, 5, 10, 28, 29, 30, 31, 32, 33, 34, 35, 36, 37, 38, 39, 40, 41, 42, 43, 44, 45, 46, 47, 48, 49, 50, 51, 52, 53, 54, 55, 56, 57] (by decide +kernel) (by decide +kernel)
set_option maxRecDepth 20000 in
theorem gX12_castsFrom_X12_drawnAt : GoodIn wsX12_castsFrom (wsV RX12 218 RX12 yX12_drawnAt wsX12_drawnAt) := goodIn_app (goodIn_of _ (by decide +kernel)) ggX12_castsFrom_X12_drawnAt
set_option maxRecDepth 20000 in
theorem ggX12_castsFrom_X12_canDraw : GoodIn wsX12_castsFrom wsX12_canDraw := goodIn_r _ [14, 7, 15, 16, 5, 17, 8, 9, 10, 18, 19, 20, 28, 29, 30, 31, 32, 33, 34, 35, 36, 37, 38, 39, 40, 41, 42, 43, 44, 45, 46, 47, 48, 49, 50, 51, 52, 53, 54, 55, 56, 57] (by decide +kernel) (by decide +kernel)
set_option maxRecDepth 20000 in
theorem gX12_castsFrom_X12_canDraw : GoodIn wsX12_castsFrom (wsV RX12 130 RX12 yX12_canDraw wsX12_canDraw) := goodIn_app (goodIn_of _ (by decide +kernel)) ggX12_castsFrom_X12_canDraw
set_option maxRecDepth 20000 in
theorem ggX12_castsFrom_X12_drawnBy : GoodIn wsX12_castsFrom wsX12_drawnBy := goodIn_r _ [23, 8, 9, 5, 10] (by decide +kernel) (by decide +kernel)
set_option maxRecDepth 20000 in
theorem gX12_castsFrom_X12_drawnBy : GoodIn wsX12_castsFrom (va_wsS RX12 140 yX12_drawnBy wsX12_drawnBy) := goodIn_app (goodIn_of _ (by decide +kernel)) ggX12_castsFrom_X12_drawnBy
set_option maxRecDepth 20000 in
theorem ggX12_castsFrom_X12_placeOf : GoodIn wsX12_castsFrom wsX12_placeOf := goodIn_r _ [27, 7, 15, 16, 5, 17, 8, 9, 10, 28, 29, 30, 31, 32, 33, 34, 35, 36, 37, 38, 39, 40, 41, 42, 43, 44, 45, 46, 47, 48, 49, 50, 51, 52, 53, 54, 55, 56, 57] (by decide +kernel) (by decide +kernel)
set_option maxRecDepth 20000 in
theorem gX12_castsFrom_X12_placeOf : GoodIn wsX12_castsFrom (wsV RX12 215 RX12 yX12_placeOf wsX12_placeOf) := goodIn_app (goodIn_of _ (by decide +kernel)) ggX12_castsFrom_X12_placeOf
theorem dX12_castsFrom_0 : decode cX12_castsFrom 0 = .ok (.aload_n 0, 1) := by decide +kernel
theorem dX12_castsFrom_1 : decode cX12_castsFrom 1 = .ok (.iload_n 1, 1) := by decide +kernel
theorem dX12_castsFrom_2 : decode cX12_castsFrom 2 = .ok (.invokevirtual 218, 3) := by decide +kernel
theorem dX12_castsFrom_5 : decode cX12_castsFrom 5 = .ok (.istore_n 2, 1) := by decide +kernel
theorem dX12_castsFrom_6 : decode cX12_castsFrom 6 = .ok (.lconst 0, 1) := by decide +kernel
theorem dX12_castsFrom_7 : decode cX12_castsFrom 7 = .ok (.lstore_n 3, 1) := by decide +kernel
theorem dX12_castsFrom_8 : decode cX12_castsFrom 8 = .ok (.iconst 1, 1) := by decide +kernel
theorem dX12_castsFrom_9 : decode cX12_castsFrom 9 = .ok (.istore 5, 2) := by decide +kernel
theorem dX12_castsFrom_11 : decode cX12_castsFrom 11 = .ok (.iload 5, 2) := by decide +kernel
theorem dX12_castsFrom_13 : decode cX12_castsFrom 13 = .ok (.bipush 6, 2) := by decide +kernel
theorem dX12_castsFrom_15 : decode cX12_castsFrom 15 = .ok (.if_icmp .gt 45, 3) := by decide +kernel
theorem dX12_castsFrom_18 : decode cX12_castsFrom 18 = .ok (.aload_n 0, 1) := by decide +kernel
theorem dX12_castsFrom_19 : decode cX12_castsFrom 19 = .ok (.iload_n 2, 1) := by decide +kernel
theorem dX12_castsFrom_20 : decode cX12_castsFrom 20 = .ok (.iload 5, 2) := by decide +kernel
theorem dX12_castsFrom_22 : decode cX12_castsFrom 22 = .ok (.invokevirtual 130, 3) := by decide +kernel
theorem dX12_castsFrom_25 : decode cX12_castsFrom 25 = .ok (.ifCond .eq 16, 3) := by decide +kernel
theorem dX12_castsFrom_28 : decode cX12_castsFrom 28 = .ok (.aload_n 0, 1) := by decide +kernel
theorem dX12_castsFrom_29 : decode cX12_castsFrom 29 = .ok (.iload_n 2, 1) := by decide +kernel
theorem dX12_castsFrom_30 : decode cX12_castsFrom 30 = .ok (.iload 5, 2) := by decide +kernel
theorem dX12_castsFrom_32 : decode cX12_castsFrom 32 = .ok (.invokestatic 140, 3) := by decide +kernel
theorem dX12_castsFrom_35 : decode cX12_castsFrom 35 = .ok (.invokevirtual 215, 3) := by decide +kernel
theorem dX12_castsFrom_38 : decode cX12_castsFrom 38 = .ok (.goto 4, 3) := by decide +kernel
theorem dX12_castsFrom_41 : decode cX12_castsFrom 41 = .ok (.iload_n 1, 1) := by decide +kernel
theorem dX12_castsFrom_42 : decode cX12_castsFrom 42 = .ok (.istore 6, 2) := by decide +kernel
theorem dX12_castsFrom_44 : decode cX12_castsFrom 44 = .ok (.lload_n 3, 1) := by decide +kernel
theorem dX12_castsFrom_45 : decode cX12_castsFrom 45 = .ok (.aload_n 0, 1) := by decide +kernel
theorem dX12_castsFrom_46 : decode cX12_castsFrom 46 = .ok (.getfield 44, 3) := by decide +kernel
theorem dX12_castsFrom_49 : decode cX12_castsFrom 49 = .ok (.iload 6, 2) := by decide +kernel
theorem dX12_castsFrom_51 : decode cX12_castsFrom 51 = .ok (.laload, 1) := by decide +kernel
theorem dX12_castsFrom_52 : decode cX12_castsFrom 52 = .ok (.ladd, 1) := by decide +kernel
theorem dX12_castsFrom_53 : decode cX12_castsFrom 53 = .ok (.lstore_n 3, 1) := by decide +kernel
theorem dX12_castsFrom_54 : decode cX12_castsFrom 54 = .ok (.iinc 5 1, 3) := by decide +kernel
theorem dX12_castsFrom_57 : decode cX12_castsFrom 57 = .ok (.goto (-46), 3) := by decide +kernel
theorem dX12_castsFrom_60 : decode cX12_castsFrom 60 = .ok (.lload_n 3, 1) := by decide +kernel
theorem dX12_castsFrom_61 : decode cX12_castsFrom 61 = .ok (.lreturn, 1) := by decide +kernel
theorem dX12_divisor_0 : decode cX12_divisor 0 = .ok (.lload_n 2, 1) := by decide +kernel
theorem dX12_divisor_1 : decode cX12_divisor 1 = .ok (.lstore 4, 2) := by decide +kernel
theorem dX12_divisor_3 : decode cX12_divisor 3 = .ok (.lload_n 0, 1) := by decide +kernel
theorem dX12_divisor_4 : decode cX12_divisor 4 = .ok (.lstore 6, 2) := by decide +kernel
theorem dX12_divisor_6 : decode cX12_divisor 6 = .ok (.lload 6, 2) := by decide +kernel
theorem dX12_divisor_8 : decode cX12_divisor 8 = .ok (.lconst 0, 1) := by decide +kernel
theorem dX12_divisor_9 : decode cX12_divisor 9 = .ok (.lcmp, 1) := by decide +kernel
theorem dX12_divisor_10 : decode cX12_divisor 10 = .ok (.ifCond .eq 21, 3) := by decide +kernel
theorem dX12_divisor_13 : decode cX12_divisor 13 = .ok (.lload 4, 2) := by decide +kernel
theorem dX12_divisor_15 : decode cX12_divisor 15 = .ok (.lload 6, 2) := by decide +kernel
theorem dX12_divisor_17 : decode cX12_divisor 17 = .ok (.lrem, 1) := by decide +kernel
theorem dX12_divisor_18 : decode cX12_divisor 18 = .ok (.lstore 8, 2) := by decide +kernel
theorem dX12_divisor_20 : decode cX12_divisor 20 = .ok (.lload 6, 2) := by decide +kernel
theorem dX12_divisor_22 : decode cX12_divisor 22 = .ok (.lstore 4, 2) := by decide +kernel
theorem dX12_divisor_24 : decode cX12_divisor 24 = .ok (.lload 8, 2) := by decide +kernel
theorem dX12_divisor_26 : decode cX12_divisor 26 = .ok (.lstore 6, 2) := by decide +kernel
theorem dX12_divisor_28 : decode cX12_divisor 28 = .ok (.goto (-22), 3) := by decide +kernel
theorem dX12_divisor_31 : decode cX12_divisor 31 = .ok (.lload 4, 2) := by decide +kernel
theorem dX12_divisor_33 : decode cX12_divisor 33 = .ok (.lreturn, 1) := by decide +kernel
set_option maxRecDepth 20000 in
theorem ggX12_whole_X12_isBeetle : GoodIn wsX12_whole wsX12_isBeetle := goodIn_r _ [11, 12, 13, 14, 15, 10, 16, 17, 18, 19, 20, 21, 22, 23, 24, 25, 48, 49, 50, 51, 52, 53, 54, 55, 56, 57, 58, 59, 60, 61, 62, 63, 64, 65, 66, 67, 68, 69, 70, 71, 72, 73, 74, 75, 76, 77] (by decide +kernel) (by decide +kernel)
set_option maxRecDepth 20000 in
theorem gX12_whole_X12_isBeetle : GoodIn wsX12_whole (wsV RX12 86 RX12 yX12_isBeetle wsX12_isBeetle) := goodIn_app (goodIn_of _ (by decide +kernel)) ggX12_whole_X12_isBeetle
set_option maxRecDepth 20000 in
theorem ggX12_whole_X12_in : GoodIn wsX12_whole wsX12_in := goodIn_r _ [16] (by decide +kernel) (by decide +kernel)
set_option maxRecDepth 20000 in
theorem gX12_whole_X12_in : GoodIn wsX12_whole (va_wsS RX12 65 yX12_in wsX12_in) := goodIn_app (goodIn_of _ (by decide +kernel)) ggX12_whole_X12_in
set_option maxRecDepth 20000 in
theorem ggX12_whole_X12_drawnAt : GoodIn wsX12_whole wsX12_drawnAt := goodIn_r _ [29, 13, 20, 21, 10, 22, 48, 49, 50, 51, 52, 53, 54, 55, 56, 57, 58, 59, 60, 61, 62, 63, 64, 65, 66, 67, 68, 69, 70, 71, 72, 73, 74, 75, 76, 77] (by decide +kernel) (by decide +kernel)
set_option maxRecDepth 20000 in
theorem gX12_whole_X12_drawnAt : GoodIn wsX12_whole (wsV RX12 218 RX12 yX12_drawnAt wsX12_drawnAt) := goodIn_app (goodIn_of _ (by decide +kernel)) ggX12_whole_X12_drawnAt
set_option maxRecDepth 20000 in
theorem ggX12_whole_X12_castsFrom : GoodIn wsX12_whole wsX12_castsFrom := goodIn_r _ [33, 6, 26, 27, 28, 10, 29, 13, 20, 21, 22, 34, 35, 36, 37, 17, 18, 19, 23, 24, 25, 38, 39, 40, 41, 42, 43, 44, 48, 49, 50, 51, 52, 53, 54, 55, 56, 57, 58, 59, 60, 61, 62, 63, 64, 65, 66, 67, 68, 69, 70, 71, 72, 73, 74, 75, 76, 77] (by decide +kernel) (by decide +kernel)
set_option maxRecDepth 20000 in
theorem gX12_whole_X12_castsFrom : GoodIn wsX12_whole (wsV RX12 231 RX12 yX12_castsFrom wsX12_castsFrom) := goodIn_app (goodIn_of _ (by decide +kernel)) ggX12_whole_X12_castsFrom
set_option maxRecDepth 20000 in
theorem ggX12_whole_X12_placeOf : GoodIn wsX12_whole wsX12_placeOf := goodIn_r _ [44, 13, 17, 18, 10, 19, 20, 21, 22, 48, 49, 50, 51, 52, 53, 54, 55, 56, 57, 58, 59, 60, 61, 62, 63, 64, 65, 66, 67, 68, 69, 70, 71, 72, 73, 74, 75, 76, 77] (by decide +kernel) (by decide +kernel)
set_option maxRecDepth 20000 in
theorem gX12_whole_X12_placeOf : GoodIn wsX12_whole (wsV RX12 215 RX12 yX12_placeOf wsX12_placeOf) := goodIn_app (goodIn_of _ (by decide +kernel)) ggX12_whole_X12_placeOf
set_option maxRecDepth 20000 in
theorem ggX12_whole_X12_divisor : GoodIn wsX12_whole wsX12_divisor := goodIn_r _ [47] (by decide +kernel) (by decide +kernel)
set_option maxRecDepth 20000 in
theorem gX12_whole_X12_divisor : GoodIn wsX12_whole (va_wsS RX12 234 yX12_divisor wsX12_divisor) := goodIn_app (goodIn_of _ (by decide +kernel)) ggX12_whole_X12_divisor
theorem dX12_whole_0 : decode cX12_whole 0 = .ok (.aload_n 0, 1) := by decide +kernel
theorem dX12_whole_1 : decode cX12_whole 1 = .ok (.iload_n 1, 1) := by decide +kernel
theorem dX12_whole_2 : decode cX12_whole 2 = .ok (.invokevirtual 86, 3) := by decide +kernel
theorem dX12_whole_5 : decode cX12_whole 5 = .ok (.ifCond .eq 25, 3) := by decide +kernel
theorem dX12_whole_8 : decode cX12_whole 8 = .ok (.iload_n 2, 1) := by decide +kernel
theorem dX12_whole_9 : decode cX12_whole 9 = .ok (.i2l, 1) := by decide +kernel
theorem dX12_whole_10 : decode cX12_whole 10 = .ok (.lconst 0, 1) := by decide +kernel
theorem dX12_whole_11 : decode cX12_whole 11 = .ok (.ldc2_w 225, 3) := by decide +kernel
theorem dX12_whole_14 : decode cX12_whole 14 = .ok (.invokestatic 65, 3) := by decide +kernel
theorem dX12_whole_17 : decode cX12_whole 17 = .ok (.ifCond .eq 13, 3) := by decide +kernel
theorem dX12_whole_20 : decode cX12_whole 20 = .ok (.iload_n 3, 1) := by decide +kernel
theorem dX12_whole_21 : decode cX12_whole 21 = .ok (.i2l, 1) := by decide +kernel
theorem dX12_whole_22 : decode cX12_whole 22 = .ok (.lconst 0, 1) := by decide +kernel
theorem dX12_whole_23 : decode cX12_whole 23 = .ok (.lconst 1, 1) := by decide +kernel
theorem dX12_whole_24 : decode cX12_whole 24 = .ok (.invokestatic 65, 3) := by decide +kernel
theorem dX12_whole_27 : decode cX12_whole 27 = .ok (.ifCond .ne 7, 3) := by decide +kernel
theorem dX12_whole_30 : decode cX12_whole 30 = .ok (.ldc2_w 227, 3) := by decide +kernel
theorem dX12_whole_33 : decode cX12_whole 33 = .ok (.lreturn, 1) := by decide +kernel
theorem dX12_whole_34 : decode cX12_whole 34 = .ok (.lconst 1, 1) := by decide +kernel
theorem dX12_whole_35 : decode cX12_whole 35 = .ok (.lstore 4, 2) := by decide +kernel
theorem dX12_whole_37 : decode cX12_whole 37 = .ok (.iconst 0, 1) := by decide +kernel
theorem dX12_whole_38 : decode cX12_whole 38 = .ok (.istore 6, 2) := by decide +kernel
theorem dX12_whole_40 : decode cX12_whole 40 = .ok (.iload 6, 2) := by decide +kernel
theorem dX12_whole_42 : decode cX12_whole 42 = .ok (.sipush 504, 3) := by decide +kernel
theorem dX12_whole_45 : decode cX12_whole 45 = .ok (.if_icmp .ge 32, 3) := by decide +kernel
theorem dX12_whole_48 : decode cX12_whole 48 = .ok (.aload_n 0, 1) := by decide +kernel
theorem dX12_whole_49 : decode cX12_whole 49 = .ok (.getfield 40, 3) := by decide +kernel
theorem dX12_whole_52 : decode cX12_whole 52 = .ok (.iload 6, 2) := by decide +kernel
theorem dX12_whole_54 : decode cX12_whole 54 = .ok (.aload_n 0, 1) := by decide +kernel
theorem dX12_whole_55 : decode cX12_whole 55 = .ok (.iload 6, 2) := by decide +kernel
theorem dX12_whole_57 : decode cX12_whole 57 = .ok (.invokevirtual 218, 3) := by decide +kernel
theorem dX12_whole_60 : decode cX12_whole 60 = .ok (.ldc 122, 2) := by decide +kernel
theorem dX12_whole_62 : decode cX12_whole 62 = .ok (.if_icmp .ne 7, 3) := by decide +kernel
theorem dX12_whole_65 : decode cX12_whole 65 = .ok (.lconst 1, 1) := by decide +kernel
theorem dX12_whole_66 : decode cX12_whole 66 = .ok (.goto 4, 3) := by decide +kernel
theorem dX12_whole_69 : decode cX12_whole 69 = .ok (.lconst 0, 1) := by decide +kernel
theorem dX12_whole_70 : decode cX12_whole 70 = .ok (.lastore, 1) := by decide +kernel
theorem dX12_whole_71 : decode cX12_whole 71 = .ok (.iinc 6 1, 3) := by decide +kernel
theorem dX12_whole_74 : decode cX12_whole 74 = .ok (.goto (-34), 3) := by decide +kernel
theorem dX12_whole_77 : decode cX12_whole 77 = .ok (.iconst 0, 1) := by decide +kernel
theorem dX12_whole_78 : decode cX12_whole 78 = .ok (.istore 6, 2) := by decide +kernel
theorem dX12_whole_80 : decode cX12_whole 80 = .ok (.iload 6, 2) := by decide +kernel
theorem dX12_whole_82 : decode cX12_whole 82 = .ok (.iload_n 2, 1) := by decide +kernel
theorem dX12_whole_83 : decode cX12_whole 83 = .ok (.if_icmp .ge 78, 3) := by decide +kernel
theorem dX12_whole_86 : decode cX12_whole 86 = .ok (.lload 4, 2) := by decide +kernel
theorem dX12_whole_88 : decode cX12_whole 88 = .ok (.ldc2_w 229, 3) := by decide +kernel
theorem dX12_whole_91 : decode cX12_whole 91 = .ok (.lmul, 1) := by decide +kernel
theorem dX12_whole_92 : decode cX12_whole 92 = .ok (.lstore 4, 2) := by decide +kernel
theorem dX12_whole_94 : decode cX12_whole 94 = .ok (.iconst 0, 1) := by decide +kernel
theorem dX12_whole_95 : decode cX12_whole 95 = .ok (.istore 7, 2) := by decide +kernel
theorem dX12_whole_97 : decode cX12_whole 97 = .ok (.iload 7, 2) := by decide +kernel
theorem dX12_whole_99 : decode cX12_whole 99 = .ok (.sipush 504, 3) := by decide +kernel
theorem dX12_whole_102 : decode cX12_whole 102 = .ok (.if_icmp .ge 23, 3) := by decide +kernel
theorem dX12_whole_105 : decode cX12_whole 105 = .ok (.aload_n 0, 1) := by decide +kernel
theorem dX12_whole_106 : decode cX12_whole 106 = .ok (.getfield 44, 3) := by decide +kernel
theorem dX12_whole_109 : decode cX12_whole 109 = .ok (.iload 7, 2) := by decide +kernel
theorem dX12_whole_111 : decode cX12_whole 111 = .ok (.aload_n 0, 1) := by decide +kernel
theorem dX12_whole_112 : decode cX12_whole 112 = .ok (.getfield 40, 3) := by decide +kernel
theorem dX12_whole_115 : decode cX12_whole 115 = .ok (.iload 7, 2) := by decide +kernel
theorem dX12_whole_117 : decode cX12_whole 117 = .ok (.laload, 1) := by decide +kernel
theorem dX12_whole_118 : decode cX12_whole 118 = .ok (.lastore, 1) := by decide +kernel
theorem dX12_whole_119 : decode cX12_whole 119 = .ok (.iinc 7 1, 3) := by decide +kernel
theorem dX12_whole_122 : decode cX12_whole 122 = .ok (.goto (-25), 3) := by decide +kernel
theorem dX12_whole_125 : decode cX12_whole 125 = .ok (.iconst 0, 1) := by decide +kernel
theorem dX12_whole_126 : decode cX12_whole 126 = .ok (.istore 7, 2) := by decide +kernel
theorem dX12_whole_128 : decode cX12_whole 128 = .ok (.iload 7, 2) := by decide +kernel
theorem dX12_whole_130 : decode cX12_whole 130 = .ok (.sipush 504, 3) := by decide +kernel
theorem dX12_whole_133 : decode cX12_whole 133 = .ok (.if_icmp .ge 22, 3) := by decide +kernel
theorem dX12_whole_136 : decode cX12_whole 136 = .ok (.aload_n 0, 1) := by decide +kernel
theorem dX12_whole_137 : decode cX12_whole 137 = .ok (.getfield 40, 3) := by decide +kernel
theorem dX12_whole_140 : decode cX12_whole 140 = .ok (.iload 7, 2) := by decide +kernel
theorem dX12_whole_142 : decode cX12_whole 142 = .ok (.aload_n 0, 1) := by decide +kernel
theorem dX12_whole_143 : decode cX12_whole 143 = .ok (.iload 7, 2) := by decide +kernel
theorem dX12_whole_145 : decode cX12_whole 145 = .ok (.invokevirtual 231, 3) := by decide +kernel
theorem dX12_whole_148 : decode cX12_whole 148 = .ok (.lastore, 1) := by decide +kernel
theorem dX12_whole_149 : decode cX12_whole 149 = .ok (.iinc 7 1, 3) := by decide +kernel
theorem dX12_whole_152 : decode cX12_whole 152 = .ok (.goto (-24), 3) := by decide +kernel
theorem dX12_whole_155 : decode cX12_whole 155 = .ok (.iinc 6 1, 3) := by decide +kernel
theorem dX12_whole_158 : decode cX12_whole 158 = .ok (.goto (-78), 3) := by decide +kernel
theorem dX12_whole_161 : decode cX12_whole 161 = .ok (.aload_n 0, 1) := by decide +kernel
theorem dX12_whole_162 : decode cX12_whole 162 = .ok (.getfield 40, 3) := by decide +kernel
theorem dX12_whole_165 : decode cX12_whole 165 = .ok (.aload_n 0, 1) := by decide +kernel
theorem dX12_whole_166 : decode cX12_whole 166 = .ok (.iload_n 1, 1) := by decide +kernel
theorem dX12_whole_167 : decode cX12_whole 167 = .ok (.invokevirtual 215, 3) := by decide +kernel
theorem dX12_whole_170 : decode cX12_whole 170 = .ok (.laload, 1) := by decide +kernel
theorem dX12_whole_171 : decode cX12_whole 171 = .ok (.lstore 6, 2) := by decide +kernel
theorem dX12_whole_173 : decode cX12_whole 173 = .ok (.lload 6, 2) := by decide +kernel
theorem dX12_whole_175 : decode cX12_whole 175 = .ok (.lload 4, 2) := by decide +kernel
theorem dX12_whole_177 : decode cX12_whole 177 = .ok (.invokestatic 234, 3) := by decide +kernel
theorem dX12_whole_180 : decode cX12_whole 180 = .ok (.lstore 8, 2) := by decide +kernel
theorem dX12_whole_182 : decode cX12_whole 182 = .ok (.iload_n 3, 1) := by decide +kernel
theorem dX12_whole_183 : decode cX12_whole 183 = .ok (.ifCond .ne 11, 3) := by decide +kernel
theorem dX12_whole_186 : decode cX12_whole 186 = .ok (.lload 6, 2) := by decide +kernel
theorem dX12_whole_188 : decode cX12_whole 188 = .ok (.lload 8, 2) := by decide +kernel
theorem dX12_whole_190 : decode cX12_whole 190 = .ok (.ldiv, 1) := by decide +kernel
theorem dX12_whole_191 : decode cX12_whole 191 = .ok (.goto 8, 3) := by decide +kernel
theorem dX12_whole_194 : decode cX12_whole 194 = .ok (.lload 4, 2) := by decide +kernel
theorem dX12_whole_196 : decode cX12_whole 196 = .ok (.lload 8, 2) := by decide +kernel
theorem dX12_whole_198 : decode cX12_whole 198 = .ok (.ldiv, 1) := by decide +kernel
theorem dX12_whole_199 : decode cX12_whole 199 = .ok (.lreturn, 1) := by decide +kernel
set_option maxRecDepth 20000 in
theorem ggX12_sums_X12_in : GoodIn wsX12_sums wsX12_in := goodIn_r _ [8] (by decide +kernel) (by decide +kernel)
set_option maxRecDepth 20000 in
theorem gX12_sums_X12_in : GoodIn wsX12_sums (va_wsS RX12 65 yX12_in wsX12_in) := goodIn_app (goodIn_of _ (by decide +kernel)) ggX12_sums_X12_in
theorem dX12_sums_0 : decode cX12_sums 0 = .ok (.iload_n 1, 1) := by decide +kernel
theorem dX12_sums_1 : decode cX12_sums 1 = .ok (.i2l, 1) := by decide +kernel
theorem dX12_sums_2 : decode cX12_sums 2 = .ok (.lconst 1, 1) := by decide +kernel
theorem dX12_sums_3 : decode cX12_sums 3 = .ok (.ldc2_w 238, 3) := by decide +kernel
theorem dX12_sums_6 : decode cX12_sums 6 = .ok (.invokestatic 65, 3) := by decide +kernel
theorem dX12_sums_9 : decode cX12_sums 9 = .ok (.ifCond .eq 15, 3) := by decide +kernel
theorem dX12_sums_12 : decode cX12_sums 12 = .ok (.iload_n 2, 1) := by decide +kernel
theorem dX12_sums_13 : decode cX12_sums 13 = .ok (.i2l, 1) := by decide +kernel
theorem dX12_sums_14 : decode cX12_sums 14 = .ok (.lconst 0, 1) := by decide +kernel
theorem dX12_sums_15 : decode cX12_sums 15 = .ok (.ldc2_w 240, 3) := by decide +kernel
theorem dX12_sums_18 : decode cX12_sums 18 = .ok (.invokestatic 65, 3) := by decide +kernel
theorem dX12_sums_21 : decode cX12_sums 21 = .ok (.ifCond .ne 7, 3) := by decide +kernel
theorem dX12_sums_24 : decode cX12_sums 24 = .ok (.ldc2_w 242, 3) := by decide +kernel
theorem dX12_sums_27 : decode cX12_sums 27 = .ok (.lreturn, 1) := by decide +kernel
theorem dX12_sums_28 : decode cX12_sums 28 = .ok (.iconst 0, 1) := by decide +kernel
theorem dX12_sums_29 : decode cX12_sums 29 = .ok (.istore_n 3, 1) := by decide +kernel
theorem dX12_sums_30 : decode cX12_sums 30 = .ok (.iload_n 3, 1) := by decide +kernel
theorem dX12_sums_31 : decode cX12_sums 31 = .ok (.bipush 72, 2) := by decide +kernel
theorem dX12_sums_33 : decode cX12_sums 33 = .ok (.if_icmp .gt 24, 3) := by decide +kernel
theorem dX12_sums_36 : decode cX12_sums 36 = .ok (.aload_n 0, 1) := by decide +kernel
theorem dX12_sums_37 : decode cX12_sums 37 = .ok (.getfield 47, 3) := by decide +kernel
theorem dX12_sums_40 : decode cX12_sums 40 = .ok (.iload_n 3, 1) := by decide +kernel
theorem dX12_sums_41 : decode cX12_sums 41 = .ok (.iload_n 3, 1) := by decide +kernel
theorem dX12_sums_42 : decode cX12_sums 42 = .ok (.ifCond .ne 7, 3) := by decide +kernel
theorem dX12_sums_45 : decode cX12_sums 45 = .ok (.lconst 1, 1) := by decide +kernel
theorem dX12_sums_46 : decode cX12_sums 46 = .ok (.goto 4, 3) := by decide +kernel
theorem dX12_sums_49 : decode cX12_sums 49 = .ok (.lconst 0, 1) := by decide +kernel
theorem dX12_sums_50 : decode cX12_sums 50 = .ok (.lastore, 1) := by decide +kernel
theorem dX12_sums_51 : decode cX12_sums 51 = .ok (.iinc 3 1, 3) := by decide +kernel
theorem dX12_sums_54 : decode cX12_sums 54 = .ok (.goto (-24), 3) := by decide +kernel
theorem dX12_sums_57 : decode cX12_sums 57 = .ok (.iconst 0, 1) := by decide +kernel
theorem dX12_sums_58 : decode cX12_sums 58 = .ok (.istore_n 3, 1) := by decide +kernel
theorem dX12_sums_59 : decode cX12_sums 59 = .ok (.iload_n 3, 1) := by decide +kernel
theorem dX12_sums_60 : decode cX12_sums 60 = .ok (.iload_n 1, 1) := by decide +kernel
theorem dX12_sums_61 : decode cX12_sums 61 = .ok (.if_icmp .ge 74, 3) := by decide +kernel
theorem dX12_sums_64 : decode cX12_sums 64 = .ok (.bipush 72, 2) := by decide +kernel
theorem dX12_sums_66 : decode cX12_sums 66 = .ok (.istore 4, 2) := by decide +kernel
theorem dX12_sums_68 : decode cX12_sums 68 = .ok (.iload 4, 2) := by decide +kernel
theorem dX12_sums_70 : decode cX12_sums 70 = .ok (.ifCond .lt 59, 3) := by decide +kernel
theorem dX12_sums_73 : decode cX12_sums 73 = .ok (.lconst 0, 1) := by decide +kernel
theorem dX12_sums_74 : decode cX12_sums 74 = .ok (.lstore 5, 2) := by decide +kernel
theorem dX12_sums_76 : decode cX12_sums 76 = .ok (.iconst 1, 1) := by decide +kernel
theorem dX12_sums_77 : decode cX12_sums 77 = .ok (.istore 7, 2) := by decide +kernel
theorem dX12_sums_79 : decode cX12_sums 79 = .ok (.iload 7, 2) := by decide +kernel
theorem dX12_sums_81 : decode cX12_sums 81 = .ok (.bipush 6, 2) := by decide +kernel
theorem dX12_sums_83 : decode cX12_sums 83 = .ok (.if_icmp .gt 31, 3) := by decide +kernel
theorem dX12_sums_86 : decode cX12_sums 86 = .ok (.iload 7, 2) := by decide +kernel
theorem dX12_sums_88 : decode cX12_sums 88 = .ok (.iload 4, 2) := by decide +kernel
theorem dX12_sums_90 : decode cX12_sums 90 = .ok (.if_icmp .gt 24, 3) := by decide +kernel
theorem dX12_sums_93 : decode cX12_sums 93 = .ok (.lload 5, 2) := by decide +kernel
theorem dX12_sums_95 : decode cX12_sums 95 = .ok (.aload_n 0, 1) := by decide +kernel
theorem dX12_sums_96 : decode cX12_sums 96 = .ok (.getfield 47, 3) := by decide +kernel
theorem dX12_sums_99 : decode cX12_sums 99 = .ok (.iload 4, 2) := by decide +kernel
theorem dX12_sums_101 : decode cX12_sums 101 = .ok (.iload 7, 2) := by decide +kernel
theorem dX12_sums_103 : decode cX12_sums 103 = .ok (.isub, 1) := by decide +kernel
theorem dX12_sums_104 : decode cX12_sums 104 = .ok (.laload, 1) := by decide +kernel
theorem dX12_sums_105 : decode cX12_sums 105 = .ok (.ladd, 1) := by decide +kernel
theorem dX12_sums_106 : decode cX12_sums 106 = .ok (.lstore 5, 2) := by decide +kernel
theorem dX12_sums_108 : decode cX12_sums 108 = .ok (.iinc 7 1, 3) := by decide +kernel
theorem dX12_sums_111 : decode cX12_sums 111 = .ok (.goto (-32), 3) := by decide +kernel
theorem dX12_sums_114 : decode cX12_sums 114 = .ok (.aload_n 0, 1) := by decide +kernel
theorem dX12_sums_115 : decode cX12_sums 115 = .ok (.getfield 47, 3) := by decide +kernel
theorem dX12_sums_118 : decode cX12_sums 118 = .ok (.iload 4, 2) := by decide +kernel
theorem dX12_sums_120 : decode cX12_sums 120 = .ok (.lload 5, 2) := by decide +kernel
theorem dX12_sums_122 : decode cX12_sums 122 = .ok (.lastore, 1) := by decide +kernel
theorem dX12_sums_123 : decode cX12_sums 123 = .ok (.iinc 4 (-1), 3) := by decide +kernel
theorem dX12_sums_126 : decode cX12_sums 126 = .ok (.goto (-58), 3) := by decide +kernel
theorem dX12_sums_129 : decode cX12_sums 129 = .ok (.iinc 3 1, 3) := by decide +kernel
theorem dX12_sums_132 : decode cX12_sums 132 = .ok (.goto (-73), 3) := by decide +kernel
theorem dX12_sums_135 : decode cX12_sums 135 = .ok (.iload_n 2, 1) := by decide +kernel
theorem dX12_sums_136 : decode cX12_sums 136 = .ok (.bipush 72, 2) := by decide +kernel
theorem dX12_sums_138 : decode cX12_sums 138 = .ok (.if_icmp .le 7, 3) := by decide +kernel
theorem dX12_sums_141 : decode cX12_sums 141 = .ok (.lconst 0, 1) := by decide +kernel
theorem dX12_sums_142 : decode cX12_sums 142 = .ok (.goto 9, 3) := by decide +kernel
theorem dX12_sums_145 : decode cX12_sums 145 = .ok (.aload_n 0, 1) := by decide +kernel
theorem dX12_sums_146 : decode cX12_sums 146 = .ok (.getfield 47, 3) := by decide +kernel
theorem dX12_sums_149 : decode cX12_sums 149 = .ok (.iload_n 2, 1) := by decide +kernel
theorem dX12_sums_150 : decode cX12_sums 150 = .ok (.laload, 1) := by decide +kernel
theorem dX12_sums_151 : decode cX12_sums 151 = .ok (.lreturn, 1) := by decide +kernel
theorem dX12_baseOf_0 : decode cX12_baseOf 0 = .ok (.iload_n 0, 1) := by decide +kernel
theorem dX12_baseOf_1 : decode cX12_baseOf 1 = .ok (.iconst 4, 1) := by decide +kernel
theorem dX12_baseOf_2 : decode cX12_baseOf 2 = .ok (.if_icmp .ge 7, 3) := by decide +kernel
theorem dX12_baseOf_5 : decode cX12_baseOf 5 = .ok (.iload_n 0, 1) := by decide +kernel
theorem dX12_baseOf_6 : decode cX12_baseOf 6 = .ok (.goto 7, 3) := by decide +kernel
theorem dX12_baseOf_9 : decode cX12_baseOf 9 = .ok (.bipush 7, 2) := by decide +kernel
theorem dX12_baseOf_11 : decode cX12_baseOf 11 = .ok (.iload_n 0, 1) := by decide +kernel
theorem dX12_baseOf_12 : decode cX12_baseOf 12 = .ok (.isub, 1) := by decide +kernel
theorem dX12_baseOf_13 : decode cX12_baseOf 13 = .ok (.ireturn, 1) := by decide +kernel
set_option maxRecDepth 20000 in
theorem ggX12_rightOf_X12_baseOf : GoodIn wsX12_rightOf wsX12_baseOf := goodIn_r _ [4] (by decide +kernel) (by decide +kernel)
set_option maxRecDepth 20000 in
theorem gX12_rightOf_X12_baseOf : GoodIn wsX12_rightOf (va_wsS RX12 244 yX12_baseOf wsX12_baseOf) := goodIn_app (goodIn_of _ (by decide +kernel)) ggX12_rightOf_X12_baseOf
theorem dX12_rightOf_0 : decode cX12_rightOf 0 = .ok (.bipush 6, 2) := by decide +kernel
theorem dX12_rightOf_2 : decode cX12_rightOf 2 = .ok (.iload_n 0, 1) := by decide +kernel
theorem dX12_rightOf_3 : decode cX12_rightOf 3 = .ok (.invokestatic 244, 3) := by decide +kernel
theorem dX12_rightOf_6 : decode cX12_rightOf 6 = .ok (.isub, 1) := by decide +kernel
theorem dX12_rightOf_7 : decode cX12_rightOf 7 = .ok (.iload_n 1, 1) := by decide +kernel
theorem dX12_rightOf_8 : decode cX12_rightOf 8 = .ok (.invokestatic 244, 3) := by decide +kernel
theorem dX12_rightOf_11 : decode cX12_rightOf 11 = .ok (.isub, 1) := by decide +kernel
theorem dX12_rightOf_12 : decode cX12_rightOf 12 = .ok (.istore_n 2, 1) := by decide +kernel
theorem dX12_rightOf_13 : decode cX12_rightOf 13 = .ok (.iload_n 0, 1) := by decide +kernel
theorem dX12_rightOf_14 : decode cX12_rightOf 14 = .ok (.iconst 3, 1) := by decide +kernel
theorem dX12_rightOf_15 : decode cX12_rightOf 15 = .ok (.if_icmp .le 7, 3) := by decide +kernel
theorem dX12_rightOf_18 : decode cX12_rightOf 18 = .ok (.iconst 1, 1) := by decide +kernel
theorem dX12_rightOf_19 : decode cX12_rightOf 19 = .ok (.goto 4, 3) := by decide +kernel
theorem dX12_rightOf_22 : decode cX12_rightOf 22 = .ok (.iconst 0, 1) := by decide +kernel
theorem dX12_rightOf_23 : decode cX12_rightOf 23 = .ok (.iload_n 1, 1) := by decide +kernel
theorem dX12_rightOf_24 : decode cX12_rightOf 24 = .ok (.iconst 3, 1) := by decide +kernel
theorem dX12_rightOf_25 : decode cX12_rightOf 25 = .ok (.if_icmp .le 7, 3) := by decide +kernel
theorem dX12_rightOf_28 : decode cX12_rightOf 28 = .ok (.iconst 1, 1) := by decide +kernel
theorem dX12_rightOf_29 : decode cX12_rightOf 29 = .ok (.goto 4, 3) := by decide +kernel
theorem dX12_rightOf_32 : decode cX12_rightOf 32 = .ok (.iconst 0, 1) := by decide +kernel
theorem dX12_rightOf_33 : decode cX12_rightOf 33 = .ok (.iadd, 1) := by decide +kernel
theorem dX12_rightOf_34 : decode cX12_rightOf 34 = .ok (.iload_n 1, 1) := by decide +kernel
theorem dX12_rightOf_35 : decode cX12_rightOf 35 = .ok (.invokestatic 244, 3) := by decide +kernel
theorem dX12_rightOf_38 : decode cX12_rightOf 38 = .ok (.iload_n 0, 1) := by decide +kernel
theorem dX12_rightOf_39 : decode cX12_rightOf 39 = .ok (.invokestatic 244, 3) := by decide +kernel
theorem dX12_rightOf_42 : decode cX12_rightOf 42 = .ok (.isub, 1) := by decide +kernel
theorem dX12_rightOf_43 : decode cX12_rightOf 43 = .ok (.iconst 3, 1) := by decide +kernel
theorem dX12_rightOf_44 : decode cX12_rightOf 44 = .ok (.iadd, 1) := by decide +kernel
theorem dX12_rightOf_45 : decode cX12_rightOf 45 = .ok (.iconst 3, 1) := by decide +kernel
theorem dX12_rightOf_46 : decode cX12_rightOf 46 = .ok (.irem, 1) := by decide +kernel
theorem dX12_rightOf_47 : decode cX12_rightOf 47 = .ok (.iconst 1, 1) := by decide +kernel
theorem dX12_rightOf_48 : decode cX12_rightOf 48 = .ok (.if_icmp .ne 7, 3) := by decide +kernel
theorem dX12_rightOf_51 : decode cX12_rightOf 51 = .ok (.iconst 0, 1) := by decide +kernel
theorem dX12_rightOf_52 : decode cX12_rightOf 52 = .ok (.goto 4, 3) := by decide +kernel
theorem dX12_rightOf_55 : decode cX12_rightOf 55 = .ok (.iconst 1, 1) := by decide +kernel
theorem dX12_rightOf_56 : decode cX12_rightOf 56 = .ok (.iadd, 1) := by decide +kernel
theorem dX12_rightOf_57 : decode cX12_rightOf 57 = .ok (.istore_n 3, 1) := by decide +kernel
theorem dX12_rightOf_58 : decode cX12_rightOf 58 = .ok (.iload_n 3, 1) := by decide +kernel
theorem dX12_rightOf_59 : decode cX12_rightOf 59 = .ok (.iconst 2, 1) := by decide +kernel
theorem dX12_rightOf_60 : decode cX12_rightOf 60 = .ok (.irem, 1) := by decide +kernel
theorem dX12_rightOf_61 : decode cX12_rightOf 61 = .ok (.ifCond .ne 7, 3) := by decide +kernel
theorem dX12_rightOf_64 : decode cX12_rightOf 64 = .ok (.iload_n 2, 1) := by decide +kernel
theorem dX12_rightOf_65 : decode cX12_rightOf 65 = .ok (.goto 7, 3) := by decide +kernel
theorem dX12_rightOf_68 : decode cX12_rightOf 68 = .ok (.bipush 7, 2) := by decide +kernel
theorem dX12_rightOf_70 : decode cX12_rightOf 70 = .ok (.iload_n 2, 1) := by decide +kernel
theorem dX12_rightOf_71 : decode cX12_rightOf 71 = .ok (.isub, 1) := by decide +kernel
theorem dX12_rightOf_72 : decode cX12_rightOf 72 = .ok (.ireturn, 1) := by decide +kernel
set_option maxRecDepth 20000 in
theorem ggX12_isLying_X12_in : GoodIn wsX12_isLying wsX12_in := goodIn_r _ [7] (by decide +kernel) (by decide +kernel)
set_option maxRecDepth 20000 in
theorem gX12_isLying_X12_in : GoodIn wsX12_isLying (va_wsS RX12 65 yX12_in wsX12_in) := goodIn_app (goodIn_of _ (by decide +kernel)) ggX12_isLying_X12_in
theorem dX12_isLying_0 : decode cX12_isLying 0 = .ok (.iload_n 0, 1) := by decide +kernel
theorem dX12_isLying_1 : decode cX12_isLying 1 = .ok (.bipush 10, 2) := by decide +kernel
theorem dX12_isLying_3 : decode cX12_isLying 3 = .ok (.idiv, 1) := by decide +kernel
theorem dX12_isLying_4 : decode cX12_isLying 4 = .ok (.istore_n 1, 1) := by decide +kernel
theorem dX12_isLying_5 : decode cX12_isLying 5 = .ok (.iload_n 0, 1) := by decide +kernel
theorem dX12_isLying_6 : decode cX12_isLying 6 = .ok (.bipush 10, 2) := by decide +kernel
theorem dX12_isLying_8 : decode cX12_isLying 8 = .ok (.irem, 1) := by decide +kernel
theorem dX12_isLying_9 : decode cX12_isLying 9 = .ok (.istore_n 2, 1) := by decide +kernel
theorem dX12_isLying_10 : decode cX12_isLying 10 = .ok (.iload_n 0, 1) := by decide +kernel
theorem dX12_isLying_11 : decode cX12_isLying 11 = .ok (.i2l, 1) := by decide +kernel
theorem dX12_isLying_12 : decode cX12_isLying 12 = .ok (.ldc2_w 247, 3) := by decide +kernel
theorem dX12_isLying_15 : decode cX12_isLying 15 = .ok (.ldc2_w 249, 3) := by decide +kernel
theorem dX12_isLying_18 : decode cX12_isLying 18 = .ok (.invokestatic 65, 3) := by decide +kernel
theorem dX12_isLying_21 : decode cX12_isLying 21 = .ok (.ifCond .eq 44, 3) := by decide +kernel
theorem dX12_isLying_24 : decode cX12_isLying 24 = .ok (.iload_n 1, 1) := by decide +kernel
theorem dX12_isLying_25 : decode cX12_isLying 25 = .ok (.i2l, 1) := by decide +kernel
theorem dX12_isLying_26 : decode cX12_isLying 26 = .ok (.lconst 1, 1) := by decide +kernel
theorem dX12_isLying_27 : decode cX12_isLying 27 = .ok (.ldc2_w 229, 3) := by decide +kernel
theorem dX12_isLying_30 : decode cX12_isLying 30 = .ok (.invokestatic 65, 3) := by decide +kernel
theorem dX12_isLying_33 : decode cX12_isLying 33 = .ok (.ifCond .eq 32, 3) := by decide +kernel
theorem dX12_isLying_36 : decode cX12_isLying 36 = .ok (.iload_n 2, 1) := by decide +kernel
theorem dX12_isLying_37 : decode cX12_isLying 37 = .ok (.i2l, 1) := by decide +kernel
theorem dX12_isLying_38 : decode cX12_isLying 38 = .ok (.lconst 1, 1) := by decide +kernel
theorem dX12_isLying_39 : decode cX12_isLying 39 = .ok (.ldc2_w 229, 3) := by decide +kernel
theorem dX12_isLying_42 : decode cX12_isLying 42 = .ok (.invokestatic 65, 3) := by decide +kernel
theorem dX12_isLying_45 : decode cX12_isLying 45 = .ok (.ifCond .eq 20, 3) := by decide +kernel
theorem dX12_isLying_48 : decode cX12_isLying 48 = .ok (.iload_n 2, 1) := by decide +kernel
theorem dX12_isLying_49 : decode cX12_isLying 49 = .ok (.iload_n 1, 1) := by decide +kernel
theorem dX12_isLying_50 : decode cX12_isLying 50 = .ok (.if_icmp .eq 15, 3) := by decide +kernel
theorem dX12_isLying_53 : decode cX12_isLying 53 = .ok (.iload_n 2, 1) := by decide +kernel
theorem dX12_isLying_54 : decode cX12_isLying 54 = .ok (.iload_n 1, 1) := by decide +kernel
theorem dX12_isLying_55 : decode cX12_isLying 55 = .ok (.iadd, 1) := by decide +kernel
theorem dX12_isLying_56 : decode cX12_isLying 56 = .ok (.bipush 7, 2) := by decide +kernel
theorem dX12_isLying_58 : decode cX12_isLying 58 = .ok (.if_icmp .eq 7, 3) := by decide +kernel
theorem dX12_isLying_61 : decode cX12_isLying 61 = .ok (.iconst 1, 1) := by decide +kernel
theorem dX12_isLying_62 : decode cX12_isLying 62 = .ok (.goto 4, 3) := by decide +kernel
theorem dX12_isLying_65 : decode cX12_isLying 65 = .ok (.iconst 0, 1) := by decide +kernel
theorem dX12_isLying_66 : decode cX12_isLying 66 = .ok (.ireturn, 1) := by decide +kernel
set_option maxRecDepth 20000 in
theorem ggX12_rolled_X12_rightOf : GoodIn wsX12_rolled wsX12_rightOf := goodIn_r _ [4, 5, 6, 3, 7] (by decide +kernel) (by decide +kernel)
set_option maxRecDepth 20000 in
theorem gX12_rolled_X12_rightOf : GoodIn wsX12_rolled (va_wsS RX12 251 yX12_rightOf wsX12_rightOf) := goodIn_app (goodIn_of _ (by decide +kernel)) ggX12_rolled_X12_rightOf
theorem dX12_rolled_0 : decode cX12_rolled 0 = .ok (.iload_n 0, 1) := by decide +kernel
theorem dX12_rolled_1 : decode cX12_rolled 1 = .ok (.bipush 10, 2) := by decide +kernel
theorem dX12_rolled_3 : decode cX12_rolled 3 = .ok (.idiv, 1) := by decide +kernel
theorem dX12_rolled_4 : decode cX12_rolled 4 = .ok (.istore_n 2, 1) := by decide +kernel
theorem dX12_rolled_5 : decode cX12_rolled 5 = .ok (.iload_n 0, 1) := by decide +kernel
theorem dX12_rolled_6 : decode cX12_rolled 6 = .ok (.bipush 10, 2) := by decide +kernel
theorem dX12_rolled_8 : decode cX12_rolled 8 = .ok (.irem, 1) := by decide +kernel
theorem dX12_rolled_9 : decode cX12_rolled 9 = .ok (.istore_n 3, 1) := by decide +kernel
theorem dX12_rolled_10 : decode cX12_rolled 10 = .ok (.iload_n 2, 1) := by decide +kernel
theorem dX12_rolled_11 : decode cX12_rolled 11 = .ok (.iload_n 3, 1) := by decide +kernel
theorem dX12_rolled_12 : decode cX12_rolled 12 = .ok (.invokestatic 251, 3) := by decide +kernel
theorem dX12_rolled_15 : decode cX12_rolled 15 = .ok (.istore 4, 2) := by decide +kernel
theorem dX12_rolled_17 : decode cX12_rolled 17 = .ok (.iload_n 1, 1) := by decide +kernel
theorem dX12_rolled_18 : decode cX12_rolled 18 = .ok (.tableswitch 57 0 2 #[26, 36, 47], 26) := by decide +kernel
theorem dX12_rolled_44 : decode cX12_rolled 44 = .ok (.bipush 10, 2) := by decide +kernel
theorem dX12_rolled_46 : decode cX12_rolled 46 = .ok (.bipush 7, 2) := by decide +kernel
theorem dX12_rolled_48 : decode cX12_rolled 48 = .ok (.iload_n 3, 1) := by decide +kernel
theorem dX12_rolled_49 : decode cX12_rolled 49 = .ok (.isub, 1) := by decide +kernel
theorem dX12_rolled_50 : decode cX12_rolled 50 = .ok (.imul, 1) := by decide +kernel
theorem dX12_rolled_51 : decode cX12_rolled 51 = .ok (.iload_n 2, 1) := by decide +kernel
theorem dX12_rolled_52 : decode cX12_rolled 52 = .ok (.iadd, 1) := by decide +kernel
theorem dX12_rolled_53 : decode cX12_rolled 53 = .ok (.ireturn, 1) := by decide +kernel
theorem dX12_rolled_54 : decode cX12_rolled 54 = .ok (.bipush 10, 2) := by decide +kernel
theorem dX12_rolled_56 : decode cX12_rolled 56 = .ok (.bipush 7, 2) := by decide +kernel
theorem dX12_rolled_58 : decode cX12_rolled 58 = .ok (.iload 4, 2) := by decide +kernel
theorem dX12_rolled_60 : decode cX12_rolled 60 = .ok (.isub, 1) := by decide +kernel
theorem dX12_rolled_61 : decode cX12_rolled 61 = .ok (.imul, 1) := by decide +kernel
theorem dX12_rolled_62 : decode cX12_rolled 62 = .ok (.iload_n 3, 1) := by decide +kernel
theorem dX12_rolled_63 : decode cX12_rolled 63 = .ok (.iadd, 1) := by decide +kernel
theorem dX12_rolled_64 : decode cX12_rolled 64 = .ok (.ireturn, 1) := by decide +kernel
theorem dX12_rolled_65 : decode cX12_rolled 65 = .ok (.bipush 10, 2) := by decide +kernel
theorem dX12_rolled_67 : decode cX12_rolled 67 = .ok (.iload_n 3, 1) := by decide +kernel
theorem dX12_rolled_68 : decode cX12_rolled 68 = .ok (.imul, 1) := by decide +kernel
theorem dX12_rolled_69 : decode cX12_rolled 69 = .ok (.bipush 7, 2) := by decide +kernel
theorem dX12_rolled_71 : decode cX12_rolled 71 = .ok (.iadd, 1) := by decide +kernel
theorem dX12_rolled_72 : decode cX12_rolled 72 = .ok (.iload_n 2, 1) := by decide +kernel
theorem dX12_rolled_73 : decode cX12_rolled 73 = .ok (.isub, 1) := by decide +kernel
theorem dX12_rolled_74 : decode cX12_rolled 74 = .ok (.ireturn, 1) := by decide +kernel
theorem dX12_rolled_75 : decode cX12_rolled 75 = .ok (.bipush 10, 2) := by decide +kernel
theorem dX12_rolled_77 : decode cX12_rolled 77 = .ok (.iload 4, 2) := by decide +kernel
theorem dX12_rolled_79 : decode cX12_rolled 79 = .ok (.imul, 1) := by decide +kernel
theorem dX12_rolled_80 : decode cX12_rolled 80 = .ok (.iload_n 3, 1) := by decide +kernel
theorem dX12_rolled_81 : decode cX12_rolled 81 = .ok (.iadd, 1) := by decide +kernel
theorem dX12_rolled_82 : decode cX12_rolled 82 = .ok (.ireturn, 1) := by decide +kernel
theorem dX12_waysOf_0 : decode cX12_waysOf 0 = .ok (.iconst 0, 1) := by decide +kernel
theorem dX12_waysOf_1 : decode cX12_waysOf 1 = .ok (.istore_n 1, 1) := by decide +kernel
theorem dX12_waysOf_2 : decode cX12_waysOf 2 = .ok (.iload_n 0, 1) := by decide +kernel
theorem dX12_waysOf_3 : decode cX12_waysOf 3 = .ok (.istore_n 2, 1) := by decide +kernel
theorem dX12_waysOf_4 : decode cX12_waysOf 4 = .ok (.iload_n 2, 1) := by decide +kernel
theorem dX12_waysOf_5 : decode cX12_waysOf 5 = .ok (.bipush 9, 2) := by decide +kernel
theorem dX12_waysOf_7 : decode cX12_waysOf 7 = .ok (.if_icmp .le 14, 3) := by decide +kernel
theorem dX12_waysOf_10 : decode cX12_waysOf 10 = .ok (.iinc 1 1, 3) := by decide +kernel
theorem dX12_waysOf_13 : decode cX12_waysOf 13 = .ok (.iload_n 2, 1) := by decide +kernel
theorem dX12_waysOf_14 : decode cX12_waysOf 14 = .ok (.bipush 10, 2) := by decide +kernel
theorem dX12_waysOf_16 : decode cX12_waysOf 16 = .ok (.idiv, 1) := by decide +kernel
theorem dX12_waysOf_17 : decode cX12_waysOf 17 = .ok (.istore_n 2, 1) := by decide +kernel
theorem dX12_waysOf_18 : decode cX12_waysOf 18 = .ok (.goto (-14), 3) := by decide +kernel
theorem dX12_waysOf_21 : decode cX12_waysOf 21 = .ok (.iload_n 1, 1) := by decide +kernel
theorem dX12_waysOf_22 : decode cX12_waysOf 22 = .ok (.ireturn, 1) := by decide +kernel
theorem dX12_isRow_0 : decode cX12_isRow 0 = .ok (.iload_n 0, 1) := by decide +kernel
theorem dX12_isRow_1 : decode cX12_isRow 1 = .ok (.ifCond .le 7, 3) := by decide +kernel
theorem dX12_isRow_4 : decode cX12_isRow 4 = .ok (.iconst 1, 1) := by decide +kernel
theorem dX12_isRow_5 : decode cX12_isRow 5 = .ok (.goto 4, 3) := by decide +kernel
theorem dX12_isRow_8 : decode cX12_isRow 8 = .ok (.iconst 0, 1) := by decide +kernel
theorem dX12_isRow_9 : decode cX12_isRow 9 = .ok (.istore_n 1, 1) := by decide +kernel
theorem dX12_isRow_10 : decode cX12_isRow 10 = .ok (.iload_n 0, 1) := by decide +kernel
theorem dX12_isRow_11 : decode cX12_isRow 11 = .ok (.istore_n 2, 1) := by decide +kernel
theorem dX12_isRow_12 : decode cX12_isRow 12 = .ok (.iconst 0, 1) := by decide +kernel
theorem dX12_isRow_13 : decode cX12_isRow 13 = .ok (.istore_n 3, 1) := by decide +kernel
theorem dX12_isRow_14 : decode cX12_isRow 14 = .ok (.iload_n 2, 1) := by decide +kernel
theorem dX12_isRow_15 : decode cX12_isRow 15 = .ok (.bipush 9, 2) := by decide +kernel
theorem dX12_isRow_17 : decode cX12_isRow 17 = .ok (.if_icmp .le 32, 3) := by decide +kernel
theorem dX12_isRow_20 : decode cX12_isRow 20 = .ok (.iload_n 1, 1) := by decide +kernel
theorem dX12_isRow_21 : decode cX12_isRow 21 = .ok (.ifCond .eq 15, 3) := by decide +kernel
theorem dX12_isRow_24 : decode cX12_isRow 24 = .ok (.iload_n 2, 1) := by decide +kernel
theorem dX12_isRow_25 : decode cX12_isRow 25 = .ok (.bipush 10, 2) := by decide +kernel
theorem dX12_isRow_27 : decode cX12_isRow 27 = .ok (.irem, 1) := by decide +kernel
theorem dX12_isRow_28 : decode cX12_isRow 28 = .ok (.iconst 4, 1) := by decide +kernel
theorem dX12_isRow_29 : decode cX12_isRow 29 = .ok (.if_icmp .ge 7, 3) := by decide +kernel
theorem dX12_isRow_32 : decode cX12_isRow 32 = .ok (.iconst 1, 1) := by decide +kernel
theorem dX12_isRow_33 : decode cX12_isRow 33 = .ok (.goto 4, 3) := by decide +kernel
theorem dX12_isRow_36 : decode cX12_isRow 36 = .ok (.iconst 0, 1) := by decide +kernel
theorem dX12_isRow_37 : decode cX12_isRow 37 = .ok (.istore_n 1, 1) := by decide +kernel
theorem dX12_isRow_38 : decode cX12_isRow 38 = .ok (.iload_n 2, 1) := by decide +kernel
theorem dX12_isRow_39 : decode cX12_isRow 39 = .ok (.bipush 10, 2) := by decide +kernel
theorem dX12_isRow_41 : decode cX12_isRow 41 = .ok (.idiv, 1) := by decide +kernel
theorem dX12_isRow_42 : decode cX12_isRow 42 = .ok (.istore_n 2, 1) := by decide +kernel
theorem dX12_isRow_43 : decode cX12_isRow 43 = .ok (.iinc 3 1, 3) := by decide +kernel
theorem dX12_isRow_46 : decode cX12_isRow 46 = .ok (.goto (-32), 3) := by decide +kernel
theorem dX12_isRow_49 : decode cX12_isRow 49 = .ok (.iload_n 1, 1) := by decide +kernel
theorem dX12_isRow_50 : decode cX12_isRow 50 = .ok (.ifCond .eq 18, 3) := by decide +kernel
theorem dX12_isRow_53 : decode cX12_isRow 53 = .ok (.iload_n 2, 1) := by decide +kernel
theorem dX12_isRow_54 : decode cX12_isRow 54 = .ok (.iconst 1, 1) := by decide +kernel
theorem dX12_isRow_55 : decode cX12_isRow 55 = .ok (.if_icmp .ne 13, 3) := by decide +kernel
theorem dX12_isRow_58 : decode cX12_isRow 58 = .ok (.iload_n 3, 1) := by decide +kernel
theorem dX12_isRow_59 : decode cX12_isRow 59 = .ok (.bipush 6, 2) := by decide +kernel
theorem dX12_isRow_61 : decode cX12_isRow 61 = .ok (.if_icmp .gt 7, 3) := by decide +kernel
theorem dX12_isRow_64 : decode cX12_isRow 64 = .ok (.iconst 1, 1) := by decide +kernel
theorem dX12_isRow_65 : decode cX12_isRow 65 = .ok (.goto 4, 3) := by decide +kernel
theorem dX12_isRow_68 : decode cX12_isRow 68 = .ok (.iconst 0, 1) := by decide +kernel
theorem dX12_isRow_69 : decode cX12_isRow 69 = .ok (.ireturn, 1) := by decide +kernel
set_option maxRecDepth 20000 in
theorem ggX12_topBy_X12_waysOf : GoodIn wsX12_topBy wsX12_waysOf := goodIn_r _ [4] (by decide +kernel) (by decide +kernel)
set_option maxRecDepth 20000 in
theorem gX12_topBy_X12_waysOf : GoodIn wsX12_topBy (va_wsS RX12 254 yX12_waysOf wsX12_waysOf) := goodIn_app (goodIn_of _ (by decide +kernel)) ggX12_topBy_X12_waysOf
set_option maxRecDepth 20000 in
theorem ggX12_topBy_X12_tenTo : GoodIn wsX12_topBy wsX12_tenTo := goodIn_r _ [7] (by decide +kernel) (by decide +kernel)
set_option maxRecDepth 20000 in
theorem gX12_topBy_X12_tenTo : GoodIn wsX12_topBy (va_wsS RX12 69 yX12_tenTo wsX12_tenTo) := goodIn_app (goodIn_of _ (by decide +kernel)) ggX12_topBy_X12_tenTo
set_option maxRecDepth 20000 in
theorem ggX12_topBy_X12_rolled : GoodIn wsX12_topBy wsX12_rolled := goodIn_r _ [10, 11, 12, 3, 13, 14, 15, 16] (by decide +kernel) (by decide +kernel)
set_option maxRecDepth 20000 in
theorem gX12_topBy_X12_rolled : GoodIn wsX12_topBy (va_wsS RX12 257 yX12_rolled wsX12_rolled) := goodIn_app (goodIn_of _ (by decide +kernel)) ggX12_topBy_X12_rolled
theorem dX12_topBy_0 : decode cX12_topBy 0 = .ok (.iload_n 0, 1) := by decide +kernel
theorem dX12_topBy_1 : decode cX12_topBy 1 = .ok (.istore_n 2, 1) := by decide +kernel
theorem dX12_topBy_2 : decode cX12_topBy 2 = .ok (.iload_n 1, 1) := by decide +kernel
theorem dX12_topBy_3 : decode cX12_topBy 3 = .ok (.invokestatic 254, 3) := by decide +kernel
theorem dX12_topBy_6 : decode cX12_topBy 6 = .ok (.iconst 1, 1) := by decide +kernel
theorem dX12_topBy_7 : decode cX12_topBy 7 = .ok (.isub, 1) := by decide +kernel
theorem dX12_topBy_8 : decode cX12_topBy 8 = .ok (.istore_n 3, 1) := by decide +kernel
theorem dX12_topBy_9 : decode cX12_topBy 9 = .ok (.iload_n 3, 1) := by decide +kernel
theorem dX12_topBy_10 : decode cX12_topBy 10 = .ok (.ifCond .lt 23, 3) := by decide +kernel
theorem dX12_topBy_13 : decode cX12_topBy 13 = .ok (.iload_n 2, 1) := by decide +kernel
theorem dX12_topBy_14 : decode cX12_topBy 14 = .ok (.iload_n 1, 1) := by decide +kernel
theorem dX12_topBy_15 : decode cX12_topBy 15 = .ok (.iload_n 3, 1) := by decide +kernel
theorem dX12_topBy_16 : decode cX12_topBy 16 = .ok (.invokestatic 69, 3) := by decide +kernel
theorem dX12_topBy_19 : decode cX12_topBy 19 = .ok (.idiv, 1) := by decide +kernel
theorem dX12_topBy_20 : decode cX12_topBy 20 = .ok (.bipush 10, 2) := by decide +kernel
theorem dX12_topBy_22 : decode cX12_topBy 22 = .ok (.irem, 1) := by decide +kernel
theorem dX12_topBy_23 : decode cX12_topBy 23 = .ok (.invokestatic 257, 3) := by decide +kernel
theorem dX12_topBy_26 : decode cX12_topBy 26 = .ok (.istore_n 2, 1) := by decide +kernel
theorem dX12_topBy_27 : decode cX12_topBy 27 = .ok (.iinc 3 (-1), 3) := by decide +kernel
theorem dX12_topBy_30 : decode cX12_topBy 30 = .ok (.goto (-21), 3) := by decide +kernel
theorem dX12_topBy_33 : decode cX12_topBy 33 = .ok (.iload_n 2, 1) := by decide +kernel
theorem dX12_topBy_34 : decode cX12_topBy 34 = .ok (.bipush 10, 2) := by decide +kernel
theorem dX12_topBy_36 : decode cX12_topBy 36 = .ok (.idiv, 1) := by decide +kernel
theorem dX12_topBy_37 : decode cX12_topBy 37 = .ok (.ireturn, 1) := by decide +kernel
set_option maxRecDepth 20000 in
theorem ggX12_roll_X12_isLying : GoodIn wsX12_roll wsX12_isLying := goodIn_r _ [4, 5, 6, 7, 8, 9, 3, 10] (by decide +kernel) (by decide +kernel)
set_option maxRecDepth 20000 in
theorem gX12_roll_X12_isLying : GoodIn wsX12_roll (va_wsS RX12 260 yX12_isLying wsX12_isLying) := goodIn_app (goodIn_of _ (by decide +kernel)) ggX12_roll_X12_isLying
set_option maxRecDepth 20000 in
theorem ggX12_roll_X12_isRow : GoodIn wsX12_roll wsX12_isRow := goodIn_r _ [13] (by decide +kernel) (by decide +kernel)
set_option maxRecDepth 20000 in
theorem gX12_roll_X12_isRow : GoodIn wsX12_roll (va_wsS RX12 263 yX12_isRow wsX12_isRow) := goodIn_app (goodIn_of _ (by decide +kernel)) ggX12_roll_X12_isRow
set_option maxRecDepth 20000 in
theorem ggX12_roll_X12_topBy : GoodIn wsX12_roll wsX12_topBy := goodIn_r _ [16, 17, 18, 3, 19, 20, 21, 22, 23, 24, 25, 26, 27, 28, 29, 30, 31] (by decide +kernel) (by decide +kernel)
set_option maxRecDepth 20000 in
theorem gX12_roll_X12_topBy : GoodIn wsX12_roll (va_wsS RX12 266 yX12_topBy wsX12_topBy) := goodIn_app (goodIn_of _ (by decide +kernel)) ggX12_roll_X12_topBy
theorem dX12_roll_0 : decode cX12_roll 0 = .ok (.iload_n 1, 1) := by decide +kernel
theorem dX12_roll_1 : decode cX12_roll 1 = .ok (.invokestatic 260, 3) := by decide +kernel
theorem dX12_roll_4 : decode cX12_roll 4 = .ok (.ifCond .eq 18, 3) := by decide +kernel
theorem dX12_roll_7 : decode cX12_roll 7 = .ok (.iload_n 2, 1) := by decide +kernel
theorem dX12_roll_8 : decode cX12_roll 8 = .ok (.invokestatic 263, 3) := by decide +kernel
theorem dX12_roll_11 : decode cX12_roll 11 = .ok (.ifCond .eq 11, 3) := by decide +kernel
theorem dX12_roll_14 : decode cX12_roll 14 = .ok (.iload_n 1, 1) := by decide +kernel
theorem dX12_roll_15 : decode cX12_roll 15 = .ok (.iload_n 2, 1) := by decide +kernel
theorem dX12_roll_16 : decode cX12_roll 16 = .ok (.invokestatic 266, 3) := by decide +kernel
theorem dX12_roll_19 : decode cX12_roll 19 = .ok (.goto 5, 3) := by decide +kernel
theorem dX12_roll_22 : decode cX12_roll 22 = .ok (.bipush (-2), 2) := by decide +kernel
theorem dX12_roll_24 : decode cX12_roll 24 = .ok (.ireturn, 1) := by decide +kernel
set_option maxRecDepth 20000 in
theorem ggX12_shown_X12_isRow : GoodIn wsX12_shown wsX12_isRow := goodIn_r _ [8] (by decide +kernel) (by decide +kernel)
set_option maxRecDepth 20000 in
theorem gX12_shown_X12_isRow : GoodIn wsX12_shown (va_wsS RX12 263 yX12_isRow wsX12_isRow) := goodIn_app (goodIn_of _ (by decide +kernel)) ggX12_shown_X12_isRow
set_option maxRecDepth 20000 in
theorem ggX12_shown_X12_in : GoodIn wsX12_shown wsX12_in := goodIn_r _ [11] (by decide +kernel) (by decide +kernel)
set_option maxRecDepth 20000 in
theorem gX12_shown_X12_in : GoodIn wsX12_shown (va_wsS RX12 65 yX12_in wsX12_in) := goodIn_app (goodIn_of _ (by decide +kernel)) ggX12_shown_X12_in
theorem dX12_shown_0 : decode cX12_shown 0 = .ok (.iload_n 1, 1) := by decide +kernel
theorem dX12_shown_1 : decode cX12_shown 1 = .ok (.invokestatic 263, 3) := by decide +kernel
theorem dX12_shown_4 : decode cX12_shown 4 = .ok (.ifCond .eq 15, 3) := by decide +kernel
theorem dX12_shown_7 : decode cX12_shown 7 = .ok (.iload_n 2, 1) := by decide +kernel
theorem dX12_shown_8 : decode cX12_shown 8 = .ok (.i2l, 1) := by decide +kernel
theorem dX12_shown_9 : decode cX12_shown 9 = .ok (.lconst 1, 1) := by decide +kernel
theorem dX12_shown_10 : decode cX12_shown 10 = .ok (.ldc2_w 229, 3) := by decide +kernel
theorem dX12_shown_13 : decode cX12_shown 13 = .ok (.invokestatic 65, 3) := by decide +kernel
theorem dX12_shown_16 : decode cX12_shown 16 = .ok (.ifCond .ne 6, 3) := by decide +kernel
theorem dX12_shown_19 : decode cX12_shown 19 = .ok (.bipush (-2), 2) := by decide +kernel
theorem dX12_shown_21 : decode cX12_shown 21 = .ok (.ireturn, 1) := by decide +kernel
theorem dX12_shown_22 : decode cX12_shown 22 = .ok (.aload_n 0, 1) := by decide +kernel
theorem dX12_shown_23 : decode cX12_shown 23 = .ok (.getfield 269, 3) := by decide +kernel
theorem dX12_shown_26 : decode cX12_shown 26 = .ok (.bipush 8, 2) := by decide +kernel
theorem dX12_shown_28 : decode cX12_shown 28 = .ok (.if_icmp .ne 6, 3) := by decide +kernel
theorem dX12_shown_31 : decode cX12_shown 31 = .ok (.bipush (-4), 2) := by decide +kernel
theorem dX12_shown_33 : decode cX12_shown 33 = .ok (.ireturn, 1) := by decide +kernel
theorem dX12_shown_34 : decode cX12_shown 34 = .ok (.aload_n 0, 1) := by decide +kernel
theorem dX12_shown_35 : decode cX12_shown 35 = .ok (.getfield 22, 3) := by decide +kernel
theorem dX12_shown_38 : decode cX12_shown 38 = .ok (.aload_n 0, 1) := by decide +kernel
theorem dX12_shown_39 : decode cX12_shown 39 = .ok (.getfield 269, 3) := by decide +kernel
theorem dX12_shown_42 : decode cX12_shown 42 = .ok (.iload_n 1, 1) := by decide +kernel
theorem dX12_shown_43 : decode cX12_shown 43 = .ok (.iastore, 1) := by decide +kernel
theorem dX12_shown_44 : decode cX12_shown 44 = .ok (.aload_n 0, 1) := by decide +kernel
theorem dX12_shown_45 : decode cX12_shown 45 = .ok (.getfield 25, 3) := by decide +kernel
theorem dX12_shown_48 : decode cX12_shown 48 = .ok (.aload_n 0, 1) := by decide +kernel
theorem dX12_shown_49 : decode cX12_shown 49 = .ok (.getfield 269, 3) := by decide +kernel
theorem dX12_shown_52 : decode cX12_shown 52 = .ok (.iload_n 2, 1) := by decide +kernel
theorem dX12_shown_53 : decode cX12_shown 53 = .ok (.iastore, 1) := by decide +kernel
theorem dX12_shown_54 : decode cX12_shown 54 = .ok (.aload_n 0, 1) := by decide +kernel
theorem dX12_shown_55 : decode cX12_shown 55 = .ok (.dup, 1) := by decide +kernel
theorem dX12_shown_56 : decode cX12_shown 56 = .ok (.getfield 269, 3) := by decide +kernel
theorem dX12_shown_59 : decode cX12_shown 59 = .ok (.iconst 1, 1) := by decide +kernel
theorem dX12_shown_60 : decode cX12_shown 60 = .ok (.iadd, 1) := by decide +kernel
theorem dX12_shown_61 : decode cX12_shown 61 = .ok (.putfield 269, 3) := by decide +kernel
theorem dX12_shown_64 : decode cX12_shown 64 = .ok (.aload_n 0, 1) := by decide +kernel
theorem dX12_shown_65 : decode cX12_shown 65 = .ok (.getfield 269, 3) := by decide +kernel
theorem dX12_shown_68 : decode cX12_shown 68 = .ok (.ireturn, 1) := by decide +kernel
theorem dX12_forget_0 : decode cX12_forget 0 = .ok (.aload_n 0, 1) := by decide +kernel
theorem dX12_forget_1 : decode cX12_forget 1 = .ok (.getfield 269, 3) := by decide +kernel
theorem dX12_forget_4 : decode cX12_forget 4 = .ok (.istore_n 1, 1) := by decide +kernel
theorem dX12_forget_5 : decode cX12_forget 5 = .ok (.aload_n 0, 1) := by decide +kernel
theorem dX12_forget_6 : decode cX12_forget 6 = .ok (.iconst 0, 1) := by decide +kernel
theorem dX12_forget_7 : decode cX12_forget 7 = .ok (.putfield 269, 3) := by decide +kernel
theorem dX12_forget_10 : decode cX12_forget 10 = .ok (.iload_n 1, 1) := by decide +kernel
theorem dX12_forget_11 : decode cX12_forget 11 = .ok (.ireturn, 1) := by decide +kernel
set_option maxRecDepth 20000 in
theorem ggX12_isFit_X12_isLying : GoodIn wsX12_isFit wsX12_isLying := goodIn_r _ [7, 8, 9, 10, 11, 12, 6, 13] (by decide +kernel) (by decide +kernel)
set_option maxRecDepth 20000 in
theorem gX12_isFit_X12_isLying : GoodIn wsX12_isFit (va_wsS RX12 260 yX12_isLying wsX12_isLying) := goodIn_app (goodIn_of _ (by decide +kernel)) ggX12_isFit_X12_isLying
set_option maxRecDepth 20000 in
theorem ggX12_isFit_X12_topBy : GoodIn wsX12_isFit wsX12_topBy := goodIn_r _ [16, 17, 18, 6, 19, 20, 21, 22, 23, 24, 25, 26, 27, 28, 29, 30, 31] (by decide +kernel) (by decide +kernel)
set_option maxRecDepth 20000 in
theorem gX12_isFit_X12_topBy : GoodIn wsX12_isFit (va_wsS RX12 266 yX12_topBy wsX12_topBy) := goodIn_app (goodIn_of _ (by decide +kernel)) ggX12_isFit_X12_topBy
theorem dX12_isFit_0 : decode cX12_isFit 0 = .ok (.iload_n 1, 1) := by decide +kernel
theorem dX12_isFit_1 : decode cX12_isFit 1 = .ok (.invokestatic 260, 3) := by decide +kernel
theorem dX12_isFit_4 : decode cX12_isFit 4 = .ok (.istore_n 2, 1) := by decide +kernel
theorem dX12_isFit_5 : decode cX12_isFit 5 = .ok (.iconst 0, 1) := by decide +kernel
theorem dX12_isFit_6 : decode cX12_isFit 6 = .ok (.istore_n 3, 1) := by decide +kernel
theorem dX12_isFit_7 : decode cX12_isFit 7 = .ok (.iload_n 3, 1) := by decide +kernel
theorem dX12_isFit_8 : decode cX12_isFit 8 = .ok (.aload_n 0, 1) := by decide +kernel
theorem dX12_isFit_9 : decode cX12_isFit 9 = .ok (.getfield 269, 3) := by decide +kernel
theorem dX12_isFit_12 : decode cX12_isFit 12 = .ok (.if_icmp .ge 38, 3) := by decide +kernel
theorem dX12_isFit_15 : decode cX12_isFit 15 = .ok (.iload_n 2, 1) := by decide +kernel
theorem dX12_isFit_16 : decode cX12_isFit 16 = .ok (.ifCond .eq 26, 3) := by decide +kernel
theorem dX12_isFit_19 : decode cX12_isFit 19 = .ok (.iload_n 1, 1) := by decide +kernel
theorem dX12_isFit_20 : decode cX12_isFit 20 = .ok (.aload_n 0, 1) := by decide +kernel
theorem dX12_isFit_21 : decode cX12_isFit 21 = .ok (.getfield 22, 3) := by decide +kernel
theorem dX12_isFit_24 : decode cX12_isFit 24 = .ok (.iload_n 3, 1) := by decide +kernel
theorem dX12_isFit_25 : decode cX12_isFit 25 = .ok (.iaload, 1) := by decide +kernel
theorem dX12_isFit_26 : decode cX12_isFit 26 = .ok (.invokestatic 266, 3) := by decide +kernel
theorem dX12_isFit_29 : decode cX12_isFit 29 = .ok (.aload_n 0, 1) := by decide +kernel
theorem dX12_isFit_30 : decode cX12_isFit 30 = .ok (.getfield 25, 3) := by decide +kernel
theorem dX12_isFit_33 : decode cX12_isFit 33 = .ok (.iload_n 3, 1) := by decide +kernel
theorem dX12_isFit_34 : decode cX12_isFit 34 = .ok (.iaload, 1) := by decide +kernel
theorem dX12_isFit_35 : decode cX12_isFit 35 = .ok (.if_icmp .ne 7, 3) := by decide +kernel
theorem dX12_isFit_38 : decode cX12_isFit 38 = .ok (.iconst 1, 1) := by decide +kernel
theorem dX12_isFit_39 : decode cX12_isFit 39 = .ok (.goto 4, 3) := by decide +kernel
theorem dX12_isFit_42 : decode cX12_isFit 42 = .ok (.iconst 0, 1) := by decide +kernel
theorem dX12_isFit_43 : decode cX12_isFit 43 = .ok (.istore_n 2, 1) := by decide +kernel
theorem dX12_isFit_44 : decode cX12_isFit 44 = .ok (.iinc 3 1, 3) := by decide +kernel
theorem dX12_isFit_47 : decode cX12_isFit 47 = .ok (.goto (-40), 3) := by decide +kernel
theorem dX12_isFit_50 : decode cX12_isFit 50 = .ok (.iload_n 2, 1) := by decide +kernel
theorem dX12_isFit_51 : decode cX12_isFit 51 = .ok (.ireturn, 1) := by decide +kernel
set_option maxRecDepth 20000 in
theorem ggX12_lies_X12_isFit : GoodIn wsX12_lies wsX12_isFit := goodIn_r _ [5, 6, 7, 8, 9, 10, 4, 11, 12, 13, 14, 15, 16, 17, 18, 19, 20, 21, 22, 23, 24, 25, 26, 27, 28, 29, 30, 31, 32, 33, 34, 35, 36, 37, 38, 39, 40, 41, 42, 43, 44, 45, 46, 47, 48, 49, 50, 51, 52, 53, 54, 55, 56, 57, 58, 59, 60, 61, 62, 63, 64, 65] (by decide +kernel) (by decide +kernel)
set_option maxRecDepth 20000 in
theorem gX12_lies_X12_isFit : GoodIn wsX12_lies (wsV RX12 272 RX12 yX12_isFit wsX12_isFit) := goodIn_app (goodIn_of _ (by decide +kernel)) ggX12_lies_X12_isFit
theorem dX12_lies_0 : decode cX12_lies 0 = .ok (.iconst 0, 1) := by decide +kernel
theorem dX12_lies_1 : decode cX12_lies 1 = .ok (.istore_n 2, 1) := by decide +kernel
theorem dX12_lies_2 : decode cX12_lies 2 = .ok (.bipush 11, 2) := by decide +kernel
theorem dX12_lies_4 : decode cX12_lies 4 = .ok (.istore_n 3, 1) := by decide +kernel
theorem dX12_lies_5 : decode cX12_lies 5 = .ok (.iload_n 3, 1) := by decide +kernel
theorem dX12_lies_6 : decode cX12_lies 6 = .ok (.bipush 66, 2) := by decide +kernel
theorem dX12_lies_8 : decode cX12_lies 8 = .ok (.if_icmp .gt 27, 3) := by decide +kernel
theorem dX12_lies_11 : decode cX12_lies 11 = .ok (.aload_n 0, 1) := by decide +kernel
theorem dX12_lies_12 : decode cX12_lies 12 = .ok (.iload_n 3, 1) := by decide +kernel
theorem dX12_lies_13 : decode cX12_lies 13 = .ok (.invokevirtual 272, 3) := by decide +kernel
theorem dX12_lies_16 : decode cX12_lies 16 = .ok (.ifCond .eq 13, 3) := by decide +kernel
theorem dX12_lies_19 : decode cX12_lies 19 = .ok (.iload_n 2, 1) := by decide +kernel
theorem dX12_lies_20 : decode cX12_lies 20 = .ok (.iload_n 1, 1) := by decide +kernel
theorem dX12_lies_21 : decode cX12_lies 21 = .ok (.if_icmp .ne 5, 3) := by decide +kernel
theorem dX12_lies_24 : decode cX12_lies 24 = .ok (.iload_n 3, 1) := by decide +kernel
theorem dX12_lies_25 : decode cX12_lies 25 = .ok (.ireturn, 1) := by decide +kernel
theorem dX12_lies_26 : decode cX12_lies 26 = .ok (.iinc 2 1, 3) := by decide +kernel
theorem dX12_lies_29 : decode cX12_lies 29 = .ok (.iinc 3 1, 3) := by decide +kernel
theorem dX12_lies_32 : decode cX12_lies 32 = .ok (.goto (-27), 3) := by decide +kernel
theorem dX12_lies_35 : decode cX12_lies 35 = .ok (.iload_n 1, 1) := by decide +kernel
theorem dX12_lies_36 : decode cX12_lies 36 = .ok (.iconst (-1), 1) := by decide +kernel
theorem dX12_lies_37 : decode cX12_lies 37 = .ok (.if_icmp .ne 7, 3) := by decide +kernel
theorem dX12_lies_40 : decode cX12_lies 40 = .ok (.iload_n 2, 1) := by decide +kernel
theorem dX12_lies_41 : decode cX12_lies 41 = .ok (.goto 5, 3) := by decide +kernel
theorem dX12_lies_44 : decode cX12_lies 44 = .ok (.bipush (-6), 2) := by decide +kernel
theorem dX12_lies_46 : decode cX12_lies 46 = .ok (.ireturn, 1) := by decide +kernel
set_option maxRecDepth 20000 in
theorem ggX12_mostLeft_X12_isFit : GoodIn wsX12_mostLeft wsX12_isFit := goodIn_r _ [6, 7, 8, 9, 10, 11, 5, 12, 13, 14, 15, 16, 17, 18, 19, 20, 21, 22, 23, 24, 25, 26, 27, 28, 29, 30, 31, 32, 33, 34, 35, 36, 37, 38, 39, 40, 41, 42, 43, 44, 45, 46, 47, 48, 49, 50, 51, 52, 53, 54, 55, 56, 57, 58, 59, 60, 61, 62, 63, 64, 65, 66] (by decide +kernel) (by decide +kernel)
set_option maxRecDepth 20000 in
theorem gX12_mostLeft_X12_isFit : GoodIn wsX12_mostLeft (wsV RX12 272 RX12 yX12_isFit wsX12_isFit) := goodIn_app (goodIn_of _ (by decide +kernel)) ggX12_mostLeft_X12_isFit
set_option maxRecDepth 20000 in
theorem ggX12_mostLeft_X12_topBy : GoodIn wsX12_mostLeft wsX12_topBy := goodIn_r _ [21, 22, 23, 5, 24, 25, 26, 27, 28, 29, 30, 31, 32, 33, 34, 35, 36] (by decide +kernel) (by decide +kernel)
set_option maxRecDepth 20000 in
theorem gX12_mostLeft_X12_topBy : GoodIn wsX12_mostLeft (va_wsS RX12 266 yX12_topBy wsX12_topBy) := goodIn_app (goodIn_of _ (by decide +kernel)) ggX12_mostLeft_X12_topBy
theorem dX12_mostLeft_0 : decode cX12_mostLeft 0 = .ok (.iconst 0, 1) := by decide +kernel
theorem dX12_mostLeft_1 : decode cX12_mostLeft 1 = .ok (.istore_n 2, 1) := by decide +kernel
theorem dX12_mostLeft_2 : decode cX12_mostLeft 2 = .ok (.iconst 0, 1) := by decide +kernel
theorem dX12_mostLeft_3 : decode cX12_mostLeft 3 = .ok (.istore_n 3, 1) := by decide +kernel
theorem dX12_mostLeft_4 : decode cX12_mostLeft 4 = .ok (.iload_n 3, 1) := by decide +kernel
theorem dX12_mostLeft_5 : decode cX12_mostLeft 5 = .ok (.bipush 6, 2) := by decide +kernel
theorem dX12_mostLeft_7 : decode cX12_mostLeft 7 = .ok (.if_icmp .gt 16, 3) := by decide +kernel
theorem dX12_mostLeft_10 : decode cX12_mostLeft 10 = .ok (.aload_n 0, 1) := by decide +kernel
theorem dX12_mostLeft_11 : decode cX12_mostLeft 11 = .ok (.getfield 50, 3) := by decide +kernel
theorem dX12_mostLeft_14 : decode cX12_mostLeft 14 = .ok (.iload_n 3, 1) := by decide +kernel
theorem dX12_mostLeft_15 : decode cX12_mostLeft 15 = .ok (.iconst 0, 1) := by decide +kernel
theorem dX12_mostLeft_16 : decode cX12_mostLeft 16 = .ok (.iastore, 1) := by decide +kernel
theorem dX12_mostLeft_17 : decode cX12_mostLeft 17 = .ok (.iinc 3 1, 3) := by decide +kernel
theorem dX12_mostLeft_20 : decode cX12_mostLeft 20 = .ok (.goto (-16), 3) := by decide +kernel
theorem dX12_mostLeft_23 : decode cX12_mostLeft 23 = .ok (.bipush 11, 2) := by decide +kernel
theorem dX12_mostLeft_25 : decode cX12_mostLeft 25 = .ok (.istore_n 3, 1) := by decide +kernel
theorem dX12_mostLeft_26 : decode cX12_mostLeft 26 = .ok (.iload_n 3, 1) := by decide +kernel
theorem dX12_mostLeft_27 : decode cX12_mostLeft 27 = .ok (.bipush 66, 2) := by decide +kernel
theorem dX12_mostLeft_29 : decode cX12_mostLeft 29 = .ok (.if_icmp .gt 58, 3) := by decide +kernel
theorem dX12_mostLeft_32 : decode cX12_mostLeft 32 = .ok (.aload_n 0, 1) := by decide +kernel
theorem dX12_mostLeft_33 : decode cX12_mostLeft 33 = .ok (.iload_n 3, 1) := by decide +kernel
theorem dX12_mostLeft_34 : decode cX12_mostLeft 34 = .ok (.invokevirtual 272, 3) := by decide +kernel
theorem dX12_mostLeft_37 : decode cX12_mostLeft 37 = .ok (.ifCond .eq 44, 3) := by decide +kernel
theorem dX12_mostLeft_40 : decode cX12_mostLeft 40 = .ok (.iload_n 3, 1) := by decide +kernel
theorem dX12_mostLeft_41 : decode cX12_mostLeft 41 = .ok (.iload_n 1, 1) := by decide +kernel
theorem dX12_mostLeft_42 : decode cX12_mostLeft 42 = .ok (.invokestatic 266, 3) := by decide +kernel
theorem dX12_mostLeft_45 : decode cX12_mostLeft 45 = .ok (.istore 4, 2) := by decide +kernel
theorem dX12_mostLeft_47 : decode cX12_mostLeft 47 = .ok (.aload_n 0, 1) := by decide +kernel
theorem dX12_mostLeft_48 : decode cX12_mostLeft 48 = .ok (.getfield 50, 3) := by decide +kernel
theorem dX12_mostLeft_51 : decode cX12_mostLeft 51 = .ok (.iload 4, 2) := by decide +kernel
theorem dX12_mostLeft_53 : decode cX12_mostLeft 53 = .ok (.dup2, 1) := by decide +kernel
theorem dX12_mostLeft_54 : decode cX12_mostLeft 54 = .ok (.iaload, 1) := by decide +kernel
theorem dX12_mostLeft_55 : decode cX12_mostLeft 55 = .ok (.iconst 1, 1) := by decide +kernel
theorem dX12_mostLeft_56 : decode cX12_mostLeft 56 = .ok (.iadd, 1) := by decide +kernel
theorem dX12_mostLeft_57 : decode cX12_mostLeft 57 = .ok (.iastore, 1) := by decide +kernel
theorem dX12_mostLeft_58 : decode cX12_mostLeft 58 = .ok (.aload_n 0, 1) := by decide +kernel
theorem dX12_mostLeft_59 : decode cX12_mostLeft 59 = .ok (.getfield 50, 3) := by decide +kernel
theorem dX12_mostLeft_62 : decode cX12_mostLeft 62 = .ok (.iload 4, 2) := by decide +kernel
theorem dX12_mostLeft_64 : decode cX12_mostLeft 64 = .ok (.iaload, 1) := by decide +kernel
theorem dX12_mostLeft_65 : decode cX12_mostLeft 65 = .ok (.iload_n 2, 1) := by decide +kernel
theorem dX12_mostLeft_66 : decode cX12_mostLeft 66 = .ok (.if_icmp .le 13, 3) := by decide +kernel
theorem dX12_mostLeft_69 : decode cX12_mostLeft 69 = .ok (.aload_n 0, 1) := by decide +kernel
theorem dX12_mostLeft_70 : decode cX12_mostLeft 70 = .ok (.getfield 50, 3) := by decide +kernel
theorem dX12_mostLeft_73 : decode cX12_mostLeft 73 = .ok (.iload 4, 2) := by decide +kernel
theorem dX12_mostLeft_75 : decode cX12_mostLeft 75 = .ok (.iaload, 1) := by decide +kernel
theorem dX12_mostLeft_76 : decode cX12_mostLeft 76 = .ok (.goto 4, 3) := by decide +kernel
theorem dX12_mostLeft_79 : decode cX12_mostLeft 79 = .ok (.iload_n 2, 1) := by decide +kernel
theorem dX12_mostLeft_80 : decode cX12_mostLeft 80 = .ok (.istore_n 2, 1) := by decide +kernel
theorem dX12_mostLeft_81 : decode cX12_mostLeft 81 = .ok (.iinc 3 1, 3) := by decide +kernel
theorem dX12_mostLeft_84 : decode cX12_mostLeft 84 = .ok (.goto (-58), 3) := by decide +kernel
theorem dX12_mostLeft_87 : decode cX12_mostLeft 87 = .ok (.iload_n 2, 1) := by decide +kernel
theorem dX12_mostLeft_88 : decode cX12_mostLeft 88 = .ok (.ireturn, 1) := by decide +kernel
set_option maxRecDepth 20000 in
theorem ggX12_ask_X12_in : GoodIn wsX12_ask wsX12_in := goodIn_r _ [4] (by decide +kernel) (by decide +kernel)
set_option maxRecDepth 20000 in
theorem gX12_ask_X12_in : GoodIn wsX12_ask (va_wsS RX12 65 yX12_in wsX12_in) := goodIn_app (goodIn_of _ (by decide +kernel)) ggX12_ask_X12_in
set_option maxRecDepth 20000 in
theorem ggX12_ask_X12_mostLeft : GoodIn wsX12_ask wsX12_mostLeft := goodIn_r _ [8, 9, 10, 11, 12, 3, 13, 14, 15, 16, 17, 18, 19, 20, 21, 22, 1, 2, 4, 23, 24, 25, 26, 27, 28, 29, 30, 31, 32, 33, 34, 35, 36, 37, 38, 39, 40, 47, 48, 49, 50, 51, 52, 53, 54, 55, 56, 57, 58, 59, 60, 61, 62, 63, 64, 65, 66, 67, 68, 69, 70, 71, 72, 73, 74, 75, 76] (by decide +kernel) (by decide +kernel)
set_option maxRecDepth 20000 in
theorem gX12_ask_X12_mostLeft : GoodIn wsX12_ask (wsV RX12 275 RX12 yX12_mostLeft wsX12_mostLeft) := goodIn_app (goodIn_of _ (by decide +kernel)) ggX12_ask_X12_mostLeft
set_option maxRecDepth 20000 in
theorem ggX12_ask_X12_isRow : GoodIn wsX12_ask wsX12_isRow := goodIn_r _ [43] (by decide +kernel) (by decide +kernel)
set_option maxRecDepth 20000 in
theorem gX12_ask_X12_isRow : GoodIn wsX12_ask (va_wsS RX12 263 yX12_isRow wsX12_isRow) := goodIn_app (goodIn_of _ (by decide +kernel)) ggX12_ask_X12_isRow
set_option maxRecDepth 20000 in
theorem ggX12_ask_X12_less : GoodIn wsX12_ask wsX12_less := goodIn_r _ [46] (by decide +kernel) (by decide +kernel)
set_option maxRecDepth 20000 in
theorem gX12_ask_X12_less : GoodIn wsX12_ask (va_wsS RX12 149 yX12_less wsX12_less) := goodIn_app (goodIn_of _ (by decide +kernel)) ggX12_ask_X12_less
theorem dX12_ask_0 : decode cX12_ask 0 = .ok (.iload_n 1, 1) := by decide +kernel
theorem dX12_ask_1 : decode cX12_ask 1 = .ok (.i2l, 1) := by decide +kernel
theorem dX12_ask_2 : decode cX12_ask 2 = .ok (.lconst 0, 1) := by decide +kernel
theorem dX12_ask_3 : decode cX12_ask 3 = .ok (.lconst 1, 1) := by decide +kernel
theorem dX12_ask_4 : decode cX12_ask 4 = .ok (.invokestatic 65, 3) := by decide +kernel
theorem dX12_ask_7 : decode cX12_ask 7 = .ok (.ifCond .ne 6, 3) := by decide +kernel
theorem dX12_ask_10 : decode cX12_ask 10 = .ok (.bipush (-2), 2) := by decide +kernel
theorem dX12_ask_12 : decode cX12_ask 12 = .ok (.ireturn, 1) := by decide +kernel
theorem dX12_ask_13 : decode cX12_ask 13 = .ok (.iconst 1, 1) := by decide +kernel
theorem dX12_ask_14 : decode cX12_ask 14 = .ok (.istore_n 2, 1) := by decide +kernel
theorem dX12_ask_15 : decode cX12_ask 15 = .ok (.aload_n 0, 1) := by decide +kernel
theorem dX12_ask_16 : decode cX12_ask 16 = .ok (.iconst 1, 1) := by decide +kernel
theorem dX12_ask_17 : decode cX12_ask 17 = .ok (.invokevirtual 275, 3) := by decide +kernel
theorem dX12_ask_20 : decode cX12_ask 20 = .ok (.istore_n 3, 1) := by decide +kernel
theorem dX12_ask_21 : decode cX12_ask 21 = .ok (.bipush 10, 2) := by decide +kernel
theorem dX12_ask_23 : decode cX12_ask 23 = .ok (.istore 4, 2) := by decide +kernel
theorem dX12_ask_25 : decode cX12_ask 25 = .ok (.iload 4, 2) := by decide +kernel
theorem dX12_ask_27 : decode cX12_ask 27 = .ok (.sipush 133, 3) := by decide +kernel
theorem dX12_ask_30 : decode cX12_ask 30 = .ok (.if_icmp .gt 49, 3) := by decide +kernel
theorem dX12_ask_33 : decode cX12_ask 33 = .ok (.iload 4, 2) := by decide +kernel
theorem dX12_ask_35 : decode cX12_ask 35 = .ok (.invokestatic 263, 3) := by decide +kernel
theorem dX12_ask_38 : decode cX12_ask 38 = .ok (.ifCond .eq 12, 3) := by decide +kernel
theorem dX12_ask_41 : decode cX12_ask 41 = .ok (.aload_n 0, 1) := by decide +kernel
theorem dX12_ask_42 : decode cX12_ask 42 = .ok (.iload 4, 2) := by decide +kernel
theorem dX12_ask_44 : decode cX12_ask 44 = .ok (.invokevirtual 275, 3) := by decide +kernel
theorem dX12_ask_47 : decode cX12_ask 47 = .ok (.goto 4, 3) := by decide +kernel
theorem dX12_ask_50 : decode cX12_ask 50 = .ok (.iload_n 3, 1) := by decide +kernel
theorem dX12_ask_51 : decode cX12_ask 51 = .ok (.istore 5, 2) := by decide +kernel
theorem dX12_ask_53 : decode cX12_ask 53 = .ok (.iload 5, 2) := by decide +kernel
theorem dX12_ask_55 : decode cX12_ask 55 = .ok (.iload_n 3, 1) := by decide +kernel
theorem dX12_ask_56 : decode cX12_ask 56 = .ok (.if_icmp .ge 8, 3) := by decide +kernel
theorem dX12_ask_59 : decode cX12_ask 59 = .ok (.iload 4, 2) := by decide +kernel
theorem dX12_ask_61 : decode cX12_ask 61 = .ok (.goto 4, 3) := by decide +kernel
theorem dX12_ask_64 : decode cX12_ask 64 = .ok (.iload_n 2, 1) := by decide +kernel
theorem dX12_ask_65 : decode cX12_ask 65 = .ok (.istore_n 2, 1) := by decide +kernel
theorem dX12_ask_66 : decode cX12_ask 66 = .ok (.iload_n 3, 1) := by decide +kernel
theorem dX12_ask_67 : decode cX12_ask 67 = .ok (.iload 5, 2) := by decide +kernel
theorem dX12_ask_69 : decode cX12_ask 69 = .ok (.invokestatic 149, 3) := by decide +kernel
theorem dX12_ask_72 : decode cX12_ask 72 = .ok (.istore_n 3, 1) := by decide +kernel
theorem dX12_ask_73 : decode cX12_ask 73 = .ok (.iinc 4 1, 3) := by decide +kernel
theorem dX12_ask_76 : decode cX12_ask 76 = .ok (.goto (-51), 3) := by decide +kernel
theorem dX12_ask_79 : decode cX12_ask 79 = .ok (.iload_n 3, 1) := by decide +kernel
theorem dX12_ask_80 : decode cX12_ask 80 = .ok (.ifCond .ne 8, 3) := by decide +kernel
theorem dX12_ask_83 : decode cX12_ask 83 = .ok (.bipush (-6), 2) := by decide +kernel
theorem dX12_ask_85 : decode cX12_ask 85 = .ok (.goto 12, 3) := by decide +kernel
theorem dX12_ask_88 : decode cX12_ask 88 = .ok (.iload_n 1, 1) := by decide +kernel
theorem dX12_ask_89 : decode cX12_ask 89 = .ok (.ifCond .ne 7, 3) := by decide +kernel
theorem dX12_ask_92 : decode cX12_ask 92 = .ok (.iload_n 2, 1) := by decide +kernel
theorem dX12_ask_93 : decode cX12_ask 93 = .ok (.goto 4, 3) := by decide +kernel
theorem dX12_ask_96 : decode cX12_ask 96 = .ok (.iload_n 3, 1) := by decide +kernel
theorem dX12_ask_97 : decode cX12_ask 97 = .ok (.ireturn, 1) := by decide +kernel
theorem dX12_leastTurn_0 : decode cX12_leastTurn 0 = .ok (.bipush (-6), 2) := by decide +kernel
theorem dX12_leastTurn_2 : decode cX12_leastTurn 2 = .ok (.istore_n 3, 1) := by decide +kernel
theorem dX12_leastTurn_3 : decode cX12_leastTurn 3 = .ok (.bipush 6, 2) := by decide +kernel
theorem dX12_leastTurn_5 : decode cX12_leastTurn 5 = .ok (.istore 4, 2) := by decide +kernel
theorem dX12_leastTurn_7 : decode cX12_leastTurn 7 = .ok (.iload 4, 2) := by decide +kernel
theorem dX12_leastTurn_9 : decode cX12_leastTurn 9 = .ok (.ifCond .le 67, 3) := by decide +kernel
theorem dX12_leastTurn_12 : decode cX12_leastTurn 12 = .ok (.iload 4, 2) := by decide +kernel
theorem dX12_leastTurn_14 : decode cX12_leastTurn 14 = .ok (.iload_n 2, 1) := by decide +kernel
theorem dX12_leastTurn_15 : decode cX12_leastTurn 15 = .ok (.if_icmp .eq 22, 3) := by decide +kernel
theorem dX12_leastTurn_18 : decode cX12_leastTurn 18 = .ok (.iload 4, 2) := by decide +kernel
theorem dX12_leastTurn_20 : decode cX12_leastTurn 20 = .ok (.iload_n 2, 1) := by decide +kernel
theorem dX12_leastTurn_21 : decode cX12_leastTurn 21 = .ok (.iadd, 1) := by decide +kernel
theorem dX12_leastTurn_22 : decode cX12_leastTurn 22 = .ok (.bipush 7, 2) := by decide +kernel
theorem dX12_leastTurn_24 : decode cX12_leastTurn 24 = .ok (.if_icmp .eq 13, 3) := by decide +kernel
theorem dX12_leastTurn_27 : decode cX12_leastTurn 27 = .ok (.iload 4, 2) := by decide +kernel
theorem dX12_leastTurn_29 : decode cX12_leastTurn 29 = .ok (.iload_n 1, 1) := by decide +kernel
theorem dX12_leastTurn_30 : decode cX12_leastTurn 30 = .ok (.if_icmp .gt 7, 3) := by decide +kernel
theorem dX12_leastTurn_33 : decode cX12_leastTurn 33 = .ok (.iconst 1, 1) := by decide +kernel
theorem dX12_leastTurn_34 : decode cX12_leastTurn 34 = .ok (.goto 4, 3) := by decide +kernel
theorem dX12_leastTurn_37 : decode cX12_leastTurn 37 = .ok (.iconst 0, 1) := by decide +kernel
theorem dX12_leastTurn_38 : decode cX12_leastTurn 38 = .ok (.istore 5, 2) := by decide +kernel
theorem dX12_leastTurn_40 : decode cX12_leastTurn 40 = .ok (.iload 5, 2) := by decide +kernel
theorem dX12_leastTurn_42 : decode cX12_leastTurn 42 = .ok (.ifCond .eq 26, 3) := by decide +kernel
theorem dX12_leastTurn_45 : decode cX12_leastTurn 45 = .ok (.aload_n 0, 1) := by decide +kernel
theorem dX12_leastTurn_46 : decode cX12_leastTurn 46 = .ok (.getfield 53, 3) := by decide +kernel
theorem dX12_leastTurn_49 : decode cX12_leastTurn 49 = .ok (.bipush 7, 2) := by decide +kernel
theorem dX12_leastTurn_51 : decode cX12_leastTurn 51 = .ok (.iload_n 1, 1) := by decide +kernel
theorem dX12_leastTurn_52 : decode cX12_leastTurn 52 = .ok (.iload 4, 2) := by decide +kernel
theorem dX12_leastTurn_54 : decode cX12_leastTurn 54 = .ok (.isub, 1) := by decide +kernel
theorem dX12_leastTurn_55 : decode cX12_leastTurn 55 = .ok (.imul, 1) := by decide +kernel
theorem dX12_leastTurn_56 : decode cX12_leastTurn 56 = .ok (.iload 4, 2) := by decide +kernel
theorem dX12_leastTurn_58 : decode cX12_leastTurn 58 = .ok (.iadd, 1) := by decide +kernel
theorem dX12_leastTurn_59 : decode cX12_leastTurn 59 = .ok (.baload, 1) := by decide +kernel
theorem dX12_leastTurn_60 : decode cX12_leastTurn 60 = .ok (.ifCond .ne 8, 3) := by decide +kernel
theorem dX12_leastTurn_63 : decode cX12_leastTurn 63 = .ok (.iload 4, 2) := by decide +kernel
theorem dX12_leastTurn_65 : decode cX12_leastTurn 65 = .ok (.goto 4, 3) := by decide +kernel
theorem dX12_leastTurn_68 : decode cX12_leastTurn 68 = .ok (.iload_n 3, 1) := by decide +kernel
theorem dX12_leastTurn_69 : decode cX12_leastTurn 69 = .ok (.istore_n 3, 1) := by decide +kernel
theorem dX12_leastTurn_70 : decode cX12_leastTurn 70 = .ok (.iinc 4 (-1), 3) := by decide +kernel
theorem dX12_leastTurn_73 : decode cX12_leastTurn 73 = .ok (.goto (-66), 3) := by decide +kernel
theorem dX12_leastTurn_76 : decode cX12_leastTurn 76 = .ok (.iload_n 3, 1) := by decide +kernel
theorem dX12_leastTurn_77 : decode cX12_leastTurn 77 = .ok (.ireturn, 1) := by decide +kernel
set_option maxRecDepth 20000 in
theorem ggX12_turn_X12_in : GoodIn wsX12_turn wsX12_in := goodIn_r _ [7] (by decide +kernel) (by decide +kernel)
set_option maxRecDepth 20000 in
theorem gX12_turn_X12_in : GoodIn wsX12_turn (va_wsS RX12 65 yX12_in wsX12_in) := goodIn_app (goodIn_of _ (by decide +kernel)) ggX12_turn_X12_in
set_option maxRecDepth 20000 in
theorem ggX12_turn_X12_leastTurn : GoodIn wsX12_turn wsX12_leastTurn := goodIn_r _ [11, 3, 12, 13, 14, 15, 16, 17, 18, 19, 20, 21, 22, 23, 24, 25, 26, 27, 28, 29, 30, 31, 32, 33, 34, 35, 36, 37, 38, 39, 40, 41] (by decide +kernel) (by decide +kernel)
set_option maxRecDepth 20000 in
theorem gX12_turn_X12_leastTurn : GoodIn wsX12_turn (wsV RX12 278 RX12 yX12_leastTurn wsX12_leastTurn) := goodIn_app (goodIn_of _ (by decide +kernel)) ggX12_turn_X12_leastTurn
theorem dX12_turn_0 : decode cX12_turn 0 = .ok (.iload_n 1, 1) := by decide +kernel
theorem dX12_turn_1 : decode cX12_turn 1 = .ok (.i2l, 1) := by decide +kernel
theorem dX12_turn_2 : decode cX12_turn 2 = .ok (.lconst 0, 1) := by decide +kernel
theorem dX12_turn_3 : decode cX12_turn 3 = .ok (.ldc2_w 240, 3) := by decide +kernel
theorem dX12_turn_6 : decode cX12_turn 6 = .ok (.invokestatic 65, 3) := by decide +kernel
theorem dX12_turn_9 : decode cX12_turn 9 = .ok (.ifCond .eq 25, 3) := by decide +kernel
theorem dX12_turn_12 : decode cX12_turn 12 = .ok (.iload_n 2, 1) := by decide +kernel
theorem dX12_turn_13 : decode cX12_turn 13 = .ok (.i2l, 1) := by decide +kernel
theorem dX12_turn_14 : decode cX12_turn 14 = .ok (.lconst 1, 1) := by decide +kernel
theorem dX12_turn_15 : decode cX12_turn 15 = .ok (.ldc2_w 229, 3) := by decide +kernel
theorem dX12_turn_18 : decode cX12_turn 18 = .ok (.invokestatic 65, 3) := by decide +kernel
theorem dX12_turn_21 : decode cX12_turn 21 = .ok (.ifCond .eq 13, 3) := by decide +kernel
theorem dX12_turn_24 : decode cX12_turn 24 = .ok (.iload_n 3, 1) := by decide +kernel
theorem dX12_turn_25 : decode cX12_turn 25 = .ok (.i2l, 1) := by decide +kernel
theorem dX12_turn_26 : decode cX12_turn 26 = .ok (.lconst 0, 1) := by decide +kernel
theorem dX12_turn_27 : decode cX12_turn 27 = .ok (.lconst 1, 1) := by decide +kernel
theorem dX12_turn_28 : decode cX12_turn 28 = .ok (.invokestatic 65, 3) := by decide +kernel
theorem dX12_turn_31 : decode cX12_turn 31 = .ok (.ifCond .ne 6, 3) := by decide +kernel
theorem dX12_turn_34 : decode cX12_turn 34 = .ok (.bipush (-2), 2) := by decide +kernel
theorem dX12_turn_36 : decode cX12_turn 36 = .ok (.ireturn, 1) := by decide +kernel
theorem dX12_turn_37 : decode cX12_turn 37 = .ok (.iconst 0, 1) := by decide +kernel
theorem dX12_turn_38 : decode cX12_turn 38 = .ok (.istore 4, 2) := by decide +kernel
theorem dX12_turn_40 : decode cX12_turn 40 = .ok (.iload 4, 2) := by decide +kernel
theorem dX12_turn_42 : decode cX12_turn 42 = .ok (.iload_n 1, 1) := by decide +kernel
theorem dX12_turn_43 : decode cX12_turn 43 = .ok (.if_icmp .gt 54, 3) := by decide +kernel
theorem dX12_turn_46 : decode cX12_turn 46 = .ok (.iconst 1, 1) := by decide +kernel
theorem dX12_turn_47 : decode cX12_turn 47 = .ok (.istore 5, 2) := by decide +kernel
theorem dX12_turn_49 : decode cX12_turn 49 = .ok (.iload 5, 2) := by decide +kernel
theorem dX12_turn_51 : decode cX12_turn 51 = .ok (.bipush 6, 2) := by decide +kernel
theorem dX12_turn_53 : decode cX12_turn 53 = .ok (.if_icmp .gt 38, 3) := by decide +kernel
theorem dX12_turn_56 : decode cX12_turn 56 = .ok (.aload_n 0, 1) := by decide +kernel
theorem dX12_turn_57 : decode cX12_turn 57 = .ok (.getfield 53, 3) := by decide +kernel
theorem dX12_turn_60 : decode cX12_turn 60 = .ok (.bipush 7, 2) := by decide +kernel
theorem dX12_turn_62 : decode cX12_turn 62 = .ok (.iload 4, 2) := by decide +kernel
theorem dX12_turn_64 : decode cX12_turn 64 = .ok (.imul, 1) := by decide +kernel
theorem dX12_turn_65 : decode cX12_turn 65 = .ok (.iload 5, 2) := by decide +kernel
theorem dX12_turn_67 : decode cX12_turn 67 = .ok (.iadd, 1) := by decide +kernel
theorem dX12_turn_68 : decode cX12_turn 68 = .ok (.aload_n 0, 1) := by decide +kernel
theorem dX12_turn_69 : decode cX12_turn 69 = .ok (.iload 4, 2) := by decide +kernel
theorem dX12_turn_71 : decode cX12_turn 71 = .ok (.iload 5, 2) := by decide +kernel
theorem dX12_turn_73 : decode cX12_turn 73 = .ok (.invokevirtual 278, 3) := by decide +kernel
theorem dX12_turn_76 : decode cX12_turn 76 = .ok (.ifCond .lt 7, 3) := by decide +kernel
theorem dX12_turn_79 : decode cX12_turn 79 = .ok (.iconst 1, 1) := by decide +kernel
theorem dX12_turn_80 : decode cX12_turn 80 = .ok (.goto 4, 3) := by decide +kernel
theorem dX12_turn_83 : decode cX12_turn 83 = .ok (.iconst 0, 1) := by decide +kernel
theorem dX12_turn_84 : decode cX12_turn 84 = .ok (.bastore, 1) := by decide +kernel
theorem dX12_turn_85 : decode cX12_turn 85 = .ok (.iinc 5 1, 3) := by decide +kernel
theorem dX12_turn_88 : decode cX12_turn 88 = .ok (.goto (-39), 3) := by decide +kernel
theorem dX12_turn_91 : decode cX12_turn 91 = .ok (.iinc 4 1, 3) := by decide +kernel
theorem dX12_turn_94 : decode cX12_turn 94 = .ok (.goto (-54), 3) := by decide +kernel
theorem dX12_turn_97 : decode cX12_turn 97 = .ok (.iload_n 3, 1) := by decide +kernel
theorem dX12_turn_98 : decode cX12_turn 98 = .ok (.iconst 1, 1) := by decide +kernel
theorem dX12_turn_99 : decode cX12_turn 99 = .ok (.if_icmp .ne 12, 3) := by decide +kernel
theorem dX12_turn_102 : decode cX12_turn 102 = .ok (.aload_n 0, 1) := by decide +kernel
theorem dX12_turn_103 : decode cX12_turn 103 = .ok (.iload_n 1, 1) := by decide +kernel
theorem dX12_turn_104 : decode cX12_turn 104 = .ok (.iload_n 2, 1) := by decide +kernel
theorem dX12_turn_105 : decode cX12_turn 105 = .ok (.invokevirtual 278, 3) := by decide +kernel
theorem dX12_turn_108 : decode cX12_turn 108 = .ok (.goto 22, 3) := by decide +kernel
theorem dX12_turn_111 : decode cX12_turn 111 = .ok (.aload_n 0, 1) := by decide +kernel
theorem dX12_turn_112 : decode cX12_turn 112 = .ok (.getfield 53, 3) := by decide +kernel
theorem dX12_turn_115 : decode cX12_turn 115 = .ok (.bipush 7, 2) := by decide +kernel
theorem dX12_turn_117 : decode cX12_turn 117 = .ok (.iload_n 1, 1) := by decide +kernel
theorem dX12_turn_118 : decode cX12_turn 118 = .ok (.imul, 1) := by decide +kernel
theorem dX12_turn_119 : decode cX12_turn 119 = .ok (.iload_n 2, 1) := by decide +kernel
theorem dX12_turn_120 : decode cX12_turn 120 = .ok (.iadd, 1) := by decide +kernel
theorem dX12_turn_121 : decode cX12_turn 121 = .ok (.baload, 1) := by decide +kernel
theorem dX12_turn_122 : decode cX12_turn 122 = .ok (.ifCond .eq 7, 3) := by decide +kernel
theorem dX12_turn_125 : decode cX12_turn 125 = .ok (.iconst 1, 1) := by decide +kernel
theorem dX12_turn_126 : decode cX12_turn 126 = .ok (.goto 4, 3) := by decide +kernel
theorem dX12_turn_129 : decode cX12_turn 129 = .ok (.iconst 0, 1) := by decide +kernel
theorem dX12_turn_130 : decode cX12_turn 130 = .ok (.ireturn, 1) := by decide +kernel
set_option maxRecDepth 20000 in
theorem ggX12_drawn_X12_whyNot : GoodIn wsX12_drawn wsX12_whyNot := goodIn_r _ [5, 6, 7, 8, 9, 10, 11, 12, 13, 4, 14, 61, 62, 63, 64, 65, 66, 67, 68, 69, 70, 71, 72, 73, 74, 75, 76, 77, 78, 79, 80, 81, 82, 83, 84, 85, 86, 87, 88, 89, 90] (by decide +kernel) (by decide +kernel)
set_option maxRecDepth 20000 in
theorem gX12_drawn_X12_whyNot : GoodIn wsX12_drawn (wsV RX12 178 RX12 yX12_whyNot wsX12_whyNot) := goodIn_app (goodIn_of _ (by decide +kernel)) ggX12_drawn_X12_whyNot
set_option maxRecDepth 20000 in
theorem ggX12_drawn_X12_happen : GoodIn wsX12_drawn wsX12_happen := goodIn_r _ [18, 19, 20, 21, 22, 4, 23, 6, 7, 24, 8, 25, 26, 27, 28, 29, 30, 31, 32, 33, 34, 35, 36, 37, 38, 39, 40, 41, 42, 9, 43, 44, 45, 46, 47, 48, 49, 50, 10, 51, 52, 53, 54, 55, 56, 57, 58, 59, 60, 61, 62, 63, 64, 65, 66, 67, 68, 69, 70, 71, 72, 73, 74, 75, 76, 77, 78, 79, 80, 81, 82, 83, 84, 85, 86, 87, 88, 89, 90] (by decide +kernel) (by decide +kernel)
set_option maxRecDepth 20000 in
theorem gX12_drawn_X12_happen : GoodIn wsX12_drawn (wsV RX12 162 RX12 yX12_happen wsX12_happen) := goodIn_app (goodIn_of _ (by decide +kernel)) ggX12_drawn_X12_happen
theorem dX12_drawn_0 : decode cX12_drawn 0 = .ok (.iload_n 1, 1) := by decide +kernel
theorem dX12_drawn_1 : decode cX12_drawn 1 = .ok (.bipush 6, 2) := by decide +kernel
theorem dX12_drawn_3 : decode cX12_drawn 3 = .ok (.if_icmp .ge 7, 3) := by decide +kernel
theorem dX12_drawn_6 : decode cX12_drawn 6 = .ok (.iconst 0, 1) := by decide +kernel
theorem dX12_drawn_7 : decode cX12_drawn 7 = .ok (.goto 27, 3) := by decide +kernel
theorem dX12_drawn_10 : decode cX12_drawn 10 = .ok (.iload_n 1, 1) := by decide +kernel
theorem dX12_drawn_11 : decode cX12_drawn 11 = .ok (.bipush 7, 2) := by decide +kernel
theorem dX12_drawn_13 : decode cX12_drawn 13 = .ok (.if_icmp .ne 7, 3) := by decide +kernel
theorem dX12_drawn_16 : decode cX12_drawn 16 = .ok (.iconst 2, 1) := by decide +kernel
theorem dX12_drawn_17 : decode cX12_drawn 17 = .ok (.goto 17, 3) := by decide +kernel
theorem dX12_drawn_20 : decode cX12_drawn 20 = .ok (.iload_n 2, 1) := by decide +kernel
theorem dX12_drawn_21 : decode cX12_drawn 21 = .ok (.bipush 6, 2) := by decide +kernel
theorem dX12_drawn_23 : decode cX12_drawn 23 = .ok (.idiv, 1) := by decide +kernel
theorem dX12_drawn_24 : decode cX12_drawn 24 = .ok (.iconst 4, 1) := by decide +kernel
theorem dX12_drawn_25 : decode cX12_drawn 25 = .ok (.irem, 1) := by decide +kernel
theorem dX12_drawn_26 : decode cX12_drawn 26 = .ok (.ifCond .ne 7, 3) := by decide +kernel
theorem dX12_drawn_29 : decode cX12_drawn 29 = .ok (.iconst 3, 1) := by decide +kernel
theorem dX12_drawn_30 : decode cX12_drawn 30 = .ok (.goto 4, 3) := by decide +kernel
theorem dX12_drawn_33 : decode cX12_drawn 33 = .ok (.iconst 1, 1) := by decide +kernel
theorem dX12_drawn_34 : decode cX12_drawn 34 = .ok (.istore_n 3, 1) := by decide +kernel
theorem dX12_drawn_35 : decode cX12_drawn 35 = .ok (.iload_n 1, 1) := by decide +kernel
theorem dX12_drawn_36 : decode cX12_drawn 36 = .ok (.bipush 6, 2) := by decide +kernel
theorem dX12_drawn_38 : decode cX12_drawn 38 = .ok (.if_icmp .ge 12, 3) := by decide +kernel
theorem dX12_drawn_41 : decode cX12_drawn 41 = .ok (.iconst 1, 1) := by decide +kernel
theorem dX12_drawn_42 : decode cX12_drawn 42 = .ok (.iload_n 2, 1) := by decide +kernel
theorem dX12_drawn_43 : decode cX12_drawn 43 = .ok (.bipush 6, 2) := by decide +kernel
theorem dX12_drawn_45 : decode cX12_drawn 45 = .ok (.irem, 1) := by decide +kernel
theorem dX12_drawn_46 : decode cX12_drawn 46 = .ok (.iadd, 1) := by decide +kernel
theorem dX12_drawn_47 : decode cX12_drawn 47 = .ok (.goto 7, 3) := by decide +kernel
theorem dX12_drawn_50 : decode cX12_drawn 50 = .ok (.iload_n 2, 1) := by decide +kernel
theorem dX12_drawn_51 : decode cX12_drawn 51 = .ok (.bipush 6, 2) := by decide +kernel
theorem dX12_drawn_53 : decode cX12_drawn 53 = .ok (.irem, 1) := by decide +kernel
theorem dX12_drawn_54 : decode cX12_drawn 54 = .ok (.istore 4, 2) := by decide +kernel
theorem dX12_drawn_56 : decode cX12_drawn 56 = .ok (.aload_n 0, 1) := by decide +kernel
theorem dX12_drawn_57 : decode cX12_drawn 57 = .ok (.iload_n 3, 1) := by decide +kernel
theorem dX12_drawn_58 : decode cX12_drawn 58 = .ok (.iload 4, 2) := by decide +kernel
theorem dX12_drawn_60 : decode cX12_drawn 60 = .ok (.invokevirtual 178, 3) := by decide +kernel
theorem dX12_drawn_63 : decode cX12_drawn 63 = .ok (.ifCond .ne 10, 3) := by decide +kernel
theorem dX12_drawn_66 : decode cX12_drawn 66 = .ok (.aload_n 0, 1) := by decide +kernel
theorem dX12_drawn_67 : decode cX12_drawn 67 = .ok (.iload_n 3, 1) := by decide +kernel
theorem dX12_drawn_68 : decode cX12_drawn 68 = .ok (.iload 4, 2) := by decide +kernel
theorem dX12_drawn_70 : decode cX12_drawn 70 = .ok (.invokevirtual 162, 3) := by decide +kernel
theorem dX12_drawn_73 : decode cX12_drawn 73 = .ok (.return_, 1) := by decide +kernel
set_option maxRecDepth 20000 in
theorem ggX12_allParts_X12_partsOf : GoodIn wsX12_allParts wsX12_partsOf := goodIn_r _ [5, 6, 7, 4, 8, 9, 10, 11] (by decide +kernel) (by decide +kernel)
set_option maxRecDepth 20000 in
theorem gX12_allParts_X12_partsOf : GoodIn wsX12_allParts (va_wsS RX12 146 yX12_partsOf wsX12_partsOf) := goodIn_app (goodIn_of _ (by decide +kernel)) ggX12_allParts_X12_partsOf
theorem dX12_allParts_0 : decode cX12_allParts 0 = .ok (.iconst 0, 1) := by decide +kernel
theorem dX12_allParts_1 : decode cX12_allParts 1 = .ok (.istore_n 1, 1) := by decide +kernel
theorem dX12_allParts_2 : decode cX12_allParts 2 = .ok (.iconst 0, 1) := by decide +kernel
theorem dX12_allParts_3 : decode cX12_allParts 3 = .ok (.istore_n 2, 1) := by decide +kernel
theorem dX12_allParts_4 : decode cX12_allParts 4 = .ok (.iload_n 2, 1) := by decide +kernel
theorem dX12_allParts_5 : decode cX12_allParts 5 = .ok (.bipush 6, 2) := by decide +kernel
theorem dX12_allParts_7 : decode cX12_allParts 7 = .ok (.if_icmp .ge 21, 3) := by decide +kernel
theorem dX12_allParts_10 : decode cX12_allParts 10 = .ok (.iload_n 1, 1) := by decide +kernel
theorem dX12_allParts_11 : decode cX12_allParts 11 = .ok (.aload_n 0, 1) := by decide +kernel
theorem dX12_allParts_12 : decode cX12_allParts 12 = .ok (.getfield 13, 3) := by decide +kernel
theorem dX12_allParts_15 : decode cX12_allParts 15 = .ok (.iload_n 2, 1) := by decide +kernel
theorem dX12_allParts_16 : decode cX12_allParts 16 = .ok (.iaload, 1) := by decide +kernel
theorem dX12_allParts_17 : decode cX12_allParts 17 = .ok (.invokestatic 146, 3) := by decide +kernel
theorem dX12_allParts_20 : decode cX12_allParts 20 = .ok (.iadd, 1) := by decide +kernel
theorem dX12_allParts_21 : decode cX12_allParts 21 = .ok (.istore_n 1, 1) := by decide +kernel
theorem dX12_allParts_22 : decode cX12_allParts 22 = .ok (.iinc 2 1, 3) := by decide +kernel
theorem dX12_allParts_25 : decode cX12_allParts 25 = .ok (.goto (-21), 3) := by decide +kernel
theorem dX12_allParts_28 : decode cX12_allParts 28 = .ok (.iload_n 1, 1) := by decide +kernel
theorem dX12_allParts_29 : decode cX12_allParts 29 = .ok (.ireturn, 1) := by decide +kernel
set_option maxRecDepth 20000 in
theorem ggX12_year_X12_in : GoodIn wsX12_year wsX12_in := goodIn_r _ [12] (by decide +kernel) (by decide +kernel)
set_option maxRecDepth 20000 in
theorem gX12_year_X12_in : GoodIn wsX12_year (va_wsS RX12 65 yX12_in wsX12_in) := goodIn_app (goodIn_of _ (by decide +kernel)) ggX12_year_X12_in
set_option maxRecDepth 20000 in
theorem ggX12_year_X12_keepNow : GoodIn wsX12_year wsX12_keepNow := goodIn_r _ [16, 17, 18, 8, 19, 7, 20, 87, 88, 89, 90, 91, 92, 93, 94, 95, 96, 97, 98, 99, 100, 101, 102, 103, 104, 105, 106, 107, 108, 109, 110, 111, 112, 113, 114, 115, 116] (by decide +kernel) (by decide +kernel)
set_option maxRecDepth 20000 in
theorem gX12_year_X12_keepNow : GoodIn wsX12_year (wsV RX12 184 RX12 yX12_keepNow wsX12_keepNow) := goodIn_app (goodIn_of _ (by decide +kernel)) ggX12_year_X12_keepNow
set_option maxRecDepth 20000 in
theorem ggX12_year_X12_drawn : GoodIn wsX12_year wsX12_drawn := goodIn_r _ [24, 25, 26, 27, 11, 28, 18, 7, 29, 19, 20, 30, 31, 32, 33, 34, 35, 36, 37, 38, 39, 40, 41, 42, 43, 44, 45, 46, 47, 48, 49, 50, 51, 52, 53, 54, 55, 56, 57, 58, 59, 60, 61, 62, 63, 64, 65, 66, 67, 68, 8, 69, 70, 71, 72, 73, 74, 75, 76, 77, 78, 87, 88, 89, 90, 91, 92, 93, 94, 95, 96, 97, 98, 99, 100, 101, 102, 103, 104, 105, 106, 107, 108, 109, 110, 111, 112, 113, 114, 115, 116] (by decide +kernel) (by decide +kernel)
set_option maxRecDepth 20000 in
theorem gX12_year_X12_drawn : GoodIn wsX12_year (wsV RX12 289 RX12 yX12_drawn wsX12_drawn) := goodIn_app (goodIn_of _ (by decide +kernel)) ggX12_year_X12_drawn
set_option maxRecDepth 20000 in
theorem ggX12_year_X12_allParts : GoodIn wsX12_year wsX12_allParts := goodIn_r _ [82, 18, 69, 70, 11, 71, 49, 50, 51, 52, 53, 54, 87, 88, 89, 90, 91, 92, 93, 94, 95, 96, 97, 98, 99, 100, 101, 102, 103, 104, 105, 106, 107, 108, 109, 110, 111, 112, 113, 114, 115, 116] (by decide +kernel) (by decide +kernel)
set_option maxRecDepth 20000 in
theorem gX12_year_X12_allParts : GoodIn wsX12_year (wsV RX12 292 RX12 yX12_allParts wsX12_allParts) := goodIn_app (goodIn_of _ (by decide +kernel)) ggX12_year_X12_allParts
set_option maxRecDepth 20000 in
theorem ggX12_year_X12_back : GoodIn wsX12_year wsX12_back := goodIn_r _ [86, 18, 17, 8, 19, 7, 20, 87, 88, 89, 90, 91, 92, 93, 94, 95, 96, 97, 98, 99, 100, 101, 102, 103, 104, 105, 106, 107, 108, 109, 110, 111, 112, 113, 114, 115, 116] (by decide +kernel) (by decide +kernel)
set_option maxRecDepth 20000 in
theorem gX12_year_X12_back : GoodIn wsX12_year (wsV RX12 198 RX12 yX12_back wsX12_back) := goodIn_app (goodIn_of _ (by decide +kernel)) ggX12_year_X12_back
theorem dX12_year_0 : decode cX12_year 0 = .ok (.iload_n 1, 1) := by decide +kernel
theorem dX12_year_1 : decode cX12_year 1 = .ok (.i2l, 1) := by decide +kernel
theorem dX12_year_2 : decode cX12_year 2 = .ok (.lconst 0, 1) := by decide +kernel
theorem dX12_year_3 : decode cX12_year 3 = .ok (.ldc2_w 281, 3) := by decide +kernel
theorem dX12_year_6 : decode cX12_year 6 = .ok (.invokestatic 65, 3) := by decide +kernel
theorem dX12_year_9 : decode cX12_year 9 = .ok (.ifCond .eq 27, 3) := by decide +kernel
theorem dX12_year_12 : decode cX12_year 12 = .ok (.iload_n 2, 1) := by decide +kernel
theorem dX12_year_13 : decode cX12_year 13 = .ok (.i2l, 1) := by decide +kernel
theorem dX12_year_14 : decode cX12_year 14 = .ok (.lconst 1, 1) := by decide +kernel
theorem dX12_year_15 : decode cX12_year 15 = .ok (.ldc2_w 240, 3) := by decide +kernel
theorem dX12_year_18 : decode cX12_year 18 = .ok (.invokestatic 65, 3) := by decide +kernel
theorem dX12_year_21 : decode cX12_year 21 = .ok (.ifCond .eq 15, 3) := by decide +kernel
theorem dX12_year_24 : decode cX12_year 24 = .ok (.iload_n 3, 1) := by decide +kernel
theorem dX12_year_25 : decode cX12_year 25 = .ok (.i2l, 1) := by decide +kernel
theorem dX12_year_26 : decode cX12_year 26 = .ok (.lconst 0, 1) := by decide +kernel
theorem dX12_year_27 : decode cX12_year 27 = .ok (.ldc2_w 193, 3) := by decide +kernel
theorem dX12_year_30 : decode cX12_year 30 = .ok (.invokestatic 65, 3) := by decide +kernel
theorem dX12_year_33 : decode cX12_year 33 = .ok (.ifCond .ne 6, 3) := by decide +kernel
theorem dX12_year_36 : decode cX12_year 36 = .ok (.bipush (-2), 2) := by decide +kernel
theorem dX12_year_38 : decode cX12_year 38 = .ok (.ireturn, 1) := by decide +kernel
theorem dX12_year_39 : decode cX12_year 39 = .ok (.aload_n 0, 1) := by decide +kernel
theorem dX12_year_40 : decode cX12_year 40 = .ok (.invokevirtual 184, 3) := by decide +kernel
theorem dX12_year_43 : decode cX12_year 43 = .ok (.iload_n 1, 1) := by decide +kernel
theorem dX12_year_44 : decode cX12_year 44 = .ok (.istore 4, 2) := by decide +kernel
theorem dX12_year_46 : decode cX12_year 46 = .ok (.iconst 0, 1) := by decide +kernel
theorem dX12_year_47 : decode cX12_year 47 = .ok (.istore 5, 2) := by decide +kernel
theorem dX12_year_49 : decode cX12_year 49 = .ok (.iload 5, 2) := by decide +kernel
theorem dX12_year_51 : decode cX12_year 51 = .ok (.iload_n 2, 1) := by decide +kernel
theorem dX12_year_52 : decode cX12_year 52 = .ok (.if_icmp .ge 41, 3) := by decide +kernel
theorem dX12_year_55 : decode cX12_year 55 = .ok (.ldc2_w 283, 3) := by decide +kernel
theorem dX12_year_58 : decode cX12_year 58 = .ok (.iload 4, 2) := by decide +kernel
theorem dX12_year_60 : decode cX12_year 60 = .ok (.i2l, 1) := by decide +kernel
theorem dX12_year_61 : decode cX12_year 61 = .ok (.lmul, 1) := by decide +kernel
theorem dX12_year_62 : decode cX12_year 62 = .ok (.ldc2_w 285, 3) := by decide +kernel
theorem dX12_year_65 : decode cX12_year 65 = .ok (.ladd, 1) := by decide +kernel
theorem dX12_year_66 : decode cX12_year 66 = .ok (.ldc2_w 287, 3) := by decide +kernel
theorem dX12_year_69 : decode cX12_year 69 = .ok (.lrem, 1) := by decide +kernel
theorem dX12_year_70 : decode cX12_year 70 = .ok (.l2i, 1) := by decide +kernel
theorem dX12_year_71 : decode cX12_year 71 = .ok (.istore 4, 2) := by decide +kernel
theorem dX12_year_73 : decode cX12_year 73 = .ok (.aload_n 0, 1) := by decide +kernel
theorem dX12_year_74 : decode cX12_year 74 = .ok (.iload 4, 2) := by decide +kernel
theorem dX12_year_76 : decode cX12_year 76 = .ok (.bipush 8, 2) := by decide +kernel
theorem dX12_year_78 : decode cX12_year 78 = .ok (.irem, 1) := by decide +kernel
theorem dX12_year_79 : decode cX12_year 79 = .ok (.iload 4, 2) := by decide +kernel
theorem dX12_year_81 : decode cX12_year 81 = .ok (.bipush 8, 2) := by decide +kernel
theorem dX12_year_83 : decode cX12_year 83 = .ok (.idiv, 1) := by decide +kernel
theorem dX12_year_84 : decode cX12_year 84 = .ok (.invokevirtual 289, 3) := by decide +kernel
theorem dX12_year_87 : decode cX12_year 87 = .ok (.iinc 5 1, 3) := by decide +kernel
theorem dX12_year_90 : decode cX12_year 90 = .ok (.goto (-41), 3) := by decide +kernel
theorem dX12_year_93 : decode cX12_year 93 = .ok (.aload_n 0, 1) := by decide +kernel
theorem dX12_year_94 : decode cX12_year 94 = .ok (.iload_n 3, 1) := by decide +kernel
theorem dX12_year_95 : decode cX12_year 95 = .ok (.ifCond .ne 10, 3) := by decide +kernel
theorem dX12_year_98 : decode cX12_year 98 = .ok (.aload_n 0, 1) := by decide +kernel
theorem dX12_year_99 : decode cX12_year 99 = .ok (.getfield 91, 3) := by decide +kernel
theorem dX12_year_102 : decode cX12_year 102 = .ok (.goto 21, 3) := by decide +kernel
theorem dX12_year_105 : decode cX12_year 105 = .ok (.iload_n 3, 1) := by decide +kernel
theorem dX12_year_106 : decode cX12_year 106 = .ok (.iconst 1, 1) := by decide +kernel
theorem dX12_year_107 : decode cX12_year 107 = .ok (.if_icmp .ne 10, 3) := by decide +kernel
theorem dX12_year_110 : decode cX12_year 110 = .ok (.aload_n 0, 1) := by decide +kernel
theorem dX12_year_111 : decode cX12_year 111 = .ok (.invokevirtual 292, 3) := by decide +kernel
theorem dX12_year_114 : decode cX12_year 114 = .ok (.goto 9, 3) := by decide +kernel
theorem dX12_year_117 : decode cX12_year 117 = .ok (.aload_n 0, 1) := by decide +kernel
theorem dX12_year_118 : decode cX12_year 118 = .ok (.getfield 16, 3) := by decide +kernel
theorem dX12_year_121 : decode cX12_year 121 = .ok (.iconst 0, 1) := by decide +kernel
theorem dX12_year_122 : decode cX12_year 122 = .ok (.iaload, 1) := by decide +kernel
theorem dX12_year_123 : decode cX12_year 123 = .ok (.invokevirtual 198, 3) := by decide +kernel
theorem dX12_year_126 : decode cX12_year 126 = .ok (.ireturn, 1) := by decide +kernel
theorem dX12_pass_0 : decode cX12_pass 0 = .ok (.aload_n 0, 1) := by decide +kernel
theorem dX12_pass_1 : decode cX12_pass 1 = .ok (.getfield 295, 3) := by decide +kernel
theorem dX12_pass_4 : decode cX12_pass 4 = .ok (.ifCond .eq 7, 3) := by decide +kernel
theorem dX12_pass_7 : decode cX12_pass 7 = .ok (.iload_n 1, 1) := by decide +kernel
theorem dX12_pass_8 : decode cX12_pass 8 = .ok (.goto 12, 3) := by decide +kernel
theorem dX12_pass_11 : decode cX12_pass 11 = .ok (.aload_n 0, 1) := by decide +kernel
theorem dX12_pass_12 : decode cX12_pass 12 = .ok (.getfield 57, 3) := by decide +kernel
theorem dX12_pass_15 : decode cX12_pass 15 = .ok (.aload_n 0, 1) := by decide +kernel
theorem dX12_pass_16 : decode cX12_pass 16 = .ok (.getfield 299, 3) := by decide +kernel
theorem dX12_pass_19 : decode cX12_pass 19 = .ok (.iaload, 1) := by decide +kernel
theorem dX12_pass_20 : decode cX12_pass 20 = .ok (.istore_n 2, 1) := by decide +kernel
theorem dX12_pass_21 : decode cX12_pass 21 = .ok (.aload_n 0, 1) := by decide +kernel
theorem dX12_pass_22 : decode cX12_pass 22 = .ok (.getfield 57, 3) := by decide +kernel
theorem dX12_pass_25 : decode cX12_pass 25 = .ok (.aload_n 0, 1) := by decide +kernel
theorem dX12_pass_26 : decode cX12_pass 26 = .ok (.getfield 299, 3) := by decide +kernel
theorem dX12_pass_29 : decode cX12_pass 29 = .ok (.iload_n 2, 1) := by decide +kernel
theorem dX12_pass_30 : decode cX12_pass 30 = .ok (.iastore, 1) := by decide +kernel
theorem dX12_pass_31 : decode cX12_pass 31 = .ok (.aload_n 0, 1) := by decide +kernel
theorem dX12_pass_32 : decode cX12_pass 32 = .ok (.dup, 1) := by decide +kernel
theorem dX12_pass_33 : decode cX12_pass 33 = .ok (.getfield 299, 3) := by decide +kernel
theorem dX12_pass_36 : decode cX12_pass 36 = .ok (.iconst 1, 1) := by decide +kernel
theorem dX12_pass_37 : decode cX12_pass 37 = .ok (.iadd, 1) := by decide +kernel
theorem dX12_pass_38 : decode cX12_pass 38 = .ok (.putfield 299, 3) := by decide +kernel
theorem dX12_pass_41 : decode cX12_pass 41 = .ok (.iload_n 2, 1) := by decide +kernel
theorem dX12_pass_42 : decode cX12_pass 42 = .ok (.ireturn, 1) := by decide +kernel
set_option maxRecDepth 20000 in
theorem ggX12_passRow_X12_pass : GoodIn wsX12_passRow wsX12_pass := goodIn_r _ [5, 6, 7, 8, 9, 10, 11, 12, 13, 14, 15, 16, 17, 18, 19, 20, 21, 22, 23, 24, 25, 26, 27, 28, 29, 30, 31, 32, 33, 34, 35, 36, 37, 38] (by decide +kernel) (by decide +kernel)
set_option maxRecDepth 20000 in
theorem gX12_passRow_X12_pass : GoodIn wsX12_passRow (wsV RX12 302 RX12 yX12_pass wsX12_pass) := goodIn_app (goodIn_of _ (by decide +kernel)) ggX12_passRow_X12_pass
theorem dX12_passRow_0 : decode cX12_passRow 0 = .ok (.iconst 0, 1) := by decide +kernel
theorem dX12_passRow_1 : decode cX12_passRow 1 = .ok (.istore_n 3, 1) := by decide +kernel
theorem dX12_passRow_2 : decode cX12_passRow 2 = .ok (.iload_n 3, 1) := by decide +kernel
theorem dX12_passRow_3 : decode cX12_passRow 3 = .ok (.iload_n 2, 1) := by decide +kernel
theorem dX12_passRow_4 : decode cX12_passRow 4 = .ok (.if_icmp .ge 19, 3) := by decide +kernel
theorem dX12_passRow_7 : decode cX12_passRow 7 = .ok (.aload_n 1, 1) := by decide +kernel
theorem dX12_passRow_8 : decode cX12_passRow 8 = .ok (.iload_n 3, 1) := by decide +kernel
theorem dX12_passRow_9 : decode cX12_passRow 9 = .ok (.aload_n 0, 1) := by decide +kernel
theorem dX12_passRow_10 : decode cX12_passRow 10 = .ok (.aload_n 1, 1) := by decide +kernel
theorem dX12_passRow_11 : decode cX12_passRow 11 = .ok (.iload_n 3, 1) := by decide +kernel
theorem dX12_passRow_12 : decode cX12_passRow 12 = .ok (.iaload, 1) := by decide +kernel
theorem dX12_passRow_13 : decode cX12_passRow 13 = .ok (.invokevirtual 302, 3) := by decide +kernel
theorem dX12_passRow_16 : decode cX12_passRow 16 = .ok (.iastore, 1) := by decide +kernel
theorem dX12_passRow_17 : decode cX12_passRow 17 = .ok (.iinc 3 1, 3) := by decide +kernel
theorem dX12_passRow_20 : decode cX12_passRow 20 = .ok (.goto (-18), 3) := by decide +kernel
theorem dX12_passRow_23 : decode cX12_passRow 23 = .ok (.return_, 1) := by decide +kernel
set_option maxRecDepth 20000 in
theorem ggX12_passAll_X12_pass : GoodIn wsX12_passAll wsX12_pass := goodIn_r _ [13, 14, 15, 16, 21, 22, 23, 24, 25, 26, 27, 28, 29, 30, 31, 32, 33, 34, 35, 36, 37, 38, 39, 40, 41, 42, 43, 44, 45, 46, 47, 48, 49, 50] (by decide +kernel) (by decide +kernel)
set_option maxRecDepth 20000 in
theorem gX12_passAll_X12_pass : GoodIn wsX12_passAll (wsV RX12 302 RX12 yX12_pass wsX12_pass) := goodIn_app (goodIn_of _ (by decide +kernel)) ggX12_passAll_X12_pass
set_option maxRecDepth 20000 in
theorem ggX12_passAll_X12_passRow : GoodIn wsX12_passAll wsX12_passRow := goodIn_r _ [20, 9, 10, 11, 12, 13, 14, 15, 16, 21, 22, 23, 24, 25, 26, 27, 28, 29, 30, 31, 32, 33, 34, 35, 36, 37, 38, 39, 40, 41, 42, 43, 44, 45, 46, 47, 48, 49, 50] (by decide +kernel) (by decide +kernel)
set_option maxRecDepth 20000 in
theorem gX12_passAll_X12_passRow : GoodIn wsX12_passAll (wsV RX12 305 RX12 yX12_passRow wsX12_passRow) := goodIn_app (goodIn_of _ (by decide +kernel)) ggX12_passAll_X12_passRow
theorem dX12_passAll_0 : decode cX12_passAll 0 = .ok (.aload_n 0, 1) := by decide +kernel
theorem dX12_passAll_1 : decode cX12_passAll 1 = .ok (.aload_n 0, 1) := by decide +kernel
theorem dX12_passAll_2 : decode cX12_passAll 2 = .ok (.aload_n 0, 1) := by decide +kernel
theorem dX12_passAll_3 : decode cX12_passAll 3 = .ok (.getfield 91, 3) := by decide +kernel
theorem dX12_passAll_6 : decode cX12_passAll 6 = .ok (.invokevirtual 302, 3) := by decide +kernel
theorem dX12_passAll_9 : decode cX12_passAll 9 = .ok (.putfield 91, 3) := by decide +kernel
theorem dX12_passAll_12 : decode cX12_passAll 12 = .ok (.aload_n 0, 1) := by decide +kernel
theorem dX12_passAll_13 : decode cX12_passAll 13 = .ok (.aload_n 0, 1) := by decide +kernel
theorem dX12_passAll_14 : decode cX12_passAll 14 = .ok (.aload_n 0, 1) := by decide +kernel
theorem dX12_passAll_15 : decode cX12_passAll 15 = .ok (.getfield 123, 3) := by decide +kernel
theorem dX12_passAll_18 : decode cX12_passAll 18 = .ok (.invokevirtual 302, 3) := by decide +kernel
theorem dX12_passAll_21 : decode cX12_passAll 21 = .ok (.putfield 123, 3) := by decide +kernel
theorem dX12_passAll_24 : decode cX12_passAll 24 = .ok (.aload_n 0, 1) := by decide +kernel
theorem dX12_passAll_25 : decode cX12_passAll 25 = .ok (.aload_n 0, 1) := by decide +kernel
theorem dX12_passAll_26 : decode cX12_passAll 26 = .ok (.aload_n 0, 1) := by decide +kernel
theorem dX12_passAll_27 : decode cX12_passAll 27 = .ok (.getfield 269, 3) := by decide +kernel
theorem dX12_passAll_30 : decode cX12_passAll 30 = .ok (.invokevirtual 302, 3) := by decide +kernel
theorem dX12_passAll_33 : decode cX12_passAll 33 = .ok (.putfield 269, 3) := by decide +kernel
theorem dX12_passAll_36 : decode cX12_passAll 36 = .ok (.aload_n 0, 1) := by decide +kernel
theorem dX12_passAll_37 : decode cX12_passAll 37 = .ok (.aload_n 0, 1) := by decide +kernel
theorem dX12_passAll_38 : decode cX12_passAll 38 = .ok (.getfield 13, 3) := by decide +kernel
theorem dX12_passAll_41 : decode cX12_passAll 41 = .ok (.bipush 6, 2) := by decide +kernel
theorem dX12_passAll_43 : decode cX12_passAll 43 = .ok (.invokevirtual 305, 3) := by decide +kernel
theorem dX12_passAll_46 : decode cX12_passAll 46 = .ok (.aload_n 0, 1) := by decide +kernel
theorem dX12_passAll_47 : decode cX12_passAll 47 = .ok (.aload_n 0, 1) := by decide +kernel
theorem dX12_passAll_48 : decode cX12_passAll 48 = .ok (.getfield 16, 3) := by decide +kernel
theorem dX12_passAll_51 : decode cX12_passAll 51 = .ok (.bipush 6, 2) := by decide +kernel
theorem dX12_passAll_53 : decode cX12_passAll 53 = .ok (.invokevirtual 305, 3) := by decide +kernel
theorem dX12_passAll_56 : decode cX12_passAll 56 = .ok (.aload_n 0, 1) := by decide +kernel
theorem dX12_passAll_57 : decode cX12_passAll 57 = .ok (.aload_n 0, 1) := by decide +kernel
theorem dX12_passAll_58 : decode cX12_passAll 58 = .ok (.getfield 19, 3) := by decide +kernel
theorem dX12_passAll_61 : decode cX12_passAll 61 = .ok (.bipush 6, 2) := by decide +kernel
theorem dX12_passAll_63 : decode cX12_passAll 63 = .ok (.invokevirtual 305, 3) := by decide +kernel
theorem dX12_passAll_66 : decode cX12_passAll 66 = .ok (.aload_n 0, 1) := by decide +kernel
theorem dX12_passAll_67 : decode cX12_passAll 67 = .ok (.aload_n 0, 1) := by decide +kernel
theorem dX12_passAll_68 : decode cX12_passAll 68 = .ok (.getfield 22, 3) := by decide +kernel
theorem dX12_passAll_71 : decode cX12_passAll 71 = .ok (.bipush 8, 2) := by decide +kernel
theorem dX12_passAll_73 : decode cX12_passAll 73 = .ok (.invokevirtual 305, 3) := by decide +kernel
theorem dX12_passAll_76 : decode cX12_passAll 76 = .ok (.aload_n 0, 1) := by decide +kernel
theorem dX12_passAll_77 : decode cX12_passAll 77 = .ok (.aload_n 0, 1) := by decide +kernel
theorem dX12_passAll_78 : decode cX12_passAll 78 = .ok (.getfield 25, 3) := by decide +kernel
theorem dX12_passAll_81 : decode cX12_passAll 81 = .ok (.bipush 8, 2) := by decide +kernel
theorem dX12_passAll_83 : decode cX12_passAll 83 = .ok (.invokevirtual 305, 3) := by decide +kernel
theorem dX12_passAll_86 : decode cX12_passAll 86 = .ok (.return_, 1) := by decide +kernel
set_option maxRecDepth 20000 in
theorem ggX12_image_X12_in : GoodIn wsX12_image wsX12_in := goodIn_r _ [7] (by decide +kernel) (by decide +kernel)
set_option maxRecDepth 20000 in
theorem gX12_image_X12_in : GoodIn wsX12_image (va_wsS RX12 65 yX12_in wsX12_in) := goodIn_app (goodIn_of _ (by decide +kernel)) ggX12_image_X12_in
set_option maxRecDepth 20000 in
theorem ggX12_image_X12_passAll : GoodIn wsX12_image wsX12_passAll := goodIn_r _ [11, 12, 13, 14, 15, 16, 17, 18, 19, 20, 21, 22, 6, 23, 2, 24, 1, 25, 26, 27, 28, 29, 30, 31, 32, 33, 34, 35, 36, 37, 38, 39, 40, 41, 42, 43, 44, 45, 46, 47, 48, 49, 50, 51, 52, 53, 54, 55, 56, 57, 58] (by decide +kernel) (by decide +kernel)
set_option maxRecDepth 20000 in
theorem gX12_image_X12_passAll : GoodIn wsX12_image (wsV RX12 309 RX12 yX12_passAll wsX12_passAll) := goodIn_app (goodIn_of _ (by decide +kernel)) ggX12_image_X12_passAll
theorem dX12_image_0 : decode cX12_image 0 = .ok (.iload_n 1, 1) := by decide +kernel
theorem dX12_image_1 : decode cX12_image 1 = .ok (.i2l, 1) := by decide +kernel
theorem dX12_image_2 : decode cX12_image 2 = .ok (.lconst 0, 1) := by decide +kernel
theorem dX12_image_3 : decode cX12_image 3 = .ok (.lconst 1, 1) := by decide +kernel
theorem dX12_image_4 : decode cX12_image 4 = .ok (.invokestatic 65, 3) := by decide +kernel
theorem dX12_image_7 : decode cX12_image 7 = .ok (.ifCond .ne 6, 3) := by decide +kernel
theorem dX12_image_10 : decode cX12_image 10 = .ok (.bipush (-2), 2) := by decide +kernel
theorem dX12_image_12 : decode cX12_image 12 = .ok (.ireturn, 1) := by decide +kernel
theorem dX12_image_13 : decode cX12_image 13 = .ok (.aload_n 0, 1) := by decide +kernel
theorem dX12_image_14 : decode cX12_image 14 = .ok (.bipush 80, 2) := by decide +kernel
theorem dX12_image_16 : decode cX12_image 16 = .ok (.iload_n 1, 1) := by decide +kernel
theorem dX12_image_17 : decode cX12_image 17 = .ok (.imul, 1) := by decide +kernel
theorem dX12_image_18 : decode cX12_image 18 = .ok (.putfield 299, 3) := by decide +kernel
theorem dX12_image_21 : decode cX12_image 21 = .ok (.aload_n 0, 1) := by decide +kernel
theorem dX12_image_22 : decode cX12_image 22 = .ok (.iconst 1, 1) := by decide +kernel
theorem dX12_image_23 : decode cX12_image 23 = .ok (.putfield 295, 3) := by decide +kernel
theorem dX12_image_26 : decode cX12_image 26 = .ok (.aload_n 0, 1) := by decide +kernel
theorem dX12_image_27 : decode cX12_image 27 = .ok (.invokevirtual 309, 3) := by decide +kernel
theorem dX12_image_30 : decode cX12_image 30 = .ok (.aload_n 0, 1) := by decide +kernel
theorem dX12_image_31 : decode cX12_image 31 = .ok (.getfield 60, 3) := by decide +kernel
theorem dX12_image_34 : decode cX12_image 34 = .ok (.iload_n 1, 1) := by decide +kernel
theorem dX12_image_35 : decode cX12_image 35 = .ok (.iconst 1, 1) := by decide +kernel
theorem dX12_image_36 : decode cX12_image 36 = .ok (.bastore, 1) := by decide +kernel
theorem dX12_image_37 : decode cX12_image 37 = .ok (.iconst 1, 1) := by decide +kernel
theorem dX12_image_38 : decode cX12_image 38 = .ok (.ireturn, 1) := by decide +kernel
set_option maxRecDepth 20000 in
theorem ggX12_restore_X12_in : GoodIn wsX12_restore wsX12_in := goodIn_r _ [7] (by decide +kernel) (by decide +kernel)
set_option maxRecDepth 20000 in
theorem gX12_restore_X12_in : GoodIn wsX12_restore (va_wsS RX12 65 yX12_in wsX12_in) := goodIn_app (goodIn_of _ (by decide +kernel)) ggX12_restore_X12_in
set_option maxRecDepth 20000 in
theorem ggX12_restore_X12_passAll : GoodIn wsX12_restore wsX12_passAll := goodIn_r _ [11, 12, 13, 14, 15, 16, 17, 18, 19, 20, 21, 22, 6, 23, 3, 24, 2, 25, 26, 27, 28, 29, 30, 31, 32, 33, 34, 35, 36, 37, 38, 39, 40, 41, 42, 43, 44, 45, 46, 47, 48, 49, 50, 51, 52, 53, 54, 55, 56, 57, 58] (by decide +kernel) (by decide +kernel)
set_option maxRecDepth 20000 in
theorem gX12_restore_X12_passAll : GoodIn wsX12_restore (wsV RX12 309 RX12 yX12_passAll wsX12_passAll) := goodIn_app (goodIn_of _ (by decide +kernel)) ggX12_restore_X12_passAll
theorem dX12_restore_0 : decode cX12_restore 0 = .ok (.iload_n 1, 1) := by decide +kernel
theorem dX12_restore_1 : decode cX12_restore 1 = .ok (.i2l, 1) := by decide +kernel
theorem dX12_restore_2 : decode cX12_restore 2 = .ok (.lconst 0, 1) := by decide +kernel
theorem dX12_restore_3 : decode cX12_restore 3 = .ok (.lconst 1, 1) := by decide +kernel
theorem dX12_restore_4 : decode cX12_restore 4 = .ok (.invokestatic 65, 3) := by decide +kernel
theorem dX12_restore_7 : decode cX12_restore 7 = .ok (.ifCond .ne 6, 3) := by decide +kernel
theorem dX12_restore_10 : decode cX12_restore 10 = .ok (.bipush (-2), 2) := by decide +kernel
theorem dX12_restore_12 : decode cX12_restore 12 = .ok (.ireturn, 1) := by decide +kernel
theorem dX12_restore_13 : decode cX12_restore 13 = .ok (.aload_n 0, 1) := by decide +kernel
theorem dX12_restore_14 : decode cX12_restore 14 = .ok (.getfield 60, 3) := by decide +kernel
theorem dX12_restore_17 : decode cX12_restore 17 = .ok (.iload_n 1, 1) := by decide +kernel
theorem dX12_restore_18 : decode cX12_restore 18 = .ok (.baload, 1) := by decide +kernel
theorem dX12_restore_19 : decode cX12_restore 19 = .ok (.ifCond .ne 6, 3) := by decide +kernel
theorem dX12_restore_22 : decode cX12_restore 22 = .ok (.bipush (-3), 2) := by decide +kernel
theorem dX12_restore_24 : decode cX12_restore 24 = .ok (.ireturn, 1) := by decide +kernel
theorem dX12_restore_25 : decode cX12_restore 25 = .ok (.aload_n 0, 1) := by decide +kernel
theorem dX12_restore_26 : decode cX12_restore 26 = .ok (.bipush 80, 2) := by decide +kernel
theorem dX12_restore_28 : decode cX12_restore 28 = .ok (.iload_n 1, 1) := by decide +kernel
theorem dX12_restore_29 : decode cX12_restore 29 = .ok (.imul, 1) := by decide +kernel
theorem dX12_restore_30 : decode cX12_restore 30 = .ok (.putfield 299, 3) := by decide +kernel
theorem dX12_restore_33 : decode cX12_restore 33 = .ok (.aload_n 0, 1) := by decide +kernel
theorem dX12_restore_34 : decode cX12_restore 34 = .ok (.iconst 0, 1) := by decide +kernel
theorem dX12_restore_35 : decode cX12_restore 35 = .ok (.putfield 295, 3) := by decide +kernel
theorem dX12_restore_38 : decode cX12_restore 38 = .ok (.aload_n 0, 1) := by decide +kernel
theorem dX12_restore_39 : decode cX12_restore 39 = .ok (.invokevirtual 309, 3) := by decide +kernel
theorem dX12_restore_42 : decode cX12_restore 42 = .ok (.iconst 1, 1) := by decide +kernel
theorem dX12_restore_43 : decode cX12_restore 43 = .ok (.ireturn, 1) := by decide +kernel
set_option maxRecDepth 20000 in
theorem ggX12_toldOfPlayer_X12_isPlayer : GoodIn wsX12_toldOfPlayer wsX12_isPlayer := goodIn_r _ [7, 8, 9, 10, 6, 11] (by decide +kernel) (by decide +kernel)
set_option maxRecDepth 20000 in
theorem gX12_toldOfPlayer_X12_isPlayer : GoodIn wsX12_toldOfPlayer (va_wsS RX12 82 yX12_isPlayer wsX12_isPlayer) := goodIn_app (goodIn_of _ (by decide +kernel)) ggX12_toldOfPlayer_X12_isPlayer
theorem dX12_toldOfPlayer_0 : decode cX12_toldOfPlayer 0 = .ok (.iload_n 1, 1) := by decide +kernel
theorem dX12_toldOfPlayer_1 : decode cX12_toldOfPlayer 1 = .ok (.bipush 10, 2) := by decide +kernel
theorem dX12_toldOfPlayer_3 : decode cX12_toldOfPlayer 3 = .ok (.irem, 1) := by decide +kernel
theorem dX12_toldOfPlayer_4 : decode cX12_toldOfPlayer 4 = .ok (.istore_n 2, 1) := by decide +kernel
theorem dX12_toldOfPlayer_5 : decode cX12_toldOfPlayer 5 = .ok (.iload_n 2, 1) := by decide +kernel
theorem dX12_toldOfPlayer_6 : decode cX12_toldOfPlayer 6 = .ok (.invokestatic 82, 3) := by decide +kernel
theorem dX12_toldOfPlayer_9 : decode cX12_toldOfPlayer 9 = .ok (.ifCond .ne 6, 3) := by decide +kernel
theorem dX12_toldOfPlayer_12 : decode cX12_toldOfPlayer 12 = .ok (.bipush (-2), 2) := by decide +kernel
theorem dX12_toldOfPlayer_14 : decode cX12_toldOfPlayer 14 = .ok (.ireturn, 1) := by decide +kernel
theorem dX12_toldOfPlayer_15 : decode cX12_toldOfPlayer 15 = .ok (.iload_n 1, 1) := by decide +kernel
theorem dX12_toldOfPlayer_16 : decode cX12_toldOfPlayer 16 = .ok (.bipush 20, 2) := by decide +kernel
theorem dX12_toldOfPlayer_18 : decode cX12_toldOfPlayer 18 = .ok (.if_icmp .ge 12, 3) := by decide +kernel
theorem dX12_toldOfPlayer_21 : decode cX12_toldOfPlayer 21 = .ok (.aload_n 0, 1) := by decide +kernel
theorem dX12_toldOfPlayer_22 : decode cX12_toldOfPlayer 22 = .ok (.getfield 13, 3) := by decide +kernel
theorem dX12_toldOfPlayer_25 : decode cX12_toldOfPlayer 25 = .ok (.iload_n 2, 1) := by decide +kernel
theorem dX12_toldOfPlayer_26 : decode cX12_toldOfPlayer 26 = .ok (.iaload, 1) := by decide +kernel
theorem dX12_toldOfPlayer_27 : decode cX12_toldOfPlayer 27 = .ok (.goto 24, 3) := by decide +kernel
theorem dX12_toldOfPlayer_30 : decode cX12_toldOfPlayer 30 = .ok (.iload_n 1, 1) := by decide +kernel
theorem dX12_toldOfPlayer_31 : decode cX12_toldOfPlayer 31 = .ok (.bipush 30, 2) := by decide +kernel
theorem dX12_toldOfPlayer_33 : decode cX12_toldOfPlayer 33 = .ok (.if_icmp .ge 12, 3) := by decide +kernel
theorem dX12_toldOfPlayer_36 : decode cX12_toldOfPlayer 36 = .ok (.aload_n 0, 1) := by decide +kernel
theorem dX12_toldOfPlayer_37 : decode cX12_toldOfPlayer 37 = .ok (.getfield 16, 3) := by decide +kernel
theorem dX12_toldOfPlayer_40 : decode cX12_toldOfPlayer 40 = .ok (.iload_n 2, 1) := by decide +kernel
theorem dX12_toldOfPlayer_41 : decode cX12_toldOfPlayer 41 = .ok (.iaload, 1) := by decide +kernel
theorem dX12_toldOfPlayer_42 : decode cX12_toldOfPlayer 42 = .ok (.goto 9, 3) := by decide +kernel
theorem dX12_toldOfPlayer_45 : decode cX12_toldOfPlayer 45 = .ok (.aload_n 0, 1) := by decide +kernel
theorem dX12_toldOfPlayer_46 : decode cX12_toldOfPlayer 46 = .ok (.getfield 19, 3) := by decide +kernel
theorem dX12_toldOfPlayer_49 : decode cX12_toldOfPlayer 49 = .ok (.iload_n 2, 1) := by decide +kernel
theorem dX12_toldOfPlayer_50 : decode cX12_toldOfPlayer 50 = .ok (.iaload, 1) := by decide +kernel
theorem dX12_toldOfPlayer_51 : decode cX12_toldOfPlayer 51 = .ok (.ireturn, 1) := by decide +kernel
set_option maxRecDepth 20000 in
theorem ggX12_told_X12_in : GoodIn wsX12_told wsX12_in := goodIn_r _ [10] (by decide +kernel) (by decide +kernel)
set_option maxRecDepth 20000 in
theorem gX12_told_X12_in : GoodIn wsX12_told (va_wsS RX12 65 yX12_in wsX12_in) := goodIn_app (goodIn_of _ (by decide +kernel)) ggX12_told_X12_in
set_option maxRecDepth 20000 in
theorem ggX12_told_X12_toldOfPlayer : GoodIn wsX12_told wsX12_toldOfPlayer := goodIn_r _ [14, 15, 16, 17, 18, 19, 9, 20, 21, 7, 8, 10, 22, 23, 24, 25, 26, 27, 28, 29, 30, 31, 32, 33, 34, 35, 36, 37, 38, 39, 40, 41, 42, 43, 44, 45, 46, 47, 48, 49, 50, 51] (by decide +kernel) (by decide +kernel)
set_option maxRecDepth 20000 in
theorem gX12_told_X12_toldOfPlayer : GoodIn wsX12_told (wsV RX12 316 RX12 yX12_toldOfPlayer wsX12_toldOfPlayer) := goodIn_app (goodIn_of _ (by decide +kernel)) ggX12_told_X12_toldOfPlayer
theorem dX12_told_0 : decode cX12_told 0 = .ok (.iload_n 1, 1) := by decide +kernel
theorem dX12_told_1 : decode cX12_told 1 = .ok (.i2l, 1) := by decide +kernel
theorem dX12_told_2 : decode cX12_told 2 = .ok (.ldc2_w 312, 3) := by decide +kernel
theorem dX12_told_5 : decode cX12_told 5 = .ok (.ldc2_w 314, 3) := by decide +kernel
theorem dX12_told_8 : decode cX12_told 8 = .ok (.invokestatic 65, 3) := by decide +kernel
theorem dX12_told_11 : decode cX12_told 11 = .ok (.ifCond .eq 9, 3) := by decide +kernel
theorem dX12_told_14 : decode cX12_told 14 = .ok (.aload_n 0, 1) := by decide +kernel
theorem dX12_told_15 : decode cX12_told 15 = .ok (.iload_n 1, 1) := by decide +kernel
theorem dX12_told_16 : decode cX12_told 16 = .ok (.invokevirtual 316, 3) := by decide +kernel
theorem dX12_told_19 : decode cX12_told 19 = .ok (.ireturn, 1) := by decide +kernel
theorem dX12_told_20 : decode cX12_told 20 = .ok (.iload_n 1, 1) := by decide +kernel
theorem dX12_told_21 : decode cX12_told 21 = .ok (.tableswitch 51 0 3 #[31, 36, 41, 46], 31) := by decide +kernel
theorem dX12_told_52 : decode cX12_told 52 = .ok (.aload_n 0, 1) := by decide +kernel
theorem dX12_told_53 : decode cX12_told 53 = .ok (.getfield 99, 3) := by decide +kernel
theorem dX12_told_56 : decode cX12_told 56 = .ok (.ireturn, 1) := by decide +kernel
theorem dX12_told_57 : decode cX12_told 57 = .ok (.aload_n 0, 1) := by decide +kernel
theorem dX12_told_58 : decode cX12_told 58 = .ok (.getfield 91, 3) := by decide +kernel
theorem dX12_told_61 : decode cX12_told 61 = .ok (.ireturn, 1) := by decide +kernel
theorem dX12_told_62 : decode cX12_told 62 = .ok (.aload_n 0, 1) := by decide +kernel
theorem dX12_told_63 : decode cX12_told 63 = .ok (.getfield 123, 3) := by decide +kernel
theorem dX12_told_66 : decode cX12_told 66 = .ok (.ireturn, 1) := by decide +kernel
theorem dX12_told_67 : decode cX12_told 67 = .ok (.aload_n 0, 1) := by decide +kernel
theorem dX12_told_68 : decode cX12_told 68 = .ok (.getfield 269, 3) := by decide +kernel
theorem dX12_told_71 : decode cX12_told 71 = .ok (.ireturn, 1) := by decide +kernel
theorem dX12_told_72 : decode cX12_told 72 = .ok (.bipush (-2), 2) := by decide +kernel
theorem dX12_told_74 : decode cX12_told 74 = .ok (.ireturn, 1) := by decide +kernel
theorem dJ9_max_7cf53_0 : decode cJ9_max_7cf53 0 = .ok (.iload_n 0, 1) := by decide +kernel
theorem dJ9_max_7cf53_1 : decode cJ9_max_7cf53 1 = .ok (.iload_n 1, 1) := by decide +kernel
theorem dJ9_max_7cf53_2 : decode cJ9_max_7cf53 2 = .ok (.if_icmp .lt 7, 3) := by decide +kernel
theorem dJ9_max_7cf53_5 : decode cJ9_max_7cf53 5 = .ok (.iload_n 0, 1) := by decide +kernel
theorem dJ9_max_7cf53_6 : decode cJ9_max_7cf53 6 = .ok (.goto 4, 3) := by decide +kernel
theorem dJ9_max_7cf53_9 : decode cJ9_max_7cf53 9 = .ok (.iload_n 1, 1) := by decide +kernel
theorem dJ9_max_7cf53_10 : decode cJ9_max_7cf53 10 = .ok (.ireturn, 1) := by decide +kernel
theorem dJ9_min_7cf53_0 : decode cJ9_min_7cf53 0 = .ok (.iload_n 0, 1) := by decide +kernel
theorem dJ9_min_7cf53_1 : decode cJ9_min_7cf53 1 = .ok (.iload_n 1, 1) := by decide +kernel
theorem dJ9_min_7cf53_2 : decode cJ9_min_7cf53 2 = .ok (.if_icmp .gt 7, 3) := by decide +kernel
theorem dJ9_min_7cf53_5 : decode cJ9_min_7cf53 5 = .ok (.iload_n 0, 1) := by decide +kernel
theorem dJ9_min_7cf53_6 : decode cJ9_min_7cf53 6 = .ok (.goto 4, 3) := by decide +kernel
theorem dJ9_min_7cf53_9 : decode cJ9_min_7cf53 9 = .ok (.iload_n 1, 1) := by decide +kernel
theorem dJ9_min_7cf53_10 : decode cJ9_min_7cf53 10 = .ok (.ireturn, 1) := by decide +kernel
end
